section
section TBP
/-! The orders of a list by number (tb_ar), and the prefixes that X's constructor builds (tb_px, reversed lists) -/
def tb_fc : Nat → Nat
  | 0 => 1
  | m + 1 => (m + 1) * tb_fc m
theorem tb_fcp : ∀ m, 0 < tb_fc m
  | 0 => Nat.one_pos
  | m + 1 => Nat.mul_pos (Nat.succ_pos m) (tb_fcp m)
def tb_ar : Nat → Nat → List Nat → List Nat
  | 0, _, _ => []
  | m + 1, k, l => l.getD (k / tb_fc m) 0 :: tb_ar m (k % tb_fc m) (l.eraseIdx (k / tb_fc m))
theorem tb_arS (m k : Nat) (l : List Nat) : tb_ar (m + 1) k l = l.getD (k / tb_fc m) 0 :: tb_ar m (k % tb_fc m) (l.eraseIdx (k / tb_fc m)) := rfl
theorem tb_arL : ∀ (m k : Nat) (l : List Nat), (tb_ar m k l).length = m
  | 0, _, _ => rfl
  | m + 1, _, _ => congrArg (· + 1) (tb_arL m _ _)
theorem tb_qlt {m k : Nat} (h : k < tb_fc (m + 1)) : k / tb_fc m < m + 1 := (Nat.div_lt_iff_lt_mul (tb_fcp m)).mpr h
theorem tb_gp : ∀ (l : List Nat) (i : Nat), i < l.length → (l.getD i 0 :: l.eraseIdx i).Perm l
  | [], i, h => absurd h (Nat.not_lt_zero i)
  | _ :: _, 0, _ => List.Perm.refl _
  | x :: t, i + 1, h => (List.Perm.swap x (t.getD i 0) (t.eraseIdx i)).trans ((tb_gp t i (Nat.lt_of_succ_lt_succ h)).cons x)
theorem tb_arP : ∀ (m k : Nat) (l : List Nat), l.length = m → k < tb_fc m → (tb_ar m k l).Perm l := by
  intro m
  induction m with
  | zero =>
    intro k l hl _
    rw [List.eq_nil_of_length_eq_zero hl]
    exact List.Perm.refl _
  | succ m ih =>
    intro k l hl hk
    have hq := tb_qlt hk
    rw [tb_arS]
    refine ((ih _ _ ?_ (Nat.mod_lt _ (tb_fcp m))).cons _).trans (tb_gp l _ (by omega))
    rw [List.length_eraseIdx_of_lt (by omega)]
    omega
theorem tb_arC : ∀ (m : Nat) (e l : List Nat), l.length = m → e.Perm l → ∃ k, k < tb_fc m ∧ tb_ar m k l = e := by
  intro m
  induction m with
  | zero =>
    intro e l hl hp
    rw [List.eq_nil_of_length_eq_zero hl] at hp
    exact ⟨0, Nat.one_pos, hp.eq_nil.symm⟩
  | succ m ih =>
    intro e l hl hp
    cases e with
    | nil =>
      have := hp.length_eq
      rw [hl] at this
      exact absurd this (by simp)
    | cons x e =>
      have hx : x ∈ l := hp.mem_iff.mp List.mem_cons_self
      have hq : l.idxOf x < l.length := List.idxOf_lt_length_of_mem hx
      have hg : l.getD (l.idxOf x) 0 = x := by
        rw [List.getD_eq_getElem?_getD, List.getElem?_eq_getElem hq, Option.getD_some]
        exact List.getElem_idxOf hq
      have he : l.erase x = l.eraseIdx (l.idxOf x) := List.erase_eq_eraseIdx_of_idxOf rfl
      have hp2 : e.Perm (l.eraseIdx (l.idxOf x)) := by
        rw [← he]
        exact List.Perm.cons_inv (hp.trans (List.perm_cons_erase hx))
      obtain ⟨k, hk, ek⟩ := ih e _ (by rw [List.length_eraseIdx_of_lt hq]; omega) hp2
      refine ⟨tb_fc m * l.idxOf x + k, ?_, ?_⟩
      · have h1 : tb_fc m * (l.idxOf x + 1) ≤ tb_fc m * (m + 1) := Nat.mul_le_mul_left _ (by omega)
        have h2 : tb_fc m * (l.idxOf x + 1) = tb_fc m * l.idxOf x + tb_fc m := Nat.mul_succ _ _
        show _ < (m + 1) * tb_fc m
        rw [Nat.mul_comm (m + 1)]
        omega
      · rw [tb_arS, Nat.mul_add_div (tb_fcp m), Nat.div_eq_of_lt hk, Nat.add_zero, Nat.mul_add_mod, Nat.mod_eq_of_lt hk, hg, ek]

/-! the towns that a prefix lacks -/
def tb_un (n : Nat) (p : List Nat) : List Nat := (List.range n).filter (fun t => decide (t ∉ p))
theorem tb_unN (n : Nat) (p : List Nat) : (tb_un n p).Nodup := List.Pairwise.filter _ List.nodup_range
theorem tb_unM {n t : Nat} {p : List Nat} : t ∈ tb_un n p ↔ t < n ∧ t ∉ p := by
  unfold tb_un
  rw [List.mem_filter, List.mem_range, decide_eq_true_iff]
theorem tb_un0 (n : Nat) : tb_un n [] = List.range n := by
  unfold tb_un
  exact List.filter_eq_self.mpr (by simp)
theorem tb_unE {n x : Nat} {p : List Nat} : tb_un n (x :: p) = (tb_un n p).erase x := by
  rw [(tb_unN n p).erase_eq_filter]
  unfold tb_un
  rw [List.filter_filter]
  congr 1
  funext t
  by_cases h1 : t = x <;> by_cases h2 : t ∈ p <;> simp [h1, h2]
theorem tb_gE {l : List Nat} (h : l.Nodup) {q : Nat} (hq : q < l.length) : l.erase (l.getD q 0) = l.eraseIdx q := by
  have e : l.getD q 0 = l[q] := by
    rw [List.getD_eq_getElem?_getD, List.getElem?_eq_getElem hq, Option.getD_some]
  rw [e]
  exact List.erase_eq_eraseIdx_of_idxOf (h.idxOf_getElem q hq)
def tb_px (n : Nat) : Nat → Nat → List Nat
  | 0, _ => []
  | L + 1, j => (tb_un n (tb_px n L (j / (n - L)))).getD (j % (n - L)) 0 :: tb_px n L (j / (n - L))
theorem tb_pxS (n L j : Nat) : tb_px n (L + 1) j = (tb_un n (tb_px n L (j / (n - L)))).getD (j % (n - L)) 0 :: tb_px n L (j / (n - L)) := rfl
theorem tb_gM {l : List Nat} {q : Nat} (hq : q < l.length) : l.getD q 0 ∈ l := by
  rw [List.getD_eq_getElem?_getD, List.getElem?_eq_getElem hq, Option.getD_some]
  exact List.getElem_mem hq
/-- a prefix: L towns, each once; n - L are lacking -/
theorem tb_pxF {n : Nat} : ∀ (L j : Nat), L ≤ n → (tb_px n L j).length = L ∧ (tb_px n L j).Nodup ∧ (∀ t ∈ tb_px n L j, t < n) ∧ (tb_un n (tb_px n L j)).length = n - L := by
  intro L
  induction L with
  | zero =>
    intro j _
    refine ⟨rfl, List.nodup_nil, by simp [tb_px], ?_⟩
    show (tb_un n []).length = n - 0
    rw [tb_un0, List.length_range]
    omega
  | succ L ih =>
    intro j hL
    obtain ⟨h1, h2, h3, h4⟩ := ih (j / (n - L)) (by omega)
    have hq : j % (n - L) < (tb_un n (tb_px n L (j / (n - L)))).length := by
      rw [h4]
      exact Nat.mod_lt _ (by omega)
    have hm := tb_unM.mp (tb_gM hq)
    rw [tb_pxS]
    refine ⟨by rw [List.length_cons, h1], List.nodup_cons.mpr ⟨hm.2, h2⟩, ?_, ?_⟩
    · intro t ht
      rcases List.mem_cons.mp ht with rfl | ht
      · exact hm.1
      · exact h3 t ht
    · rw [tb_unE, tb_gE (tb_unN _ _) hq, List.length_eraseIdx_of_lt hq, h4]
      omega
/-- the rows of full length: the prefix, then the orders of what it lacks -/
theorem tb_pxA {n : Nat} : ∀ (m L i k : Nat), L + m = n → k < tb_fc m → tb_px n n (i * tb_fc m + k) = (tb_ar m k (tb_un n (tb_px n L i))).reverse ++ tb_px n L i := by
  intro m
  induction m with
  | zero =>
    intro L i k h hk
    have hL : L = n := by omega
    subst hL
    have hk0 : k = 0 := by
      have : k < 1 := hk
      omega
    subst hk0
    simp [tb_fc, tb_ar]
  | succ m ih =>
    intro L i k h hk
    have hq := tb_qlt hk
    have hnL : n - L = m + 1 := by omega
    obtain ⟨_, _, _, h4⟩ := tb_pxF (n := n) L i (by omega)
    have e1 : i * tb_fc (m + 1) + k = (i * (m + 1) + k / tb_fc m) * tb_fc m + k % tb_fc m := by
      have := Nat.div_add_mod' k (tb_fc m)
      have h2 : i * tb_fc (m + 1) = i * (m + 1) * tb_fc m := (Nat.mul_assoc i (m + 1) (tb_fc m)).symm
      rw [h2, Nat.add_mul (i * (m + 1)) (k / tb_fc m) (tb_fc m)]
      omega
    have e2 : tb_px n (L + 1) (i * (m + 1) + k / tb_fc m) = (tb_un n (tb_px n L i)).getD (k / tb_fc m) 0 :: tb_px n L i := by
      rw [tb_pxS, hnL, Nat.mul_comm i, Nat.mul_add_div (Nat.succ_pos m), Nat.mul_add_mod, Nat.div_eq_of_lt hq, Nat.mod_eq_of_lt hq, Nat.add_zero]
    rw [e1, ih (L + 1) _ _ (by omega) (Nat.mod_lt _ (tb_fcp m)), e2, tb_unE, tb_gE (tb_unN _ _) (by omega), tb_arS, List.reverse_cons, List.append_assoc]
    rfl
/-- the code of a reversed list -/
def tb_cd : List Nat → Nat
  | [] => 0
  | d :: r => tb_cd r * 7 + d
theorem tb_cdM {d : Nat} {r : List Nat} (h : d < 7) : tb_cd (d :: r) % 7 = d := by
  show (tb_cd r * 7 + d) % 7 = d
  omega
theorem tb_cdD {d : Nat} {r : List Nat} (h : d < 7) : tb_cd (d :: r) / 7 = tb_cd r := by
  show (tb_cd r * 7 + d) / 7 = tb_cd r
  omega
theorem tb_cdB : ∀ (r : List Nat), (∀ t ∈ r, t < 7) → tb_cd r < 7 ^ r.length
  | [], _ => Nat.one_pos
  | d :: r, h => by
    have h1 := h d List.mem_cons_self
    have h2 := tb_cdB r (fun t ht => h t (List.mem_cons_of_mem d ht))
    show tb_cd r * 7 + d < 7 ^ (r.length + 1)
    rw [Nat.pow_succ]
    omega
theorem tb_cdI : ∀ (r s : List Nat), r.length = s.length → (∀ t ∈ r, t < 7) → (∀ t ∈ s, t < 7) → tb_cd r = tb_cd s → r = s
  | [], [], _, _, _, _ => rfl
  | [], _ :: _, h, _, _, _ => absurd h (by simp)
  | _ :: _, [], h, _, _, _ => absurd h (by simp)
  | d :: r, e :: s, h, hr, hs, he => by
    have h1 := hr d List.mem_cons_self
    have h2 := hs e List.mem_cons_self
    have he : tb_cd r * 7 + d = tb_cd s * 7 + e := he
    have e1 : d = e := by omega
    have e2 : tb_cd r = tb_cd s := by omega
    rw [e1, tb_cdI r s (by simpa using h) (fun t ht => hr t (List.mem_cons_of_mem _ ht)) (fun t ht => hs t (List.mem_cons_of_mem _ ht)) e2]
end TBP
end
section
section TBS
/-! Sets joined at a price (tb_Cn): the cut lemma, the step of X's growing set, the inversion for Y's table -/
def tb_Cn (E : Nat → Nat → Nat → Prop) (S : Nat → Prop) (w : Nat) : Prop :=
  ∀ Q : (Nat → Prop) → Nat → Prop,
    (∀ (S : Nat → Prop) (a : Nat), (∀ i, S i ↔ i = a) → Q S 0) →
    (∀ (S X Y : Nat → Prop) (w1 w2 e x y : Nat), Q X w1 → Q Y w2 → (∀ i, S i ↔ X i ∨ Y i) → (∀ i, X i → ¬ Y i) → X x → Y y → E x y e → Q S (w1 + w2 + e)) →
    Q S w
theorem tb_Cn1 {E : Nat → Nat → Nat → Prop} {S : Nat → Prop} {a : Nat} (h : ∀ i, S i ↔ i = a) : tb_Cn E S 0 := fun _ h1 _ => h1 S a h
theorem tb_Cn2 {E : Nat → Nat → Nat → Prop} {S X Y : Nat → Prop} {w1 w2 e x y : Nat} (hX : tb_Cn E X w1) (hY : tb_Cn E Y w2) (hS : ∀ i, S i ↔ X i ∨ Y i) (hd : ∀ i, X i → ¬ Y i) (hx : X x) (hy : Y y) (he : E x y e) : tb_Cn E S (w1 + w2 + e) :=
  fun Q h1 h2 => h2 S X Y w1 w2 e x y (hX Q h1 h2) (hY Q h1 h2) hS hd hx hy he
theorem tb_CnM {E E' : Nat → Nat → Nat → Prop} (hE : ∀ i j e, E i j e → E' i j e) {S : Nat → Prop} {w : Nat} (h : tb_Cn E S w) : tb_Cn E' S w :=
  h (tb_Cn E') (fun _ _ h => tb_Cn1 h) (fun _ _ _ _ _ _ _ _ a b c d x y e => tb_Cn2 a b c d x y (hE _ _ _ e))
def tb_Sp (E : Nat → Nat → Nat → Prop) (b : Nat) (S : Nat → Prop) (w u v : Nat) : Prop :=
  ∃ (S1 S2 : Nat → Prop) (a1 a2 : Nat), tb_Cn E S1 a1 ∧ tb_Cn E S2 a2 ∧ (∀ i, S i ↔ S1 i ∨ S2 i) ∧ (∀ i, S1 i → ¬ S2 i) ∧ S1 u ∧ S2 v ∧ b + a1 + a2 ≤ w
/-- attach Y to one side of a split -/
theorem tb_cut {E : Nat → Nat → Nat → Prop} {P : Nat → Prop} {b : Nat} (hb : ∀ i j e, E i j e → (P i ∧ ¬ P j) ∨ (¬ P i ∧ P j) → b ≤ e) {S : Nat → Prop} {w : Nat} (h : tb_Cn E S w) :
    tb_Cn E S w ∧ ∀ u v, P u → ¬ P v → S u → S v → tb_Sp E b S w u v := by
  refine h (fun S w => tb_Cn E S w ∧ ∀ u v, P u → ¬ P v → S u → S v → tb_Sp E b S w u v) ?_ ?_
  · intro S a hS
    refine ⟨tb_Cn1 hS, fun u v hu hv su sv => ?_⟩
    have e1 := (hS u).mp su
    have e2 := (hS v).mp sv
    rw [e1] at hu
    rw [e2] at hv
    exact absurd hu hv
  · intro S X Y w1 w2 e x y ⟨cX, iX⟩ ⟨cY, iY⟩ hS hd hx hy he
    refine ⟨tb_Cn2 cX cY hS hd hx hy he, fun u v hu hv su sv => ?_⟩
    -- a split of X, Y attached to the side of x
    have splX : ∀ u' v', (∃ S1 S2 a1 a2, tb_Cn E S1 a1 ∧ tb_Cn E S2 a2 ∧ (∀ i, X i ↔ S1 i ∨ S2 i) ∧ (∀ i, S1 i → ¬ S2 i) ∧ S1 u' ∧ S2 v' ∧ b + a1 + a2 ≤ w1) → (u' = u ∨ (u' = x ∧ Y u)) → (v' = v ∨ (v' = x ∧ Y v)) → tb_Sp E b S (w1 + w2 + e) u v := by
      intro u' v' ⟨S1, S2, a1, a2, c1, c2, hs, hdd, h1, h2, hw⟩ hu' hv'
      have hS2 : ∀ i, S i ↔ (S1 i ∨ Y i) ∨ S2 i := fun i => by have := hS i; have := hs i; grind
      have hS3 : ∀ i, S i ↔ S1 i ∨ (S2 i ∨ Y i) := fun i => by have := hS i; have := hs i; grind
      have d1 : ∀ i, S1 i → ¬ Y i := fun i z => hd i ((hs i).mpr (Or.inl z))
      have d2 : ∀ i, S2 i → ¬ Y i := fun i z => hd i ((hs i).mpr (Or.inr z))
      rcases (hs x).mp hx with x1 | x2
      · have hv2 : S2 v := by
          rcases hv' with rfl | ⟨rfl, _⟩
          · exact h2
          · exact absurd h2 (hdd _ x1)
        refine ⟨fun i => S1 i ∨ Y i, S2, a1 + w2 + e, a2, tb_Cn2 c1 cY (fun _ => Iff.rfl) d1 x1 hy he, c2, hS2, ?_, ?_, hv2, by omega⟩
        · intro i hi h3
          rcases hi with hi | hi
          · exact hdd i hi h3
          · exact d2 i h3 hi
        · rcases hu' with rfl | ⟨_, hY⟩
          · exact Or.inl h1
          · exact Or.inr hY
      · have hu2 : S1 u := by
          rcases hu' with rfl | ⟨rfl, _⟩
          · exact h1
          · exact absurd x2 (hdd _ h1)
        refine ⟨S1, fun i => S2 i ∨ Y i, a1, a2 + w2 + e, c1, tb_Cn2 c2 cY (fun _ => Iff.rfl) d2 x2 hy he, hS3, ?_, hu2, ?_, by omega⟩
        · intro i hi h3
          rcases h3 with h3 | h3
          · exact hdd i hi h3
          · exact d1 i hi h3
        · rcases hv' with rfl | ⟨_, hY⟩
          · exact Or.inl h2
          · exact Or.inr hY
    have splY : ∀ u' v', (∃ S1 S2 a1 a2, tb_Cn E S1 a1 ∧ tb_Cn E S2 a2 ∧ (∀ i, Y i ↔ S1 i ∨ S2 i) ∧ (∀ i, S1 i → ¬ S2 i) ∧ S1 u' ∧ S2 v' ∧ b + a1 + a2 ≤ w2) → (u' = u ∨ (u' = y ∧ X u)) → (v' = v ∨ (v' = y ∧ X v)) → tb_Sp E b S (w1 + w2 + e) u v := by
      intro u' v' ⟨S1, S2, a1, a2, c1, c2, hs, hdd, h1, h2, hw⟩ hu' hv'
      have hS2 : ∀ i, S i ↔ (X i ∨ S1 i) ∨ S2 i := fun i => by have := hS i; have := hs i; grind
      have hS3 : ∀ i, S i ↔ S1 i ∨ (X i ∨ S2 i) := fun i => by have := hS i; have := hs i; grind
      have d1 : ∀ i, X i → ¬ S1 i := fun i z z1 => hd i z ((hs i).mpr (Or.inl z1))
      have d2 : ∀ i, X i → ¬ S2 i := fun i z z1 => hd i z ((hs i).mpr (Or.inr z1))
      rcases (hs y).mp hy with y1 | y2
      · have hv2 : S2 v := by
          rcases hv' with rfl | ⟨rfl, _⟩
          · exact h2
          · exact absurd h2 (hdd _ y1)
        refine ⟨fun i => X i ∨ S1 i, S2, w1 + a1 + e, a2, tb_Cn2 cX c1 (fun _ => Iff.rfl) d1 hx y1 he, c2, hS2, ?_, ?_, hv2, by omega⟩
        · intro i hi h3
          rcases hi with hi | hi
          · exact d2 i hi h3
          · exact hdd i hi h3
        · rcases hu' with rfl | ⟨_, hX⟩
          · exact Or.inr h1
          · exact Or.inl hX
      · have hu2 : S1 u := by
          rcases hu' with rfl | ⟨rfl, _⟩
          · exact h1
          · exact absurd y2 (hdd _ h1)
        refine ⟨S1, fun i => X i ∨ S2 i, a1, w1 + a2 + e, c1, tb_Cn2 cX c2 (fun _ => Iff.rfl) d2 hx y2 he, hS3, ?_, hu2, ?_, by omega⟩
        · intro i hi h3
          rcases h3 with h3 | h3
          · exact d1 i h3 hi
          · exact hdd i hi h3
        · rcases hv' with rfl | ⟨_, hX⟩
          · exact Or.inr h2
          · exact Or.inl hX
    by_cases px : P x <;> by_cases py : P y
    · -- both in P: the part that holds v splits between its end of the road and v
      rcases (hS v).mp sv with vX | vY
      · rcases (hS u).mp su with uX | uY
        · exact splX u v (iX u v hu hv uX vX) (Or.inl rfl) (Or.inl rfl)
        · exact splX x v (iX x v px hv hx vX) (Or.inr ⟨rfl, uY⟩) (Or.inl rfl)
      · rcases (hS u).mp su with uX | uY
        · exact splY y v (iY y v py hv hy vY) (Or.inr ⟨rfl, uX⟩) (Or.inl rfl)
        · exact splY u v (iY u v hu hv uY vY) (Or.inl rfl) (Or.inl rfl)
    · -- the road crosses
      have hbe := hb x y e he (Or.inl ⟨px, py⟩)
      rcases (hS v).mp sv with vX | vY <;> rcases (hS u).mp su with uX | uY
      · exact splX u v (iX u v hu hv uX vX) (Or.inl rfl) (Or.inl rfl)
      · exact ⟨Y, X, w2, w1, cY, cX, fun i => (hS i).trans Or.comm, fun i z z1 => hd i z1 z, uY, vX, by omega⟩
      · exact ⟨X, Y, w1, w2, cX, cY, hS, hd, uX, vY, by omega⟩
      · exact splY u v (iY u v hu hv uY vY) (Or.inl rfl) (Or.inl rfl)
    · have hbe := hb x y e he (Or.inr ⟨px, py⟩)
      rcases (hS v).mp sv with vX | vY <;> rcases (hS u).mp su with uX | uY
      · exact splX u v (iX u v hu hv uX vX) (Or.inl rfl) (Or.inl rfl)
      · exact ⟨Y, X, w2, w1, cY, cX, fun i => (hS i).trans Or.comm, fun i z z1 => hd i z1 z, uY, vX, by omega⟩
      · exact ⟨X, Y, w1, w2, cX, cY, hS, hd, uX, vY, by omega⟩
      · exact splY u v (iY u v hu hv uY vY) (Or.inl rfl) (Or.inl rfl)
    · -- both outside P: the part that holds u splits between u and its end of the road
      rcases (hS u).mp su with uX | uY
      · rcases (hS v).mp sv with vX | vY
        · exact splX u v (iX u v hu hv uX vX) (Or.inl rfl) (Or.inl rfl)
        · exact splX u x (iX u x hu px uX hx) (Or.inl rfl) (Or.inr ⟨rfl, vY⟩)
      · rcases (hS v).mp sv with vX | vY
        · exact splY u y (iY u y hu py uY hy) (Or.inl rfl) (Or.inr ⟨rfl, vX⟩)
        · exact splY u v (iY u v hu hv uY vY) (Or.inl rfl) (Or.inl rfl)
/-- the roads, and for nothing any two towns of P -/
def tb_Ez (E : Nat → Nat → Nat → Prop) (P : Nat → Prop) (i j e : Nat) : Prop := E i j e ∨ (e = 0 ∧ P i ∧ P j)
/-- one step of the growing set -/
theorem tb_prim {E : Nat → Nat → Nat → Prop} {P P' : Nat → Prop} {b p t : Nat} (hb : ∀ i j e, E i j e → (P i ∧ ¬ P j) ∨ (¬ P i ∧ P j) → b ≤ e) (hp : P p) (ht : ¬ P t) (hP : ∀ i, P' i ↔ P i ∨ i = t) {S : Nat → Prop} {w : Nat} (h : tb_Cn (tb_Ez E P) S w) (sp : S p) (st : S t) :
    ∃ w', b + w' ≤ w ∧ tb_Cn (tb_Ez E P') S w' := by
  have hb2 : ∀ i j e, tb_Ez E P i j e → (P i ∧ ¬ P j) ∨ (¬ P i ∧ P j) → b ≤ e := by
    intro i j e he hc
    rcases he with he | ⟨_, hi, hj⟩
    · exact hb i j e he hc
    · rcases hc with ⟨_, h2⟩ | ⟨h2, _⟩
      · exact absurd hj h2
      · exact absurd hi h2
  obtain ⟨S1, S2, a1, a2, c1, c2, hs, hd, h1, h2, hw⟩ := (tb_cut hb2 h).2 p t hp ht sp st
  have mono : ∀ i j e, tb_Ez E P i j e → tb_Ez E P' i j e := by
    intro i j e he
    rcases he with he | ⟨h0, hi, hj⟩
    · exact Or.inl he
    · exact Or.inr ⟨h0, (hP i).mpr (Or.inl hi), (hP j).mpr (Or.inl hj)⟩
  exact ⟨a1 + a2 + 0, by omega, tb_Cn2 (tb_CnM mono c1) (tb_CnM mono c2) hs hd h1 h2 (Or.inr ⟨rfl, (hP p).mpr (Or.inl hp), (hP t).mpr (Or.inr rfl)⟩)⟩
/-- no road leaves P: nothing that holds a town of P and another can be joined -/
theorem tb_none {E : Nat → Nat → Nat → Prop} {P : Nat → Prop} {p t : Nat} (hb : ∀ i j e, E i j e → ¬ ((P i ∧ ¬ P j) ∨ (¬ P i ∧ P j))) (hp : P p) (ht : ¬ P t) {S : Nat → Prop} {w : Nat} (h : tb_Cn E S w) (sp : S p) (st : S t) : False := by
  obtain ⟨S1, S2, a1, a2, c1, c2, hs, hd, h1, h2, hw⟩ := (tb_cut (b := w + 1) (fun i j e he hc => absurd hc (hb i j e he)) h).2 p t hp ht sp st
  omega
/-- how a joined set was joined -/
theorem tb_inv {E : Nat → Nat → Nat → Prop} {S : Nat → Prop} {w : Nat} (h : tb_Cn E S w) :
    (w = 0 ∧ ∃ a, ∀ i, S i ↔ i = a) ∨ ∃ (X Y : Nat → Prop) (w1 w2 e x y : Nat), tb_Cn E X w1 ∧ tb_Cn E Y w2 ∧ (∀ i, S i ↔ X i ∨ Y i) ∧ (∀ i, X i → ¬ Y i) ∧ X x ∧ Y y ∧ E x y e ∧ w = w1 + w2 + e := by
  have := h (fun S w => tb_Cn E S w ∧ ((w = 0 ∧ ∃ a, ∀ i, S i ↔ i = a) ∨ ∃ (X Y : Nat → Prop) (w1 w2 e x y : Nat), tb_Cn E X w1 ∧ tb_Cn E Y w2 ∧ (∀ i, S i ↔ X i ∨ Y i) ∧ (∀ i, X i → ¬ Y i) ∧ X x ∧ Y y ∧ E x y e ∧ w = w1 + w2 + e))
    (fun S a hS => ⟨tb_Cn1 hS, Or.inl ⟨rfl, a, hS⟩⟩)
    (fun S X Y w1 w2 e x y hX hY hS hd hx hy he => ⟨tb_Cn2 hX.1 hY.1 hS hd hx hy he, Or.inr ⟨X, Y, w1, w2, e, x, y, hX.1, hY.1, hS, hd, hx, hy, he, rfl⟩⟩)
  exact this.2
/-- a set of towns below n as a mask -/
theorem tb_msk (X : Nat → Prop) : ∀ n, ∃ x, x < 2 ^ n ∧ ∀ i, x.testBit i = true ↔ i < n ∧ X i := by
  intro n
  induction n with
  | zero => exact ⟨0, Nat.one_pos, fun i => by simp⟩
  | succ n ih =>
    obtain ⟨x, hx, h⟩ := ih
    have hn : x.testBit n = false := Nat.testBit_lt_two_pow hx
    by_cases hX : X n
    · refine ⟨2 ^ n + x, by rw [Nat.pow_succ]; omega, fun i => ?_⟩
      rcases Nat.lt_trichotomy i n with hi | hi | hi
      · rw [Nat.testBit_two_pow_add_gt hi, h i]
        constructor
        · rintro ⟨_, z⟩; exact ⟨by omega, z⟩
        · rintro ⟨_, z⟩; exact ⟨hi, z⟩
      · subst hi
        rw [Nat.testBit_two_pow_add_eq, hn]
        simp [hX]
      · have : (2 ^ n + x).testBit i = false := Nat.testBit_lt_two_pow (Nat.lt_of_lt_of_le (by rw [Nat.pow_succ]; omega : 2 ^ n + x < 2 ^ (n + 1)) (Nat.pow_le_pow_right (by omega) hi))
        rw [this]
        constructor
        · intro z; cases z
        · rintro ⟨z, _⟩; omega
    · refine ⟨x, by rw [Nat.pow_succ]; omega, fun i => ?_⟩
      rw [h i]
      constructor
      · rintro ⟨z1, z2⟩; exact ⟨by omega, z2⟩
      · rintro ⟨z1, z2⟩
        refine ⟨?_, z2⟩
        rcases Nat.lt_or_ge i n with z | z
        · exact z
        · have : i = n := by omega
          subst this
          exact absurd z2 hX
end TBS
end
section
section TBT
/-! The growing set and the table, both against tb_Cn -/
theorem tb_CnE {E : Nat → Nat → Nat → Prop} {S S' : Nat → Prop} {w : Nat} (h : tb_Cn E S w) (hs : ∀ i, S i ↔ S' i) : tb_Cn E S' w := by
  have e : S = S' := funext fun i => propext (hs i)
  rw [← e]
  exact h
/-- the growing set P, joined at price s -/
def tb_PI (E : Nat → Nat → Nat → Prop) (n : Nat) (P : Nat → Prop) (s : Nat) : Prop :=
  tb_Cn E P s ∧ ∀ w, tb_Cn E (fun i => i < n) w → ∃ w', s + w' ≤ w ∧ tb_Cn (tb_Ez E P) (fun i => i < n) w'
theorem tb_PI0 {E : Nat → Nat → Nat → Prop} {n : Nat} {P : Nat → Prop} (hP : ∀ i, P i ↔ i = 0) : tb_PI E n P 0 :=
  ⟨tb_Cn1 hP, fun w h => ⟨w, by omega, tb_CnM (fun _ _ _ z => Or.inl z) h⟩⟩
theorem tb_PIs {E : Nat → Nat → Nat → Prop} {n : Nat} {P P' : Nat → Prop} {s b p t : Nat} (h : tb_PI E n P s) (hb : ∀ i j e, E i j e → (P i ∧ ¬ P j) ∨ (¬ P i ∧ P j) → b ≤ e) (hp : P p) (pn : p < n) (ht : ¬ P t) (tn : t < n) (he : E p t b) (hP : ∀ i, P' i ↔ P i ∨ i = t) : tb_PI E n P' (s + b) := by
  refine ⟨?_, fun w hw => ?_⟩
  · exact tb_Cn2 (Y := fun i => i = t) h.1 (tb_Cn1 (fun _ => Iff.rfl)) hP (fun i hi z => ht (z ▸ hi)) hp rfl he
  · obtain ⟨w1, h1, c1⟩ := h.2 w hw
    obtain ⟨w2, h2, c2⟩ := tb_prim hb hp ht hP c1 pn tn
    exact ⟨w2, by omega, c2⟩
theorem tb_PIe {E : Nat → Nat → Nat → Prop} {n : Nat} {P : Nat → Prop} {s : Nat} (h : tb_PI E n P s) (hP : ∀ i, P i ↔ i < n) : tb_Cn E (fun i => i < n) s ∧ ∀ w, tb_Cn E (fun i => i < n) w → s ≤ w :=
  ⟨tb_CnE h.1 hP, fun w hw => by
    obtain ⟨w', h1, _⟩ := h.2 w hw
    omega⟩

/-! masks -/
theorem tb_subL {x s : Nat} (h : ∀ i, x.testBit i = true → s.testBit i = true) : x ≤ s := by
  have e : x &&& s = x := by
    apply Nat.eq_of_testBit_eq
    intro i
    rw [Nat.testBit_and]
    have := h i
    cases h1 : x.testBit i
    · rfl
    · rw [this h1]; rfl
  rw [← e]
  exact Nat.and_le_right
theorem tb_subB : ∀ (i x s : Nat), (∀ i, x.testBit i = true → s.testBit i = true) → (s - x).testBit i = (s.testBit i && !x.testBit i) := by
  intro i
  induction i with
  | zero =>
    intro x s h
    have hl := tb_subL h
    have h0 := h 0
    rw [Nat.testBit_zero, Nat.testBit_zero, decide_eq_true_iff, decide_eq_true_iff] at h0
    rw [Nat.testBit_zero, Nat.testBit_zero, Nat.testBit_zero, Bool.eq_iff_iff]
    rw [Bool.and_eq_true, Bool.not_eq_true', decide_eq_true_iff, decide_eq_true_iff, decide_eq_false_iff_not]
    omega
  | succ i ih =>
    intro x s h
    have hl := tb_subL h
    have h0 := h 0
    rw [Nat.testBit_zero, Nat.testBit_zero, decide_eq_true_iff, decide_eq_true_iff] at h0
    have e : (s - x) / 2 = s / 2 - x / 2 := by omega
    rw [Nat.testBit_add_one, Nat.testBit_add_one, Nat.testBit_add_one, e]
    exact ih (x / 2) (s / 2) (fun j hj => by
      have := h (j + 1)
      rw [Nat.testBit_add_one, Nat.testBit_add_one] at this
      exact this hj)
/-- what is known of the table's value v at the mask s -/
def tb_Jv (E : Nat → Nat → Nat → Prop) (s v : Nat) : Prop :=
  v ≤ 9999 ∧ (v < 9999 → tb_Cn E (fun i => s.testBit i = true) v) ∧ ∀ w, tb_Cn E (fun i => s.testBit i = true) w → v ≤ w
/-- what is known of the least road between two masks -/
def tb_Bv (E : Nat → Nat → Nat → Prop) (x y v : Nat) : Prop :=
  v ≤ 9999 ∧ (v < 9999 → ∃ a b, x.testBit a = true ∧ y.testBit b = true ∧ E a b v) ∧ ∀ a b e, x.testBit a = true → y.testBit b = true → E a b e → v ≤ e
/-- the value so far at s, the masks below x tried -/
def tb_Jx (E : Nat → Nat → Nat → Prop) (J : Nat → Nat) (B : Nat → Nat → Nat) (s x v : Nat) : Prop :=
  v ≤ 9999 ∧ (v < 9999 → tb_Cn E (fun i => s.testBit i = true) v) ∧ ((∃ a, s = 2 ^ a) → v = 0) ∧
  ∀ x', 0 < x' → x' < x → (∀ i, x'.testBit i = true → s.testBit i = true) → s - x' ≤ x' → v ≤ J x' + J (s - x') + B x' (s - x')
theorem tb_Jx0 {E : Nat → Nat → Nat → Prop} {J : Nat → Nat} {B : Nat → Nat → Nat} {s v : Nat} (h : (∃ a, s = 2 ^ a) ∧ v = 0 ∨ (¬ ∃ a, s = 2 ^ a) ∧ v = 9999) : tb_Jx E J B s 1 v := by
  rcases h with ⟨⟨a, rfl⟩, rfl⟩ | ⟨h1, rfl⟩
  · refine ⟨by omega, fun _ => tb_Cn1 (a := a) (fun i => ?_), fun _ => rfl, fun x' h1 h2 => by omega⟩
    rw [Nat.testBit_two_pow, decide_eq_true_iff]
    exact eq_comm
  · exact ⟨by omega, fun z => absurd z (by omega), fun z => absurd z h1, fun x' h1 h2 => by omega⟩
/-- a mask that isn't tried -/
theorem tb_JxN {E : Nat → Nat → Nat → Prop} {J : Nat → Nat} {B : Nat → Nat → Nat} {s x v : Nat} (h : tb_Jx E J B s x v) (hx : (∀ i, x.testBit i = true → s.testBit i = true) → s - x ≤ x → v ≤ J x + J (s - x) + B x (s - x)) : tb_Jx E J B s (x + 1) v := by
  obtain ⟨h1, h2, h3, h4⟩ := h
  refine ⟨h1, h2, h3, fun x' a b c d => ?_⟩
  rcases Nat.lt_or_ge x' x with z | z
  · exact h4 x' a z c d
  · have : x' = x := by omega
    subst this
    exact hx c d
/-- a mask that betters the value -/
theorem tb_JxY {E : Nat → Nat → Nat → Prop} {J : Nat → Nat} {B : Nat → Nat → Nat} {s x v : Nat} (h : tb_Jx E J B s x v) (x0 : 0 < x) (xs : x < s) (hsub : ∀ i, x.testBit i = true → s.testBit i = true) (j1 : tb_Jv E x (J x)) (j2 : tb_Jv E (s - x) (J (s - x))) (hB : tb_Bv E x (s - x) (B x (s - x))) (hv : J x + J (s - x) + B x (s - x) < v) : tb_Jx E J B s (x + 1) (J x + J (s - x) + B x (s - x)) := by
  obtain ⟨h1, h2, h3, h4⟩ := h
  have hs : ∀ i, s.testBit i = true ↔ x.testBit i = true ∨ (s - x).testBit i = true := by
    intro i
    rw [tb_subB i x s hsub]
    have := hsub i
    cases e1 : x.testBit i <;> cases e2 : s.testBit i <;> simp_all
  have hd : ∀ i, x.testBit i = true → ¬ (s - x).testBit i = true := by
    intro i hi
    rw [tb_subB i x s hsub, hi]
    simp
  have hC : tb_Cn E (fun i => s.testBit i = true) (J x + J (s - x) + B x (s - x)) := by
    obtain ⟨a, b, ha, hb, he⟩ := hB.2.1 (by omega)
    exact tb_Cn2 (j1.2.1 (by omega)) (j2.2.1 (by omega)) hs hd ha hb he
  refine ⟨by omega, fun _ => hC, fun z => ?_, fun x' a b c d => ?_⟩
  · have := h3 z
    omega
  · rcases Nat.lt_or_ge x' x with z | z
    · have := h4 x' a z c d
      omega
    · have : x' = x := by omega
      subst this
      exact Nat.le_refl _
/-- all masks tried: the value is right -/
theorem tb_JxE {E : Nat → Nat → Nat → Prop} (hE : ∀ i j e, E i j e → E j i e) {J : Nat → Nat} {B : Nat → Nat → Nat} {n s v : Nat} (sn : s < 2 ^ n) (h : tb_Jx E J B s s v) (hJ : ∀ s', 0 < s' → s' < s → tb_Jv E s' (J s')) (hB : ∀ x y, tb_Bv E x y (B x y)) : tb_Jv E s v := by
  obtain ⟨h1, h2, h3, h4⟩ := h
  refine ⟨h1, h2, fun w hw => ?_⟩
  rcases tb_inv hw with ⟨rfl, a, ha⟩ | ⟨X, Y, w1, w2, e, p, q, cX, cY, hS, hd, hp, hq, he, rfl⟩
  · have : s = 2 ^ a := by
      apply Nat.eq_of_testBit_eq
      intro i
      rw [Nat.testBit_two_pow, Bool.eq_iff_iff, decide_eq_true_iff]
      exact (ha i).trans eq_comm
    have := h3 ⟨a, this⟩
    omega
  · obtain ⟨x, xn, hx⟩ := tb_msk X n
    have inn : ∀ i, s.testBit i = true → i < n := by
      intro i hi
      rcases Nat.lt_or_ge i n with z | z
      · exact z
      · rw [Nat.testBit_lt_two_pow (Nat.lt_of_lt_of_le sn (Nat.pow_le_pow_right (by omega) z))] at hi
        cases hi
    have hx2 : ∀ i, x.testBit i = true ↔ X i := fun i => (hx i).trans ⟨fun z => z.2, fun z => ⟨inn i ((hS i).mpr (Or.inl z)), z⟩⟩
    have sub1 : ∀ i, x.testBit i = true → s.testBit i = true := fun i z => (hS i).mpr (Or.inl ((hx2 i).mp z))
    have hy2 : ∀ i, (s - x).testBit i = true ↔ Y i := by
      intro i
      rw [tb_subB i x s sub1, Bool.and_eq_true, Bool.not_eq_true']
      have a1 := hS i
      have a2 := hx2 i
      have a3 := hd i
      constructor
      · rintro ⟨z1, z2⟩
        rcases a1.mp z1 with z | z
        · rw [a2.mpr z] at z2; cases z2
        · exact z
      · intro z
        refine ⟨a1.mpr (Or.inr z), ?_⟩
        cases e1 : x.testBit i
        · rfl
        · exact absurd z (a3 (a2.mp e1))
    have hle := tb_subL sub1
    have x0 : 0 < x := by
      rcases Nat.eq_zero_or_pos x with z | z
      · have := (hx2 p).mpr hp
        rw [z, Nat.zero_testBit] at this
        cases this
      · exact z
    have y0 : 0 < s - x := by
      rcases Nat.eq_zero_or_pos (s - x) with z | z
      · have := (hy2 q).mpr hq
        rw [z, Nat.zero_testBit] at this
        cases this
      · exact z
    have jx := (hJ x x0 (by omega)).2.2 w1 (tb_CnE cX (fun i => (hx2 i).symm))
    have jy := (hJ (s - x) y0 (by omega)).2.2 w2 (tb_CnE cY (fun i => (hy2 i).symm))
    have b1 := (hB x (s - x)).2.2 p q e ((hx2 p).mpr hp) ((hy2 q).mpr hq) he
    have b2 := (hB (s - x) x).2.2 q p e ((hy2 q).mpr hq) ((hx2 p).mpr hp) (hE p q e he)
    rcases Nat.le_total (s - x) x with z | z
    · have := h4 x x0 (by omega) sub1 z
      omega
    · have sub2 : ∀ i, (s - x).testBit i = true → s.testBit i = true := fun i z => (hS i).mpr (Or.inr ((hy2 i).mp z))
      have e3 : s - (s - x) = x := by omega
      have := h4 (s - x) y0 (by omega) sub2 (by omega)
      rw [e3] at this
      omega
end TBT
end
section
section TBL
/-! the best of the first k, counts -/
def tb_bs (al : Nat → Bool) (pr : Nat → Nat) : Nat → Option Nat
  | 0 => none
  | k + 1 => match tb_bs al pr k with
    | none => if al k = true then some k else none
    | some i => if al k = true ∧ pr k < pr i then some k else some i
def tb_cn (p : Nat → Bool) : Nat → Nat
  | 0 => 0
  | k + 1 => if p k = true then tb_cn p k + 1 else tb_cn p k
theorem tb_cnL (p : Nat → Bool) : ∀ k, tb_cn p k ≤ k
  | 0 => Nat.le_refl 0
  | k + 1 => by
    have := tb_cnL p k
    unfold tb_cn
    split <;> omega
theorem tb_cn0 {p : Nat → Bool} : ∀ k, (∀ i, i < k → p i = false) → tb_cn p k = 0
  | 0, _ => rfl
  | k + 1, h => by
    unfold tb_cn
    rw [if_neg (by rw [h k (by omega)]; decide)]
    exact tb_cn0 k (fun i hi => h i (by omega))
theorem tb_cnG {p q : Nat → Bool} : ∀ k, (∀ i, i < k → p i = q i) → tb_cn p k = tb_cn q k
  | 0, _ => rfl
  | k + 1, h => by
    unfold tb_cn
    rw [h k (by omega), tb_cnG k (fun i hi => h i (by omega))]
theorem tb_bsF {al : Nat → Bool} {pr : Nat → Nat} : ∀ k, (tb_bs al pr k = none → ∀ j, j < k → al j = false) ∧ (∀ i, tb_bs al pr k = some i → i < k ∧ al i = true ∧ ∀ j, j < k → al j = true → pr i ≤ pr j)
  | 0 => ⟨fun _ j hj => absurd hj (by omega), fun i h => (by cases h)⟩
  | k + 1 => by
    obtain ⟨h1, h2⟩ := tb_bsF (al := al) (pr := pr) k
    unfold tb_bs
    cases e : tb_bs al pr k with
    | none =>
      have h1 := h1 e
      simp only
      by_cases hk : al k = true
      · rw [if_pos hk]
        refine ⟨fun z => (by cases z), fun i z => ?_⟩
        cases z
        refine ⟨by omega, hk, fun j hj aj => ?_⟩
        rcases Nat.lt_or_ge j k with hj2 | hj2
        · rw [h1 j hj2] at aj
          cases aj
        · have : j = k := by omega
          rw [this]
          exact Nat.le_refl _
      · rw [if_neg hk]
        refine ⟨fun _ j hj => ?_, fun i z => (by cases z)⟩
        rcases Nat.lt_or_ge j k with hj2 | hj2
        · exact h1 j hj2
        · have : j = k := by omega
          rw [this]
          exact Bool.eq_false_iff.mpr hk
    | some i =>
      obtain ⟨a1, a2, a3⟩ := h2 i e
      simp only
      by_cases hk : al k = true ∧ pr k < pr i
      · rw [if_pos hk]
        refine ⟨fun z => (by cases z), fun i' z => ?_⟩
        cases z
        refine ⟨by omega, hk.1, fun j hj aj => ?_⟩
        rcases Nat.lt_or_ge j k with hj2 | hj2
        · have := a3 j hj2 aj
          omega
        · have : j = k := by omega
          rw [this]
          exact Nat.le_refl _
      · rw [if_neg hk]
        refine ⟨fun z => (by cases z), fun i' z => ?_⟩
        cases z
        refine ⟨by omega, a2, fun j hj aj => ?_⟩
        rcases Nat.lt_or_ge j k with hj2 | hj2
        · exact a3 j hj2 aj
        · have : j = k := by omega
          subst this
          rcases Nat.lt_or_ge (pr j) (pr i) with z | z
          · exact absurd ⟨aj, z⟩ hk
          · exact z
/-- how many of the first k allowed ones have the best price -/
def tb_ti (al : Nat → Bool) (pr : Nat → Nat) (k : Nat) : Nat :=
  match tb_bs al pr k with
  | none => 0
  | some i => tb_cn (fun j => al j && pr j == pr i) k
theorem tb_tiW {al : Nat → Bool} {pr : Nat → Nat} {k i : Nat} (h : tb_bs al pr k = some i) : tb_cn (fun j => al j && decide (pr j ≤ pr i)) k = tb_ti al pr k := by
  unfold tb_ti
  rw [h]
  apply tb_cnG
  intro j hj
  cases e : al j with
  | false => rfl
  | true =>
    have := (tb_bsF k).2 i h |>.2.2 j hj e
    simp only [Bool.true_and]
    by_cases h2 : pr j = pr i
    · rw [h2]; simp
    · have h3 : ¬ pr j ≤ pr i := by omega
      simp [h2, h3]
theorem tb_cnS (p : Nat → Bool) (k : Nat) : tb_cn p (k + 1) = if p k = true then tb_cn p k + 1 else tb_cn p k := rfl
theorem tb_cnT {p : Nat → Bool} {k : Nat} (h : p k = true) : tb_cn p (k + 1) = tb_cn p k + 1 := by rw [tb_cnS, if_pos h]
theorem tb_cnF {p : Nat → Bool} {k : Nat} (h : p k = false) : tb_cn p (k + 1) = tb_cn p k := by rw [tb_cnS, if_neg (by rw [h]; decide)]
theorem tb_bsN {al : Nat → Bool} {pr : Nat → Nat} {k : Nat} (h : tb_bs al pr k = none) : tb_bs al pr (k + 1) = if al k = true then some k else none := by
  simp only [tb_bs, h]
theorem tb_bsS {al : Nat → Bool} {pr : Nat → Nat} {k i : Nat} (h : tb_bs al pr k = some i) : tb_bs al pr (k + 1) = if al k = true ∧ pr k < pr i then some k else some i := by
  simp only [tb_bs, h]
theorem tb_bs0 {al : Nat → Bool} {pr : Nat → Nat} {k : Nat} (h : al k = false) : tb_bs al pr (k + 1) = tb_bs al pr k := by
  cases e : tb_bs al pr k with
  | none => rw [tb_bsN e, if_neg (by rw [h]; decide)]
  | some i => rw [tb_bsS e, if_neg (by rw [h]; intro z; exact absurd z.1 (by decide))]
theorem tb_tiV {al : Nat → Bool} {pr : Nat → Nat} {k i : Nat} (h : tb_bs al pr k = some i) : tb_ti al pr k = tb_cn (fun j => al j && pr j == pr i) k := by
  unfold tb_ti
  rw [h]
theorem tb_tiZ {al : Nat → Bool} {pr : Nat → Nat} {k : Nat} (h : tb_bs al pr k = none) : tb_ti al pr k = 0 := by
  unfold tb_ti
  rw [h]
theorem tb_tiN {al : Nat → Bool} {pr : Nat → Nat} {k : Nat} (h : tb_bs al pr k = none) (ha : al k = true) : tb_ti al pr (k + 1) = 1 := by
  have e := tb_bsN h
  rw [if_pos ha] at e
  rw [tb_tiV e, tb_cnT (by simp [ha]), tb_cn0 k (fun i hi => by simp [(tb_bsF k).1 h i hi])]
theorem tb_tiL {al : Nat → Bool} {pr : Nat → Nat} {k i : Nat} (h : tb_bs al pr k = some i) (ha : al k = true) (hl : pr k < pr i) : tb_ti al pr (k + 1) = 1 := by
  have e := tb_bsS h
  rw [if_pos ⟨ha, hl⟩] at e
  rw [tb_tiV e, tb_cnT (by simp [ha]), tb_cn0 k (fun j hj => by
    cases z : al j with
    | false => rfl
    | true =>
      have := ((tb_bsF k).2 i h).2.2 j hj z
      have : pr j ≠ pr k := by omega
      simp [this])]
theorem tb_tiE {al : Nat → Bool} {pr : Nat → Nat} {k i : Nat} (h : tb_bs al pr k = some i) (ha : al k = true) (hl : pr k = pr i) : tb_ti al pr (k + 1) = tb_ti al pr k + 1 := by
  have e := tb_bsS h
  rw [if_neg (by omega)] at e
  rw [tb_tiV e, tb_tiV h, tb_cnT (by simp [ha, hl])]
theorem tb_tiG {al : Nat → Bool} {pr : Nat → Nat} {k i : Nat} (h : tb_bs al pr k = some i) (hl : pr i < pr k) : tb_ti al pr (k + 1) = tb_ti al pr k := by
  have e := tb_bsS h
  rw [if_neg (by omega)] at e
  have : pr k ≠ pr i := by omega
  rw [tb_tiV e, tb_tiV h, tb_cnF (by simp [this])]
theorem tb_tiF {al : Nat → Bool} {pr : Nat → Nat} {k : Nat} (ha : al k = false) : tb_ti al pr (k + 1) = tb_ti al pr k := by
  have e := tb_bs0 (pr := pr) ha
  cases h : tb_bs al pr k with
  | none => rw [tb_tiZ (e.trans h), tb_tiZ h]
  | some i => rw [tb_tiV (e.trans h), tb_tiV h, tb_cnF (by simp [ha])]

/-! the least of a set -/
def tb_Mn (S : Nat → Prop) : Option Nat → Prop
  | none => ∀ w, ¬ S w
  | some v => S v ∧ ∀ w, S w → v ≤ w
theorem tb_MnU {S S' : Nat → Prop} (e : ∀ w, S w ↔ S' w) : ∀ {r r' : Option Nat}, tb_Mn S r → tb_Mn S' r' → r = r'
  | none, none, _, _ => rfl
  | none, some v, h, h' => absurd ((e v).mpr h'.1) (h v)
  | some v, none, h, h' => absurd ((e v).mp h.1) (h' v)
  | some v, some w, h, h' => by
    have h1 := h.2 w ((e w).mpr h'.1)
    have h2 := h'.2 v ((e v).mp h.1)
    rw [Nat.le_antisymm h1 h2]
def tb_mi : Option Nat → Option Nat → Option Nat
  | none, q => q
  | some v, none => some v
  | some v, some w => if w < v then some w else some v
theorem tb_MnM {S T S' : Nat → Prop} (e : ∀ w, S' w ↔ S w ∨ T w) : ∀ {r q : Option Nat}, tb_Mn S r → tb_Mn T q → tb_Mn S' (tb_mi r q)
  | none, none, h, h' => fun w z => by
    rcases (e w).mp z with z | z
    · exact h w z
    · exact h' w z
  | none, some v, h, h' => ⟨(e v).mpr (Or.inr h'.1), fun w z => by
    rcases (e w).mp z with z | z
    · exact absurd z (h w)
    · exact h'.2 w z⟩
  | some v, none, h, h' => ⟨(e v).mpr (Or.inl h.1), fun w z => by
    rcases (e w).mp z with z | z
    · exact h.2 w z
    · exact absurd z (h' w)⟩
  | some v, some x, h, h' => by
    show tb_Mn S' (if x < v then some x else some v)
    by_cases c : x < v
    · rw [if_pos c]
      refine ⟨(e x).mpr (Or.inr h'.1), fun w z => ?_⟩
      rcases (e w).mp z with z | z
      · have := h.2 w z
        omega
      · exact h'.2 w z
    · rw [if_neg c]
      refine ⟨(e v).mpr (Or.inl h.1), fun w z => ?_⟩
      rcases (e w).mp z with z | z
      · exact h.2 w z
      · have := h'.2 w z
        omega
theorem tb_MnE {S S' : Nat → Prop} (e : ∀ w, S w ↔ S' w) {r : Option Nat} (h : tb_Mn S r) : tb_Mn S' r := by
  have : S = S' := funext fun w => propext (e w)
  rw [← this]
  exact h
end TBL
end
section
section TBF
/-! Roads by number, sums, codes, rows as functions -/
def tb_tr (a b : Nat) : Nat := if a < b then b * (b - 1) / 2 + a else a * (a - 1) / 2 + b
theorem tb_trC (a b : Nat) : tb_tr a b = tb_tr b a := by
  unfold tb_tr
  rcases Nat.lt_trichotomy a b with h | h | h
  · rw [if_pos h, if_neg (by omega)]
  · rw [h]
  · rw [if_neg (by omega), if_pos h]
theorem tb_trL : ∀ a, a < 7 → ∀ b, b < 7 → a ≠ b → tb_tr a b < 21 := by decide +kernel
def tb_trK (a b c d : Nat) : Bool := decide (a ≠ b ∧ c ≠ d ∧ tb_tr a b = tb_tr c d → (a = c ∧ b = d) ∨ (a = d ∧ b = c))
theorem tb_trI0 : ∀ a, a < 7 → ∀ b, b < 7 → ∀ c, c < 7 → ∀ d, d < 7 → tb_trK a b c d = true := by decide +kernel
theorem tb_trI (a : Nat) (ha : a < 7) (b : Nat) (hb : b < 7) (hab : a ≠ b) (c : Nat) (hc : c < 7) (d : Nat) (hd : d < 7) (hcd : c ≠ d) (e : tb_tr a b = tb_tr c d) : (a = c ∧ b = d) ∨ (a = d ∧ b = c) := of_decide_eq_true (tb_trI0 a ha b hb c hc d hd) ⟨hab, hcd, e⟩
theorem tb_trS : ∀ r, r < 21 → ∃ b, b < 7 ∧ ∃ a, a < b ∧ tb_tr a b = r := by decide +kernel
theorem tb_trN : ∀ n, n < 8 → ∀ b, b < n → ∀ a, a < n → a ≠ b → tb_tr a b < n * (n - 1) / 2 := by decide +kernel
theorem tb_trM : ∀ n, n < 8 → ∀ b, b < 7 → ∀ a, a < 7 → (a ≠ b ∧ (n ≤ a ∨ n ≤ b) → n * (n - 1) / 2 ≤ tb_tr a b) := by decide +kernel
theorem tb_fcV : ∀ n, n < 8 → tb_fc n ≤ 5040 ∧ (0 < n → tb_fc n = n * tb_fc (n - 1)) := by decide +kernel

def tb_sm (f : Nat → Nat) : Nat → Nat
  | 0 => 0
  | m + 1 => tb_sm f m + f m
theorem tb_smS (f : Nat → Nat) (m : Nat) : tb_sm f (m + 1) = tb_sm f m + f m := rfl
theorem tb_smG {f g : Nat → Nat} : ∀ m, (∀ t, t < m → f t = g t) → tb_sm f m = tb_sm g m
  | 0, _ => rfl
  | m + 1, h => by rw [tb_smS, tb_smS, h m (by omega), tb_smG m (fun t ht => h t (by omega))]
theorem tb_smF (f : Nat → Nat) : ∀ m, tb_sm f (m + 1) = f 0 + tb_sm (fun t => f (t + 1)) m
  | 0 => by rw [tb_smS]; exact Nat.add_comm _ _
  | m + 1 => by rw [tb_smS, tb_smF f m, tb_smS, Nat.add_assoc]
theorem tb_smR (f : Nat → Nat) : ∀ m, tb_sm (fun t => f (m - 1 - t)) m = tb_sm f m
  | 0 => rfl
  | m + 1 => by
    rw [tb_smF, tb_smS, ← tb_smR f m, Nat.add_comm]
    congr 1
    exact tb_smG m (fun t ht => by
      show f (m + 1 - 1 - (t + 1)) = f (m - 1 - t)
      congr 1
      omega)
theorem tb_smB {f : Nat → Nat} {c : Nat} : ∀ m, (∀ t, t < m → f t ≤ c) → tb_sm f m ≤ m * c
  | 0, _ => by rw [Nat.zero_mul]; exact Nat.le_refl _
  | m + 1, h => by
    have h1 := h m (by omega)
    have h2 := tb_smB m (fun t ht => h t (by omega))
    rw [tb_smS, Nat.succ_mul]
    omega

/-- the code of the first m digits of d -/
def tb_co (d : Nat → Nat) : Nat → Nat
  | 0 => 0
  | m + 1 => tb_co d m * 7 + d m
theorem tb_coS (d : Nat → Nat) (m : Nat) : tb_co d (m + 1) = tb_co d m * 7 + d m := rfl
theorem tb_coG {f g : Nat → Nat} : ∀ m, (∀ t, t < m → f t = g t) → tb_co f m = tb_co g m
  | 0, _ => rfl
  | m + 1, h => by rw [tb_coS, tb_coS, h m (by omega), tb_coG m (fun t ht => h t (by omega))]
theorem tb_coM {d : Nat → Nat} {m : Nat} (h : d m < 7) : tb_co d (m + 1) % 7 = d m := by
  rw [tb_coS]
  omega
theorem tb_coD {d : Nat → Nat} {m : Nat} (h : d m < 7) : tb_co d (m + 1) / 7 = tb_co d m := by
  rw [tb_coS]
  omega
theorem tb_coB {d : Nat → Nat} : ∀ m, (∀ t, t < m → d t < 7) → tb_co d m < 7 ^ m
  | 0, _ => Nat.one_pos
  | m + 1, h => by
    have h1 := h m (by omega)
    have h2 := tb_coB m (fun t ht => h t (by omega))
    rw [tb_coS, Nat.pow_succ]
    omega
theorem tb_coI {d e : Nat → Nat} : ∀ m, (∀ t, t < m → d t < 7) → (∀ t, t < m → e t < 7) → tb_co d m = tb_co e m → ∀ t, t < m → d t = e t
  | 0, _, _, _, t, ht => absurd ht (by omega)
  | m + 1, hd, he, h, t, ht => by
    have h1 := hd m (by omega)
    have h2 := he m (by omega)
    rw [tb_coS, tb_coS] at h
    have ih := tb_coI m (fun t ht => hd t (by omega)) (fun t ht => he t (by omega)) (by omega)
    rcases Nat.lt_or_ge t m with z | z
    · exact ih t z
    · have : t = m := by omega
      subst this
      omega
theorem tb_coL : ∀ (l : List Nat), tb_cd l = tb_co (fun t => l.getD (l.length - 1 - t) 0) l.length
  | [] => rfl
  | x :: r => by
    show tb_cd r * 7 + x = tb_co _ (r.length + 1)
    rw [tb_coS, tb_coL r]
    have e1 : (x :: r).getD ((x :: r).length - 1 - r.length) 0 = x := by
      have : (x :: r).length - 1 - r.length = 0 := by rw [List.length_cons]; omega
      rw [this]
      rfl
    rw [e1]
    congr 2
    exact tb_coG _ (fun t ht => by
      have : (x :: r).length - 1 - t = (r.length - 1 - t) + 1 := by rw [List.length_cons]; omega
      rw [this]
      rfl)

/-! a row: each of the n towns once -/
def tb_pm (n : Nat) (d : Nat → Nat) : Prop := (∀ t, t < n → d t < n) ∧ ∀ s t, s < n → t < n → d s = d t → s = t
theorem tb_pmR {n : Nat} {d : Nat → Nat} (h : tb_pm n d) : tb_pm n (fun t => d (n - 1 - t)) :=
  ⟨fun t ht => h.1 _ (by omega), fun s t hs ht e => by
    have := h.2 (n - 1 - s) (n - 1 - t) (by omega) (by omega) e
    omega⟩
theorem tb_pmG {n : Nat} {d e : Nat → Nat} (h : tb_pm n d) (g : ∀ t, t < n → d t = e t) : tb_pm n e :=
  ⟨fun t ht => by rw [← g t ht]; exact h.1 t ht, fun s t hs ht z => h.2 s t hs ht (by rw [g s hs, g t ht]; exact z)⟩
/-- as many as there are, and all of them: a row of them -/
theorem tb_pg : ∀ (l e : List Nat), l.Nodup → (∀ x, x ∈ l → x ∈ e) → e.length ≤ l.length → e.Perm l
  | [], e, _, _, h => by
    rw [List.eq_nil_of_length_eq_zero (Nat.le_zero.mp h)]
  | x :: l, e, hn, hs, h => by
    have hx : x ∈ e := hs x List.mem_cons_self
    have hn2 := List.nodup_cons.mp hn
    have p := List.perm_cons_erase hx
    refine p.trans ((tb_pg l (e.erase x) hn2.2 ?_ ?_).cons x)
    · intro y hy
      have hxy : y ≠ x := fun z => hn2.1 (z ▸ hy)
      exact (List.mem_erase_of_ne hxy).mpr (hs y (List.mem_cons_of_mem x hy))
    · rw [List.length_erase_of_mem hx]
      rw [List.length_cons] at h
      omega
theorem tb_gI {l : List Nat} {i : Nat} (h : i < l.length) : l.getD i 0 = l[i] := by
  rw [List.getD_eq_getElem?_getD, List.getElem?_eq_getElem h, Option.getD_some]
/-- the list of a function's first values -/
def tb_ls (d : Nat → Nat) (m : Nat) : List Nat := (List.range m).map d
theorem tb_lsL (d : Nat → Nat) (m : Nat) : (tb_ls d m).length = m := by
  unfold tb_ls
  rw [List.length_map, List.length_range]
theorem tb_lsG (d : Nat → Nat) {m t : Nat} (h : t < m) : (tb_ls d m).getD t 0 = d t := by
  unfold tb_ls
  rw [List.getD_eq_getElem?_getD, List.getElem?_map, List.getElem?_range h]
  rfl
theorem tb_lsM {d : Nat → Nat} {m x : Nat} : x ∈ tb_ls d m ↔ ∃ t, t < m ∧ d t = x := by
  unfold tb_ls
  rw [List.mem_map]
  constructor
  · rintro ⟨t, h1, h2⟩
    exact ⟨t, List.mem_range.mp h1, h2⟩
  · rintro ⟨t, h1, h2⟩
    exact ⟨t, List.mem_range.mpr h1, h2⟩
theorem tb_lsN {d : Nat → Nat} {m : Nat} (h : ∀ s t, s < m → t < m → d s = d t → s = t) : (tb_ls d m).Nodup := by
  rw [List.nodup_iff_pairwise_ne, List.pairwise_iff_getElem]
  intro i j hi hj hij
  rw [tb_lsL] at hi hj
  have e1 := tb_lsG d hi
  have e2 := tb_lsG d hj
  rw [tb_gI (by rw [tb_lsL]; exact hi)] at e1
  rw [tb_gI (by rw [tb_lsL]; exact hj)] at e2
  rw [e1, e2]
  intro z
  have := h i j hi hj z
  omega
/-- all towns are there: a row -/
theorem tb_pmS {n : Nat} {d : Nat → Nat} (h : ∀ v, v < n → ∃ t, t < n ∧ d t = v) : tb_pm n d := by
  have p : (tb_ls d n).Perm (List.range n) := tb_pg (List.range n) (tb_ls d n) List.nodup_range (fun x hx => tb_lsM.mpr (h x (List.mem_range.mp hx))) (by rw [tb_lsL, List.length_range]; exact Nat.le_refl _)
  have hN : (tb_ls d n).Nodup := p.nodup_iff.mpr List.nodup_range
  refine ⟨fun t ht => ?_, fun s t hs ht e => ?_⟩
  · exact List.mem_range.mp (p.mem_iff.mp (tb_lsM.mpr ⟨t, ht, rfl⟩))
  · rw [← tb_lsG d hs, ← tb_lsG d ht] at e
    exact (List.getD_inj (by rw [tb_lsL]; exact hs) (by rw [tb_lsL]; exact ht) hN).mp e
/-- X's row j -/
def tb_D (n j t : Nat) : Nat := (tb_px n n j).getD (n - 1 - t) 0
theorem tb_Dc (n j : Nat) : tb_cd (tb_px n n j) = tb_co (tb_D n j) n := by
  have hl := (tb_pxF (n := n) n j (Nat.le_refl n)).1
  rw [tb_coL, hl]
  rfl
theorem tb_Dp (n j : Nat) : tb_pm n (tb_D n j) := by
  obtain ⟨h1, h2, h3, _⟩ := tb_pxF (n := n) n j (Nat.le_refl n)
  refine ⟨fun t ht => ?_, fun s t hs ht e => ?_⟩
  · exact h3 _ (tb_gM (by rw [h1]; omega))
  · have := (List.getD_inj (by rw [h1]; omega) (by rw [h1]; omega) h2).mp e
    omega
/-- row a (n-1)! + k: town a, then the k-th order of the others -/
theorem tb_px1 {n a : Nat} (h : a < n) : tb_px n 1 a = [a] := by
  rw [tb_pxS]
  have e0 : tb_px n 0 (a / (n - 0)) = [] := rfl
  rw [e0, tb_un0]
  have : a % (n - 0) = a := Nat.mod_eq_of_lt (by omega)
  rw [this, tb_gI (by rw [List.length_range]; exact h), List.getElem_range]
theorem tb_DA {n a k : Nat} (ha : a < n) (hk : k < tb_fc (n - 1)) : tb_D n (a * tb_fc (n - 1) + k) 0 = a ∧ ∀ t, t + 1 < n → tb_D n (a * tb_fc (n - 1) + k) (t + 1) = (tb_ar (n - 1) k (tb_un n [a])).getD t 0 := by
  have h := tb_pxA (n := n) (n - 1) 1 a k (by omega) hk
  rw [tb_px1 ha] at h
  have hl : (tb_ar (n - 1) k (tb_un n [a])).length = n - 1 := tb_arL _ _ _
  have hr : (tb_ar (n - 1) k (tb_un n [a])).reverse.length = n - 1 := by rw [List.length_reverse, hl]
  refine ⟨?_, fun t ht => ?_⟩
  · unfold tb_D
    rw [h, List.getD_eq_getElem?_getD, List.getElem?_append_right (by rw [hr]; omega), hr]
    have : n - 1 - 0 - (n - 1) = 0 := by omega
    rw [this]
    rfl
  · unfold tb_D
    rw [h, List.getD_eq_getElem?_getD, List.getElem?_append_left (by rw [hr]; omega), List.getElem?_reverse (by rw [hl]; omega), hl, List.getD_eq_getElem?_getD]
    congr 2
    omega
theorem tb_unL {n a : Nat} (ha : a < n) : (tb_un n [a]).length = n - 1 := by
  have := (tb_pxF (n := n) 1 a (by omega)).2.2.2
  rw [tb_px1 ha] at this
  exact this
theorem tb_unL2 {n a b : Nat} (ha : a < n) (hb : b < n) (hab : a ≠ b) : (tb_un n [a, b]).length = n - 2 := by
  rw [tb_unE, List.length_erase_of_mem (tb_unM.mpr ⟨ha, by simpa using hab⟩), tb_unL hb]
  omega
/-- every row that begins with a is one of X's rows for a -/
theorem tb_DE {n : Nat} {d : Nat → Nat} (hn : 0 < n) (h : tb_pm n d) : ∃ k, k < tb_fc (n - 1) ∧ ∀ t, t < n → tb_D n (d 0 * tb_fc (n - 1) + k) t = d t := by
  have h0 := h.1 0 hn
  have p : (tb_ls (fun t => d (t + 1)) (n - 1)).Perm (tb_un n [d 0]) := by
    refine (tb_pg _ _ (tb_lsN ?_) ?_ ?_).symm
    · intro s t hs ht e
      have := h.2 (s + 1) (t + 1) (by omega) (by omega) e
      omega
    · intro x hx
      obtain ⟨t, ht, rfl⟩ := tb_lsM.mp hx
      refine tb_unM.mpr ⟨h.1 _ (by omega), ?_⟩
      rw [List.mem_singleton]
      intro z
      have := h.2 (t + 1) 0 (by omega) hn z
      omega
    · rw [tb_lsL, tb_unL h0]
      exact Nat.le_refl _
  obtain ⟨k, hk, e⟩ := tb_arC (n - 1) _ _ (tb_unL h0) p
  refine ⟨k, hk, fun t ht => ?_⟩
  obtain ⟨a1, a2⟩ := tb_DA h0 hk
  cases t with
  | zero => exact a1
  | succ t => rw [a2 t ht, e, tb_lsG _ (by omega)]
/-- Y's rows from a to b -/
def tb_R (n a b k t : Nat) : Nat := if t = 0 then a else if t = n - 1 then b else (tb_ar (n - 2) k (tb_un n [a, b])).getD (t - 1) 0
theorem tb_Rp {n a b k : Nat} (ha : a < n) (hb : b < n) (hab : a ≠ b) (hk : k < tb_fc (n - 2)) : tb_pm n (tb_R n a b k) := by
  have p := tb_arP (n - 2) k (tb_un n [a, b]) (tb_unL2 ha hb hab) hk
  refine tb_pmS (fun v hv => ?_)
  by_cases h1 : v = a
  · exact ⟨0, by omega, by rw [h1]; rfl⟩
  · by_cases h2 : v = b
    · refine ⟨n - 1, by omega, ?_⟩
      unfold tb_R
      rw [if_neg (by omega), if_pos rfl, h2]
    · have hm : v ∈ tb_ar (n - 2) k (tb_un n [a, b]) := p.mem_iff.mpr (tb_unM.mpr ⟨hv, by simp [h1, h2]⟩)
      obtain ⟨i, hi, e⟩ := List.getElem_of_mem hm
      have hi2 : i < n - 2 := by
        have := tb_arL (n - 2) k (tb_un n [a, b])
        omega
      refine ⟨i + 1, by omega, ?_⟩
      unfold tb_R
      rw [if_neg (by omega), if_neg (by omega), Nat.add_sub_cancel, tb_gI hi, e]
theorem tb_RE {n : Nat} {d : Nat → Nat} (hn : 2 ≤ n) (h : tb_pm n d) : ∃ k, k < tb_fc (n - 2) ∧ ∀ t, t < n → tb_R n (d 0) (d (n - 1)) k t = d t := by
  have h0 := h.1 0 (by omega)
  have h1 := h.1 (n - 1) (by omega)
  have hab : d 0 ≠ d (n - 1) := fun z => by
    have := h.2 0 (n - 1) (by omega) (by omega) z
    omega
  have p : (tb_ls (fun t => d (t + 1)) (n - 2)).Perm (tb_un n [d 0, d (n - 1)]) := by
    refine (tb_pg _ _ (tb_lsN ?_) ?_ ?_).symm
    · intro s t hs ht e
      have := h.2 (s + 1) (t + 1) (by omega) (by omega) e
      omega
    · intro x hx
      obtain ⟨t, ht, rfl⟩ := tb_lsM.mp hx
      refine tb_unM.mpr ⟨h.1 _ (by omega), ?_⟩
      intro z
      rcases List.mem_cons.mp z with z | z
      · have := h.2 (t + 1) 0 (by omega) (by omega) z
        omega
      · rw [List.mem_singleton] at z
        have := h.2 (t + 1) (n - 1) (by omega) (by omega) z
        omega
    · rw [tb_lsL, tb_unL2 h0 h1 hab]
      exact Nat.le_refl _
  obtain ⟨k, hk, e⟩ := tb_arC (n - 2) _ _ (tb_unL2 h0 h1 hab) p
  refine ⟨k, hk, fun t ht => ?_⟩
  unfold tb_R
  by_cases z : t = 0
  · rw [if_pos z, z]
  · rw [if_neg z]
    by_cases z2 : t = n - 1
    · rw [if_pos z2, z2]
    · rw [if_neg z2, e, tb_lsG _ (by omega)]
      show d (t - 1 + 1) = d t
      congr 1
      omega
end TBF
end
section
section TBB
/-! pasted from the kit's rows -/
theorem pk_us {f : Nat → Int32} {k : Nat} {x : Int32} : upd f k x k = x := if_pos rfl
theorem pk_un {f : Nat → Int32} {k j : Nat} {x : Int32} (h : j ≠ k) : upd f k x j = f j := if_neg h
theorem pk_sub {a b : Nat} (h : b ≤ a) : nI a - nI b = nI (a - b) := by
  obtain ⟨c, rfl⟩ : ∃ c, a = c + b := ⟨a - b, by omega⟩
  rw [← nI_add, Int32.add_sub_cancel, Nat.add_sub_cancel]
theorem pk_m1 (n : Nat) : nI (n + 1) + (-1) = nI n := by
  rw [← nI_1, Int32.add_assoc, show (1 : Int32) + (-1) = 0 from rfl, Int32.add_zero]
theorem pk_mul (a b : Nat) : nI a * nI b = nI (a * b) := (Int32.ofNat_mul a b).symm
theorem pk_div {a d : Nat} (ha : a < 2 ^ 31) (h0 : 0 < d) (hd : d < 2 ^ 31) : nI a / nI d = nI (a / d) := by
  apply Int32.toInt_inj.mp
  rw [lg_idiv_nonneg (by rw [nI_toInt ha]; omega) (by rw [nI_toInt hd]; omega), nI_toInt ha, nI_toInt hd, nI_toInt (Nat.lt_of_le_of_lt (Nat.div_le_self a d) ha)]
  first | rfl | exact (Int.natCast_ediv _ _).symm
theorem pk_rem {a d : Nat} (ha : a < 2 ^ 31) (h0 : 0 < d) (hd : d < 2 ^ 31) : nI a - nI a / nI d * nI d = nI (a % d) := by
  rw [pk_div ha h0 hd, pk_mul, pk_sub (Nat.div_mul_le_self a d)]
  exact congrArg nI (by have := Nat.div_add_mod' a d; omega)
theorem pk_sub_toInt {a b : Nat} (ha : a < 2 ^ 30) (hb : b < 2 ^ 30) : (nI a - nI b).toInt = (a : Int) - b := by
  rw [Int32.toInt_sub, nI_toInt (by omega), nI_toInt (by omega)]
  exact Int.bmod_eq_of_le (by omega) (by omega)
theorem pk_sneg {a b : Nat} (hb : b < 2 ^ 30) (h : a < b) : nI a - nI b < 0 := by
  rw [Int32.lt_iff_toInt_lt, pk_sub_toInt (by omega) hb, show (0 : Int32).toInt = 0 from by decide]
  omega
theorem pk_ix (x : Int32) {n : Nat} (hn : n < 2 ^ 31) : x < 0 ∨ nI n ≤ x ∨ ∃ j : Nat, j < n ∧ x = nI j := by
  by_cases h : x < 0
  · exact Or.inl h
  · obtain ⟨j, hj, rfl⟩ := nI_of h
    by_cases h2 : j < n
    · exact Or.inr (Or.inr ⟨j, h2, rfl⟩)
    · exact Or.inr (Or.inl (nI_le (by omega) hj))
theorem pk_le {x y : Int32} {A B : Prop} (a b : Nat) (f : a ≤ b → A) (g : b < a → B) (hx : x = nI a := by rfl) (hy : y = nI b := by rfl) (ha : a < 2 ^ 31 := by omega) (hb : b < 2 ^ 31 := by omega) : (x ≤ y → A) ∧ (¬ x ≤ y → B) := by
  subst hx hy
  rw [nI_leI ha hb]
  exact ⟨f, fun z => g (by omega)⟩
theorem pk_lt {x y : Int32} {A B : Prop} (a b : Nat) (f : a < b → A) (g : b ≤ a → B) (hx : x = nI a := by rfl) (hy : y = nI b := by rfl) (ha : a < 2 ^ 31 := by omega) (hb : b < 2 ^ 31 := by omega) : (x < y → A) ∧ (¬ x < y → B) := by
  subst hx hy
  rw [nI_ltI ha hb]
  exact ⟨f, fun z => g (by omega)⟩
theorem pk_eq {x y : Int32} {A B : Prop} (a b : Nat) (f : a = b → A) (g : a ≠ b → B) (hx : x = nI a := by rfl) (hy : y = nI b := by rfl) (ha : a < 2 ^ 31 := by omega) (hb : b < 2 ^ 31 := by omega) : (x = y → A) ∧ (¬ x = y → B) := by
  subst hx hy
  rw [nI_eq ha hb]
  exact ⟨f, g⟩
theorem pk_in {x : Int32} (n N : Nat) (h : n < N) (hx : x = nI n := by rfl) (hN : N < 2 ^ 31 := by omega) : vp_in x N := by
  subst hx
  exact vp_in_nI h hN
theorem pk_cl {x : Int32} (n : Nat) (hx : x = nI n := by rfl) (h : n < 2 ^ 31 := by omega) : x.toNatClampNeg = n := by
  subst hx
  exact nI_clamp h
theorem pk_tn {n : Nat} (h : n < 2 ^ 32) : (nI n).toBitVec.toNat = n := Nat.mod_eq_of_lt h
theorem pk_shl (a s : Int32) (k : Nat) (hs : (s.toBitVec.smod 32).toNat = k) : (a <<< s).toBitVec.toNat = a.toBitVec.toNat * 2 ^ k % 2 ^ 32 := by
  show (a.toBitVec <<< (s.toBitVec.smod 32).toNat).toNat = _
  rw [hs, BitVec.toNat_shiftLeft, Nat.shiftLeft_eq]
theorem pk_shlN {n : Nat} (s : Int32) (k : Nat) (hs : (s.toBitVec.smod 32).toNat = k) (h : n * 2 ^ k < 2 ^ 32) : nI n <<< s = nI (n * 2 ^ k) := by
  apply Int32.toBitVec_inj.mp
  apply BitVec.eq_of_toNat_eq
  have hn : n < 2 ^ 32 := Nat.lt_of_le_of_lt (Nat.le_mul_of_pos_right n (Nat.two_pow_pos k)) h
  rw [pk_shl _ _ k hs, pk_tn hn, pk_tn h, Nat.mod_eq_of_lt h]
theorem pk_shr (a s : Int32) (k : Nat) (hs : (s.toBitVec.smod 32).toNat = k) : (a >>> s).toInt = a.toInt >>> k := by
  show (a.toBitVec.sshiftRight (s.toBitVec.smod 32).toNat).toInt = _
  rw [hs, BitVec.toInt_sshiftRight]
  rfl
theorem pk_shrN {n : Nat} (h : n < 2 ^ 31) (s : Int32) (k : Nat) (hs : (s.toBitVec.smod 32).toNat = k) : nI n >>> s = nI (n / 2 ^ k) := by
  apply Int32.toInt_inj.mp
  have h2 : n / 2 ^ k ≤ n := Nat.div_le_self _ _
  rw [pk_shr _ _ k hs, nI_toInt h, nI_toInt (by omega), Int.shiftRight_eq_div_pow]
  rfl
theorem pk_loop {σ : Type} (W : Nat → Nat → σ → Prop) (I : Nat → σ → Prop) (e i0 : Nat) (s : σ) (hi : i0 ≤ e) (h0 : I i0 s) (hx : ∀ n s, I e s → W (n + 1) e s)
    (hs : ∀ n i s, i < e → I i s → (∀ s', I (i + 1) s' → W n (i + 1) s') → W (n + 1) i s) : ∃ n, W n i0 s :=
  ⟨e + 1, loop_i W I e hx hs (e + 1) i0 s hi (by omega) h0⟩
theorem pk_loopD {σ : Type} (W : Nat → Nat → σ → Prop) (I : Nat → σ → Prop) (hx : ∀ n s, I 0 s → W (n + 1) 0 s)
    (hs : ∀ n i s, I (i + 1) s → (∀ s', I i s' → W n i s') → W (n + 1) (i + 1) s) : ∀ (e : Nat) (s : σ), I e s → W (e + 1) e s := by
  intro e
  induction e with
  | zero => exact fun s h => hx 0 s h
  | succ e ih => exact fun s h => hs (e + 1) e s h (fun s' h' => ih s' h')
def bt (x : Int32) (i : Nat) : Bool := x.toBitVec.getLsbD i
theorem b_ext {x y : Int32} (h : ∀ i, i < 32 → bt x i = bt y i) : x = y := Int32.toBitVec_inj.mp (BitVec.eq_of_getLsbD_eq (fun i hi => h i hi))
theorem b_or (x y : Int32) (i : Nat) : bt (x ||| y) i = (bt x i || bt y i) := by unfold bt; rw [Int32.toBitVec_or, BitVec.getLsbD_or]
theorem b_and (x y : Int32) (i : Nat) : bt (x &&& y) i = (bt x i && bt y i) := by unfold bt; rw [Int32.toBitVec_and, BitVec.getLsbD_and]
theorem b_xor (x y : Int32) (i : Nat) : bt (x ^^^ y) i = (bt x i ^^ bt y i) := by unfold bt; rw [Int32.toBitVec_xor, BitVec.getLsbD_xor]
theorem b_big {x : Int32} {i : Nat} (h : 32 ≤ i) : bt x i = false := BitVec.getLsbD_of_ge _ _ h
theorem b_m1 : ∀ i, i < 32 → bt (-1) i = true := by decide +kernel
theorem b_0 (i : Nat) : bt 0 i = false := BitVec.getLsbD_zero
theorem s_l : ∀ n, n < 32 → ((nI n &&& 31).toBitVec.smod 32).toNat = n := by decide +kernel
theorem b_shl (n : Nat) (hn : n < 32) (x : Int32) {i : Nat} (hi : i < 32) : bt (x <<< (nI n &&& 31)) i = (decide (n ≤ i) && bt x (i - n)) := by
  unfold bt
  rw [Int32.toBitVec_shiftLeft]
  show (x.toBitVec <<< ((nI n &&& 31).toBitVec.smod 32).toNat).getLsbD i = _
  rw [s_l n hn, BitVec.getLsbD_shiftLeft]
  rcases Nat.lt_or_ge i n with h | h
  · simp [h, Nat.not_le.mpr h]
  · simp [hi, h, Nat.not_lt.mpr h]
theorem nx_and (a b : Nat) : nI a &&& nI b = nI (a &&& b) := by
  apply Int32.toBitVec_inj.1
  show BitVec.ofNat 32 a &&& BitVec.ofNat 32 b = BitVec.ofNat 32 (a &&& b)
  apply BitVec.eq_of_getLsbD_eq
  intro i hi
  simp [hi]
theorem pk_least (P : Nat → Prop) (h : ∃ k, P k) : ∃ k, P k ∧ ∀ j, j < k → ¬ P j := by
  obtain ⟨k, hk⟩ := h
  induction k using Nat.strongRecOn with
  | ind k ih =>
    by_cases e : ∃ j, j < k ∧ P j
    · obtain ⟨j, hj, pj⟩ := e
      exact ih j hj pj
    · exact ⟨k, hk, fun j hj pj => e ⟨j, hj, pj⟩⟩
/-! bits of masks -/
theorem tb_b1 : ∀ r, r < 32 → ∀ i, i < 32 → bt ((1 : Int32) <<< (nI r &&& 31)) i = decide (i = r) := by decide +kernel
theorem tb_bz {x : Int32} : x = 0 ↔ ∀ i, i < 32 → bt x i = false :=
  ⟨fun h i _ => by rw [h]; exact b_0 i, fun h => b_ext (fun i hi => by rw [h i hi, b_0])⟩
theorem tb_bt1 {x : Int32} {r : Nat} (hr : r < 32) : x &&& ((1 : Int32) <<< (nI r &&& 31)) = 0 ↔ bt x r = false := by
  rw [tb_bz]
  constructor
  · intro h
    have := h r hr
    rw [b_and, tb_b1 r hr r hr, decide_eq_true rfl, Bool.and_true] at this
    exact this
  · intro h i hi
    rw [b_and, tb_b1 r hr i hi]
    by_cases e : i = r
    · rw [e, h]; rfl
    · rw [decide_eq_false e, Bool.and_false]
theorem tb_bd {x y : Int32} : x &&& y = 0 ↔ ∀ i, i < 32 → bt x i = true → bt y i = false := by
  rw [tb_bz]
  constructor
  · intro h i hi hx
    have := h i hi
    rw [b_and, hx, Bool.true_and] at this
    exact this
  · intro h i hi
    rw [b_and]
    cases hx : bt x i
    · rfl
    · rw [h i hi hx]; rfl
theorem tb_bsub {x y : Int32} : x &&& y = y ↔ ∀ i, i < 32 → bt y i = true → bt x i = true := by
  constructor
  · intro h i hi hy
    have : bt (x &&& y) i = bt y i := by rw [h]
    rw [b_and, hy, Bool.and_true] at this
    exact this
  · intro h
    apply b_ext
    intro i hi
    rw [b_and]
    cases hy : bt y i
    · rw [Bool.and_false]
    · rw [h i hi hy]; rfl
theorem tb_bset {x : Int32} {r : Nat} (hr : r < 32) {i : Nat} (hi : i < 32) : bt (x ||| ((1 : Int32) <<< (nI r &&& 31))) i = (bt x i || decide (i = r)) := by
  rw [b_or, tb_b1 r hr i hi]
theorem tb_bclr {x : Int32} {r : Nat} (hr : r < 32) {i : Nat} (hi : i < 32) : bt (x &&& (((1 : Int32) <<< (nI r &&& 31)) ^^^ (-1))) i = (bt x i && !decide (i = r)) := by
  rw [b_and, b_xor, tb_b1 r hr i hi, b_m1 i hi, Bool.xor_true]
/-! small numbers -/
theorem tb_rb : ∀ a, a < 7 → ∀ b, b < 7 → nI b * (nI b - 1) / 2 + nI a = nI (b * (b - 1) / 2 + a) := by decide +kernel
theorem tb_ix : ∀ a, a < 7 → ∀ b, b < 8 → nI a * 7 + nI b = nI (a * 7 + b) := by decide +kernel
theorem tb_kd : ∀ k, k < 49 → nI k / 7 = nI (k / 7) ∧ nI k - nI k / 7 * 7 = nI (k % 7) := by decide +kernel
theorem tb_r7 {c : Nat} (h : c < 2 ^ 31) : nI c / 7 = nI (c / 7) ∧ nI c - nI c / 7 * 7 = nI (c % 7) := ⟨pk_div (d := 7) h (by decide) (by decide), pk_rem (d := 7) h (by decide) (by decide)⟩
end TBB
end
section
section TBR
/-! the constructor's rows, level by level -/
def tb_ct (n : Nat) : Nat → Nat
  | 0 => 1
  | L + 1 => tb_ct n L * (n - L)
theorem tb_ctV : ∀ n, n < 8 → 2 ≤ n → tb_ct n n = tb_fc n ∧ tb_ct n n / n = tb_fc (n - 1) := by decide +kernel
theorem tb_ctB : ∀ n, n < 8 → ∀ L, L < n + 1 → tb_ct n L ≤ 5040 ∧ 0 < tb_ct n L := by decide +kernel
theorem tb_unS (n : Nat) (p : List Nat) : tb_un (n + 1) p = if n ∈ p then tb_un n p else tb_un n p ++ [n] := by
  unfold tb_un
  rw [List.range_succ, List.filter_append]
  by_cases h : n ∈ p <;> simp [h]
/-- how many towns below t the row p lacks -/
def tb_lk (p : List Nat) (t : Nat) : Nat := tb_cn (fun t => decide (t ∉ p)) t
theorem tb_lk0 (p : List Nat) : tb_lk p 0 = 0 := rfl
theorem tb_lkI {p : List Nat} {t : Nat} (h : t ∈ p) : tb_lk p (t + 1) = tb_lk p t := tb_cnF (by simp [h])
theorem tb_lkO {p : List Nat} {t : Nat} (h : t ∉ p) : tb_lk p (t + 1) = tb_lk p t + 1 := tb_cnT (by simp [h])
theorem tb_lkN (p : List Nat) : ∀ n, (tb_un n p).length = tb_lk p n
  | 0 => rfl
  | n + 1 => by
    rw [tb_unS]
    by_cases h : n ∈ p
    · rw [if_pos h, tb_lkI h, tb_lkN p n]
    · rw [if_neg h, tb_lkO h, List.length_append, tb_lkN p n]
      rfl
theorem tb_lkG (p : List Nat) {t : Nat} (h : t ∉ p) : ∀ n, t < n → (tb_un n p).getD (tb_lk p t) 0 = t
  | 0, z => absurd z (by omega)
  | n + 1, z => by
    rw [tb_unS]
    rcases Nat.lt_or_ge t n with z2 | z2
    · have ih := tb_lkG p h n z2
      by_cases hn : n ∈ p
      · rw [if_pos hn]
        exact ih
      · rw [if_neg hn, List.getD_eq_getElem?_getD, List.getElem?_append_left ?_, ← List.getD_eq_getElem?_getD]
        · exact ih
        · rw [tb_lkN]
          have h1 := tb_lkO h
          have h2 : ∀ m, tb_lk p (t + 1) ≤ tb_lk p (t + 1 + m) := by
            intro m
            induction m with
            | zero => exact Nat.le_refl _
            | succ m ih =>
              refine Nat.le_trans ih ?_
              show _ ≤ tb_lk p (t + 1 + m + 1)
              by_cases hm : t + 1 + m ∈ p
              · rw [tb_lkI hm]
                exact Nat.le_refl _
              · rw [tb_lkO hm]
                omega
          have h3 := h2 (n - (t + 1))
          have h4 : t + 1 + (n - (t + 1)) = n := by omega
          rw [h4] at h3
          omega
    · have e : t = n := by omega
      subst e
      rw [if_neg h, List.getD_eq_getElem?_getD, List.getElem?_append_right (by rw [tb_lkN]; exact Nat.le_refl _), tb_lkN, Nat.sub_self]
      rfl
theorem tb_lkL (p : List Nat) (t : Nat) : tb_lk p t ≤ t := tb_cnL _ t
/-- the new row behind row i, town t -/
theorem tb_pxN {n L i t : Nat} (hL : L < n) (ht : t < n) (h : t ∉ tb_px n L i) (hq : tb_lk (tb_px n L i) t < n - L) : tb_px n (L + 1) (i * (n - L) + tb_lk (tb_px n L i) t) = t :: tb_px n L i := by
  have e1 : (i * (n - L) + tb_lk (tb_px n L i) t) / (n - L) = i := by
    rw [Nat.mul_comm, Nat.mul_add_div (by omega), Nat.div_eq_of_lt hq, Nat.add_zero]
  have e2 : (i * (n - L) + tb_lk (tb_px n L i) t) % (n - L) = tb_lk (tb_px n L i) t := by
    rw [Nat.mul_comm, Nat.mul_add_mod, Nat.mod_eq_of_lt hq]
  rw [tb_pxS, e1, e2, tb_lkG _ h n ht]
theorem tb_lkE {n L i : Nat} (hL : L ≤ n) : tb_lk (tb_px n L i) n = n - L := by
  rw [← tb_lkN]
  exact (tb_pxF (n := n) L i hL).2.2.2
end TBR
end
section
section TBU
/-! tours and ways as rows: price, roads used, allowed -/
noncomputable def tb_B (P : Prop) : Bool := @decide P (Classical.propDecidable P)
theorem tb_BT {P : Prop} : tb_B P = true ↔ P := @decide_eq_true_iff P (Classical.propDecidable P)
theorem tb_BF {P : Prop} : tb_B P = false ↔ ¬ P := @decide_eq_false_iff_not P (Classical.propDecidable P)
theorem tb_BE {P Q : Prop} (h : P ↔ Q) : tb_B P = tb_B Q := by rw [propext h]
/-- the row, then town 0 again -/
def tb_cy (n : Nat) (d : Nat → Nat) (t : Nat) : Nat := if t < n then d t else 0
theorem tb_cyL {n : Nat} {d : Nat → Nat} {t : Nat} (h : t < n) : tb_cy n d t = d t := if_pos h
theorem tb_cyE (n : Nat) (d : Nat → Nat) : tb_cy n d n = 0 := if_neg (Nat.lt_irrefl n)
def tb_tp (n : Nat) (pr : Nat → Nat) (d : Nat → Nat) : Nat := tb_sm (fun t => pr (tb_tr (tb_cy n d t) (tb_cy n d (t + 1)))) n
def tb_pp (n : Nat) (pr : Nat → Nat) (d : Nat → Nat) : Nat := tb_sm (fun t => pr (tb_tr (d t) (d (t + 1)))) (n - 1)
def tb_tu (n : Nat) (d : Nat → Nat) (r : Nat) : Prop := ∃ t, t < n ∧ tb_tr (tb_cy n d t) (tb_cy n d (t + 1)) = r
def tb_pu (n : Nat) (d : Nat → Nat) (r : Nat) : Prop := ∃ t, t + 1 < n ∧ tb_tr (d t) (d (t + 1)) = r
theorem tb_tpE {n : Nat} (hn : 0 < n) (pr : Nat → Nat) (d : Nat → Nat) : tb_tp n pr d = tb_pp n pr d + pr (tb_tr (d (n - 1)) 0) := by
  obtain ⟨m, rfl⟩ : ∃ m, n = m + 1 := ⟨n - 1, by omega⟩
  unfold tb_tp tb_pp
  rw [tb_smS, Nat.add_sub_cancel, tb_cyE, tb_cyL (by omega)]
  congr 1
  exact tb_smG m (fun t ht => by rw [tb_cyL (by omega), tb_cyL (by omega)])
theorem tb_tuE {n : Nat} (hn : 0 < n) (d : Nat → Nat) (r : Nat) : tb_tu n d r ↔ tb_pu n d r ∨ tb_tr (d (n - 1)) 0 = r := by
  constructor
  · rintro ⟨t, ht, e⟩
    rcases Nat.lt_or_ge (t + 1) n with h | h
    · rw [tb_cyL ht, tb_cyL h] at e
      exact Or.inl ⟨t, h, e⟩
    · have e1 : t = n - 1 := by omega
      have e2 : t + 1 = n := by omega
      rw [e2, tb_cyE, tb_cyL ht, e1] at e
      exact Or.inr e
  · rintro (⟨t, ht, e⟩ | e)
    · exact ⟨t, by omega, by rw [tb_cyL (by omega), tb_cyL ht]; exact e⟩
    · refine ⟨n - 1, by omega, ?_⟩
      have e2 : n - 1 + 1 = n := by omega
      rw [e2, tb_cyE, tb_cyL (by omega)]
      exact e
/-- neighbours in a row that begins with town 0 differ, also where it closes -/
theorem tb_cyN {n : Nat} {d : Nat → Nat} (hn : 2 ≤ n) (h : tb_pm n d) (h0 : d 0 = 0) {t : Nat} (ht : t < n) : tb_cy n d t < n ∧ tb_cy n d (t + 1) < n ∧ tb_cy n d t ≠ tb_cy n d (t + 1) := by
  rcases Nat.lt_or_ge (t + 1) n with h1 | h1
  · rw [tb_cyL ht, tb_cyL h1]
    refine ⟨h.1 t ht, h.1 _ h1, fun z => ?_⟩
    have := h.2 t (t + 1) ht h1 z
    omega
  · have e2 : t + 1 = n := by omega
    rw [e2, tb_cyE, tb_cyL ht]
    refine ⟨h.1 t ht, by omega, fun z => ?_⟩
    have := h.2 t 0 ht (by omega) (z.trans h0.symm)
    omega
theorem tb_tuL {n : Nat} {d : Nat → Nat} (hn : 2 ≤ n) (n7 : n ≤ 7) (h : tb_pm n d) (h0 : d 0 = 0) {r : Nat} (hr : tb_tu n d r) : r < 21 := by
  obtain ⟨t, ht, e⟩ := hr
  obtain ⟨a, b, c⟩ := tb_cyN hn h h0 ht
  rw [← e]
  exact tb_trL _ (by omega) _ (by omega) c
theorem tb_puL {n : Nat} {d : Nat → Nat} (n7 : n ≤ 7) (h : tb_pm n d) {r : Nat} (hr : tb_pu n d r) : r < 21 := by
  obtain ⟨t, ht, e⟩ := hr
  have a := h.1 t (by omega)
  have b := h.1 (t + 1) ht
  rw [← e]
  refine tb_trL _ (by omega) _ (by omega) (fun z => ?_)
  have := h.2 t (t + 1) (by omega) ht z
  omega
/-- the pair (a, b) stands side by side -/
def tb_us (n : Nat) (d : Nat → Nat) (m a b : Nat) : Prop := ∃ t, t < m ∧ ((tb_cy n d t = a ∧ tb_cy n d (t + 1) = b) ∨ (tb_cy n d (t + 1) = a ∧ tb_cy n d t = b))
theorem tb_usU {n : Nat} {d : Nat → Nat} (hn : 2 ≤ n) (n7 : n ≤ 7) (h : tb_pm n d) (h0 : d 0 = 0) {a b : Nat} (ha : a < 7) (hb : b < 7) : tb_us n d n a b ↔ a ≠ b ∧ tb_tu n d (tb_tr a b) := by
  constructor
  · rintro ⟨t, ht, z⟩
    obtain ⟨_, _, c⟩ := tb_cyN hn h h0 ht
    rcases z with ⟨z1, z2⟩ | ⟨z1, z2⟩
    · rw [z1, z2] at c
      exact ⟨c, t, ht, by rw [z1, z2]⟩
    · rw [z1, z2] at c
      exact ⟨fun e => c e.symm, t, ht, by rw [z1, z2, tb_trC]⟩
  · rintro ⟨hab, t, ht, e⟩
    obtain ⟨a1, b1, c⟩ := tb_cyN hn h h0 ht
    refine ⟨t, ht, ?_⟩
    rcases tb_trI _ (by omega) _ (by omega) c a ha b hb hab e with z | z
    · exact Or.inl z
    · exact Or.inr ⟨z.2, z.1⟩
/-- allowed: no closed road, every required one -/
def tb_al (n : Nat) (hw : Nat → Nat) (d : Nat → Nat) : Prop := ∀ r, r < 21 → (hw r = 2 → ¬ tb_tu n d r) ∧ (hw r = 1 → tb_tu n d r)
/-- Y's marks by pairs -/
def tb_H (hw : Nat → Nat) (a b : Nat) : Nat := if a = b then 0 else hw (tb_tr a b)
theorem tb_alY {n : Nat} {d : Nat → Nat} (hn : 2 ≤ n) (n7 : n ≤ 7) (h : tb_pm n d) (h0 : d 0 = 0) (hw : Nat → Nat) : tb_al n hw d ↔ ∀ a b, a < 7 → b < 7 → (tb_H hw a b = 2 → ¬ tb_us n d n a b) ∧ (tb_H hw a b = 1 → tb_us n d n a b) := by
  constructor
  · intro H a b ha hb
    unfold tb_H
    by_cases e : a = b
    · rw [if_pos e]
      exact ⟨fun z => absurd z (by decide), fun z => absurd z (by decide)⟩
    · rw [if_neg e]
      obtain ⟨h1, h2⟩ := H (tb_tr a b) (tb_trL a ha b hb e)
      rw [tb_usU hn n7 h h0 ha hb]
      exact ⟨fun z w => h1 z w.2, fun z => ⟨e, h2 z⟩⟩
  · intro H r hr
    obtain ⟨b, hb, a, hab, e⟩ := tb_trS r hr
    obtain ⟨h1, h2⟩ := H a b (by omega) hb
    have e2 : tb_H hw a b = hw r := by
      unfold tb_H
      rw [if_neg (by omega), e]
    rw [e2, tb_usU hn n7 h h0 (by omega) hb, e] at h1 h2
    exact ⟨fun z w => h1 z ⟨by omega, w⟩, fun z => (h2 z).2⟩
/-- the prices of the ways from a to b -/
def tb_SP (n : Nat) (pr hw : Nat → Nat) (a b w : Nat) : Prop := ∃ d, tb_pm n d ∧ d 0 = a ∧ d (n - 1) = b ∧ (∀ r, tb_pu n d r → hw r ≠ 2) ∧ tb_pp n pr d = w
theorem tb_ppG {n : Nat} {pr : Nat → Nat} {d e : Nat → Nat} (h : ∀ t, t < n → d t = e t) : tb_pp n pr d = tb_pp n pr e := by
  unfold tb_pp
  exact tb_smG _ (fun t ht => by rw [h t (by omega), h (t + 1) (by omega)])
theorem tb_puG {n : Nat} {d e : Nat → Nat} (h : ∀ t, t < n → d t = e t) (r : Nat) : tb_pu n d r ↔ tb_pu n e r := by
  constructor
  · rintro ⟨t, ht, z⟩
    exact ⟨t, ht, by rw [← h t (by omega), ← h (t + 1) ht]; exact z⟩
  · rintro ⟨t, ht, z⟩
    exact ⟨t, ht, by rw [h t (by omega), h (t + 1) ht]; exact z⟩
theorem tb_tpG {n : Nat} {pr : Nat → Nat} {d e : Nat → Nat} (h : ∀ t, t < n → d t = e t) : tb_tp n pr d = tb_tp n pr e := by
  have : tb_cy n d = tb_cy n e := by
    funext t
    unfold tb_cy
    by_cases z : t < n
    · rw [if_pos z, if_pos z, h t z]
    · rw [if_neg z, if_neg z]
  unfold tb_tp
  rw [this]
theorem tb_alG {n : Nat} {hw : Nat → Nat} {d e : Nat → Nat} (h : ∀ t, t < n → d t = e t) : tb_al n hw d ↔ tb_al n hw e := by
  have : tb_cy n d = tb_cy n e := by
    funext t
    unfold tb_cy
    by_cases z : t < n
    · rw [if_pos z, if_pos z, h t z]
    · rw [if_neg z, if_neg z]
  unfold tb_al tb_tu
  rw [this]
theorem tb_SPR {n : Nat} {pr hw : Nat → Nat} {a b w : Nat} (h : tb_SP n pr hw a b w) : tb_SP n pr hw b a w := by
  obtain ⟨d, p, e0, e1, c, e⟩ := h
  by_cases hn : n = 0
  · subst hn
    exact ⟨d, p, e1, e0, c, e⟩
  · refine ⟨fun t => d (n - 1 - t), tb_pmR p, ?_, ?_, ?_, ?_⟩
    · exact e1
    · show d (n - 1 - (n - 1)) = a
      rw [Nat.sub_self]
      exact e0
    · rintro r ⟨t, ht, z⟩
      refine c r ⟨n - 1 - (t + 1), by omega, ?_⟩
      have e2 : n - 1 - (t + 1) + 1 = n - 1 - t := by omega
      rw [e2, tb_trC]
      exact z
    · rw [← e]
      unfold tb_pp
      rw [← tb_smR]
      refine tb_smG _ (fun t ht => ?_)
      show pr (tb_tr (d (n - 1 - (n - 1 - 1 - t))) (d (n - 1 - (n - 1 - 1 - t + 1)))) = pr (tb_tr (d t) (d (t + 1)))
      have e2 : n - 1 - (n - 1 - 1 - t) = t + 1 := by omega
      have e3 : n - 1 - (n - 1 - 1 - t + 1) = t := by omega
      rw [e2, e3, tb_trC]
/-- the prices are small -/
theorem tb_ppB {n : Nat} {pr : Nat → Nat} (hp : ∀ r, pr r ≤ 40) (n7 : n ≤ 7) (d : Nat → Nat) : tb_pp n pr d ≤ 240 := by
  have := tb_smB (f := fun t => pr (tb_tr (d t) (d (t + 1)))) (c := 40) (n - 1) (fun t _ => hp _)
  unfold tb_pp
  have h2 : (n - 1) * 40 ≤ 6 * 40 := Nat.mul_le_mul_right 40 (by omega)
  omega
theorem tb_tpB {n : Nat} {pr : Nat → Nat} (hp : ∀ r, pr r ≤ 40) (n7 : n ≤ 7) (d : Nat → Nat) : tb_tp n pr d ≤ 280 := by
  have := tb_smB (f := fun t => pr (tb_tr (tb_cy n d t) (tb_cy n d (t + 1)))) (c := 40) n (fun t _ => hp _)
  unfold tb_tp
  have h2 : n * 40 ≤ 7 * 40 := Nat.mul_le_mul_right 40 n7
  omega
/-- the roads for the growing set and the table -/
def tb_E (n : Nat) (pr hw : Nat → Nat) (x y e : Nat) : Prop := x < n ∧ y < n ∧ x ≠ y ∧ hw (tb_tr x y) ≠ 2 ∧ e = pr (tb_tr x y)
theorem tb_EC {n : Nat} {pr hw : Nat → Nat} {x y e : Nat} (h : tb_E n pr hw x y e) : tb_E n pr hw y x e := by
  obtain ⟨a, b, c, d, e⟩ := h
  exact ⟨b, a, fun z => c z.symm, by rw [tb_trC]; exact d, by rw [tb_trC]; exact e⟩
end TBU
end
section
section TBW
/-! the table's least roads; the two answers of span -/
theorem tb_BvX (E : Nat → Nat → Nat → Prop) (hE : ∀ a b e, E a b e → e ≤ 40) (x y : Nat) : ∃ v, tb_Bv E x y v := by
  by_cases h : ∃ e, ∃ a b, x.testBit a = true ∧ y.testBit b = true ∧ E a b e
  · obtain ⟨e, ⟨a, b, ha, hb, he⟩, hl⟩ := pk_least (fun e => ∃ a b, x.testBit a = true ∧ y.testBit b = true ∧ E a b e) h
    have h40 := hE a b e he
    refine ⟨e, by omega, fun _ => ⟨a, b, ha, hb, he⟩, fun a' b' e' ha' hb' he' => ?_⟩
    rcases Nat.lt_or_ge e' e with z | z
    · exact absurd ⟨a', b', ha', hb', he'⟩ (hl e' z)
    · exact z
  · exact ⟨9999, Nat.le_refl _, fun z => absurd z (Nat.lt_irrefl _), fun a b e ha hb he => absurd ⟨e, a, b, ha, hb, he⟩ h⟩
theorem tb_BvL {E : Nat → Nat → Nat → Prop} {x y v v' : Nat} (h : tb_Bv E x y v) (h' : tb_Bv E x y v') : v ≤ v' := by
  rcases Nat.lt_or_ge v' 9999 with z | z
  · obtain ⟨a, b, ha, hb, he⟩ := h'.2.1 z
    exact h.2.2 a b v' ha hb he
  · exact Nat.le_trans h.1 z
theorem tb_BvU {E : Nat → Nat → Nat → Prop} {x y v v' : Nat} (h : tb_Bv E x y v) (h' : tb_Bv E x y v') : v = v' := Nat.le_antisymm (tb_BvL h h') (tb_BvL h' h)
noncomputable def tb_Bw (E : Nat → Nat → Nat → Prop) (hE : ∀ a b e, E a b e → e ≤ 40) (x y : Nat) : Nat := Exists.choose (tb_BvX E hE x y)
theorem tb_BwV (E : Nat → Nat → Nat → Prop) (hE : ∀ a b e, E a b e → e ≤ 40) (x y : Nat) : tb_Bv E x y (tb_Bw E hE x y) := Exists.choose_spec (tb_BvX E hE x y)
theorem tb_full (n i : Nat) : (2 ^ n - 1).testBit i = true ↔ i < n := by
  rw [Nat.testBit_two_pow_sub_one, decide_eq_true_iff]
theorem tb_spY {E : Nat → Nat → Nat → Prop} {n v : Nat} (h : tb_Jv E (2 ^ n - 1) v) : v ≤ 9999 ∧ (v < 9999 → tb_Cn E (fun i => i < n) v) ∧ ∀ w, tb_Cn E (fun i => i < n) w → v ≤ w :=
  ⟨h.1, fun z => tb_CnE (h.2.1 z) (fun i => tb_full n i), fun w hw => h.2.2 w (tb_CnE hw (fun i => (tb_full n i).symm))⟩
/-- the growing set with its towns listed -/
def tb_XS (E : Nat → Nat → Nat → Prop) (n : Nat) (P : Nat → Prop) (k s : Nat) : Prop :=
  tb_PI E n P s ∧ P 0 ∧ ∃ l : List Nat, l.Nodup ∧ l.length = k ∧ (∀ i, i ∈ l ↔ P i) ∧ ∀ i, i ∈ l → i < n
theorem tb_XS0 {E : Nat → Nat → Nat → Prop} {n : Nat} {P : Nat → Prop} (hn : 0 < n) (hP : ∀ i, P i ↔ i = 0) : tb_XS E n P 1 0 :=
  ⟨tb_PI0 hP, (hP 0).mpr rfl, [0], List.nodup_cons.mpr ⟨List.not_mem_nil, List.nodup_nil⟩, rfl, fun i => by rw [List.mem_singleton, hP], fun i hi => by rw [List.mem_singleton.mp hi]; exact hn⟩
theorem tb_XSl {E : Nat → Nat → Nat → Prop} {n k s : Nat} {P : Nat → Prop} (h : tb_XS E n P k s) {i : Nat} (hi : P i) : i < n := by
  obtain ⟨_, _, l, _, _, h3, h4⟩ := h
  exact h4 i ((h3 i).mpr hi)
/-- one town is wanting -/
theorem tb_XSm {E : Nat → Nat → Nat → Prop} {n k s : Nat} {P : Nat → Prop} (h : tb_XS E n P k s) (hk : k < n) : ∃ t, t < n ∧ ¬ P t := by
  obtain ⟨_, _, l, h1, h2, h3, h4⟩ := h
  by_cases z : ∃ t, t < n ∧ ¬ P t
  · exact z
  · have : (List.range n).length ≤ l.length := List.Nodup.length_le_of_subset List.nodup_range (fun x hx => (h3 x).mpr (Classical.byContradiction fun w => z ⟨x, List.mem_range.mp hx, w⟩))
    rw [List.length_range] at this
    omega
theorem tb_XSs {E : Nat → Nat → Nat → Prop} {n k s b p t : Nat} {P P' : Nat → Prop} (h : tb_XS E n P k s) (hb : ∀ i j e, E i j e → (P i ∧ ¬ P j) ∨ (¬ P i ∧ P j) → b ≤ e) (hp : P p) (ht : ¬ P t) (tn : t < n) (he : E p t b) (hP : ∀ i, P' i ↔ P i ∨ i = t) : tb_XS E n P' (k + 1) (s + b) := by
  have pn := tb_XSl h hp
  obtain ⟨h0, hz, l, h1, h2, h3, h4⟩ := h
  refine ⟨tb_PIs h0 hb hp pn ht tn he hP, (hP 0).mpr (Or.inl hz), t :: l, List.nodup_cons.mpr ⟨fun z => ht ((h3 t).mp z), h1⟩, by rw [List.length_cons, h2], fun i => ?_, fun i hi => ?_⟩
  · rw [List.mem_cons, hP, h3]
    exact Or.comm
  · rcases List.mem_cons.mp hi with z | z
    · rw [z]; exact tn
    · exact h4 i z
theorem tb_XSe {E : Nat → Nat → Nat → Prop} {n s : Nat} {P : Nat → Prop} (h : tb_XS E n P n s) : tb_Cn E (fun i => i < n) s ∧ ∀ w, tb_Cn E (fun i => i < n) w → s ≤ w := by
  obtain ⟨h0, hz, l, h1, h2, h3, h4⟩ := h
  have p : (List.range n).Perm l := tb_pg l (List.range n) h1 (fun x hx => List.mem_range.mpr (h4 x hx)) (by rw [List.length_range, h2]; exact Nat.le_refl _)
  exact tb_PIe h0 (fun i => by rw [← h3 i, ← p.mem_iff, List.mem_range])
theorem tb_XSn {E : Nat → Nat → Nat → Prop} {n k s : Nat} {P : Nat → Prop} (h : tb_XS E n P k s) (hk : k < n) (hb : ∀ i j e, E i j e → ¬ ((P i ∧ ¬ P j) ∨ (¬ P i ∧ P j))) (w : Nat) : ¬ tb_Cn E (fun i => i < n) w := by
  intro c
  obtain ⟨t, tn, ht⟩ := tb_XSm h hk
  exact tb_none hb h.2.1 ht c (tb_XSl h h.2.1) tn
end TBW
end
section
section TBX
/-! digits of a code; lists that Y's arrange works on -/
def tb_dg (n c t : Nat) : Nat := c / 7 ^ (n - 1 - t) % 7
theorem tb_dg7 (n c t : Nat) : tb_dg n c t < 7 := Nat.mod_lt _ (by decide)
theorem tb_dgC {n c : Nat} (hc : c < 7 ^ n) : ∀ m, m ≤ n → tb_co (tb_dg n c) m = c / 7 ^ (n - m)
  | 0, _ => by
    rw [Nat.sub_zero, Nat.div_eq_of_lt hc]
    rfl
  | m + 1, h => by
    rw [tb_coS, tb_dgC hc m (by omega)]
    have e : 7 ^ (n - m) = 7 ^ (n - (m + 1)) * 7 := by
      rw [← Nat.pow_succ]
      congr 1
      omega
    have e2 : n - 1 - m = n - (m + 1) := by omega
    unfold tb_dg
    rw [e, ← Nat.div_div_eq_div_mul, e2]
    omega
theorem tb_dgE {n c : Nat} (hc : c < 7 ^ n) : tb_co (tb_dg n c) n = c := by
  rw [tb_dgC hc n (Nat.le_refl n), Nat.sub_self, Nat.pow_zero, Nat.div_one]
theorem tb_dg0 {n c : Nat} (hc : c < 7 ^ (n - 1)) : tb_dg n c 0 = 0 := by
  unfold tb_dg
  rw [Nat.sub_zero, Nat.div_eq_of_lt hc]
/-- a row that begins with town 0: its code is below 7^(n-1), its digits are the row -/
theorem tb_coZ {d : Nat → Nat} : ∀ m, d 0 = 0 → (∀ t, t < m + 1 → d t < 7) → tb_co d (m + 1) < 7 ^ m
  | 0, h0, _ => by
    rw [tb_coS, h0]
    exact Nat.one_pos
  | m + 1, h0, h => by
    have ih := tb_coZ m h0 (fun t ht => h t (by omega))
    have := h (m + 1) (by omega)
    rw [tb_coS, Nat.pow_succ]
    omega
theorem tb_dgD {n : Nat} (hn : 0 < n) {d : Nat → Nat} (h : ∀ t, t < n → d t < 7) {c : Nat} (e : tb_co d n = c) : ∀ t, t < n → tb_dg n c t = d t := by
  have hc : c < 7 ^ n := by
    rw [← e]
    exact tb_coB n h
  exact tb_coI n (fun t _ => tb_dg7 n c t) h (by rw [tb_dgE hc, e])
/-- X's tours are the codes whose digits are a row -/
theorem tb_isT {n c : Nat} (hn : 2 ≤ n) (n7 : n ≤ 7) : (∃ i, i < tb_fc (n - 1) ∧ tb_co (tb_D n i) n = c) ↔ c < 7 ^ (n - 1) ∧ tb_pm n (tb_dg n c) := by
  constructor
  · rintro ⟨i, hi, e⟩
    have hp := tb_Dp n i
    have h7 : ∀ t, t < n → tb_D n i t < 7 := fun t ht => Nat.lt_of_lt_of_le (hp.1 t ht) n7
    have h0 := (tb_DA (n := n) (a := 0) (by omega) hi).1
    rw [Nat.zero_mul, Nat.zero_add] at h0
    refine ⟨?_, tb_pmG hp (fun t ht => (tb_dgD (by omega) h7 e t ht).symm)⟩
    have := tb_coZ (d := tb_D n i) (n - 1) h0 (fun t ht => h7 t (by omega))
    have e2 : n - 1 + 1 = n := by omega
    rw [e2, e] at this
    exact this
  · rintro ⟨hc, hp⟩
    have h0 := tb_dg0 hc
    obtain ⟨k, hk, e⟩ := tb_DE (by omega) hp
    rw [h0, Nat.zero_mul, Nat.zero_add] at e
    refine ⟨k, hk, ?_⟩
    rw [tb_coG n e]
    exact tb_dgE (Nat.lt_of_lt_of_le hc (Nat.pow_le_pow_right (by decide) (by omega)))
theorem tb_D00 {n i : Nat} (hn : 0 < n) (hi : i < tb_fc (n - 1)) : tb_D n i 0 = 0 := by
  have h0 := (tb_DA (n := n) (a := 0) hn hi).1
  rw [Nat.zero_mul, Nat.zero_add] at h0
  exact h0
theorem tb_D0S {n i t : Nat} (hi : i < tb_fc (n - 1)) (ht : t + 1 < n) : tb_D n i (t + 1) = (tb_ar (n - 1) i (tb_un n [0])).getD t 0 := by
  have h0 := (tb_DA (n := n) (a := 0) (by omega) hi).2 t ht
  rw [Nat.zero_mul, Nat.zero_add] at h0
  exact h0
theorem tb_un0G : ∀ n, n < 8 → ∀ q, q < n - 1 → (tb_un n [0]).getD q 0 = q + 1 := by decide +kernel
/-- how often: once just if there and at no other place -/
theorem tb_cnE {q : Nat → Bool} : ∀ m, tb_cn q m ≠ 0 → ∃ s, s < m ∧ q s = true
  | 0, h => absurd rfl h
  | m + 1, h => by
    cases e : q m with
    | true => exact ⟨m, by omega, e⟩
    | false =>
      rw [tb_cnF e] at h
      obtain ⟨s, hs, z⟩ := tb_cnE m h
      exact ⟨s, by omega, z⟩
theorem tb_cnO {q : Nat → Bool} {s : Nat} : ∀ m, s < m → q s = true → (∀ s', s' < m → q s' = true → s' = s) → tb_cn q m = 1
  | 0, h, _, _ => absurd h (by omega)
  | m + 1, h, hs, hu => by
    rcases Nat.lt_or_ge s m with z | z
    · have e : q m = false := by
        cases e : q m with
        | false => rfl
        | true =>
          have := hu m (by omega) e
          omega
      rw [tb_cnF e]
      exact tb_cnO m z hs (fun s' h' => hu s' (by omega))
    · have e : s = m := by omega
      subst e
      rw [tb_cnT hs, tb_cn0 s (fun i hi => by
        cases e : q i with
        | false => rfl
        | true =>
          have := hu i (by omega) e
          omega)]
/-- Y's check of a row -/
theorem tb_rdE {n : Nat} {d : Nat → Nat} (hn : 2 ≤ n) (h0 : d 0 = 0) : tb_pm n d ↔ ∀ v, 1 ≤ v → v < n → tb_cn (fun s => decide (d (s + 1) = v)) (n - 1) = 1 := by
  constructor
  · intro hp v h1 hv
    -- v stands somewhere: the row is onto
    have hl : (tb_ls d n).Perm (List.range n) := by
      refine (tb_pg (tb_ls d n) (List.range n) (tb_lsN hp.2) (fun x hx => ?_) (by rw [tb_lsL, List.length_range]; exact Nat.le_refl _)).symm
      obtain ⟨t, ht, rfl⟩ := tb_lsM.mp hx
      exact List.mem_range.mpr (hp.1 t ht)
    obtain ⟨t, ht, e⟩ := tb_lsM.mp (hl.mem_iff.mpr (List.mem_range.mpr hv))
    have t0 : t ≠ 0 := fun z => by
      rw [z, h0] at e
      omega
    refine tb_cnO (s := t - 1) (n - 1) (by omega) ?_ (fun s' hs' z => ?_)
    · have : t - 1 + 1 = t := by omega
      rw [decide_eq_true_iff, this]
      exact e
    · rw [decide_eq_true_iff] at z
      have := hp.2 (s' + 1) t (by omega) ht (z.trans e.symm)
      omega
  · intro H
    refine tb_pmS (fun v hv => ?_)
    rcases Nat.eq_zero_or_pos v with z | z
    · exact ⟨0, by omega, by rw [h0, z]⟩
    · obtain ⟨s, hs, e⟩ := tb_cnE (n - 1) (by rw [H v z hv]; decide)
      rw [decide_eq_true_iff] at e
      exact ⟨s + 1, by omega, e⟩
/-- a list with one entry taken out -/
theorem tb_eiL {l : List Nat} {i q : Nat} (h : q < i) : (l.eraseIdx i).getD q 0 = l.getD q 0 := by
  rw [List.getD_eq_getElem?_getD, List.getD_eq_getElem?_getD, List.getElem?_eraseIdx_of_lt h]
theorem tb_eiG {l : List Nat} {i q : Nat} (h : i ≤ q) : (l.eraseIdx i).getD q 0 = l.getD (q + 1) 0 := by
  rw [List.getD_eq_getElem?_getD, List.getD_eq_getElem?_getD, List.getElem?_eraseIdx_of_ge h]
end TBX
end
section
section TBI
/-! X's constructor -/
variable {tc rq cl : Int32} {ap : Nat → Int32}
theorem tb_s1 (t : Nat) : nI t - 1 = nI t + (-1) := Int32.sub_eq_add_neg _ _
theorem tb_p7 : ∀ L, L < 8 → 7 ^ L < 2 ^ 31 := by decide +kernel
theorem tb_rbX {post : Int32 → Prop} {u : SX} {a b : Nat} (ha : a < 7) (hb : b < 7) (h : post (nI (tb_tr a b))) : wpX_roadBetween post u (nI a) (nI b) := by
  obtain ⟨fn, tc, rq, cl, ap, ar⟩ := u
  have e1 : b ≤ a → nI a * (nI a - 1) / 2 + nI b = nI (tb_tr a b) := fun z => (tb_rb b hb a ha).trans (by unfold tb_tr; rw [if_neg (by omega)])
  have e2 : a < b → nI b * (nI b - 1) / 2 + nI a = nI (tb_tr a b) := fun z => (tb_rb a ha b hb).trans (by unfold tb_tr; rw [if_pos z])
  refine pk_le b a (fun z => ⟨by decide, ?_⟩) (fun z => ⟨by decide, ?_⟩)
  · rw [e1 z]
    exact h
  · rw [e2 z]
    exact h
theorem tb_hoX {post : Int32 → Prop} {fn : Int32} {ar : Nat → Int32} {t L : Nat} (ht : t < 7) (L7 : L ≤ 7) : ∀ (p : List Nat) (k fuel : Nat), (∀ x, x ∈ p → x < 7) → k + p.length = L → p.length < fuel → (t ∈ p → post 1) → (t ∉ p → post 0) → wX_holds_6 post (nI L) (nI t) fn tc rq cl ap ar fuel (nI (tb_cd p)) (nI k) := by
  intro p
  induction p with
  | nil =>
    intro k fuel _ hk hf _ h0
    obtain ⟨f, rfl⟩ : ∃ f, fuel = f + 1 := ⟨fuel - 1, by omega⟩
    rw [List.length_nil] at hk
    exact br_t (nI_le (by omega) (by omega)) (h0 List.not_mem_nil)
  | cons x p ih =>
    intro k fuel hp hk hf h1 h0
    obtain ⟨f, rfl⟩ : ∃ f, fuel = f + 1 := ⟨fuel - 1, by omega⟩
    rw [List.length_cons] at hk hf
    have hx := hp x List.mem_cons_self
    have hb : tb_cd (x :: p) < 2 ^ 31 := by
      have h1 := tb_cdB (x :: p) hp
      rw [List.length_cons] at h1
      exact Nat.lt_trans h1 (tb_p7 _ (by omega))
    have e := tb_r7 hb
    rw [tb_cdM hx] at e
    refine br_f (nI_ge (by omega) (by omega)) ⟨by decide, ?_⟩
    by_cases z : x = t
    · exact br_t (by rw [e.2, z]) (h1 (z ▸ List.mem_cons_self))
    · have z2 : ¬ nI (tb_cd (x :: p)) - nI (tb_cd (x :: p)) / 7 * 7 = nI t := by
        rw [e.2, nI_eq (by omega) (by omega)]
        exact z
      refine br_f z2 ⟨by decide, nm_r (e := nI (tb_cd (x :: p)) / 7) (e' := nI (tb_cd p)) (by rw [e.1, tb_cdD hx]) (nm_r (nI_1 k) ?_)⟩
      refine ih (k + 1) f (fun y hy => hp y (List.mem_cons_of_mem x hy)) (by omega) (by omega) (fun m => h1 (List.mem_cons_of_mem x m)) (fun m => h0 (fun w => ?_))
      rcases List.mem_cons.mp w with w | w
      · exact z w.symm
      · exact m w
/-- one row lengthened -/
theorem tb_le36 {post : SX → Prop} {J14 : Int32 → Int32 → (Nat → Int32) → (Nat → Int32) → Prop} {n L i c : Nat} (n7 : n ≤ 7) (hL : L < n) (hi : i < c) (hc : c * (n - L) ≤ 5040) (K : ∀ rows' : Nat → Int32, (∀ j, j < i → rows' j = nI (tb_cd (tb_px n L j))) → (∀ j, i * (n - L) ≤ j → j < c * (n - L) → rows' j = nI (tb_cd (tb_px n (L + 1) j))) → J14 (nI (i * (n - L))) (nI i + (-1)) ap rows') : ∀ (t fuel : Nat) (rows : Nat → Int32), t ≤ n → t < fuel → (∀ j, j < i → rows j = nI (tb_cd (tb_px n L j))) → (∀ j, i * (n - L) + tb_lk (tb_px n L i) t ≤ j → j < c * (n - L) → rows j = nI (tb_cd (tb_px n (L + 1) j))) → wX_lengthenRows_36 post J14 (nI L) (nI i) (nI (tb_cd (tb_px n L i))) (nI n) tc rq cl fuel (nI (i * (n - L) + tb_lk (tb_px n L i) t)) (nI t + (-1)) ap rows := by
  obtain ⟨p1, p2, p3, p4⟩ := tb_pxF (n := n) L i (by omega)
  have hik : i * (n - L) + (n - L) ≤ c * (n - L) := by
    rw [← Nat.succ_mul]
    exact Nat.mul_le_mul_right _ hi
  have hii : i ≤ i * (n - L) := Nat.le_mul_of_pos_right i (by omega)
  intro t
  induction t with
  | zero =>
    intro fuel rows _ hf ho hn
    obtain ⟨f, rfl⟩ : ∃ f, fuel = f + 1 := ⟨fuel - 1, by omega⟩
    exact br_t (by decide) (nm_e (K rows ho hn))
  | succ t ih =>
    intro fuel rows ht hf ho hn
    obtain ⟨f, rfl⟩ : ∃ f, fuel = f + 1 := ⟨fuel - 1, by omega⟩
    rw [pk_m1 t]
    refine br_f (nI_pos (by omega)) ⟨L + 1, tb_hoX (by omega) (by omega) (tb_px n L i) 0 (L + 1) (fun x hx => Nat.lt_of_lt_of_le (p3 x hx) n7) (by omega) (by omega) (fun hm => ?_) (fun hm => ?_)⟩
    · refine br_f (by decide) (nm_e ?_)
      rw [tb_lkI hm] at hn ⊢
      exact ih f rows (by omega) (by omega) ho hn
    · have hq : tb_lk (tb_px n L i) t < n - L := by
        have h1 := tb_lkO hm
        have h2 : tb_lk (tb_px n L i) (t + 1) ≤ n - L := by
          rw [← tb_lkE (n := n) (L := L) (i := i) (by omega)]
          have h3 : ∀ m, tb_lk (tb_px n L i) (t + 1) ≤ tb_lk (tb_px n L i) (t + 1 + m) := by
            intro m
            induction m with
            | zero => exact Nat.le_refl _
            | succ m ih =>
              refine Nat.le_trans ih ?_
              show _ ≤ tb_lk (tb_px n L i) (t + 1 + m + 1)
              by_cases hm : t + 1 + m ∈ tb_px n L i
              · rw [tb_lkI hm]
                exact Nat.le_refl _
              · rw [tb_lkO hm]
                omega
          have h4 := h3 (n - (t + 1))
          have h5 : t + 1 + (n - (t + 1)) = n := by omega
          rw [h5] at h4
          exact h4
        omega
      have e1 : nI (i * (n - L) + tb_lk (tb_px n L i) (t + 1)) + (-1) = nI (i * (n - L) + tb_lk (tb_px n L i) t) := by
        rw [tb_lkO hm, ← Nat.add_assoc, pk_m1]
      have e2 : nI (tb_cd (tb_px n L i)) * 7 + nI t = nI (tb_cd (t :: tb_px n L i)) := by
        show nI (tb_cd (tb_px n L i)) * nI 7 + nI t = _
        rw [pk_mul, nI_add]
        rfl
      have e3 := tb_pxN (n := n) (L := L) (i := i) (t := t) hL (by omega) hm hq
      refine br_t rfl (nm_r e1 ⟨vp_in_nI (by omega) (by omega), nm_r (e' := upd rows (i * (n - L) + tb_lk (tb_px n L i) t) (nI (tb_cd (t :: tb_px n L i)))) (by rw [nI_clamp (by omega), e2]) (nm_e ?_)⟩)
      refine ih f _ (by omega) (by omega) (fun j hj => ?_) (fun j hj hj2 => ?_)
      · rw [pk_un (by omega)]
        exact ho j hj
      · by_cases z : j = i * (n - L) + tb_lk (tb_px n L i) t
        · rw [z, pk_us, e3]
        · rw [pk_un z]
          refine hn j ?_ hj2
          rw [tb_lkO hm]
          omega
theorem tb_le14 {post : SX → Prop} {n L c : Nat} (n7 : n ≤ 7) (hL : L < n) (hc : c * (n - L) ≤ 5040) (K : ∀ rows' : Nat → Int32, (∀ j, j < c * (n - L) → rows' j = nI (tb_cd (tb_px n (L + 1) j))) → post (nI n, tc, rq, cl, ap, rows')) : ∀ (i fuel : Nat) (rows : Nat → Int32), i ≤ c → i < fuel → (∀ j, j < i → rows j = nI (tb_cd (tb_px n L j))) → (∀ j, i * (n - L) ≤ j → j < c * (n - L) → rows j = nI (tb_cd (tb_px n (L + 1) j))) → wX_lengthenRows_14 post (nI L) (nI n) tc rq cl fuel (nI (i * (n - L))) (nI i + (-1)) ap rows := by
  have hcc : c ≤ c * (n - L) := Nat.le_mul_of_pos_right c (by omega)
  intro i
  induction i with
  | zero =>
    intro fuel rows _ hf _ hn
    obtain ⟨f, rfl⟩ : ∃ f, fuel = f + 1 := ⟨fuel - 1, by omega⟩
    exact br_t (by decide) (K rows (fun j hj => hn j (by omega) hj))
  | succ i ih =>
    intro fuel rows hi hf ho hn
    obtain ⟨f, rfl⟩ : ∃ f, fuel = f + 1 := ⟨fuel - 1, by omega⟩
    have e : (i + 1) * (n - L) = i * (n - L) + tb_lk (tb_px n L i) n := by rw [tb_lkE (by omega), Nat.succ_mul]
    rw [pk_m1 i]
    refine br_f (nI_pos (by omega)) ⟨vp_in_nI (by omega) (by omega), nm_r (e' := nI (tb_cd (tb_px n L i))) (by rw [nI_clamp (by omega), ho i (by omega)]) (nm_r (tb_s1 n) ⟨n + 1, ?_⟩)⟩
    rw [e] at hn ⊢
    exact tb_le36 n7 hL (by omega) hc (fun rows' h1 h2 => ih f rows' (by omega) (by omega) h1 h2) n (n + 1) rows (Nat.le_refl n) (by omega) (fun j hj => ho j (by omega)) hn
theorem tb_leX {post : SX → Prop} {n L c : Nat} {rows : Nat → Int32} (n7 : n ≤ 7) (hL : L < n) (hc : c * (n - L) ≤ 5040) (ho : ∀ j, j < c → rows j = nI (tb_cd (tb_px n L j))) (K : ∀ rows' : Nat → Int32, (∀ j, j < c * (n - L) → rows' j = nI (tb_cd (tb_px n (L + 1) j))) → post (nI n, tc, rq, cl, ap, rows')) : wpX_lengthenRows post (nI n, tc, rq, cl, ap, rows) (nI c) (nI L) := by
  have e1 : nI c * (nI n - nI L) = nI (c * (n - L)) := by rw [pk_sub (by omega), pk_mul]
  refine nm_r e1 (nm_r (tb_s1 c) ⟨c + 1, ?_⟩)
  exact tb_le14 n7 hL hc K c (c + 1) rows (Nat.le_refl c) (by omega) ho (fun j h1 h2 => absurd h1 (by omega))
theorem tb_in82 {post : SX → Prop} {n : Nat} (hn : 2 ≤ n) (n7 : n ≤ 7) (K : ∀ rows' : Nat → Int32, (∀ j, j < tb_fc n → rows' j = nI (tb_cd (tb_px n n j))) → post (nI n, nI (tb_fc (n - 1)), rq, cl, ap, rows')) : ∀ (m L fuel : Nat) (rows : Nat → Int32), L + m = n → m < fuel → (∀ j, j < tb_ct n L → rows j = nI (tb_cd (tb_px n L j))) → wX_init_82 post fuel (nI (tb_ct n L)) (nI L) (nI n) tc rq cl ap rows := by
  intro m
  induction m with
  | zero =>
    intro L fuel rows hL hf h
    obtain ⟨f, rfl⟩ : ∃ f, fuel = f + 1 := ⟨fuel - 1, by omega⟩
    have hL : L = n := by omega
    subst hL
    obtain ⟨c1, c2⟩ := tb_ctV L (by omega) hn
    have c3 := (tb_ctB L (by omega) L (by omega)).1
    refine br_t (nI_le (Nat.le_refl L) (by omega)) ⟨nI_ne0 (by omega) (by omega), nm_r (e' := nI (tb_fc (L - 1))) (by rw [pk_div (by omega) (by omega) (by omega), c2]) ?_⟩
    exact K rows (fun j hj => h j (by rw [c1]; exact hj))
  | succ m ih =>
    intro L fuel rows hL hf h
    obtain ⟨f, rfl⟩ : ∃ f, fuel = f + 1 := ⟨fuel - 1, by omega⟩
    have c3 := (tb_ctB n (by omega) (L + 1) (by omega)).1
    refine br_f (nI_ge (by omega) (by omega)) ?_
    refine tb_leX n7 (by omega) c3 h (fun rows' h' => ?_)
    refine nm_r (e' := nI (tb_ct n (L + 1))) (by rw [pk_sub (by omega), pk_mul]; rfl) (nm_r (nI_1 L) ?_)
    exact ih (L + 1) f rows' (by omega) (by omega) h'
theorem tb_in58 {post : SX → Prop} {n : Nat} (hn : 2 ≤ n) (n7 : n ≤ 7) (K : ∀ ap' rows' : Nat → Int32, (∀ r, r < 21 → ap' r = nI 10) → (∀ j, j < tb_fc n → rows' j = nI (tb_cd (tb_px n n j))) → post (nI n, nI (tb_fc (n - 1)), 0, 0, ap', rows')) : ∀ (m i fuel : Nat) (ap : Nat → Int32), i + m = 21 → m < fuel → (∀ r, r < i → ap r = nI 10) → wX_init_58 post (nI n) 0 0 0 fuel (nI i) ap (fun _ => 0) := by
  intro m
  induction m with
  | zero =>
    intro i fuel ap hi hf h
    obtain ⟨f, rfl⟩ : ∃ f, fuel = f + 1 := ⟨fuel - 1, by omega⟩
    have hi : i = 21 := by omega
    subst hi
    refine br_t (nI_le (a := 21) (Nat.le_refl _) (by omega)) ⟨n + 1, ?_⟩
    exact tb_in82 hn n7 (fun rows' h' => K ap rows' h h') n 0 (n + 1) (fun _ => 0) (by omega) (by omega) (fun j hj => rfl)
  | succ m ih =>
    intro i fuel ap hi hf h
    obtain ⟨f, rfl⟩ : ∃ f, fuel = f + 1 := ⟨fuel - 1, by omega⟩
    refine br_f (nI_ge (b := 21) (by omega) (by decide)) ⟨vp_in_nI (by omega) (by omega), nm_r (e' := upd ap i (nI 10)) (by rw [nI_clamp (by omega)]; rfl) (nm_r (nI_1 i) ?_)⟩
    refine ih (i + 1) f _ (by omega) (by omega) (fun r hr => ?_)
    by_cases z : r = i
    · rw [z, pk_us]
    · rw [pk_un z]
      exact h r (by omega)
/-- how many towns -/
def tb_nn (x : Int32) : Nat := if 2 ≤ x then (if x ≤ 7 then x.toNatClampNeg else 7) else 2
theorem tb_nnB (x : Int32) : 2 ≤ tb_nn x ∧ tb_nn x ≤ 7 := by
  unfold tb_nn
  by_cases h1 : 2 ≤ x
  · rw [if_pos h1]
    by_cases h2 : x ≤ 7
    · rw [if_pos h2]
      obtain ⟨j, hj, rfl⟩ := nI_of (x := x) (Int32.not_lt.mpr (Int32.le_trans (by decide) h1))
      rw [nI_clamp hj]
      have a := (nI_leI (a := 2) (by decide) hj).mp h1
      have b := (nI_leI (b := 7) hj (by decide)).mp h2
      omega
    · rw [if_neg h2]
      omega
  · rw [if_neg h1]
    omega
theorem tb_nnE {x : Int32} (h1 : 2 ≤ x) (h2 : x ≤ 7) : x = nI (tb_nn x) := by
  unfold tb_nn
  rw [if_pos h1, if_pos h2]
  obtain ⟨j, hj, rfl⟩ := nI_of (x := x) (Int32.not_lt.mpr (Int32.le_trans (by decide) h1))
  rw [nI_clamp hj]
theorem tb_inX {post : SX → Prop} {x : Int32} (K : ∀ ap' rows' : Nat → Int32, (∀ r, r < 21 → ap' r = nI 10) → (∀ j, j < tb_fc (tb_nn x) → rows' j = nI (tb_cd (tb_px (tb_nn x) (tb_nn x) j))) → post (nI (tb_nn x), nI (tb_fc (tb_nn x - 1)), 0, 0, ap', rows')) : wpX_init post x := by
  obtain ⟨b1, b2⟩ := tb_nnB x
  have H := tb_in58 b1 b2 K 21 0 22 (fun _ => 0) (by omega) (by omega) (fun r hr => absurd hr (by omega))
  refine br_c (fun h1 => br_c (fun h2 => ⟨22, ?_⟩) (fun h2 => ⟨22, ?_⟩)) (fun h1 => ⟨22, ?_⟩)
  · rw [← tb_nnE h1 h2] at H
    exact H
  · have e : tb_nn x = 7 := by
      unfold tb_nn
      rw [if_pos h1, if_neg h2]
    rw [e] at H
    exact H
  · have e : tb_nn x = 2 := by
      unfold tb_nn
      rw [if_neg h1]
    rw [e] at H
    exact H
end TBI
end
section
section TBJ
/-! X: the price and the roads of a row, of a tour -/
variable {tc rq cl : Int32} {ap ar : Nat → Int32} {n : Nat} {pr : Nat → Nat} {d : Nat → Nat}
theorem tb_nm1 {c : Nat} (h : c < 2 ^ 31) : ¬ nI c = -1 := fun e => nI_pos h (by rw [e]; decide)
theorem tb_nm3 {c : Nat} (h : c < 2 ^ 31) : ¬ nI c = -3 := fun e => nI_pos h (by rw [e]; decide)
/-- the last digit, and the code without it -/
theorem tb_last (n7 : n ≤ 7) (hd : tb_pm n d) {m : Nat} (hm : m < n) : nI (tb_co d (m + 1)) / 7 = nI (tb_co d m) ∧ nI (tb_co d (m + 1)) - nI (tb_co d (m + 1)) / 7 * 7 = nI (d m) := by
  have h7 : ∀ t, t < n → d t < 7 := fun t ht => Nat.lt_of_lt_of_le (hd.1 t ht) n7
  have hb : tb_co d (m + 1) < 2 ^ 31 := Nat.lt_trans (tb_coB (m + 1) (fun t ht => h7 t (by omega))) (tb_p7 _ (by omega))
  have e := tb_r7 hb
  rw [tb_coM (h7 m hm), tb_coD (h7 m hm)] at e
  exact e
theorem tb_rpX {post : Int32 → Prop} (n7 : n ≤ 7) (ha : ∀ r, r < 21 → ap r = nI (pr r)) (hd : tb_pm n d) : ∀ (m acc fuel : Nat), m < n → m < fuel → post (nI (acc + tb_sm (fun t => pr (tb_tr (d t) (d (t + 1)))) m)) → wX_rowPrice_7 post (nI n) tc rq cl ap ar fuel (nI acc) (nI (tb_co d (m + 1))) (nI (n - m)) := by
  intro m
  induction m with
  | zero =>
    intro acc fuel _ hf h
    obtain ⟨f, rfl⟩ : ∃ f, fuel = f + 1 := ⟨fuel - 1, by omega⟩
    exact br_t (nI_le (by omega) (by omega)) h
  | succ m ih =>
    intro acc fuel hm hf h
    obtain ⟨f, rfl⟩ : ∃ f, fuel = f + 1 := ⟨fuel - 1, by omega⟩
    obtain ⟨q1, q2⟩ := tb_last n7 hd hm
    obtain ⟨q3, q4⟩ := tb_last n7 hd (m := m) (by omega)
    have a1 := hd.1 (m + 1) hm
    have a2 := hd.1 m (by omega)
    have hne : d (m + 1) ≠ d m := fun z => by
      have := hd.2 (m + 1) m hm (by omega) z
      omega
    have hr := tb_trL (d (m + 1)) (by omega) (d m) (by omega) hne
    refine br_f (nI_ge (by omega) (by omega)) ⟨by decide, nm_r q2 ⟨by decide, nm_r q1 ⟨by decide, ?_⟩⟩⟩
    rw [q4]
    refine tb_rbX (by omega) (by omega) ⟨vp_in_nI hr (by omega), nm_r (e' := nI (acc + pr (tb_tr (d (m + 1)) (d m)))) (by rw [nI_clamp (by omega), ha _ hr, nI_add]) (nm_r (e' := nI (n - m)) (by rw [nI_1]; congr 1; omega) ?_)⟩
    refine ih _ f (by omega) (by omega) ?_
    have e : acc + tb_sm (fun t => pr (tb_tr (d t) (d (t + 1)))) (m + 1) = acc + pr (tb_tr (d (m + 1)) (d m)) + tb_sm (fun t => pr (tb_tr (d t) (d (t + 1)))) m := by
      rw [tb_smS, tb_trC (d (m + 1)) (d m)]
      show acc + (_ + pr (tb_tr (d m) (d (m + 1)))) = _
      omega
    rw [← e]
    exact h
theorem tb_rpW {post : Int32 → Prop} (hn : 2 ≤ n) (n7 : n ≤ 7) (ha : ∀ r, r < 21 → ap r = nI (pr r)) (hd : tb_pm n d) (h : post (nI (tb_pp n pr d))) : wpX_rowPrice post (nI n, tc, rq, cl, ap, ar) (nI (tb_co d n)) := by
  have H := tb_rpX (post := post) (tc := tc) (rq := rq) (cl := cl) (ar := ar) n7 ha hd (n - 1) 0 n (by omega) (by omega) (by rw [Nat.zero_add]; exact h)
  have e1 : n - 1 + 1 = n := by omega
  have e2 : n - (n - 1) = 1 := by omega
  rw [e1, e2] at H
  exact ⟨n, H⟩
theorem tb_rrX {post : Int32 → Prop} (n7 : n ≤ 7) (hd : tb_pm n d) : ∀ (m fuel : Nat) (x : Int32), m < n → m < fuel → (∀ y : Int32, (∀ i, i < 32 → (bt y i = true ↔ bt x i = true ∨ ∃ t, t < m ∧ tb_tr (d t) (d (t + 1)) = i)) → post y) → wX_rowRoads_7 post (nI n) tc rq cl ap ar fuel x (nI (tb_co d (m + 1))) (nI (n - m)) := by
  intro m
  induction m with
  | zero =>
    intro fuel x _ hf h
    obtain ⟨f, rfl⟩ : ∃ f, fuel = f + 1 := ⟨fuel - 1, by omega⟩
    refine br_t (nI_le (by omega) (by omega)) (h x (fun i _ => ⟨Or.inl, fun z => ?_⟩))
    rcases z with z | ⟨t, ht, _⟩
    · exact z
    · exact absurd ht (by omega)
  | succ m ih =>
    intro fuel x hm hf h
    obtain ⟨f, rfl⟩ : ∃ f, fuel = f + 1 := ⟨fuel - 1, by omega⟩
    obtain ⟨q1, q2⟩ := tb_last n7 hd hm
    obtain ⟨q3, q4⟩ := tb_last n7 hd (m := m) (by omega)
    have a1 := hd.1 (m + 1) hm
    have a2 := hd.1 m (by omega)
    have hne : d (m + 1) ≠ d m := fun z => by
      have := hd.2 (m + 1) m hm (by omega) z
      omega
    have hr := tb_trL (d (m + 1)) (by omega) (d m) (by omega) hne
    refine br_f (nI_ge (by omega) (by omega)) ⟨by decide, nm_r q2 ⟨by decide, nm_r q1 ⟨by decide, ?_⟩⟩⟩
    rw [q4]
    refine tb_rbX (by omega) (by omega) (nm_e (nm_r (e' := nI (n - m)) (by rw [nI_1]; congr 1; omega) ?_))
    refine ih f _ (by omega) (by omega) (fun y hy => h y (fun i hi => ?_))
    rw [hy i hi, tb_bset (by omega) hi, Bool.or_eq_true, decide_eq_true_iff, tb_trC (d (m + 1)) (d m)]
    constructor
    · rintro ((z | z) | ⟨t, ht, z⟩)
      · exact Or.inl z
      · exact Or.inr ⟨m, by omega, z.symm⟩
      · exact Or.inr ⟨t, by omega, z⟩
    · rintro (z | ⟨t, ht, z⟩)
      · exact Or.inl (Or.inl z)
      · rcases Nat.lt_or_ge t m with w | w
        · exact Or.inr ⟨t, w, z⟩
        · have e : t = m := by omega
          subst e
          exact Or.inl (Or.inr z.symm)
theorem tb_rrW {post : Int32 → Prop} (hn : 2 ≤ n) (n7 : n ≤ 7) (hd : tb_pm n d) (h : ∀ y : Int32, (∀ i, i < 32 → (bt y i = true ↔ tb_pu n d i)) → post y) : wpX_rowRoads post (nI n, tc, rq, cl, ap, ar) (nI (tb_co d n)) := by
  have H := tb_rrX (post := post) (tc := tc) (rq := rq) (cl := cl) (ap := ap) (ar := ar) n7 hd (n - 1) n (nI 0) (by omega) (by omega) (fun y hy => h y (fun i hi => by
    rw [hy i hi, nI_0, b_0]
    constructor
    · rintro (z | ⟨t, ht, z⟩)
      · cases z
      · exact ⟨t, by omega, z⟩
    · rintro ⟨t, ht, z⟩
      exact Or.inr ⟨t, by omega, z⟩))
  have e1 : n - 1 + 1 = n := by omega
  have e2 : n - (n - 1) = 1 := by omega
  rw [e1, e2] at H
  exact ⟨n, H⟩
theorem tb_tpW {post : Int32 → Prop} (hn : 2 ≤ n) (n7 : n ≤ 7) (ha : ∀ r, r < 21 → ap r = nI (pr r)) (hd : tb_pm n d) (h0 : d 0 = 0) (h : post (nI (tb_tp n pr d))) : wpX_tourPrice post (nI n, tc, rq, cl, ap, ar) (nI (tb_co d n)) := by
  obtain ⟨q1, q2⟩ := tb_last n7 hd (m := n - 1) (by omega)
  have e1 : n - 1 + 1 = n := by omega
  rw [e1] at q2
  have a1 := hd.1 (n - 1) (by omega)
  have hne : d (n - 1) ≠ 0 := fun z => by
    have := hd.2 (n - 1) 0 (by omega) (by omega) (z.trans h0.symm)
    omega
  have hr := tb_trL (d (n - 1)) (by omega) 0 (by omega) hne
  unfold wpX_tourPrice
  refine tb_rpW hn n7 ha hd ⟨by decide, ?_⟩
  rw [q2]
  refine tb_rbX (b := 0) (by omega) (by omega) ⟨vp_in_nI hr (by omega), ?_⟩
  rw [nI_clamp (by omega), ha _ hr, nI_add, ← tb_tpE (by omega)]
  exact h
/-- what fits asks -/
def tb_ft (n : Nat) (rq sh : Int32) (d : Nat → Nat) : Prop := (∀ i, i < 32 → tb_tu n d i → bt sh i = false) ∧ ∀ i, i < 32 → bt rq i = true → tb_tu n d i
theorem tb_ftW {post : Int32 → Prop} {sh : Int32} (hn : 2 ≤ n) (n7 : n ≤ 7) (hd : tb_pm n d) (h0 : d 0 = 0) (h1 : tb_ft n rq sh d → post 1) (h2 : ¬ tb_ft n rq sh d → post 0) : wpX_fits post (nI n, tc, rq, cl, ap, ar) (nI (tb_co d n)) sh := by
  obtain ⟨q1, q2⟩ := tb_last n7 hd (m := n - 1) (by omega)
  have e1 : n - 1 + 1 = n := by omega
  rw [e1] at q2
  have a1 := hd.1 (n - 1) (by omega)
  have hne : d (n - 1) ≠ 0 := fun z => by
    have := hd.2 (n - 1) 0 (by omega) (by omega) (z.trans h0.symm)
    omega
  have hr := tb_trL (d (n - 1)) (by omega) 0 (by omega) hne
  unfold wpX_fits
  refine tb_rrW hn n7 hd (fun y hy => ⟨by decide, ?_⟩)
  rw [q2]
  refine tb_rbX (b := 0) (by omega) (by omega) (nm_e ?_)
  have hb : ∀ i, i < 32 → (bt (y ||| ((1 : Int32) <<< (nI (tb_tr (d (n - 1)) 0) &&& 31))) i = true ↔ tb_tu n d i) := by
    intro i hi
    rw [tb_bset (by omega) hi, Bool.or_eq_true, decide_eq_true_iff, hy i hi, tb_tuE (by omega)]
    constructor
    · rintro (z | z)
      · exact Or.inl z
      · exact Or.inr z.symm
    · rintro (z | z)
      · exact Or.inl z
      · exact Or.inr z.symm
  have c1 := tb_bd (x := y ||| ((1 : Int32) <<< (nI (tb_tr (d (n - 1)) 0) &&& 31))) (y := sh)
  have c2 := tb_bsub (x := y ||| ((1 : Int32) <<< (nI (tb_tr (d (n - 1)) 0) &&& 31))) (y := rq)
  refine br_c (fun z1 => br_c (fun z2 => h1 ⟨fun i hi w => ?_, fun i hi w => ?_⟩) (fun z2 => h2 (fun w => z2 ?_))) (fun z1 => h2 (fun w => z1 ?_))
  · exact c1.mp z1 i hi ((hb i hi).mpr w)
  · exact (hb i hi).mp (c2.mp z2 i hi w)
  · exact c2.mpr (fun i hi v => (hb i hi).mpr (w.2 i hi v))
  · exact c1.mpr (fun i hi v => w.1 i hi ((hb i hi).mp v))
end TBJ
end
section
section TBK
/-! X: the loops over the tours -/
variable {rq cl : Int32} {ap ar : Nat → Int32} {n : Nat} {pr : Nat → Nat}
noncomputable def tb_aX (n : Nat) (rq sh : Int32) (i : Nat) : Bool := tb_B (tb_ft n rq sh (tb_D n i))
def tb_pX (n : Nat) (pr : Nat → Nat) (i : Nat) : Nat := tb_tp n pr (tb_D n i)
def tb_oc (n : Nat) : Option Nat → Int32
  | none => -1
  | some i => nI (tb_co (tb_D n i) n)
theorem tb_coD31 (n7 : n ≤ 7) (j : Nat) : tb_co (tb_D n j) n < 2 ^ 31 :=
  Nat.lt_trans (tb_coB n (fun t ht => Nat.lt_of_lt_of_le ((tb_Dp n j).1 t ht) n7)) (tb_p7 n (by omega))
theorem tb_fc5 (n7 : n ≤ 7) : tb_fc (n - 1) ≤ 5040 := (tb_fcV (n - 1) (by omega)).1
theorem tb_fcn (hn : 2 ≤ n) (n7 : n ≤ 7) : tb_fc n = n * tb_fc (n - 1) := (tb_fcV n (by omega)).2 (by omega)
theorem tb_fcl (hn : 2 ≤ n) (n7 : n ≤ 7) {i : Nat} (hi : i < tb_fc (n - 1)) : i < tb_fc n := by
  rw [tb_fcn hn n7]
  exact Nat.lt_of_lt_of_le hi (Nat.le_mul_of_pos_left _ (by omega))
theorem tb_bw40 {post : Int32 → Prop} {J7 : Int32 → Int32 → Int32 → Prop} {sh x2 x3 x5 : Int32} {i : Nat} (hn : 2 ≤ n) (n7 : n ≤ 7) (hr : ∀ j, j < tb_fc n → ar j = nI (tb_co (tb_D n j) n)) (hi : i < tb_fc (n - 1)) (h1 : tb_aX n rq sh i = true → J7 (nI (tb_co (tb_D n i) n)) x5 (nI (i + 1))) (h0 : tb_aX n rq sh i = false → J7 x2 x3 (nI (i + 1))) : wX_bestTourWithout_40 post J7 sh x2 x3 (nI i) x5 (nI n) (nI (tb_fc (n - 1))) rq cl ap ar := by
  have h5 := tb_fc5 n7
  have hl := tb_fcl hn n7 hi
  refine ⟨vp_in_nI (by omega) (by omega), ?_⟩
  rw [nI_clamp (by omega), hr i hl]
  refine tb_ftW hn n7 (tb_Dp n i) (tb_D00 (by omega) hi) (fun z => br_f (by decide) ⟨vp_in_nI (by omega) (by omega), nm_e (nm_r (nI_1 i) (h1 (tb_BT.mpr z)))⟩) (fun z => br_t rfl (nm_r (nI_1 i) (h0 (tb_BF.mpr z))))
theorem tb_bw7 {post : Int32 → Prop} {sh : Int32} (hn : 2 ≤ n) (n7 : n ≤ 7) (hp : ∀ r, pr r ≤ 40) (ha : ∀ r, r < 21 → ap r = nI (pr r)) (hr : ∀ j, j < tb_fc n → ar j = nI (tb_co (tb_D n j) n)) (h : post (tb_oc n (tb_bs (tb_aX n rq sh) (tb_pX n pr) (tb_fc (n - 1))))) : ∀ (m i fuel : Nat) (x3 : Int32), i + m = tb_fc (n - 1) → m < fuel → (∀ q, tb_bs (tb_aX n rq sh) (tb_pX n pr) i = some q → x3 = nI (tb_pX n pr q)) → wX_bestTourWithout_7 post sh (nI n) (nI (tb_fc (n - 1))) rq cl ap ar fuel (tb_oc n (tb_bs (tb_aX n rq sh) (tb_pX n pr) i)) x3 (nI i) := by
  have h5 := tb_fc5 n7
  intro m
  induction m with
  | zero =>
    intro i fuel x3 hi hf _
    obtain ⟨f, rfl⟩ : ∃ f, fuel = f + 1 := ⟨fuel - 1, by omega⟩
    have hi : i = tb_fc (n - 1) := by omega
    rw [hi]
    exact br_t (nI_le (Nat.le_refl _) (by omega)) h
  | succ m ih =>
    intro i fuel x3 hi hf hx
    obtain ⟨f, rfl⟩ : ∃ f, fuel = f + 1 := ⟨fuel - 1, by omega⟩
    have hi2 : i < tb_fc (n - 1) := by omega
    have hl := tb_fcl hn n7 hi2
    have b1 : ∀ q, tb_pX n pr q ≤ 280 := fun q => tb_tpB hp n7 _
    refine br_f (nI_ge (by omega) (by omega)) ⟨vp_in_nI (by omega) (by omega), ?_⟩
    rw [nI_clamp (by omega), hr i hl]
    refine tb_tpW hn n7 ha (tb_Dp n i) (tb_D00 (by omega) hi2) ?_
    have ihx := fun x3 hx => ih (i + 1) f x3 (by omega) (by omega) hx
    cases e : tb_bs (tb_aX n rq sh) (tb_pX n pr) i with
    | none =>
      have eN := tb_bsN e
      refine br_t rfl (tb_bw40 hn n7 hr hi2 (fun z => ?_) (fun z => ?_))
      · rw [if_pos z] at eN
        have := ihx (nI (tb_pX n pr i)) (fun q hq => by
          rw [eN] at hq
          cases hq
          rfl)
        rw [eN] at this
        exact this
      · rw [if_neg (by rw [z]; decide)] at eN
        have := ihx x3 (fun q hq => by
          rw [eN] at hq
          cases hq)
        rw [eN] at this
        exact this
    | some q =>
      have eS := tb_bsS e
      have ex := hx q e
      have b2 := b1 q
      have b3 := b1 i
      subst ex
      refine br_f (tb_nm1 (tb_coD31 n7 q)) (pk_le (tb_pX n pr q) (tb_pX n pr i) (fun z => nm_r (nI_1 i) ?_) (fun z => tb_bw40 hn n7 hr hi2 (fun w => ?_) (fun w => ?_)))
      · rw [if_neg (by omega)] at eS
        have := ihx (nI (tb_pX n pr q)) (fun q' hq => by
          rw [eS] at hq
          cases hq
          rfl)
        rw [eS] at this
        exact this
      · rw [if_pos ⟨w, z⟩] at eS
        have := ihx (nI (tb_pX n pr i)) (fun q' hq => by
          rw [eS] at hq
          cases hq
          rfl)
        rw [eS] at this
        exact this
      · rw [if_neg (by rw [w]; intro v; exact absurd v.1 (by decide))] at eS
        have := ihx (nI (tb_pX n pr q)) (fun q' hq => by
          rw [eS] at hq
          cases hq
          rfl)
        rw [eS] at this
        exact this
theorem tb_bwW {post : Int32 → Prop} {sh : Int32} (hn : 2 ≤ n) (n7 : n ≤ 7) (hp : ∀ r, pr r ≤ 40) (ha : ∀ r, r < 21 → ap r = nI (pr r)) (hr : ∀ j, j < tb_fc n → ar j = nI (tb_co (tb_D n j) n)) (h : post (tb_oc n (tb_bs (tb_aX n rq sh) (tb_pX n pr) (tb_fc (n - 1))))) : wpX_bestTourWithout post (nI n, nI (tb_fc (n - 1)), rq, cl, ap, ar) sh :=
  ⟨tb_fc (n - 1) + 1, tb_bw7 hn n7 hp ha hr h (tb_fc (n - 1)) 0 (tb_fc (n - 1) + 1) 0 (by omega) (by omega) (fun q hq => by cases hq)⟩
/-- counted by within -/
noncomputable def tb_wX (n : Nat) (pr : Nat → Nat) (rq sh lim : Int32) (i : Nat) : Bool := tb_aX n rq sh i && !decide (lim < nI (tb_pX n pr i))
theorem tb_wi4 {post : Int32 → Prop} {lim : Int32} (hn : 2 ≤ n) (n7 : n ≤ 7) (ha : ∀ r, r < 21 → ap r = nI (pr r)) (hr : ∀ j, j < tb_fc n → ar j = nI (tb_co (tb_D n j) n)) (h : post (nI (tb_cn (tb_wX n pr rq cl lim) (tb_fc (n - 1))))) : ∀ (m i fuel : Nat), i + m = tb_fc (n - 1) → m < fuel → wX_within_4 post lim (nI n) (nI (tb_fc (n - 1))) rq cl ap ar fuel (nI (tb_cn (tb_wX n pr rq cl lim) i)) (nI i) := by
  have h5 := tb_fc5 n7
  intro m
  induction m with
  | zero =>
    intro i fuel hi hf
    obtain ⟨f, rfl⟩ : ∃ f, fuel = f + 1 := ⟨fuel - 1, by omega⟩
    have hi : i = tb_fc (n - 1) := by omega
    rw [hi]
    exact br_t (nI_le (Nat.le_refl _) (by omega)) h
  | succ m ih =>
    intro i fuel hi hf
    obtain ⟨f, rfl⟩ : ∃ f, fuel = f + 1 := ⟨fuel - 1, by omega⟩
    have hi2 : i < tb_fc (n - 1) := by omega
    have hl := tb_fcl hn n7 hi2
    have IH := ih (i + 1) f (by omega) (by omega)
    refine br_f (nI_ge (by omega) (by omega)) ⟨vp_in_nI (by omega) (by omega), ?_⟩
    rw [nI_clamp (by omega), hr i hl]
    refine tb_tpW hn n7 ha (tb_Dp n i) (tb_D00 (by omega) hi2) (br_c (fun z => nm_r (nI_1 i) ?_) (fun z => ⟨vp_in_nI (by omega) (by omega), ?_⟩))
    · have e : tb_wX n pr rq cl lim i = false := by
        unfold tb_wX tb_pX
        rw [decide_eq_true z]
        simp
      rw [tb_cnF e] at IH
      exact IH
    · refine tb_ftW hn n7 (tb_Dp n i) (tb_D00 (by omega) hi2) (fun w => br_f (by decide) (nm_r (nI_1 _) (nm_r (nI_1 i) ?_))) (fun w => br_t rfl (nm_r (nI_1 i) ?_))
      · have e : tb_wX n pr rq cl lim i = true := by
          unfold tb_wX tb_pX tb_aX
          rw [decide_eq_false z, tb_BT.mpr w]
          rfl
        rw [tb_cnT e] at IH
        exact IH
      · have e : tb_wX n pr rq cl lim i = false := by
          unfold tb_wX tb_pX tb_aX
          rw [tb_BF.mpr w]
          rfl
        rw [tb_cnF e] at IH
        exact IH
theorem tb_wiW {post : Int32 → Prop} {lim tc : Int32} (hn : 2 ≤ n) (n7 : n ≤ 7) (ha : ∀ r, r < 21 → ap r = nI (pr r)) (hr : ∀ j, j < tb_fc n → ar j = nI (tb_co (tb_D n j) n)) (h : post (nI (tb_cn (tb_wX n pr rq cl lim) (tb_fc (n - 1))))) : wpX_within post (nI n, nI (tb_fc (n - 1)), rq, cl, ap, ar) lim :=
  ⟨tb_fc (n - 1) + 1, tb_wi4 hn n7 ha hr h (tb_fc (n - 1)) 0 (tb_fc (n - 1) + 1) (by omega) (by omega)⟩
theorem tb_al4 {post : Int32 → Prop} (hn : 2 ≤ n) (n7 : n ≤ 7) (hr : ∀ j, j < tb_fc n → ar j = nI (tb_co (tb_D n j) n)) (h : post (nI (tb_cn (tb_aX n rq cl) (tb_fc (n - 1))))) : ∀ (m i fuel : Nat), i + m = tb_fc (n - 1) → m < fuel → wX_allowed_4 post (nI n) (nI (tb_fc (n - 1))) rq cl ap ar fuel (nI (tb_cn (tb_aX n rq cl) i)) (nI i) := by
  have h5 := tb_fc5 n7
  intro m
  induction m with
  | zero =>
    intro i fuel hi hf
    obtain ⟨f, rfl⟩ : ∃ f, fuel = f + 1 := ⟨fuel - 1, by omega⟩
    have hi : i = tb_fc (n - 1) := by omega
    rw [hi]
    exact br_t (nI_le (Nat.le_refl _) (by omega)) h
  | succ m ih =>
    intro i fuel hi hf
    obtain ⟨f, rfl⟩ : ∃ f, fuel = f + 1 := ⟨fuel - 1, by omega⟩
    have hi2 : i < tb_fc (n - 1) := by omega
    have hl := tb_fcl hn n7 hi2
    have IH := ih (i + 1) f (by omega) (by omega)
    refine br_f (nI_ge (by omega) (by omega)) ⟨vp_in_nI (by omega) (by omega), ?_⟩
    rw [nI_clamp (by omega), hr i hl]
    refine tb_ftW hn n7 (tb_Dp n i) (tb_D00 (by omega) hi2) (fun w => br_f (by decide) (nm_r (nI_1 _) (nm_r (nI_1 i) ?_))) (fun w => br_t rfl (nm_r (nI_1 i) ?_))
    · have e : tb_aX n rq cl i = true := tb_BT.mpr w
      rw [tb_cnT e] at IH
      exact IH
    · have e : tb_aX n rq cl i = false := tb_BF.mpr w
      rw [tb_cnF e] at IH
      exact IH
theorem tb_alW {post : Int32 → Prop} (hn : 2 ≤ n) (n7 : n ≤ 7) (hr : ∀ j, j < tb_fc n → ar j = nI (tb_co (tb_D n j) n)) (h : post (nI (tb_cn (tb_aX n rq cl) (tb_fc (n - 1))))) : wpX_allowed post (nI n, nI (tb_fc (n - 1)), rq, cl, ap, ar) :=
  ⟨tb_fc (n - 1) + 1, tb_al4 hn n7 hr h (tb_fc (n - 1)) 0 (tb_fc (n - 1) + 1) (by omega) (by omega)⟩
theorem tb_it2 {post : Int32 → Prop} {x : Int32} (hn : 2 ≤ n) (n7 : n ≤ 7) (hr : ∀ j, j < tb_fc n → ar j = nI (tb_co (tb_D n j) n)) (h1 : (∃ i, i < tb_fc (n - 1) ∧ nI (tb_co (tb_D n i) n) = x) → post 1) (h0 : (∀ i, i < tb_fc (n - 1) → ¬ nI (tb_co (tb_D n i) n) = x) → post 0) : ∀ (m i fuel : Nat), i + m = tb_fc (n - 1) → m < fuel → (∀ j, j < i → ¬ nI (tb_co (tb_D n j) n) = x) → wX_isTour_2 post x (nI n) (nI (tb_fc (n - 1))) rq cl ap ar fuel (nI i) := by
  have h5 := tb_fc5 n7
  intro m
  induction m with
  | zero =>
    intro i fuel hi hf hj
    obtain ⟨f, rfl⟩ : ∃ f, fuel = f + 1 := ⟨fuel - 1, by omega⟩
    have hi : i = tb_fc (n - 1) := by omega
    rw [hi] at hj ⊢
    exact br_t (nI_le (Nat.le_refl _) (by omega)) (h0 hj)
  | succ m ih =>
    intro i fuel hi hf hj
    obtain ⟨f, rfl⟩ : ∃ f, fuel = f + 1 := ⟨fuel - 1, by omega⟩
    have hi2 : i < tb_fc (n - 1) := by omega
    have hl := tb_fcl hn n7 hi2
    have ea : ar (nI i).toNatClampNeg = nI (tb_co (tb_D n i) n) := by rw [nI_clamp (by omega), hr i hl]
    refine br_f (nI_ge (by omega) (by omega)) ⟨vp_in_nI (by omega) (by omega), br_c (fun z => h1 ⟨i, hi2, ea.symm.trans z⟩) (fun z => nm_r (nI_1 i) ?_)⟩
    refine ih (i + 1) f (by omega) (by omega) (fun j hj2 w => ?_)
    rcases Nat.lt_or_ge j i with v | v
    · exact hj j v w
    · have e : j = i := by omega
      subst e
      exact z (ea.trans w)
theorem tb_itW {post : Int32 → Prop} {x : Int32} (hn : 2 ≤ n) (n7 : n ≤ 7) (hr : ∀ j, j < tb_fc n → ar j = nI (tb_co (tb_D n j) n)) (h1 : (∃ i, i < tb_fc (n - 1) ∧ nI (tb_co (tb_D n i) n) = x) → post 1) (h0 : (∀ i, i < tb_fc (n - 1) → ¬ nI (tb_co (tb_D n i) n) = x) → post 0) : wpX_isTour post (nI n, nI (tb_fc (n - 1)), rq, cl, ap, ar) x :=
  ⟨tb_fc (n - 1) + 1, tb_it2 hn n7 hr h1 h0 (tb_fc (n - 1)) 0 (tb_fc (n - 1) + 1) (by omega) (by omega) (fun j hj => absurd hj (by omega))⟩
end TBK
end
section
section TBM
/-! X: pairFault, leastPath, bestPath -/
variable {rq cl : Int32} {ap ar : Nat → Int32} {n : Nat} {pr hw : Nat → Nat}
def tb_oi : Option Nat → Int32
  | none => -3
  | some v => nI v
theorem tb_miN (r : Option Nat) : tb_mi r none = r := by cases r <;> rfl
theorem tb_itX {post : Int32 → Prop} {tc x : Int32} (n7 : n ≤ 7) (hg : (∃ a, a < n ∧ x = nI a) → post 1) (hb : ¬ (∃ a, a < n ∧ x = nI a) → post 0) : wpX_isTown post (nI n, tc, rq, cl, ap, ar) x := by
  rcases pk_ix x (n := n) (by omega) with z | z | ⟨j, hj, rfl⟩
  · refine br_t z (hb ?_)
    rintro ⟨a, ha, rfl⟩
    exact nI_pos (by omega) z
  · have h0 : ¬ x < 0 := Int32.not_lt.mpr (Int32.le_trans (nI_pos' (by omega)) z)
    refine br_f h0 (br_t z (hb ?_))
    rintro ⟨a, ha, rfl⟩
    exact nI_ge ha (by omega) z
  · exact br_f (nI_pos (by omega)) (br_f (nI_ge hj (by omega)) (hg ⟨j, hj, rfl⟩))
theorem tb_pfX {post : Int32 → Prop} {tc x y : Int32} (n7 : n ≤ 7) (hb : ¬ ((∃ a, a < n ∧ x = nI a) ∧ ∃ b, b < n ∧ y = nI b) → post (-1)) (hs : ∀ a, a < n → x = nI a → y = nI a → post (-2)) (hg : ∀ a b, a < n → b < n → a ≠ b → x = nI a → y = nI b → post 0) : wpX_pairFault post (nI n, tc, rq, cl, ap, ar) x y := by
  unfold wpX_pairFault
  refine tb_itX n7 (fun z => br_f (by decide) ?_) (fun z => br_t rfl (hb (fun w => z w.1)))
  refine tb_itX n7 (fun z2 => br_f (by decide) ?_) (fun z2 => br_t rfl (hb (fun w => z2 w.2)))
  obtain ⟨a, ha, rfl⟩ := z
  obtain ⟨b, hb2, rfl⟩ := z2
  refine br_c (fun w => hs a ha rfl w.symm) (fun w => hg a b ha hb2 (fun e => w (by rw [e])) rfl rfl)
/-- what one of X's rows gives for the way to b -/
def tb_XT (n : Nat) (pr : Nat → Nat) (cl : Int32) (b j w : Nat) : Prop := tb_D n j (n - 1) = b ∧ (∀ r, tb_pu n (tb_D n j) r → bt cl r = false) ∧ tb_pp n pr (tb_D n j) = w
theorem tb_lp21 {post : Int32 → Prop} {b lo hi : Nat} (hn : 2 ≤ n) (n7 : n ≤ 7) (hp : ∀ r, pr r ≤ 40) (ha : ∀ r, r < 21 → ap r = nI (pr r)) (hr : ∀ j, j < tb_fc n → ar j = nI (tb_co (tb_D n j) n)) (hb : b < n) (hhi : hi ≤ tb_fc n) (K : ∀ r, tb_Mn (fun w => ∃ j, lo ≤ j ∧ j < hi ∧ tb_XT n pr cl b j w) r → post (tb_oi r)) : ∀ (m i fuel : Nat) (r : Option Nat), i + m = hi → lo ≤ i → m < fuel → tb_Mn (fun w => ∃ j, lo ≤ j ∧ j < i ∧ tb_XT n pr cl b j w) r → wX_leastPath_21 post (nI b) (nI hi) (nI n) (nI (tb_fc (n - 1))) rq cl ap ar fuel (tb_oi r) (nI i) := by
  have h5 := (tb_fcV n (by omega)).1
  intro m
  induction m with
  | zero =>
    intro i fuel r hi2 _ hf hM
    obtain ⟨f, rfl⟩ : ∃ f, fuel = f + 1 := ⟨fuel - 1, by omega⟩
    have e : i = hi := by omega
    rw [e] at hM ⊢
    exact br_t (nI_le (Nat.le_refl _) (by omega)) (K r hM)
  | succ m ih =>
    intro i fuel r hi2 hlo hf hM
    obtain ⟨f, rfl⟩ : ∃ f, fuel = f + 1 := ⟨fuel - 1, by omega⟩
    have hd := tb_Dp n i
    have i1 : vp_in (nI i) 5040 := vp_in_nI (by omega) (by omega)
    have ea : ar (nI i).toNatClampNeg = nI (tb_co (tb_D n i) n) := by rw [nI_clamp (by omega), hr i (by omega)]
    obtain ⟨_, q2⟩ := tb_last n7 hd (m := n - 1) (by omega)
    have e1 : n - 1 + 1 = n := by omega
    rw [e1] at q2
    have hl := hd.1 (n - 1) (by omega)
    have hpp := tb_ppB (n := n) hp n7 (tb_D n i)
    have step : ∀ q, tb_Mn (fun w => tb_XT n pr cl b i w) q → wX_leastPath_21 post (nI b) (nI hi) (nI n) (nI (tb_fc (n - 1))) rq cl ap ar f (tb_oi (tb_mi r q)) (nI (i + 1)) := fun q hq => by
      refine ih (i + 1) f _ (by omega) (by omega) (by omega) (tb_MnM (fun w => ?_) hM hq)
      constructor
      · rintro ⟨j, h1, h2, h3⟩
        rcases Nat.lt_or_ge j i with z | z
        · exact Or.inl ⟨j, h1, z, h3⟩
        · have e : j = i := by omega
          rw [e] at h3
          exact Or.inr h3
      · rintro (⟨j, h1, h2, h3⟩ | h3)
        · exact ⟨j, h1, by omega, h3⟩
        · exact ⟨i, hlo, by omega, h3⟩
    have none' : (∀ w, ¬ tb_XT n pr cl b i w) → wX_leastPath_21 post (nI b) (nI hi) (nI n) (nI (tb_fc (n - 1))) rq cl ap ar f (tb_oi r) (nI (i + 1)) := fun w => by
      have := step none w
      rw [tb_miN] at this
      exact this
    refine br_f (nI_ge (by omega) (by omega)) ⟨i1, by decide, ?_⟩
    rw [ea, q2]
    refine br_c (fun z => ⟨i1, ?_⟩) (fun z => nm_r (nI_1 i) (none' (fun w hw => z (by rw [hw.1]))))
    have z2 : tb_D n i (n - 1) = b := (nI_eq (by omega) (by omega)).mp z
    refine tb_rrW hn n7 hd (fun y hy => ?_)
    refine br_c (fun z3 => ⟨i1, ?_⟩) (fun z3 => nm_r (nI_1 i) (none' (fun w hw => z3 (tb_bd.mpr (fun j hj hj2 => hw.2.1 j ((hy j hj).mp hj2))))))
    have z4 : ∀ r, tb_pu n (tb_D n i) r → bt cl r = false := fun j hj => by
      have h21 := tb_puL n7 hd hj
      exact tb_bd.mp z3 j (by omega) ((hy j (by omega)).mpr hj)
    have S := step (some (tb_pp n pr (tb_D n i))) ⟨⟨z2, z4, rfl⟩, fun w hw => Nat.le_of_eq hw.2.2⟩
    refine tb_rpW hn n7 ha hd ?_
    cases r with
    | none => exact br_t rfl (nm_r (nI_1 i) S)
    | some v =>
      have hv : v ≤ 240 := by
        obtain ⟨j, _, _, h3⟩ := hM.1
        rw [← h3.2.2]
        exact tb_ppB hp n7 _
      refine br_f (tb_nm3 (by omega)) (pk_le v (tb_pp n pr (tb_D n i)) (fun w => nm_r (nI_1 i) ?_) (fun w => nm_r (nI_1 i) ?_))
      · have e : tb_mi (some v) (some (tb_pp n pr (tb_D n i))) = some v := if_neg (by omega)
        rw [e] at S
        exact S
      · have e : tb_mi (some v) (some (tb_pp n pr (tb_D n i))) = some (tb_pp n pr (tb_D n i)) := if_pos (by omega)
        rw [e] at S
        exact S
theorem tb_lpW {post : Int32 → Prop} {a b : Nat} (hn : 2 ≤ n) (n7 : n ≤ 7) (hp : ∀ r, pr r ≤ 40) (ha : ∀ r, r < 21 → ap r = nI (pr r)) (hr : ∀ j, j < tb_fc n → ar j = nI (tb_co (tb_D n j) n)) (hcl : ∀ i, i < 32 → bt cl i = decide (i < 21 ∧ hw i = 2)) (han : a < n) (hb : b < n) (K : ∀ r, tb_Mn (tb_SP n pr hw a b) r → post (tb_oi r)) : wpX_leastPath post (nI n, nI (tb_fc (n - 1)), rq, cl, ap, ar) (nI a) (nI b) := by
  have e1 : (nI a + 1) * nI (tb_fc (n - 1)) = nI ((a + 1) * tb_fc (n - 1)) := by rw [nI_1, pk_mul]
  have f0 := tb_fcp (n - 1)
  have hhi : (a + 1) * tb_fc (n - 1) ≤ tb_fc n := by
    rw [tb_fcn hn n7]
    exact Nat.mul_le_mul_right _ (by omega)
  have e2 : (a + 1) * tb_fc (n - 1) = a * tb_fc (n - 1) + tb_fc (n - 1) := Nat.succ_mul _ _
  refine nm_r e1 (nm_r (pk_mul a (tb_fc (n - 1))) ⟨tb_fc (n - 1) + 1, ?_⟩)
  refine tb_lp21 (lo := a * tb_fc (n - 1)) hn n7 hp ha hr hb hhi (fun r hM => K r (tb_MnE (fun w => ?_) hM)) (tb_fc (n - 1)) (a * tb_fc (n - 1)) _ none (by omega) (Nat.le_refl _) (by omega) (fun w => ?_)
  · constructor
    · rintro ⟨j, h1, h2, h3, h4, h5⟩
      obtain ⟨k, rfl⟩ : ∃ k, j = a * tb_fc (n - 1) + k := ⟨j - a * tb_fc (n - 1), by omega⟩
      have hd := tb_Dp n (a * tb_fc (n - 1) + k)
      refine ⟨tb_D n (a * tb_fc (n - 1) + k), hd, (tb_DA han (by omega)).1, h3, fun r hr2 z => ?_, h5⟩
      have h21 := tb_puL n7 hd hr2
      have := h4 r hr2
      rw [hcl r (by omega), decide_eq_false_iff_not] at this
      exact this ⟨h21, z⟩
    · rintro ⟨d, hd, d0, d1, h4, h5⟩
      obtain ⟨k, hk, e⟩ := tb_DE (by omega) hd
      rw [d0] at e
      refine ⟨a * tb_fc (n - 1) + k, by omega, by omega, ?_, fun r hr2 => ?_, ?_⟩
      · rw [e (n - 1) (by omega)]
        exact d1
      · have h21 := tb_puL n7 (tb_Dp n _) hr2
        rw [tb_puG e] at hr2
        rw [hcl r (by omega), decide_eq_false_iff_not]
        exact fun z => h4 r hr2 z.2
      · rw [tb_ppG e]
        exact h5
  · rintro ⟨j, h1, h2, _⟩
    omega
/-- the ways between any two towns, up to the pair (b, a) -/
def tb_BP (n : Nat) (pr hw : Nat → Nat) (b a w : Nat) : Prop := ∃ b' a', a' < b' ∧ (b' < b ∨ (b' = b ∧ a' < a)) ∧ tb_SP n pr hw a' b' w
theorem tb_SPb {a b w : Nat} (hp : ∀ r, pr r ≤ 40) (n7 : n ≤ 7) (h : tb_SP n pr hw a b w) : w ≤ 240 := by
  obtain ⟨d, _, _, _, _, e⟩ := h
  rw [← e]
  exact tb_ppB hp n7 d
theorem tb_BPs {a b : Nat} (hab : a < b) {r q : Option Nat} (h : tb_Mn (tb_BP n pr hw b a) r) (hq : tb_Mn (tb_SP n pr hw a b) q) : tb_Mn (tb_BP n pr hw b (a + 1)) (tb_mi r q) := by
  refine tb_MnM (fun w => ?_) h hq
  constructor
  · rintro ⟨b', a', h1, h2, h3⟩
    rcases h2 with h2 | ⟨h2, h4⟩
    · exact Or.inl ⟨b', a', h1, Or.inl h2, h3⟩
    · rcases Nat.lt_or_ge a' a with z | z
      · exact Or.inl ⟨b', a', h1, Or.inr ⟨h2, z⟩, h3⟩
      · have e : a' = a := by omega
        rw [e, h2] at h3
        exact Or.inr h3
  · rintro (⟨b', a', h1, h2, h3⟩ | h3)
    · exact ⟨b', a', h1, by omega, h3⟩
    · exact ⟨b, a, hab, Or.inr ⟨rfl, by omega⟩, h3⟩
theorem tb_BPn {b : Nat} {r : Option Nat} (h : tb_Mn (tb_BP n pr hw b b) r) : tb_Mn (tb_BP n pr hw (b + 1) 0) r := by
  refine tb_MnE (fun w => ?_) h
  constructor
  · rintro ⟨b', a', h1, h2, h3⟩
    exact ⟨b', a', h1, by omega, h3⟩
  · rintro ⟨b', a', h1, h2, h3⟩
    exact ⟨b', a', h1, by omega, h3⟩
theorem tb_BPb {a b w : Nat} (hp : ∀ r, pr r ≤ 40) (n7 : n ≤ 7) (h : tb_BP n pr hw b a w) : w ≤ 240 := by
  obtain ⟨b', a', _, _, h3⟩ := h
  exact tb_SPb hp n7 h3
theorem tb_bp15 {post : Int32 → Prop} {J5 : Int32 → Int32 → Prop} {b : Nat} (hn : 2 ≤ n) (n7 : n ≤ 7) (hp : ∀ r, pr r ≤ 40) (ha : ∀ r, r < 21 → ap r = nI (pr r)) (hr : ∀ j, j < tb_fc n → ar j = nI (tb_co (tb_D n j) n)) (hcl : ∀ i, i < 32 → bt cl i = decide (i < 21 ∧ hw i = 2)) (hb : b < n) (K : ∀ r, tb_Mn (tb_BP n pr hw b b) r → J5 (tb_oi r) (nI (b + 1))) : ∀ (m a fuel : Nat) (r : Option Nat), a + m = b → m < fuel → tb_Mn (tb_BP n pr hw b a) r → wX_bestPath_15 post J5 (nI b) (nI n) (nI (tb_fc (n - 1))) rq cl ap ar fuel (tb_oi r) (nI a) := by
  intro m
  induction m with
  | zero =>
    intro a fuel r ha2 hf hM
    obtain ⟨f, rfl⟩ : ∃ f, fuel = f + 1 := ⟨fuel - 1, by omega⟩
    have e : a = b := by omega
    rw [e] at hM ⊢
    exact br_t (nI_le (Nat.le_refl _) (by omega)) (nm_r (nI_1 b) (K r hM))
  | succ m ih =>
    intro a fuel r ha2 hf hM
    obtain ⟨f, rfl⟩ : ∃ f, fuel = f + 1 := ⟨fuel - 1, by omega⟩
    refine br_f (nI_ge (by omega) (by omega)) ?_
    refine tb_lpW hn n7 hp ha hr hcl (by omega) hb (fun q hq => ?_)
    have S := ih (a + 1) f _ (by omega) (by omega) (tb_BPs (by omega) hM hq)
    cases q with
    | none =>
      rw [tb_miN] at S
      exact br_t rfl (nm_r (nI_1 a) S)
    | some p =>
      have hpp := tb_SPb hp n7 hq.1
      refine br_f (tb_nm3 (by omega)) ?_
      cases r with
      | none => exact br_t rfl (nm_r (nI_1 a) S)
      | some v =>
        have hv := tb_BPb hp n7 hM.1
        refine br_f (tb_nm3 (by omega)) (pk_le v p (fun w => nm_r (nI_1 a) ?_) (fun w => nm_r (nI_1 a) ?_))
        · have e : tb_mi (some v) (some p) = some v := if_neg (by omega)
          rw [e] at S
          exact S
        · have e : tb_mi (some v) (some p) = some p := if_pos (by omega)
          rw [e] at S
          exact S
theorem tb_bp5 {post : Int32 → Prop} (hn : 2 ≤ n) (n7 : n ≤ 7) (hp : ∀ r, pr r ≤ 40) (ha : ∀ r, r < 21 → ap r = nI (pr r)) (hr : ∀ j, j < tb_fc n → ar j = nI (tb_co (tb_D n j) n)) (hcl : ∀ i, i < 32 → bt cl i = decide (i < 21 ∧ hw i = 2)) (K : ∀ r, tb_Mn (tb_BP n pr hw n 0) r → post (tb_oi r)) : ∀ (m b fuel : Nat) (r : Option Nat), b + m = n → m < fuel → tb_Mn (tb_BP n pr hw b 0) r → wX_bestPath_5 post (nI n) (nI (tb_fc (n - 1))) rq cl ap ar fuel (tb_oi r) (nI b) := by
  intro m
  induction m with
  | zero =>
    intro b fuel r hb hf hM
    obtain ⟨f, rfl⟩ : ∃ f, fuel = f + 1 := ⟨fuel - 1, by omega⟩
    have e : b = n := by omega
    rw [e] at hM ⊢
    exact br_t (nI_le (Nat.le_refl _) (by omega)) (K r hM)
  | succ m ih =>
    intro b fuel r hb hf hM
    obtain ⟨f, rfl⟩ : ∃ f, fuel = f + 1 := ⟨fuel - 1, by omega⟩
    refine br_f (nI_ge (by omega) (by omega)) ⟨b + 1, ?_⟩
    exact tb_bp15 hn n7 hp ha hr hcl (by omega) (fun r' hM' => ih (b + 1) f r' (by omega) (by omega) (tb_BPn hM')) b 0 (b + 1) r (by omega) (by omega) hM
theorem tb_bpW {post : Int32 → Prop} (hn : 2 ≤ n) (n7 : n ≤ 7) (hp : ∀ r, pr r ≤ 40) (ha : ∀ r, r < 21 → ap r = nI (pr r)) (hr : ∀ j, j < tb_fc n → ar j = nI (tb_co (tb_D n j) n)) (hcl : ∀ i, i < 32 → bt cl i = decide (i < 21 ∧ hw i = 2)) (K : ∀ r, tb_Mn (tb_BP n pr hw n 0) r → post (tb_oi r)) : wpX_bestPath post (nI n, nI (tb_fc (n - 1)), rq, cl, ap, ar) := by
  refine ⟨n, tb_bp5 hn n7 hp ha hr hcl K (n - 1) 1 n none (by omega) (by omega) ?_⟩
  rintro w ⟨b', a', h1, h2, h3⟩
  omega
end TBM
end
section
section TBN
/-! X: span by the growing set -/
variable {tc rq cl : Int32} {ap ar : Nat → Int32} {n : Nat} {pr hw : Nat → Nat}
/-- the prices at which town t can be joined to the set -/
def tb_TJ (n : Nat) (pr hw : Nat → Nat) (x : Int32) (t m w : Nat) : Prop := ∃ o, o < m ∧ bt x o = true ∧ o ≠ t ∧ hw (tb_tr o t) ≠ 2 ∧ pr (tb_tr o t) = w
theorem tb_pj6 {post : Int32 → Prop} {x : Int32} {t : Nat} (n7 : n ≤ 7) (hp : ∀ r, pr r ≤ 40) (ha : ∀ r, r < 21 → ap r = nI (pr r)) (hcl : ∀ i, i < 32 → bt cl i = decide (i < 21 ∧ hw i = 2)) (ht : t < n) (K : ∀ r, tb_Mn (tb_TJ n pr hw x t n) r → post (tb_oi r)) : ∀ (m o fuel : Nat) (r : Option Nat), o + m = n → m < fuel → tb_Mn (tb_TJ n pr hw x t o) r → wX_priceToJoin_6 post x (nI t) (nI n) tc rq cl ap ar fuel (tb_oi r) (nI o) := by
  intro m
  induction m with
  | zero =>
    intro o fuel r ho hf hM
    obtain ⟨f, rfl⟩ : ∃ f, fuel = f + 1 := ⟨fuel - 1, by omega⟩
    have e : o = n := by omega
    rw [e] at hM ⊢
    exact br_t (nI_le (Nat.le_refl _) (by omega)) (K r hM)
  | succ m ih =>
    intro o fuel r ho hf hM
    obtain ⟨f, rfl⟩ : ∃ f, fuel = f + 1 := ⟨fuel - 1, by omega⟩
    have step : ∀ q, tb_Mn (fun w => bt x o = true ∧ o ≠ t ∧ hw (tb_tr o t) ≠ 2 ∧ pr (tb_tr o t) = w) q → wX_priceToJoin_6 post x (nI t) (nI n) tc rq cl ap ar f (tb_oi (tb_mi r q)) (nI (o + 1)) := fun q hq => by
      refine ih (o + 1) f _ (by omega) (by omega) (tb_MnM (fun w => ?_) hM hq)
      constructor
      · rintro ⟨j, h1, h2⟩
        rcases Nat.lt_or_ge j o with z | z
        · exact Or.inl ⟨j, z, h2⟩
        · have e : j = o := by omega
          rw [e] at h2
          exact Or.inr h2
      · rintro (⟨j, h1, h2⟩ | h2)
        · exact ⟨j, by omega, h2⟩
        · exact ⟨o, by omega, h2⟩
    have none' : (∀ w, ¬ (bt x o = true ∧ o ≠ t ∧ hw (tb_tr o t) ≠ 2 ∧ pr (tb_tr o t) = w)) → wX_priceToJoin_6 post x (nI t) (nI n) tc rq cl ap ar f (tb_oi r) (nI (o + 1)) := fun w => by
      have := step none w
      rw [tb_miN] at this
      exact this
    refine br_f (nI_ge (by omega) (by omega)) (br_c (fun z => nm_r (nI_1 o) (none' (fun w h => ?_))) (fun z => br_c (fun z2 => nm_r (nI_1 o) (none' (fun w h => ?_))) (fun z2 => ?_)))
    · rw [(tb_bt1 (by omega)).mp z] at h
      exact absurd h.1 (by decide)
    · exact h.2.1 ((nI_eq (by omega) (by omega)).mp z2)
    · have hot : o ≠ t := fun e => z2 (by rw [e])
      have hbt : bt x o = true := by
        cases e : bt x o with
        | true => rfl
        | false => exact absurd ((tb_bt1 (by omega)).mpr e) z
      have hr := tb_trL o (by omega) t (by omega) hot
      have i1 : vp_in (nI (tb_tr o t)) 21 := vp_in_nI hr (by omega)
      have ea : ap (nI (tb_tr o t)).toNatClampNeg = nI (pr (tb_tr o t)) := by rw [nI_clamp (by omega), ha _ hr]
      have hq := hp (tb_tr o t)
      refine tb_rbX (by omega) (by omega) (br_c (fun z3 => ?_) (fun z3 => br_t rfl (nm_r (nI_1 o) (none' (fun w h => ?_)))))
      · have h2 : hw (tb_tr o t) ≠ 2 := fun e => by
          have := (tb_bt1 (x := cl) (r := tb_tr o t) (by omega)).mp z3
          rw [hcl _ (by omega), decide_eq_false_iff_not] at this
          exact this ⟨hr, e⟩
        have S := step (some (pr (tb_tr o t))) ⟨⟨hbt, hot, h2, rfl⟩, fun w h => Nat.le_of_eq h.2.2.2⟩
        refine br_f (by decide) ?_
        cases r with
        | none => exact br_t rfl ⟨i1, nm_r ea (nm_r (nI_1 o) S)⟩
        | some v =>
          have hv : v ≤ 40 := by
            obtain ⟨j, _, h⟩ := hM.1
            rw [← h.2.2.2]
            exact hp _
          refine br_f (tb_nm3 (by omega)) ⟨i1, ?_⟩
          rw [ea]
          refine pk_le v (pr (tb_tr o t)) (fun w => nm_r (nI_1 o) ?_) (fun w => ⟨i1, nm_e (nm_r (nI_1 o) ?_)⟩)
          · have e : tb_mi (some v) (some (pr (tb_tr o t))) = some v := if_neg (by omega)
            rw [e] at S
            exact S
          · have e : tb_mi (some v) (some (pr (tb_tr o t))) = some (pr (tb_tr o t)) := if_pos (by omega)
            rw [e] at S
            exact S
      · apply z3
        rw [tb_bt1 (by omega), hcl _ (by omega), decide_eq_false_iff_not]
        exact fun e => h.2.2.1 e.2
theorem tb_pjW {post : Int32 → Prop} {x : Int32} {t : Nat} (n7 : n ≤ 7) (hp : ∀ r, pr r ≤ 40) (ha : ∀ r, r < 21 → ap r = nI (pr r)) (hcl : ∀ i, i < 32 → bt cl i = decide (i < 21 ∧ hw i = 2)) (ht : t < n) (K : ∀ r, tb_Mn (tb_TJ n pr hw x t n) r → post (tb_oi r)) : wpX_priceToJoin post (nI n, tc, rq, cl, ap, ar) x (nI t) := by
  refine ⟨n + 1, tb_pj6 n7 hp ha hcl ht K n 0 (n + 1) none (by omega) (by omega) ?_⟩
  rintro w ⟨o, h1, _⟩
  omega
/-- the nearest town below t -/
def tb_NT (n : Nat) (pr hw : Nat → Nat) (x : Int32) (t : Nat) : Option (Nat × Nat) → Prop
  | none => ∀ t', t' < t → bt x t' = false → ∀ w, ¬ tb_TJ n pr hw x t' n w
  | some (q, b) => q < t ∧ bt x q = false ∧ tb_TJ n pr hw x q n b ∧ ∀ t', t' < t → bt x t' = false → ∀ w, tb_TJ n pr hw x t' n w → b ≤ w
def tb_on : Option (Nat × Nat) → Int32
  | none => -1
  | some (q, _) => nI q
theorem tb_TJb {x : Int32} {t m w : Nat} (hp : ∀ r, pr r ≤ 40) (h : tb_TJ n pr hw x t m w) : w ≤ 40 := by
  obtain ⟨o, _, _, _, _, e⟩ := h
  rw [← e]
  exact hp _
theorem tb_nt7 {post : Int32 → Prop} {x : Int32} (n7 : n ≤ 7) (hp : ∀ r, pr r ≤ 40) (ha : ∀ r, r < 21 → ap r = nI (pr r)) (hcl : ∀ i, i < 32 → bt cl i = decide (i < 21 ∧ hw i = 2)) (K : ∀ r, tb_NT n pr hw x n r → post (tb_on r)) : ∀ (m t fuel : Nat) (r : Option (Nat × Nat)) (x3 : Int32), t + m = n → m < fuel → tb_NT n pr hw x t r → (∀ q b, r = some (q, b) → x3 = nI b) → wX_nearestTown_7 post x (nI n) tc rq cl ap ar fuel (tb_on r) x3 (nI t) := by
  intro m
  induction m with
  | zero =>
    intro t fuel r x3 ht hf hM _
    obtain ⟨f, rfl⟩ : ∃ f, fuel = f + 1 := ⟨fuel - 1, by omega⟩
    have e : t = n := by omega
    rw [e] at hM ⊢
    exact br_t (nI_le (Nat.le_refl _) (by omega)) (K r hM)
  | succ m ih =>
    intro t fuel r x3 ht hf hM hx
    obtain ⟨f, rfl⟩ : ∃ f, fuel = f + 1 := ⟨fuel - 1, by omega⟩
    -- nothing better at t
    have keep : (bt x t = false → ∀ w, tb_TJ n pr hw x t n w → ∃ q b, r = some (q, b) ∧ b ≤ w) → wX_nearestTown_7 post x (nI n) tc rq cl ap ar f (tb_on r) x3 (nI (t + 1)) := fun hk => by
      refine ih (t + 1) f r x3 (by omega) (by omega) ?_ hx
      cases r with
      | none =>
        intro t' h1 h2 w h3
        rcases Nat.lt_or_ge t' t with z | z
        · exact hM t' z h2 w h3
        · have e : t' = t := by omega
          rw [e] at h2 h3
          obtain ⟨q, b, e2, _⟩ := hk h2 w h3
          cases e2
      | some qb =>
        obtain ⟨q, b⟩ := qb
        obtain ⟨m1, m2, m3, m4⟩ := hM
        refine ⟨by omega, m2, m3, fun t' h1 h2 w h3 => ?_⟩
        rcases Nat.lt_or_ge t' t with z | z
        · exact m4 t' z h2 w h3
        · have e : t' = t := by omega
          rw [e] at h2 h3
          obtain ⟨q', b', e2, h4⟩ := hk h2 w h3
          cases e2
          exact h4
    have take : ∀ p, bt x t = false → tb_Mn (tb_TJ n pr hw x t n) (some p) → (∀ q b, r = some (q, b) → p < b) → wX_nearestTown_7 post x (nI n) tc rq cl ap ar f (nI t) (nI p) (nI (t + 1)) := fun p hb hM2 hlt => by
      refine ih (t + 1) f (some (t, p)) (nI p) (by omega) (by omega) ⟨by omega, hb, hM2.1, fun t' h1 h2 w h3 => ?_⟩ (fun q b e => by cases e; rfl)
      rcases Nat.lt_or_ge t' t with z | z
      · cases r with
        | none => exact absurd h3 (hM t' z h2 w)
        | some qb =>
          obtain ⟨q, b⟩ := qb
          have := hM.2.2.2 t' z h2 w h3
          have := hlt q b rfl
          omega
      · have e : t' = t := by omega
        rw [e] at h3
        exact hM2.2 w h3
    refine br_f (nI_ge (by omega) (by omega)) (br_c (fun z => ?_) (fun z => nm_r (nI_1 t) (keep (fun h => absurd ((tb_bt1 (by omega)).mpr h) z))))
    have hb : bt x t = false := (tb_bt1 (by omega)).mp z
    refine tb_pjW n7 hp ha hcl (by omega) (fun q hq => ?_)
    cases q with
    | none => exact br_t rfl (nm_r (nI_1 t) (keep (fun _ w h => absurd h (hq w))))
    | some p =>
      have hpb := tb_TJb hp hq.1
      refine br_f (tb_nm3 (by omega)) ?_
      cases r with
      | none => exact br_t (by decide : (-1 : Int32) < 0) (nm_r (nI_1 t) (take p hb hq (fun q b e => by cases e)))
      | some qb =>
        obtain ⟨q, b⟩ := qb
        have hbb := tb_TJb hp hM.2.2.1
        have e3 := hx q b rfl
        subst e3
        have hqt := hM.1
        refine br_f (nI_pos (by omega)) (pk_le b p (fun w => nm_r (nI_1 t) (keep (fun _ w' h => ⟨q, b, rfl, ?_⟩))) (fun w => nm_r (nI_1 t) (take p hb hq (fun q' b' e => by cases e; exact w))))
        have := hq.2 w' h
        omega
theorem tb_ntW {post : Int32 → Prop} {x : Int32} (n7 : n ≤ 7) (hp : ∀ r, pr r ≤ 40) (ha : ∀ r, r < 21 → ap r = nI (pr r)) (hcl : ∀ i, i < 32 → bt cl i = decide (i < 21 ∧ hw i = 2)) (K : ∀ r, tb_NT n pr hw x n r → post (tb_on r)) : wpX_nearestTown post (nI n, tc, rq, cl, ap, ar) x :=
  ⟨n + 1, tb_nt7 n7 hp ha hcl K n 0 (n + 1) none 0 (by omega) (by omega) (fun t' h => absurd h (by omega)) (fun q b e => by cases e)⟩
/-- the towns of a mask -/
def tb_P (x : Int32) (i : Nat) : Prop := i < 32 ∧ bt x i = true
theorem tb_sp6 {post : Int32 → Prop} (hn : 2 ≤ n) (n7 : n ≤ 7) (hp : ∀ r, pr r ≤ 40) (ha : ∀ r, r < 21 → ap r = nI (pr r)) (hcl : ∀ i, i < 32 → bt cl i = decide (i < 21 ∧ hw i = 2)) (h1 : ∀ s, tb_Cn (tb_E n pr hw) (fun i => i < n) s → (∀ w, tb_Cn (tb_E n pr hw) (fun i => i < n) w → s ≤ w) → s ≤ 240 → post (nI s)) (h0 : (∀ w, ¬ tb_Cn (tb_E n pr hw) (fun i => i < n) w) → post (-3)) : ∀ (m k fuel s : Nat) (x : Int32), k + m = n → 1 ≤ k → m < fuel → s ≤ 40 * (k - 1) → tb_XS (tb_E n pr hw) n (tb_P x) k s → wX_span_6 post (nI n) tc rq cl ap ar fuel x (nI s) (nI k) := by
  intro m
  induction m with
  | zero =>
    intro k fuel s x hk _ hf hs hX
    obtain ⟨f, rfl⟩ : ∃ f, fuel = f + 1 := ⟨fuel - 1, by omega⟩
    have e : k = n := by omega
    rw [e] at hX ⊢
    obtain ⟨c1, c2⟩ := tb_XSe hX
    exact br_t (nI_le (Nat.le_refl _) (by omega)) (h1 s c1 c2 (by omega))
  | succ m ih =>
    intro k fuel s x hk k1 hf hs hX
    obtain ⟨f, rfl⟩ : ∃ f, fuel = f + 1 := ⟨fuel - 1, by omega⟩
    refine br_f (nI_ge (by omega) (by omega)) ?_
    refine tb_ntW n7 hp ha hcl (fun r hN => ?_)
    have hout : ∀ j, j < n → ¬ tb_P x j → bt x j = false := fun j hj h => by
      cases e : bt x j with
      | false => rfl
      | true => exact absurd ⟨by omega, e⟩ h
    cases r with
    | none =>
      refine br_f (by decide : ¬ (0 : Int32) ≤ -1) (h0 (fun w => ?_))
      refine tb_XSn hX (by omega) (fun i j e he hc => ?_) w
      rcases hc with ⟨c1, c2⟩ | ⟨c1, c2⟩
      · exact hN j he.2.1 (hout j he.2.1 c2) e ⟨i, he.1, c1.2, he.2.2.1, he.2.2.2.1, he.2.2.2.2.symm⟩
      · have he2 := tb_EC he
        exact hN i he.1 (hout i he.1 c1) e ⟨j, he2.1, c2.2, he2.2.2.1, he2.2.2.2.1, he2.2.2.2.2.symm⟩
    | some qb =>
      obtain ⟨q, b⟩ := qb
      obtain ⟨q1, q2, q3, q4⟩ := hN
      refine br_t (nI_pos' (by omega)) ?_
      refine tb_pjW n7 hp ha hcl q1 (fun r' hM => ?_)
      have er : r' = some b := tb_MnU (fun _ => Iff.rfl) hM (⟨q3, fun w h => q4 q q1 q2 w h⟩ : tb_Mn (tb_TJ n pr hw x q n) (some b))
      subst er
      have hb40 := tb_TJb hp q3
      refine nm_r (nI_add s b) (nm_e (nm_r (nI_1 k) ?_))
      refine ih (k + 1) f (s + b) (x ||| ((1 : Int32) <<< (nI q &&& 31))) (by omega) (by omega) (by omega) ?_ ?_
      · have : 40 * (k + 1 - 1) = 40 * (k - 1) + 40 := by omega
        omega
      · obtain ⟨o, o1, o2, o3, o4, o5⟩ := q3
        refine tb_XSs hX (fun i j e he hc => ?_) (p := o) (t := q) ⟨by omega, o2⟩ (fun z => ?_) q1 ⟨o1, q1, o3, o4, o5.symm⟩ (fun i => ?_)
        · rcases hc with ⟨c1, c2⟩ | ⟨c1, c2⟩
          · exact q4 j he.2.1 (hout j he.2.1 c2) e ⟨i, he.1, c1.2, he.2.2.1, he.2.2.2.1, he.2.2.2.2.symm⟩
          · have he2 := tb_EC he
            exact q4 i he.1 (hout i he.1 c1) e ⟨j, he2.1, c2.2, he2.2.2.1, he2.2.2.2.1, he2.2.2.2.2.symm⟩
        · rw [z.2] at q2
          cases q2
        · unfold tb_P
          constructor
          · rintro ⟨z1, z2⟩
            rw [tb_bset (by omega) z1, Bool.or_eq_true, decide_eq_true_iff] at z2
            rcases z2 with z2 | z2
            · exact Or.inl ⟨z1, z2⟩
            · exact Or.inr z2
          · rintro (⟨z1, z2⟩ | z)
            · refine ⟨z1, ?_⟩
              rw [tb_bset (by omega) z1, z2]
              rfl
            · have hi : i < 32 := by omega
              refine ⟨hi, ?_⟩
              rw [tb_bset (by omega) hi, decide_eq_true z, Bool.or_true]
theorem tb_b1b : ∀ i, i < 32 → bt 1 i = decide (i = 0) := by decide +kernel
theorem tb_spW {post : Int32 → Prop} (hn : 2 ≤ n) (n7 : n ≤ 7) (hp : ∀ r, pr r ≤ 40) (ha : ∀ r, r < 21 → ap r = nI (pr r)) (hcl : ∀ i, i < 32 → bt cl i = decide (i < 21 ∧ hw i = 2)) (h1 : ∀ s, tb_Cn (tb_E n pr hw) (fun i => i < n) s → (∀ w, tb_Cn (tb_E n pr hw) (fun i => i < n) w → s ≤ w) → s ≤ 240 → post (nI s)) (h0 : (∀ w, ¬ tb_Cn (tb_E n pr hw) (fun i => i < n) w) → post (-3)) : wpX_span post (nI n, tc, rq, cl, ap, ar) := by
  refine ⟨n, tb_sp6 hn n7 hp ha hcl h1 h0 (n - 1) 1 n 0 1 (by omega) (by omega) (by omega) (by omega) (tb_XS0 (by omega) (fun i => ?_))⟩
  unfold tb_P
  constructor
  · rintro ⟨z1, z2⟩
    rw [tb_b1b i z1, decide_eq_true_iff] at z2
    exact z2
  · intro z
    subst z
    exact ⟨by omega, by rw [tb_b1b 0 (by omega)]; rfl⟩
end TBN
end
section
section TBY
/-! Y: orders, arrange, tour -/
variable {fn le lc ti fi ch : Int32} {ac ah lf ro us jo : Nat → Int32} {n : Nat}
theorem tb_orX {post : Int32 → Prop} {m : Nat} (hm : m ≤ 7) (h : post (nI (tb_fc m))) : ∀ (k j fuel : Nat), (j + k = m ∨ (k = 0 ∧ m = 0 ∧ j = 1)) → 1 ≤ j → k < fuel → wY_orders_4 post (nI m) fn le lc ti fi ch ac ah lf ro us jo fuel (nI (tb_fc j)) (nI (j + 1)) := by
  intro k
  induction k with
  | zero =>
    intro j fuel hj h1 hf
    obtain ⟨f, rfl⟩ : ∃ f, fuel = f + 1 := ⟨fuel - 1, by omega⟩
    have e : tb_fc j = tb_fc m := by
      rcases hj with z | ⟨_, z1, z2⟩
      · have : j = m := by omega
        rw [this]
      · rw [z1, z2]
        rfl
    rw [e]
    exact br_t (nI_lt (by omega) (by omega)) h
  | succ k ih =>
    intro j fuel hj h1 hf
    obtain ⟨f, rfl⟩ : ∃ f, fuel = f + 1 := ⟨fuel - 1, by omega⟩
    refine br_f (nI_nlt (by omega) (by omega)) (br_f (nI_nlt (a := 7) (by omega) (by decide)) (nm_r (e' := nI (tb_fc (j + 1))) (by rw [pk_mul, Nat.mul_comm]; rfl) (nm_r (nI_1 (j + 1)) ?_)))
    exact ih (j + 1) f (by omega) (by omega) (by omega)
theorem tb_orW {post : Int32 → Prop} {m : Nat} (hm : m ≤ 7) (h : post (nI (tb_fc m))) : wpY_orders post (fn, le, lc, ti, fi, ch, ac, ah, lf, ro, us, jo) (nI m) := by
  refine ⟨8, ?_⟩
  exact tb_orX hm h (m - 1) 1 8 (by omega) (by omega) (by omega)
/-- the town taken out of left -/
theorem tb_ar78 {post : SY → Prop} {J6 : Int32 → Int32 → (Nat → Int32) → (Nat → Int32) → (Nat → Int32) → (Nat → Int32) → (Nat → Int32) → (Nat → Int32) → Prop} {x3 x4 : Int32} {m p j a : Nat} {l : List Nat} (m7 : m ≤ 7) (hp : p + j = m) (K : ∀ lf' : Nat → Int32, (∀ q, q + 1 < j → lf' q = nI ((l.eraseIdx a).getD q 0)) → J6 x4 (nI (p + 1)) ac ah lf' ro us jo) : ∀ (b q fuel : Nat) (lf : Nat → Int32), q + b + 1 = j → b < fuel → a ≤ q → (∀ q', q' < q → lf q' = nI ((l.eraseIdx a).getD q' 0)) → (∀ q', q ≤ q' → q' < j → lf q' = nI (l.getD q' 0)) → wY_arrange_78 post J6 (nI m) x3 x4 (nI p) fn le lc ti fi ch fuel (nI q) ac ah lf ro us jo := by
  have em : nI m - nI p = nI j := by rw [pk_sub (by omega)]; congr 1; omega
  intro b
  induction b with
  | zero =>
    intro q fuel lf hq hf ha h1 h2
    obtain ⟨f, rfl⟩ : ∃ f, fuel = f + 1 := ⟨fuel - 1, by omega⟩
    have hc : nI m - nI p ≤ nI q + 1 := by
      rw [em, nI_1]
      exact nI_le (by omega) (by omega)
    exact br_t hc (nm_r (nI_1 p) (K lf (fun q' hq' => h1 q' (by omega))))
  | succ b ih =>
    intro q fuel lf hq hf ha h1 h2
    obtain ⟨f, rfl⟩ : ∃ f, fuel = f + 1 := ⟨fuel - 1, by omega⟩
    have hc : ¬ nI m - nI p ≤ nI q + 1 := by
      rw [em, nI_1]
      exact nI_ge (by omega) (by omega)
    have i1 : vp_in (nI q + 1) 8 := by
      rw [nI_1]
      exact vp_in_nI (by omega) (by omega)
    refine br_f hc ⟨i1, vp_in_nI (by omega) (by omega), nm_r (e' := upd lf q (lf (q + 1))) (by rw [nI_1, nI_clamp (by omega), nI_clamp (by omega)]) (nm_r (nI_1 q) ?_)⟩
    refine ih (q + 1) f _ (by omega) (by omega) (by omega) (fun q' hq' => ?_) (fun q' hq1 hq2 => ?_)
    · by_cases z : q' = q
      · rw [z, pk_us, h2 (q + 1) (by omega) (by omega), tb_eiG ha]
      · rw [pk_un z]
        exact h1 q' (by omega)
    · rw [pk_un (by omega)]
      exact h2 q' (by omega) hq2
/-- which town: the rest by the orders of what is left -/
theorem tb_ar27 {post : SY → Prop} {J6 : Int32 → Int32 → (Nat → Int32) → (Nat → Int32) → (Nat → Int32) → (Nat → Int32) → (Nat → Int32) → (Nat → Int32) → Prop} {x3 : Int32} {m p j rest : Nat} (m7 : m ≤ 7) (hp : p + (j + 1) = m) (hr : rest < tb_fc (j + 1)) (K : wY_arrange_58 post J6 (nI m) x3 (nI (rest % tb_fc j)) (nI p) (nI (rest / tb_fc j)) fn le lc ti fi ch ac ah lf ro us jo) : ∀ (b a fuel : Nat), a + b = rest / tb_fc j → b < fuel → wY_arrange_27 post J6 (nI m) x3 (nI p) (nI (tb_fc j)) fn le lc ti fi ch ac ah lf ro us jo fuel (nI (rest - a * tb_fc j)) (nI a) := by
  have em : nI m - 1 - nI p = nI j := by
    show nI m - nI 1 - nI p = nI j
    rw [pk_sub (by omega), pk_sub (by omega)]
    congr 1
    omega
  have hq := tb_qlt hr
  have f0 := tb_fcp j
  have fB := (tb_fcV (j + 1) (by omega)).1
  have fC := (tb_fcV j (by omega)).1
  have hdm := Nat.div_add_mod' rest (tb_fc j)
  have hml := Nat.mod_lt rest f0
  intro b
  induction b with
  | zero =>
    intro a fuel ha hf
    obtain ⟨f, rfl⟩ : ∃ f, fuel = f + 1 := ⟨fuel - 1, by omega⟩
    have e : a = rest / tb_fc j := by omega
    have e2 : rest - a * tb_fc j = rest % tb_fc j := by
      rw [e]
      omega
    rw [e2, e]
    refine br_c (fun _ => K) (fun _ => br_t (nI_lt hml (by omega)) K)
  | succ b ih =>
    intro a fuel ha hf
    obtain ⟨f, rfl⟩ : ∃ f, fuel = f + 1 := ⟨fuel - 1, by omega⟩
    have h1 : (a + 1) * tb_fc j ≤ rest / tb_fc j * tb_fc j := Nat.mul_le_mul_right _ (by omega)
    rw [Nat.succ_mul] at h1
    have hc : ¬ nI m - 1 - nI p ≤ nI a := by
      rw [em]
      exact nI_ge (by omega) (by omega)
    refine br_f hc (br_f (nI_nlt (by omega) (by omega)) (nm_r (e' := nI (rest - (a + 1) * tb_fc j)) (by rw [pk_sub (by omega), Nat.succ_mul]; congr 1; omega) (nm_r (nI_1 a) ?_)))
    exact ih (a + 1) f (by omega) (by omega)
theorem tb_ar6 {post : SY → Prop} {m fr : Nat} (m7 : m ≤ 7) (hfr : fr + m ≤ 8) : ∀ (j p rest fuel : Nat) (l : List Nat) (lf ro : Nat → Int32), p + j = m → l.length = j → rest < tb_fc j → j < fuel → (∀ q, q < j → lf q = nI (l.getD q 0)) → (∀ lf' ro' : Nat → Int32, (∀ q, q < j → ro' (fr + p + q) = nI ((tb_ar j rest l).getD q 0)) → (∀ i, i < fr + p → ro' i = ro i) → post (fn, le, lc, ti, fi, ch, ac, ah, lf', ro', us, jo)) → wY_arrange_6 post (nI m) (nI fr) fn le lc ti fi ch fuel (nI rest) (nI p) ac ah lf ro us jo := by
  intro j
  induction j with
  | zero =>
    intro p rest fuel l lf ro hp hl hr hf hlf K
    obtain ⟨f, rfl⟩ : ∃ f, fuel = f + 1 := ⟨fuel - 1, by omega⟩
    exact br_t (nI_le (by omega) (by omega)) (K lf ro (fun q hq => absurd hq (by omega)) (fun i _ => rfl))
  | succ j ih =>
    intro p rest fuel l lf ro hp hl hr hf hlf K
    obtain ⟨f, rfl⟩ : ∃ f, fuel = f + 1 := ⟨fuel - 1, by omega⟩
    have em : nI m - 1 - nI p = nI j := by
      show nI m - nI 1 - nI p = nI j
      rw [pk_sub (by omega), pk_sub (by omega)]
      congr 1
      omega
    have hq := tb_qlt hr
    have fC := (tb_fcV j (by omega)).1
    refine br_f (nI_ge (by omega) (by omega)) ?_
    rw [em]
    refine tb_orW (by omega) ⟨rest / tb_fc j + 1, ?_⟩
    have H := tb_ar27 (post := post) (J6 := wY_arrange_6 post (nI m) (nI fr) fn le lc ti fi ch f) (x3 := nI fr) (fn := fn) (le := le) (lc := lc) (ti := ti) (fi := fi) (ch := ch) (ac := ac) (ah := ah) (lf := lf) (ro := ro) (us := us) (jo := jo) m7 hp hr ?_ (rest / tb_fc j) 0 (rest / tb_fc j + 1) (by omega) (by omega)
    · rw [Nat.zero_mul, Nat.sub_zero] at H
      exact H
    · have i2 : vp_in (nI fr + nI p) 8 := by
        rw [nI_add]
        exact vp_in_nI (by omega) (by omega)
      refine ⟨vp_in_nI (by omega) (by omega), i2, nm_r (e' := upd ro (fr + p) (nI (l.getD (rest / tb_fc j) 0))) (by rw [nI_add, nI_clamp (by omega), nI_clamp (by omega), hlf _ (by omega)]) ⟨j + 1 - rest / tb_fc j, ?_⟩⟩
      refine tb_ar78 (j := j + 1) (a := rest / tb_fc j) (l := l) m7 hp (fun lf' h' => ?_) (j - rest / tb_fc j) (rest / tb_fc j) _ lf (by omega) (by omega) (Nat.le_refl _) (fun q' hq' => ?_) (fun q' hq1 hq2 => hlf q' hq2)
      · refine ih (p + 1) (rest % tb_fc j) f (l.eraseIdx (rest / tb_fc j)) lf' _ (by omega) (by rw [List.length_eraseIdx_of_lt (by omega)]; omega) (Nat.mod_lt _ (tb_fcp j)) (by omega) (fun q hq => h' q (by omega)) (fun lf2 ro2 g1 g2 => K lf2 ro2 (fun q hq => ?_) (fun i hi => ?_))
        · rw [tb_arS]
          cases q with
          | zero =>
            rw [Nat.add_zero, g2 (fr + p) (by omega), pk_us]
            rfl
          | succ q =>
            have e : fr + p + (q + 1) = fr + (p + 1) + q := by omega
            rw [e, g1 q (by omega)]
            rfl
        · rw [g2 i (by omega), pk_un (by omega)]
      · rw [tb_eiL hq']
        exact hlf q' (by omega)
theorem tb_arW {post : SY → Prop} {m fr k : Nat} {l : List Nat} (m7 : m ≤ 7) (hfr : fr + m ≤ 8) (hl : l.length = m) (hk : k < tb_fc m) (hlf : ∀ q, q < m → lf q = nI (l.getD q 0)) (K : ∀ lf' ro' : Nat → Int32, (∀ q, q < m → ro' (fr + q) = nI ((tb_ar m k l).getD q 0)) → post (fn, le, lc, ti, fi, ch, ac, ah, lf', ro', us, jo)) : wpY_arrange post (fn, le, lc, ti, fi, ch, ac, ah, lf, ro, us, jo) (nI k) (nI m) (nI fr) :=
  ⟨m + 1, tb_ar6 m7 hfr m 0 k (m + 1) l lf ro (by omega) hl hk (by omega) hlf (fun lf' ro' h1 _ => K lf' ro' h1)⟩
theorem tb_to2 {post : SY → Prop} {k : Nat} (hn : 2 ≤ n) (n7 : n ≤ 7) (hk : k < tb_fc (n - 1)) (K : ∀ lf' ro' : Nat → Int32, (∀ t, t ≤ n → ro' t = nI (tb_cy n (tb_D n k) t)) → post (nI n, le, lc, ti, fi, ch, ac, ah, lf', ro', us, jo)) : ∀ (m t fuel : Nat) (lf : Nat → Int32), t + m = n → 1 ≤ t → m < fuel → (∀ q, q + 1 < t → lf q = nI (q + 1)) → wY_tour_2 post (nI k) (nI n) le lc ti fi ch fuel (nI t) ac ah lf ro us jo := by
  intro m
  induction m with
  | zero =>
    intro t fuel lf ht h1 hf hlf
    obtain ⟨f, rfl⟩ : ∃ f, fuel = f + 1 := ⟨fuel - 1, by omega⟩
    refine br_t (nI_le (by omega) (by omega)) ?_
    have e1 : nI n - 1 = nI (n - 1) := pk_sub (b := 1) (by omega)
    rw [e1]
    refine tb_arW (l := tb_un n [0]) (fr := 1) (by omega) (by omega) (tb_unL (by omega)) hk (fun q hq => ?_) (fun lf' ro' h' => ?_)
    · rw [hlf q (by omega), tb_un0G n (by omega) q hq]
    · refine nm_e ⟨vp_in_nI (by omega) (by omega), nm_r (e' := upd (upd ro' 0 0) n 0) (by rw [nI_clamp (by omega)]) (K lf' _ (fun t' ht' => ?_))⟩
      by_cases z : t' = n
      · rw [z, pk_us, tb_cyE]
        rfl
      · rw [pk_un z, tb_cyL (by omega)]
        cases t' with
        | zero =>
          rw [pk_us, tb_D00 (by omega) hk]
          rfl
        | succ t' =>
          have e2 : 1 + t' = t' + 1 := by omega
          have := h' t' (by omega)
          rw [e2] at this
          rw [pk_un (by omega), this, tb_D0S hk (by omega)]
  | succ m ih =>
    intro t fuel lf ht h1 hf hlf
    obtain ⟨f, rfl⟩ : ∃ f, fuel = f + 1 := ⟨fuel - 1, by omega⟩
    have e1 : nI t - 1 = nI (t - 1) := pk_sub (b := 1) (by omega)
    have i1 : vp_in (nI t - 1) 8 := by
      rw [e1]
      exact vp_in_nI (by omega) (by omega)
    refine br_f (nI_ge (by omega) (by omega)) ⟨i1, nm_r (e' := upd lf (t - 1) (nI t)) (by rw [e1, nI_clamp (by omega)]) (nm_r (nI_1 t) ?_)⟩
    refine ih (t + 1) f _ (by omega) (by omega) (by omega) (fun q hq => ?_)
    by_cases z : q = t - 1
    · rw [z, pk_us]
      congr 1
      omega
    · rw [pk_un z]
      exact hlf q (by omega)
theorem tb_toW {post : SY → Prop} {k : Nat} (hn : 2 ≤ n) (n7 : n ≤ 7) (hk : k < tb_fc (n - 1)) (K : ∀ lf' ro' : Nat → Int32, (∀ t, t ≤ n → ro' t = nI (tb_cy n (tb_D n k) t)) → post (nI n, le, lc, ti, fi, ch, ac, ah, lf', ro', us, jo)) : wpY_tour post (nI n, le, lc, ti, fi, ch, ac, ah, lf, ro, us, jo) (nI k) :=
  ⟨n, tb_to2 hn n7 hk K (n - 1) 1 n lf (by omega) (by omega) (by omega) (fun q hq => absurd hq (by omega))⟩
end TBY
end
section
section TBZ
/-! Y: code, price of the row; rowAllowed -/
variable {le lc ti fi ch : Int32} {ac ah lf ro us jo : Nat → Int32} {n : Nat} {pr hw : Nat → Nat} {d : Nat → Nat}
theorem tb_cr4 {post : Int32 → Prop} (n7 : n ≤ 7) (hr : ∀ t, t < n → ro t = nI (d t)) (h : post (nI (tb_co d n))) : ∀ (m t fuel : Nat), t + m = n → m < fuel → wY_codeOfRow_4 post (nI n) le lc ti fi ch ac ah lf ro us jo fuel (nI (tb_co d t)) (nI t) := by
  intro m
  induction m with
  | zero =>
    intro t fuel ht hf
    obtain ⟨f, rfl⟩ : ∃ f, fuel = f + 1 := ⟨fuel - 1, by omega⟩
    have ht : t = n := by omega
    rw [ht]
    exact br_t (nI_le (Nat.le_refl _) (by omega)) h
  | succ m ih =>
    intro t fuel ht hf
    obtain ⟨f, rfl⟩ : ∃ f, fuel = f + 1 := ⟨fuel - 1, by omega⟩
    have e : nI (tb_co d t) * 7 + ro (nI t).toNatClampNeg = nI (tb_co d (t + 1)) := by
      rw [nI_clamp (by omega), hr t (by omega)]
      show nI (tb_co d t) * nI 7 + nI (d t) = _
      rw [pk_mul, nI_add]
      rfl
    refine br_f (nI_ge (by omega) (by omega)) ⟨vp_in_nI (by omega) (by omega), nm_r e (nm_r (nI_1 t) ?_)⟩
    exact ih (t + 1) f (by omega) (by omega)
theorem tb_crW {post : Int32 → Prop} (hn : 2 ≤ n) (n7 : n ≤ 7) (h0 : d 0 = 0) (hr : ∀ t, t < n → ro t = nI (d t)) (h : post (nI (tb_co d n))) : wpY_codeOfRow post (nI n, le, lc, ti, fi, ch, ac, ah, lf, ro, us, jo) := by
  have H := tb_cr4 (post := post) (le := le) (lc := lc) (ti := ti) (fi := fi) (ch := ch) (ac := ac) (ah := ah) (lf := lf) (us := us) (jo := jo) n7 hr h (n - 1) 1 n (by omega) (by omega)
  have e : tb_co d 1 = 0 := by
    rw [tb_coS, h0]
    rfl
  rw [e] at H
  exact ⟨n, H⟩
theorem tb_pr4 {post : Int32 → Prop} {e : Nat → Nat} (n7 : n ≤ 7) (hr : ∀ t, t ≤ n → ro t = nI (e t)) (he : ∀ t, t < n → e t < n ∧ e (t + 1) < n ∧ e t ≠ e (t + 1)) (hc : ∀ a b, a < n → b < n → a ≠ b → ac (a * 7 + b) = nI (pr (tb_tr a b))) (h : post (nI (tb_sm (fun t => pr (tb_tr (e t) (e (t + 1)))) n))) : ∀ (m t fuel : Nat), t + m = n → m < fuel → wY_priceOfRow_4 post (nI n) le lc ti fi ch ac ah lf ro us jo fuel (nI (tb_sm (fun t => pr (tb_tr (e t) (e (t + 1)))) t)) (nI t) := by
  intro m
  induction m with
  | zero =>
    intro t fuel ht hf
    obtain ⟨f, rfl⟩ : ∃ f, fuel = f + 1 := ⟨fuel - 1, by omega⟩
    have ht : t = n := by omega
    rw [ht]
    exact br_t (nI_le (Nat.le_refl _) (by omega)) h
  | succ m ih =>
    intro t fuel ht hf
    obtain ⟨f, rfl⟩ : ∃ f, fuel = f + 1 := ⟨fuel - 1, by omega⟩
    obtain ⟨a1, a2, a3⟩ := he t (by omega)
    have i1 : vp_in (nI t + 1) 8 := by
      rw [nI_1]
      exact vp_in_nI (by omega) (by omega)
    have ix : ro (nI t).toNatClampNeg * 7 + ro (nI t + 1).toNatClampNeg = nI (e t * 7 + e (t + 1)) := by
      rw [nI_1, nI_clamp (by omega), nI_clamp (by omega), hr t (by omega), hr (t + 1) (by omega)]
      exact tb_ix _ (by omega) _ (by omega)
    have i2 : vp_in (ro (nI t).toNatClampNeg * 7 + ro (nI t + 1).toNatClampNeg) 49 := by
      rw [ix]
      exact vp_in_nI (by omega) (by omega)
    refine br_f (nI_ge (by omega) (by omega)) ⟨vp_in_nI (by omega) (by omega), i1, i2, nm_r (e' := nI (tb_sm (fun t => pr (tb_tr (e t) (e (t + 1)))) (t + 1))) (by rw [ix, nI_clamp (by omega), hc _ _ a1 a2 a3, nI_add]; rfl) (nm_r (nI_1 t) ?_)⟩
    exact ih (t + 1) f (by omega) (by omega)
theorem tb_prW {post : Int32 → Prop} (hn : 2 ≤ n) (n7 : n ≤ 7) (hd : tb_pm n d) (h0 : d 0 = 0) (hr : ∀ t, t ≤ n → ro t = nI (tb_cy n d t)) (hc : ∀ a b, a < n → b < n → a ≠ b → ac (a * 7 + b) = nI (pr (tb_tr a b))) (h : post (nI (tb_tp n pr d))) : wpY_priceOfRow post (nI n, le, lc, ti, fi, ch, ac, ah, lf, ro, us, jo) :=
  ⟨n + 1, tb_pr4 n7 hr (fun t ht => tb_cyN hn hd h0 ht) hc h n 0 (n + 1) (by omega) (by omega)⟩
/-- the marks held against the roads used -/
theorem tb_ra87 {post : Int32 → SY → Prop} {fn : Int32} {g : Nat → Nat} {V : Nat → Prop} (hg : ∀ k, k < 49 → ah k = nI (g k) ∧ g k ≤ 2) (hV : ∀ k, k < 49 → (us k = 0 ↔ ¬ V k)) (h1 : (∀ k, k < 49 → (g k = 2 → ¬ V k) ∧ (g k = 1 → V k)) → post 1 (fn, le, lc, ti, fi, ch, ac, ah, lf, ro, us, jo)) (h0 : ∀ k, k < 49 → ¬ ((g k = 2 → ¬ V k) ∧ (g k = 1 → V k)) → post 0 (fn, le, lc, ti, fi, ch, ac, ah, lf, ro, us, jo)) : ∀ (m k fuel : Nat), k + m = 49 → m < fuel → (∀ j, j < k → (g j = 2 → ¬ V j) ∧ (g j = 1 → V j)) → wY_rowAllowed_87 post fn le lc ti fi ch ac ah lf ro us jo fuel (nI k) := by
  intro m
  induction m with
  | zero =>
    intro k fuel hk hf hj
    obtain ⟨f, rfl⟩ : ∃ f, fuel = f + 1 := ⟨fuel - 1, by omega⟩
    have hk : k = 49 := by omega
    subst hk
    exact br_t (nI_le (a := 49) (Nat.le_refl _) (by decide)) (h1 hj)
  | succ m ih =>
    intro k fuel hk hf hj
    obtain ⟨f, rfl⟩ : ∃ f, fuel = f + 1 := ⟨fuel - 1, by omega⟩
    obtain ⟨g1, g2⟩ := hg k (by omega)
    have v := hV k (by omega)
    have i1 : vp_in (nI k) 49 := vp_in_nI (by omega) (by omega)
    have ea : ah (nI k).toNatClampNeg = nI (g k) := by rw [nI_clamp (by omega), g1]
    have eu : us (nI k).toNatClampNeg = us k := by rw [nI_clamp (by omega)]
    have c2 : ah (nI k).toNatClampNeg = 2 ↔ g k = 2 := by
      rw [ea]
      exact nI_eq (b := 2) (by omega) (by decide)
    have c1 : ah (nI k).toNatClampNeg = 1 ↔ g k = 1 := by
      rw [ea]
      exact nI_eq (b := 1) (by omega) (by decide)
    have step : ((g k = 2 → ¬ V k) ∧ (g k = 1 → V k)) → wY_rowAllowed_87 post fn le lc ti fi ch ac ah lf ro us jo f (nI (k + 1)) := fun w => ih (k + 1) f (by omega) (by omega) (fun j hj2 => by
      rcases Nat.lt_or_ge j k with z | z
      · exact hj j z
      · have e : j = k := by omega
        rw [e]
        exact w)
    have s114 : (g k = 2 → ¬ V k) → wY_rowAllowed_114 post (wY_rowAllowed_87 post fn le lc ti fi ch ac ah lf ro us jo f) (nI k) fn le lc ti fi ch ac ah lf ro us jo := fun w2 => by
      refine ⟨i1, br_c (fun z => ⟨i1, br_c (fun z2 => ?_) (fun z2 => nm_r (nI_1 k) (step ⟨w2, fun _ => ?_⟩))⟩) (fun z => nm_r (nI_1 k) (step ⟨w2, fun q => absurd (c1.mpr q) z⟩))⟩
      · rw [eu] at z2
        exact h0 k (by omega) (fun w => v.mp z2 (w.2 (c1.mp z)))
      · rw [eu] at z2
        exact Classical.byContradiction (fun w => z2 (v.mpr w))
    refine br_f (nI_ge (b := 49) (by omega) (by decide)) ⟨i1, br_c (fun z => ⟨i1, br_c (fun z2 => s114 (fun _ => ?_)) (fun z2 => ?_)⟩) (fun z => s114 (fun q => absurd (c2.mpr q) z))⟩
    · rw [eu] at z2
      exact v.mp z2
    · rw [eu] at z2
      exact h0 k (by omega) (fun w => z2 (v.mpr (w.1 (c2.mp z))))
/-- the roads of the row marked as used -/
theorem tb_ra23 {post : Int32 → SY → Prop} (hn : 2 ≤ n) (n7 : n ≤ 7) (hd : tb_pm n d) (h0 : d 0 = 0) (hr : ∀ t, t ≤ n → ro t = nI (tb_cy n d t)) (K : ∀ us' : Nat → Int32, (∀ k, k < 49 → (us' k = 0 ↔ ¬ tb_us n d n (k / 7) (k % 7))) → ∃ f, wY_rowAllowed_87 post (nI n) le lc ti fi ch ac ah lf ro us' jo f 0) : ∀ (m t fuel : Nat) (us : Nat → Int32), t + m = n → m < fuel → (∀ k, k < 49 → (us k = 0 ↔ ¬ tb_us n d t (k / 7) (k % 7))) → wY_rowAllowed_23 post (nI n) le lc ti fi ch fuel (nI t) ac ah lf ro us jo := by
  intro m
  induction m with
  | zero =>
    intro t fuel us ht hf hu
    obtain ⟨f, rfl⟩ : ∃ f, fuel = f + 1 := ⟨fuel - 1, by omega⟩
    have ht : t = n := by omega
    rw [ht] at hu ⊢
    exact br_t (nI_le (Nat.le_refl _) (by omega)) (K us hu)
  | succ m ih =>
    intro t fuel us ht hf hu
    obtain ⟨f, rfl⟩ : ∃ f, fuel = f + 1 := ⟨fuel - 1, by omega⟩
    obtain ⟨a1, a2, a3⟩ := tb_cyN hn hd h0 (t := t) (by omega)
    have i1 : vp_in (nI t + 1) 8 := by
      rw [nI_1]
      exact vp_in_nI (by omega) (by omega)
    have i0 : vp_in (nI t) 8 := vp_in_nI (by omega) (by omega)
    have e1 : ro (nI t).toNatClampNeg = nI (tb_cy n d t) := by rw [nI_clamp (by omega), hr t (by omega)]
    have e2 : ro (nI t + 1).toNatClampNeg = nI (tb_cy n d (t + 1)) := by rw [nI_1, nI_clamp (by omega), hr (t + 1) (by omega)]
    have x1 : ro (nI t).toNatClampNeg * 7 + ro (nI t + 1).toNatClampNeg = nI (tb_cy n d t * 7 + tb_cy n d (t + 1)) := by
      rw [e1, e2]
      exact tb_ix _ (by omega) _ (by omega)
    have x2 : ro (nI t + 1).toNatClampNeg * 7 + ro (nI t).toNatClampNeg = nI (tb_cy n d (t + 1) * 7 + tb_cy n d t) := by
      rw [e1, e2]
      exact tb_ix _ (by omega) _ (by omega)
    have j1 : vp_in (ro (nI t).toNatClampNeg * 7 + ro (nI t + 1).toNatClampNeg) 49 := by
      rw [x1]
      exact vp_in_nI (by omega) (by omega)
    have j2 : vp_in (ro (nI t + 1).toNatClampNeg * 7 + ro (nI t).toNatClampNeg) 49 := by
      rw [x2]
      exact vp_in_nI (by omega) (by omega)
    have vb1 : vp_nar .boolean 1 = 1 := rfl
    refine br_f (nI_ge (by omega) (by omega)) ⟨i0, i1, j1, nm_r (e' := upd us (tb_cy n d t * 7 + tb_cy n d (t + 1)) 1) (by rw [x1, nI_clamp (by omega), vb1]) ⟨i1, i0, j2, nm_r (e' := upd (upd us (tb_cy n d t * 7 + tb_cy n d (t + 1)) 1) (tb_cy n d (t + 1) * 7 + tb_cy n d t) 1) (by rw [x2, nI_clamp (by omega), vb1]) (nm_r (nI_1 t) ?_)⟩⟩
    refine ih (t + 1) f _ (by omega) (by omega) (fun k hk => ?_)
    have hS : tb_us n d (t + 1) (k / 7) (k % 7) ↔ tb_us n d t (k / 7) (k % 7) ∨ ((tb_cy n d t = k / 7 ∧ tb_cy n d (t + 1) = k % 7) ∨ (tb_cy n d (t + 1) = k / 7 ∧ tb_cy n d t = k % 7)) := by
      constructor
      · rintro ⟨s, hs, z⟩
        rcases Nat.lt_or_ge s t with w | w
        · exact Or.inl ⟨s, w, z⟩
        · have e : s = t := by omega
          rw [e] at z
          exact Or.inr z
      · rintro (⟨s, hs, z⟩ | z)
        · exact ⟨s, by omega, z⟩
        · exact ⟨t, by omega, z⟩
    rw [hS]
    by_cases z2 : k = tb_cy n d (t + 1) * 7 + tb_cy n d t
    · rw [z2, pk_us]
      refine ⟨fun z => absurd z (by decide), fun z => absurd (Or.inr (Or.inr ⟨by omega, by omega⟩)) z⟩
    · rw [pk_un z2]
      by_cases z1 : k = tb_cy n d t * 7 + tb_cy n d (t + 1)
      · rw [z1, pk_us]
        refine ⟨fun z => absurd z (by decide), fun z => absurd (Or.inr (Or.inl ⟨by omega, by omega⟩)) z⟩
      · rw [pk_un z1, hu k hk]
        constructor
        · rintro w (v | ⟨v1, v2⟩ | ⟨v1, v2⟩)
          · exact w v
          · exact z1 (by omega)
          · exact z2 (by omega)
        · intro w v
          exact w (Or.inl v)
theorem tb_ra2 {post : Int32 → SY → Prop} {fn : Int32} (K : ∀ us' : Nat → Int32, (∀ k, k < 49 → us' k = 0) → ∃ f, wY_rowAllowed_23 post fn le lc ti fi ch f 0 ac ah lf ro us' jo) : ∀ (m t fuel : Nat) (us : Nat → Int32), t + m = 49 → m < fuel → (∀ k, k < t → us k = 0) → wY_rowAllowed_2 post fn le lc ti fi ch fuel (nI t) ac ah lf ro us jo := by
  intro m
  induction m with
  | zero =>
    intro t fuel us ht hf hu
    obtain ⟨f, rfl⟩ : ∃ f, fuel = f + 1 := ⟨fuel - 1, by omega⟩
    have ht : t = 49 := by omega
    subst ht
    exact br_t (nI_le (a := 49) (Nat.le_refl _) (by decide)) (K us hu)
  | succ m ih =>
    intro t fuel us ht hf hu
    obtain ⟨f, rfl⟩ : ∃ f, fuel = f + 1 := ⟨fuel - 1, by omega⟩
    refine br_f (nI_ge (b := 49) (by omega) (by decide)) ⟨vp_in_nI (by omega) (by omega), nm_r (e' := upd us t 0) (by rw [nI_clamp (by omega)]; rfl) (nm_r (nI_1 t) ?_)⟩
    refine ih (t + 1) f _ (by omega) (by omega) (fun k hk => ?_)
    by_cases z : k = t
    · rw [z, pk_us]
    · rw [pk_un z]
      exact hu k (by omega)
theorem tb_raW {post : Int32 → SY → Prop} (hn : 2 ≤ n) (n7 : n ≤ 7) (hd : tb_pm n d) (h0 : d 0 = 0) (hr : ∀ t, t ≤ n → ro t = nI (tb_cy n d t)) (hw2 : ∀ r, hw r ≤ 2) (hh : ∀ a b, a < 7 → b < 7 → ah (a * 7 + b) = nI (tb_H hw a b)) (h1 : tb_al n hw d → ∀ us' : Nat → Int32, post 1 (nI n, le, lc, ti, fi, ch, ac, ah, lf, ro, us', jo)) (h2 : ¬ tb_al n hw d → ∀ us' : Nat → Int32, post 0 (nI n, le, lc, ti, fi, ch, ac, ah, lf, ro, us', jo)) : wpY_rowAllowed post (nI n, le, lc, ti, fi, ch, ac, ah, lf, ro, us, jo) := by
  refine ⟨50, tb_ra2 (fun us1 hu1 => ⟨n + 1, tb_ra23 hn n7 hd h0 hr (fun us2 hu2 => ⟨50, ?_⟩) n 0 (n + 1) us1 (by omega) (by omega) (fun k hk => ?_)⟩) 49 0 50 us (by omega) (by omega) (fun k hk => absurd hk (by omega))⟩
  · have hY := tb_alY hn n7 hd h0 hw
    refine tb_ra87 (g := fun k => tb_H hw (k / 7) (k % 7)) (V := fun k => tb_us n d n (k / 7) (k % 7)) (fun k hk => ⟨?_, ?_⟩) hu2 (fun H => h1 (hY.mpr (fun a b ha hb => ?_)) us2) (fun k hk H => h2 (fun w => H (hY.mp w (k / 7) (k % 7) (by omega) (by omega))) us2) 49 0 50 (by omega) (by omega) (fun j hj => absurd hj (by omega))
    · have := hh (k / 7) (k % 7) (by omega) (by omega)
      have e : k / 7 * 7 + k % 7 = k := by omega
      rw [e] at this
      exact this
    · show tb_H hw (k / 7) (k % 7) ≤ 2
      unfold tb_H
      by_cases z : k / 7 = k % 7
      · rw [if_pos z]
        omega
      · rw [if_neg z]
        exact hw2 _
    · have := H (a * 7 + b) (by omega)
      have q1 : (a * 7 + b) / 7 = a := by omega
      have q2 : (a * 7 + b) % 7 = b := by omega
      rw [q1, q2] at this
      exact this
  · refine ⟨fun _ => ?_, fun _ => hu1 k hk⟩
    rintro ⟨t, ht, _⟩
    exact absurd ht (by omega)
end TBZ
end
section
section TBA
/-! Y: look -/
variable {ac ah jo : Nat → Int32} {n : Nat} {pr hw : Nat → Nat}
noncomputable def tb_aY (n : Nat) (hw : Nat → Nat) (i : Nat) : Bool := tb_B (tb_al n hw (tb_D n i))
noncomputable def tb_wY (n : Nat) (pr hw : Nat → Nat) (lim : Int32) (i : Nat) : Bool := tb_aY n hw i && !decide (lim < nI (tb_pX n pr i))
def tb_ol (n : Nat) (pr : Nat → Nat) : Option Nat → Int32
  | none => -1
  | some i => nI (tb_pX n pr i)
theorem tb_lo90 {post : SY → Prop} {J38 : Int32 → Int32 → Int32 → Int32 → Int32 → Int32 → Int32 → (Nat → Int32) → (Nat → Int32) → (Nat → Int32) → (Nat → Int32) → (Nat → Int32) → (Nat → Int32) → Prop} {x1 x2 fi ch : Int32} {lf ro us : Nat → Int32} {k : Nat} (hn : 2 ≤ n) (n7 : n ≤ 7) (hp : ∀ r, pr r ≤ 40) (hk : k < tb_fc (n - 1)) (ha : tb_aY n hw k = true) (hr : ∀ t, t ≤ n → ro t = nI (tb_cy n (tb_D n k) t)) (H : J38 (nI (k + 1)) (nI n) (tb_ol n pr (tb_bs (tb_aY n hw) (tb_pX n pr) (k + 1))) (tb_oc n (tb_bs (tb_aY n hw) (tb_pX n pr) (k + 1))) (nI (tb_ti (tb_aY n hw) (tb_pX n pr) (k + 1))) fi ch ac ah lf ro us jo) : wY_look_90 post J38 x1 x2 (nI k) (nI (tb_pX n pr k)) (nI n) (tb_ol n pr (tb_bs (tb_aY n hw) (tb_pX n pr) k)) (tb_oc n (tb_bs (tb_aY n hw) (tb_pX n pr) k)) (nI (tb_ti (tb_aY n hw) (tb_pX n pr) k)) fi ch ac ah lf ro us jo := by
  have b1 : ∀ q, tb_pX n pr q ≤ 280 := fun q => tb_tpB hp n7 _
  have bk := b1 k
  have hr2 : ∀ t, t < n → ro t = nI (tb_D n k t) := fun t ht => by rw [hr t (by omega), tb_cyL ht]
  have h0 := tb_D00 (n := n) (by omega) hk
  cases e : tb_bs (tb_aY n hw) (tb_pX n pr) k with
  | none =>
    have eN := tb_bsN e
    rw [if_pos ha] at eN
    rw [eN, tb_tiN e ha] at H
    refine br_f (tb_nm1 (by omega)) (br_t (by decide : (-1 : Int32) < 0) ?_)
    exact tb_crW hn n7 h0 hr2 (nm_r (nI_1 k) H)
  | some q =>
    have bq := b1 q
    have eS := tb_bsS e
    rcases Nat.lt_trichotomy (tb_pX n pr k) (tb_pX n pr q) with z | z | z
    · rw [if_pos ⟨ha, z⟩] at eS
      rw [eS, tb_tiL e ha z] at H
      refine br_f (fun w => ?_) (br_f (nI_pos (by omega)) (br_f (nI_ge z (by omega)) ?_))
      · have w2 := (nI_eq (by omega) (by omega)).mp w
        omega
      · exact tb_crW hn n7 h0 hr2 (nm_r (nI_1 k) H)
    · rw [if_neg (by omega)] at eS
      rw [eS, tb_tiE e ha z] at H
      refine br_t (by rw [z]; rfl) (nm_r (nI_1 _) (br_f (nI_pos (by omega)) (br_t (nI_le (by omega) (by omega)) (nm_r (nI_1 k) H))))
    · rw [if_neg (by omega)] at eS
      rw [eS, tb_tiG e z] at H
      refine br_f (fun w => ?_) (br_f (nI_pos (by omega)) (br_t (nI_le (by omega) (by omega)) (nm_r (nI_1 k) H)))
      have w2 := (nI_eq (by omega) (by omega)).mp w
      omega
theorem tb_lo38 {post : SY → Prop} {lim : Int32} (hn : 2 ≤ n) (n7 : n ≤ 7) (hp : ∀ r, pr r ≤ 40) (hw2 : ∀ r, hw r ≤ 2) (hc : ∀ a b, a < n → b < n → a ≠ b → ac (a * 7 + b) = nI (pr (tb_tr a b))) (hh : ∀ a b, a < 7 → b < 7 → ah (a * 7 + b) = nI (tb_H hw a b)) (K : ∀ lf' ro' us' : Nat → Int32, post (nI n, tb_ol n pr (tb_bs (tb_aY n hw) (tb_pX n pr) (tb_fc (n - 1))), tb_oc n (tb_bs (tb_aY n hw) (tb_pX n pr) (tb_fc (n - 1))), nI (tb_ti (tb_aY n hw) (tb_pX n pr) (tb_fc (n - 1))), nI (tb_cn (tb_aY n hw) (tb_fc (n - 1))), nI (tb_cn (tb_wY n pr hw lim) (tb_fc (n - 1))), ac, ah, lf', ro', us', jo)) : ∀ (m k fuel : Nat) (lf ro us : Nat → Int32), k + m = tb_fc (n - 1) → m < fuel → wY_look_38 post lim (nI (tb_fc (n - 1))) fuel (nI k) (nI n) (tb_ol n pr (tb_bs (tb_aY n hw) (tb_pX n pr) k)) (tb_oc n (tb_bs (tb_aY n hw) (tb_pX n pr) k)) (nI (tb_ti (tb_aY n hw) (tb_pX n pr) k)) (nI (tb_cn (tb_aY n hw) k)) (nI (tb_cn (tb_wY n pr hw lim) k)) ac ah lf ro us jo := by
  have h5 := tb_fc5 n7
  intro m
  induction m with
  | zero =>
    intro k fuel lf ro us hk hf
    obtain ⟨f, rfl⟩ : ∃ f, fuel = f + 1 := ⟨fuel - 1, by omega⟩
    have hk : k = tb_fc (n - 1) := by omega
    rw [hk]
    exact br_t (nI_le (Nat.le_refl _) (by omega)) (K lf ro us)
  | succ m ih =>
    intro k fuel lf ro us hk hf
    obtain ⟨f, rfl⟩ : ∃ f, fuel = f + 1 := ⟨fuel - 1, by omega⟩
    have hk2 : k < tb_fc (n - 1) := by omega
    have h0 := tb_D00 (n := n) (by omega) hk2
    have hd := tb_Dp n k
    refine br_f (nI_ge (by omega) (by omega)) ?_
    refine tb_toW hn n7 hk2 (fun lf' ro' hro => ?_)
    refine tb_raW hn n7 hd h0 hro hw2 hh (fun hal us' => ?_) (fun hal us' => ?_)
    · have ha : tb_aY n hw k = true := tb_BT.mpr hal
      have IH := ih (k + 1) f lf' ro' us' (by omega) (by omega)
      rw [tb_cnT (p := tb_aY n hw) ha] at IH
      refine br_f (by decide) ?_
      refine tb_prW hn n7 hd h0 hro hc (nm_r (nI_1 _) (br_c (fun z => ?_) (fun z => nm_r (nI_1 _) ?_)))
      · have e : tb_wY n pr hw lim k = false := by
          unfold tb_wY tb_pX
          rw [decide_eq_true z]
          simp
        rw [tb_cnF e] at IH
        exact tb_lo90 hn n7 hp hk2 ha hro IH
      · have e : tb_wY n pr hw lim k = true := by
          unfold tb_wY tb_pX
          rw [decide_eq_false z, ha]
          rfl
        rw [tb_cnT e] at IH
        exact tb_lo90 hn n7 hp hk2 ha hro IH
    · have ha : tb_aY n hw k = false := tb_BF.mpr hal
      have IH := ih (k + 1) f lf' ro' us' (by omega) (by omega)
      have e : tb_wY n pr hw lim k = false := by
        unfold tb_wY
        rw [ha]
        rfl
      rw [tb_cnF (p := tb_aY n hw) ha, tb_cnF e, tb_bs0 ha, tb_tiF ha] at IH
      exact br_t rfl (nm_r (nI_1 k) IH)
theorem tb_loW {post : SY → Prop} {lim le lc ti fi ch : Int32} {lf ro us : Nat → Int32} (hn : 2 ≤ n) (n7 : n ≤ 7) (hp : ∀ r, pr r ≤ 40) (hw2 : ∀ r, hw r ≤ 2) (hc : ∀ a b, a < n → b < n → a ≠ b → ac (a * 7 + b) = nI (pr (tb_tr a b))) (hh : ∀ a b, a < 7 → b < 7 → ah (a * 7 + b) = nI (tb_H hw a b)) (K : ∀ lf' ro' us' : Nat → Int32, post (nI n, tb_ol n pr (tb_bs (tb_aY n hw) (tb_pX n pr) (tb_fc (n - 1))), tb_oc n (tb_bs (tb_aY n hw) (tb_pX n pr) (tb_fc (n - 1))), nI (tb_ti (tb_aY n hw) (tb_pX n pr) (tb_fc (n - 1))), nI (tb_cn (tb_aY n hw) (tb_fc (n - 1))), nI (tb_cn (tb_wY n pr hw lim) (tb_fc (n - 1))), ac, ah, lf', ro', us', jo)) : wpY_look post (nI n, le, lc, ti, fi, ch, ac, ah, lf, ro, us, jo) lim := by
  unfold wpY_look
  have e1 : nI n - 1 = nI (n - 1) := pk_sub (b := 1) (by omega)
  dsimp only
  rw [e1]
  refine tb_orW (by omega) ⟨tb_fc (n - 1) + 1, ?_⟩
  exact tb_lo38 hn n7 hp hw2 hc hh K (tb_fc (n - 1)) 0 (tb_fc (n - 1) + 1) lf ro us (by omega) (by omega)
end TBA
end
section
section TBC
/-! Y: read -/
variable {le lc ti fi ch : Int32} {ac ah lf us jo : Nat → Int32} {n : Nat} {d : Nat → Nat}
theorem tb_rd80 {post : Int32 → SY → Prop} {J66 : Int32 → Prop} {ro : Nat → Int32} {v : Nat} (n7 : n ≤ 7) (hn : 2 ≤ n) (h7 : ∀ t, d t < 7) (hv : v < n) (hr : ∀ t, t < n → ro t = nI (d t)) (h1 : tb_cn (fun s => decide (d (s + 1) = v)) (n - 1) = 1 → J66 (nI (v + 1))) (h0 : tb_cn (fun s => decide (d (s + 1) = v)) (n - 1) ≠ 1 → post 0 (nI n, le, lc, ti, fi, ch, ac, ah, lf, ro, us, jo)) : ∀ (m s fuel : Nat), s + m = n - 1 → m < fuel → wY_read_80 post J66 (nI v) (nI n) le lc ti fi ch ac ah lf ro us jo fuel (nI (tb_cn (fun s => decide (d (s + 1) = v)) s)) (nI (s + 1)) := by
  intro m
  induction m with
  | zero =>
    intro s fuel hs hf
    obtain ⟨f, rfl⟩ : ∃ f, fuel = f + 1 := ⟨fuel - 1, by omega⟩
    have e : s = n - 1 := by omega
    rw [e]
    have hl := tb_cnL (fun s => decide (d (s + 1) = v)) (n - 1)
    refine br_t (nI_le (by omega) (by omega)) (br_c (fun z => nm_r (nI_1 v) (h1 ?_)) (fun z => h0 (fun w => z ?_)))
    · exact (nI_eq (b := 1) (by omega) (by decide)).mp z
    · rw [w]
      rfl
  | succ m ih =>
    intro s fuel hs hf
    obtain ⟨f, rfl⟩ : ∃ f, fuel = f + 1 := ⟨fuel - 1, by omega⟩
    have ea : ro (nI (s + 1)).toNatClampNeg = nI (d (s + 1)) := by rw [nI_clamp (by omega), hr (s + 1) (by omega)]
    have hd := h7 (s + 1)
    have IH := ih (s + 1) f (by omega) (by omega)
    refine br_f (nI_ge (by omega) (by omega)) ⟨vp_in_nI (by omega) (by omega), ?_⟩
    rw [ea]
    refine br_c (fun z => nm_r (nI_1 _) (nm_r (nI_1 (s + 1)) ?_)) (fun z => nm_r (nI_1 (s + 1)) ?_)
    · have e : d (s + 1) = v := (nI_eq (by omega) (by omega)).mp z
      rw [tb_cnT (p := fun s => decide (d (s + 1) = v)) (decide_eq_true e)] at IH
      exact IH
    · have e : ¬ d (s + 1) = v := fun w => z (by rw [w])
      rw [tb_cnF (p := fun s => decide (d (s + 1) = v)) (decide_eq_false e)] at IH
      exact IH
theorem tb_rd66 {post : Int32 → SY → Prop} {ro : Nat → Int32} (n7 : n ≤ 7) (hn : 2 ≤ n) (h7 : ∀ t, d t < 7) (hr : ∀ t, t < n → ro t = nI (d t)) (h1 : (∀ v, 1 ≤ v → v < n → tb_cn (fun s => decide (d (s + 1) = v)) (n - 1) = 1) → post 1 (nI n, le, lc, ti, fi, ch, ac, ah, lf, ro, us, jo)) (h0 : ∀ v, 1 ≤ v → v < n → tb_cn (fun s => decide (d (s + 1) = v)) (n - 1) ≠ 1 → post 0 (nI n, le, lc, ti, fi, ch, ac, ah, lf, ro, us, jo)) : ∀ (m v fuel : Nat), v + m = n → 1 ≤ v → m < fuel → (∀ w, 1 ≤ w → w < v → tb_cn (fun s => decide (d (s + 1) = w)) (n - 1) = 1) → wY_read_66 post (nI n) le lc ti fi ch ac ah lf ro us jo fuel (nI v) := by
  intro m
  induction m with
  | zero =>
    intro v fuel hv _ hf hw
    obtain ⟨f, rfl⟩ : ∃ f, fuel = f + 1 := ⟨fuel - 1, by omega⟩
    have e : v = n := by omega
    rw [e] at hw ⊢
    exact br_t (nI_le (Nat.le_refl _) (by omega)) (h1 hw)
  | succ m ih =>
    intro v fuel hv v1 hf hw
    obtain ⟨f, rfl⟩ : ∃ f, fuel = f + 1 := ⟨fuel - 1, by omega⟩
    refine br_f (nI_ge (by omega) (by omega)) ⟨n, ?_⟩
    refine tb_rd80 n7 hn h7 (by omega) hr (fun z => ih (v + 1) f (by omega) (by omega) (by omega) (fun w w1 w2 => ?_)) (fun z => h0 v v1 (by omega) z) (n - 1) 0 n (by omega) (by omega)
    rcases Nat.lt_or_ge w v with y | y
    · exact hw w w1 y
    · have e : w = v := by omega
      rw [e]
      exact z
theorem tb_rd15 {post : Int32 → SY → Prop} {c : Nat} (hn : 2 ≤ n) (n7 : n ≤ 7) (hc : c < 2 ^ 31) (h1 : c < 7 ^ (n - 1) → tb_pm n (tb_dg n c) → ∀ ro' : Nat → Int32, (∀ t, t ≤ n → ro' t = nI (tb_cy n (tb_dg n c) t)) → post 1 (nI n, le, lc, ti, fi, ch, ac, ah, lf, ro', us, jo)) (h0 : ¬ (c < 7 ^ (n - 1) ∧ tb_pm n (tb_dg n c)) → ∀ ro' : Nat → Int32, post 0 (nI n, le, lc, ti, fi, ch, ac, ah, lf, ro', us, jo)) : ∀ (t fuel : Nat) (ro : Nat → Int32), t < n → t < fuel → (∀ s, t < s → s < n → ro s = nI (tb_dg n c s)) → wY_read_15 post (nI n) le lc ti fi ch fuel (nI (c / 7 ^ (n - 1 - t))) (nI t) ac ah lf ro us jo := by
  intro t
  induction t with
  | zero =>
    intro fuel ro ht hf hr
    obtain ⟨f, rfl⟩ : ∃ f, fuel = f + 1 := ⟨fuel - 1, by omega⟩
    have hcl : c / 7 ^ (n - 1 - 0) < 2 ^ 31 := Nat.lt_of_le_of_lt (Nat.div_le_self _ _) hc
    have p0 : 0 < 7 ^ (n - 1) := Nat.pow_pos (by decide)
    refine br_t (nI_lt (b := 1) (by omega) (by decide)) (br_c (fun z => nm_e ⟨vp_in_nI (by omega) (by omega), nm_r (e' := upd (upd ro 0 0) n 0) (by rw [nI_clamp (by omega)]) ⟨n, ?_⟩⟩) (fun z => h0 (fun w => z ?_) ro))
    · have z2 : c / 7 ^ (n - 1) = 0 := (nI_eq (b := 0) hcl (by decide)).mp z
      have z3 : c < 7 ^ (n - 1) := by
        rcases Nat.lt_or_ge c (7 ^ (n - 1)) with y | y
        · exact y
        · have := Nat.div_pos y p0
          omega
      have d0 := tb_dg0 (n := n) z3
      have hr2 : ∀ t, t ≤ n → upd (upd ro 0 0) n 0 t = nI (tb_cy n (tb_dg n c) t) := by
        intro t ht
        by_cases y : t = n
        · rw [y, pk_us, tb_cyE]
          rfl
        · rw [pk_un y, tb_cyL (by omega)]
          by_cases y2 : t = 0
          · rw [y2, pk_us, d0]
            rfl
          · rw [pk_un y2]
            exact hr t (by omega) (by omega)
      have hE := tb_rdE (n := n) (d := tb_dg n c) hn d0
      refine tb_rd66 (d := tb_dg n c) n7 hn (tb_dg7 n c) (fun t ht => by rw [hr2 t (by omega), tb_cyL ht]) (fun H => h1 z3 (hE.mpr H) _ hr2) (fun v v1 v2 H => h0 (fun w => H (hE.mp w.2 v v1 v2)) _) (n - 1) 1 n (by omega) (by omega) (by omega) (fun w w1 w2 => absurd w1 (by omega))
    · have : c / 7 ^ (n - 1 - 0) = 0 := Nat.div_eq_of_lt w.1
      rw [this]
      rfl
  | succ t ih =>
    intro fuel ro ht hf hr
    obtain ⟨f, rfl⟩ : ∃ f, fuel = f + 1 := ⟨fuel - 1, by omega⟩
    have hcl : c / 7 ^ (n - 1 - (t + 1)) < 2 ^ 31 := Nat.lt_of_le_of_lt (Nat.div_le_self _ _) hc
    obtain ⟨q1, q2⟩ := tb_r7 hcl
    have e : 7 ^ (n - 1 - t) = 7 ^ (n - 1 - (t + 1)) * 7 := by
      rw [← Nat.pow_succ]
      congr 1
      omega
    have e2 : c / 7 ^ (n - 1 - (t + 1)) / 7 = c / 7 ^ (n - 1 - t) := by rw [e, Nat.div_div_eq_div_mul]
    rw [e2] at q1
    refine br_f (nI_nlt (b := 1) (by omega) (by omega)) ⟨by decide, vp_in_nI (by omega) (by omega), nm_r (e' := upd ro (t + 1) (nI (tb_dg n c (t + 1)))) (by rw [nI_clamp (by omega), q2]; rfl) ⟨by decide, nm_r q1 (nm_r (pk_m1 t) ?_)⟩⟩
    refine ih f _ (by omega) (by omega) (fun s s1 s2 => ?_)
    by_cases y : s = t + 1
    · rw [y, pk_us]
    · rw [pk_un y]
      exact hr s (by omega) s2
theorem tb_rdW {post : Int32 → SY → Prop} {x : Int32} {ro : Nat → Int32} (hn : 2 ≤ n) (n7 : n ≤ 7) (h1 : ∀ c, x = nI c → c < 7 ^ (n - 1) → tb_pm n (tb_dg n c) → ∀ ro' : Nat → Int32, (∀ t, t ≤ n → ro' t = nI (tb_cy n (tb_dg n c) t)) → post 1 (nI n, le, lc, ti, fi, ch, ac, ah, lf, ro', us, jo)) (h0 : ¬ (∃ c, x = nI c ∧ c < 7 ^ (n - 1) ∧ tb_pm n (tb_dg n c)) → ∀ ro' : Nat → Int32, post 0 (nI n, le, lc, ti, fi, ch, ac, ah, lf, ro', us, jo)) : wpY_read post (nI n, le, lc, ti, fi, ch, ac, ah, lf, ro, us, jo) x := by
  have h7 := tb_p7 (n - 1) (by omega)
  refine br_c (fun z => ?_) (fun z => h0 ?_ ro)
  · obtain ⟨c, hc, rfl⟩ := nI_of (x := x) (Int32.not_lt.mpr z)
    have e1 : nI n - 1 = nI (n - 1) := pk_sub (b := 1) (by omega)
    refine nm_r e1 ⟨n, ?_⟩
    have H := tb_rd15 (post := post) (le := le) (lc := lc) (ti := ti) (fi := fi) (ch := ch) (ac := ac) (ah := ah) (lf := lf) (us := us) (jo := jo) hn n7 hc (fun a b => h1 c rfl a b) (fun w => h0 (fun ⟨c', e, a, b⟩ => w ?_)) (n - 1) n ro (by omega) (by omega) (fun s s1 s2 => absurd s1 (by omega))
    · rw [Nat.sub_self, Nat.pow_zero, Nat.div_one] at H
      exact H
    · have : c = c' := (nI_eq hc (by omega)).mp e
      rw [this]
      exact ⟨a, b⟩
  · rintro ⟨c, e, a, _⟩
    exact z (by rw [e]; exact nI_pos' (by omega))
end TBC
end
section
section TBD
/-! Y: path, bestPath -/
variable {le lc ti fi ch : Int32} {ac ah us jo : Nat → Int32} {n : Nat} {pr hw : Nat → Nat} {d : Nat → Nat}
theorem tb_pp4 {post : Int32 → Prop} {lf ro : Nat → Int32} (hn : 2 ≤ n) (n7 : n ≤ 7) (hd : tb_pm n d) (hr : ∀ t, t < n → ro t = nI (d t)) (hw2 : ∀ r, hw r ≤ 2) (hc : ∀ a b, a < n → b < n → a ≠ b → ac (a * 7 + b) = nI (pr (tb_tr a b))) (hh : ∀ a b, a < 7 → b < 7 → ah (a * 7 + b) = nI (tb_H hw a b)) (h1 : (∀ r, tb_pu n d r → hw r ≠ 2) → post (nI (tb_pp n pr d))) (h0 : ∀ r, tb_pu n d r → hw r = 2 → post (-1)) : ∀ (m t fuel : Nat), t + m = n - 1 → m < fuel → (∀ s, s < t → hw (tb_tr (d s) (d (s + 1))) ≠ 2) → wY_priceOfPath_4 post (nI n) le lc ti fi ch ac ah lf ro us jo fuel (nI (tb_sm (fun t => pr (tb_tr (d t) (d (t + 1)))) t)) (nI t) := by
  intro m
  induction m with
  | zero =>
    intro t fuel ht hf hs
    obtain ⟨f, rfl⟩ : ∃ f, fuel = f + 1 := ⟨fuel - 1, by omega⟩
    have e : t = n - 1 := by omega
    have c : nI n ≤ nI t + 1 := by
      rw [nI_1]
      exact nI_le (by omega) (by omega)
    rw [e] at c hs ⊢
    refine br_t c (h1 ?_)
    rintro r ⟨s, s1, rfl⟩
    exact hs s (by omega)
  | succ m ih =>
    intro t fuel ht hf hs
    obtain ⟨f, rfl⟩ : ∃ f, fuel = f + 1 := ⟨fuel - 1, by omega⟩
    have c : ¬ nI n ≤ nI t + 1 := by
      rw [nI_1]
      exact nI_ge (by omega) (by omega)
    have a1 := hd.1 t (by omega)
    have a2 := hd.1 (t + 1) (by omega)
    have a3 : d t ≠ d (t + 1) := fun z => by
      have := hd.2 t (t + 1) (by omega) (by omega) z
      omega
    have i1 : vp_in (nI t + 1) 8 := by
      rw [nI_1]
      exact vp_in_nI (by omega) (by omega)
    have ix : ro (nI t).toNatClampNeg * 7 + ro (nI t + 1).toNatClampNeg = nI (d t * 7 + d (t + 1)) := by
      rw [nI_1, nI_clamp (by omega), nI_clamp (by omega), hr t (by omega), hr (t + 1) (by omega)]
      exact tb_ix _ (by omega) _ (by omega)
    have i2 : vp_in (nI (d t * 7 + d (t + 1))) 49 := vp_in_nI (by omega) (by omega)
    have eh : ah (nI (d t * 7 + d (t + 1))).toNatClampNeg = nI (hw (tb_tr (d t) (d (t + 1)))) := by
      rw [nI_clamp (by omega), hh _ _ (by omega) (by omega)]
      unfold tb_H
      rw [if_neg a3]
    have ec : ac (nI (d t * 7 + d (t + 1))).toNatClampNeg = nI (pr (tb_tr (d t) (d (t + 1)))) := by rw [nI_clamp (by omega), hc _ _ a1 a2 a3]
    have hl := hw2 (tb_tr (d t) (d (t + 1)))
    refine br_f c ⟨vp_in_nI (by omega) (by omega), i1, nm_r ix ⟨i2, ?_⟩⟩
    rw [eh]
    refine br_c (fun z => h0 _ ⟨t, by omega, rfl⟩ ((nI_eq (b := 2) (by omega) (by decide)).mp z)) (fun z => ⟨i2, nm_r (e' := nI (tb_sm (fun t => pr (tb_tr (d t) (d (t + 1)))) (t + 1))) (by rw [ec, nI_add]; rfl) (nm_r (nI_1 t) ?_)⟩)
    refine ih (t + 1) f (by omega) (by omega) (fun s hs2 => ?_)
    rcases Nat.lt_or_ge s t with y | y
    · exact hs s y
    · have e : s = t := by omega
      rw [e]
      intro w
      exact z (by rw [w]; rfl)
theorem tb_ppW {post : Int32 → Prop} {lf ro : Nat → Int32} (hn : 2 ≤ n) (n7 : n ≤ 7) (hd : tb_pm n d) (hr : ∀ t, t < n → ro t = nI (d t)) (hw2 : ∀ r, hw r ≤ 2) (hc : ∀ a b, a < n → b < n → a ≠ b → ac (a * 7 + b) = nI (pr (tb_tr a b))) (hh : ∀ a b, a < 7 → b < 7 → ah (a * 7 + b) = nI (tb_H hw a b)) (h1 : (∀ r, tb_pu n d r → hw r ≠ 2) → post (nI (tb_pp n pr d))) (h0 : ∀ r, tb_pu n d r → hw r = 2 → post (-1)) : wpY_priceOfPath post (nI n, le, lc, ti, fi, ch, ac, ah, lf, ro, us, jo) :=
  ⟨n, tb_pp4 hn n7 hd hr hw2 hc hh h1 h0 (n - 1) 0 n (by omega) (by omega) (fun s hs => absurd hs (by omega))⟩
theorem tb_unLe (t : Nat) (p : List Nat) : (tb_un t p).length ≤ t := by
  rw [tb_lkN]
  exact tb_lkL p t
/-- what Y's k-th way from a to b gives -/
def tb_YT (n : Nat) (pr hw : Nat → Nat) (a b k w : Nat) : Prop := (∀ r, tb_pu n (tb_R n a b k) r → hw r ≠ 2) ∧ tb_pp n pr (tb_R n a b k) = w
theorem tb_pa57 {post : Int32 → SY → Prop} {J44 : Int32 → Int32 → Int32 → Int32 → Int32 → Int32 → Int32 → Int32 → (Nat → Int32) → (Nat → Int32) → (Nat → Int32) → (Nat → Int32) → (Nat → Int32) → (Nat → Int32) → Prop} {x4 : Int32} {a b k : Nat} {r : Option Nat} {ro : Nat → Int32} (hn : 2 ≤ n) (n7 : n ≤ 7) (hp : ∀ r, pr r ≤ 40) (hw2 : ∀ r, hw r ≤ 2) (hc : ∀ a b, a < n → b < n → a ≠ b → ac (a * 7 + b) = nI (pr (tb_tr a b))) (hh : ∀ a b, a < 7 → b < 7 → ah (a * 7 + b) = nI (tb_H hw a b)) (ha : a < n) (hb : b < n) (hab : a ≠ b) (hk : k < tb_fc (n - 2)) (hr240 : ∀ v, r = some v → v ≤ 240) (K : ∀ (q : Option Nat) (lf' ro' : Nat → Int32), tb_Mn (tb_YT n pr hw a b k) q → J44 (tb_oi (tb_mi r q)) (nI (k + 1)) (nI n) le lc ti fi ch ac ah lf' ro' us jo) : ∀ (m t fuel : Nat) (lf : Nat → Int32), t + m = n → m < fuel → (∀ q, q < (tb_un t [a, b]).length → lf q = nI ((tb_un t [a, b]).getD q 0)) → wY_path_57 post J44 (nI a) (nI b) (tb_oi r) x4 (nI k) (nI n) le lc ti fi ch fuel (nI (tb_un t [a, b]).length) (nI t) ac ah lf ro us jo := by
  intro m
  induction m with
  | zero =>
    intro t fuel lf ht hf hl
    obtain ⟨f, rfl⟩ : ∃ f, fuel = f + 1 := ⟨fuel - 1, by omega⟩
    have e : t = n := by omega
    subst e
    rw [tb_unL2 ha hb hab] at hl ⊢
    refine br_t (nI_le (Nat.le_refl _) (by omega)) ?_
    refine tb_arW (l := tb_un t [a, b]) (fr := 1) (by omega) (by omega) (tb_unL2 ha hb hab) hk hl (fun lf' ro' h' => ?_)
    have e1 : nI t - 1 = nI (t - 1) := pk_sub (b := 1) (by omega)
    have i1 : vp_in (nI t - 1) 8 := by
      rw [e1]
      exact vp_in_nI (by omega) (by omega)
    refine nm_e ⟨i1, nm_r (e' := upd (upd ro' 0 (nI a)) (t - 1) (nI b)) (by rw [e1, nI_clamp (by omega)]) ?_⟩
    have hR := tb_Rp ha hb hab hk
    have hrr : ∀ s, s < t → upd (upd ro' 0 (nI a)) (t - 1) (nI b) s = nI (tb_R t a b k s) := by
      intro s hs
      unfold tb_R
      by_cases y2 : s = t - 1
      · rw [y2, pk_us, if_neg (by omega), if_pos rfl]
      · rw [pk_un y2]
        by_cases y1 : s = 0
        · rw [y1, pk_us, if_pos rfl]
        · rw [pk_un y1, if_neg y1, if_neg y2]
          have e2 : 1 + (s - 1) = s := by omega
          have := h' (s - 1) (by omega)
          rw [e2] at this
          exact this
    have hpp := tb_ppB (n := t) hp n7 (tb_R t a b k)
    refine tb_ppW (d := tb_R t a b k) hn n7 hR hrr hw2 hc hh (fun z => ?_) (fun r1 z1 z2 => ?_)
    · have S := K (some (tb_pp t pr (tb_R t a b k))) lf' (upd (upd ro' 0 (nI a)) (t - 1) (nI b)) ⟨⟨z, rfl⟩, fun w hw => Nat.le_of_eq hw.2⟩
      refine br_f (nI_pos (by omega)) ?_
      cases r with
      | none => exact br_t (by decide : (-3 : Int32) < 0) (nm_r (nI_1 k) S)
      | some v =>
        have hv := hr240 v rfl
        refine br_f (nI_pos (by omega)) (pk_le v (tb_pp t pr (tb_R t a b k)) (fun w => nm_r (nI_1 k) ?_) (fun w => nm_r (nI_1 k) ?_))
        · have e : tb_mi (some v) (some (tb_pp t pr (tb_R t a b k))) = some v := if_neg (by omega)
          rw [e] at S
          exact S
        · have e : tb_mi (some v) (some (tb_pp t pr (tb_R t a b k))) = some (tb_pp t pr (tb_R t a b k)) := if_pos (by omega)
          rw [e] at S
          exact S
    · have S := K none lf' (upd (upd ro' 0 (nI a)) (t - 1) (nI b)) (fun w hw => hw.1 r1 z1 z2)
      rw [tb_miN] at S
      exact br_t (by decide) (nm_r (nI_1 k) S)
  | succ m ih =>
    intro t fuel lf ht hf hl
    obtain ⟨f, rfl⟩ : ∃ f, fuel = f + 1 := ⟨fuel - 1, by omega⟩
    have IH := fun lf => ih (t + 1) f lf (by omega) (by omega)
    have hle := tb_unLe t [a, b]
    rw [tb_unS] at IH
    refine br_f (nI_ge (by omega) (by omega)) (br_c (fun z => nm_r (nI_1 t) ?_) (fun z => br_c (fun z2 => nm_r (nI_1 t) ?_) (fun z2 => ⟨vp_in_nI (by omega) (by omega), nm_r (e' := upd lf (tb_un t [a, b]).length (nI t)) (by rw [nI_clamp (by omega)]) (nm_r (nI_1 _) (nm_r (nI_1 t) ?_))⟩)))
    · have e : t = a := (nI_eq (by omega) (by omega)).mp z
      rw [if_pos (by rw [e]; exact List.mem_cons_self)] at IH
      exact IH lf hl
    · have e : t = b := (nI_eq (by omega) (by omega)).mp z2
      rw [if_pos (by rw [e]; exact List.mem_cons_of_mem _ List.mem_cons_self)] at IH
      exact IH lf hl
    · have e1 : t ≠ a := fun w => z (by rw [w])
      have e2 : t ≠ b := fun w => z2 (by rw [w])
      rw [if_neg (by simp [e1, e2])] at IH
      have I2 := IH (upd lf (tb_un t [a, b]).length (nI t)) (fun q hq => by
        rw [List.length_append, List.length_singleton] at hq
        by_cases y : q = (tb_un t [a, b]).length
        · rw [y, pk_us, List.getD_eq_getElem?_getD, List.getElem?_append_right (Nat.le_refl _), Nat.sub_self]
          rfl
        · rw [pk_un y, hl q (by omega), List.getD_eq_getElem?_getD, List.getD_eq_getElem?_getD, List.getElem?_append_left (by omega)])
      rw [List.length_append, List.length_singleton] at I2
      exact I2
theorem tb_pa44 {post : Int32 → SY → Prop} {a b : Nat} (hn : 2 ≤ n) (n7 : n ≤ 7) (hp : ∀ r, pr r ≤ 40) (hw2 : ∀ r, hw r ≤ 2) (hc : ∀ a b, a < n → b < n → a ≠ b → ac (a * 7 + b) = nI (pr (tb_tr a b))) (hh : ∀ a b, a < 7 → b < 7 → ah (a * 7 + b) = nI (tb_H hw a b)) (ha : a < n) (hb : b < n) (hab : a ≠ b) (K : ∀ (r : Option Nat) (lf' ro' : Nat → Int32), tb_Mn (fun w => ∃ k, k < tb_fc (n - 2) ∧ tb_YT n pr hw a b k w) r → post (tb_oi r) (nI n, le, lc, ti, fi, ch, ac, ah, lf', ro', us, jo)) : ∀ (m k fuel : Nat) (r : Option Nat) (lf ro : Nat → Int32), k + m = tb_fc (n - 2) → m < fuel → tb_Mn (fun w => ∃ j, j < k ∧ tb_YT n pr hw a b j w) r → wY_path_44 post (nI a) (nI b) (nI (tb_fc (n - 2))) fuel (tb_oi r) (nI k) (nI n) le lc ti fi ch ac ah lf ro us jo := by
  have h5 := (tb_fcV (n - 2) (by omega)).1
  intro m
  induction m with
  | zero =>
    intro k fuel r lf ro hk hf hM
    obtain ⟨f, rfl⟩ : ∃ f, fuel = f + 1 := ⟨fuel - 1, by omega⟩
    have e : k = tb_fc (n - 2) := by omega
    rw [e] at hM ⊢
    exact br_t (nI_le (Nat.le_refl _) (by omega)) (K r lf ro hM)
  | succ m ih =>
    intro k fuel r lf ro hk hf hM
    obtain ⟨f, rfl⟩ : ∃ f, fuel = f + 1 := ⟨fuel - 1, by omega⟩
    refine br_f (nI_ge (by omega) (by omega)) ⟨n + 1, ?_⟩
    refine tb_pa57 hn n7 hp hw2 hc hh ha hb hab (by omega) (fun v e => ?_) (fun q lf' ro' hq => ih (k + 1) f _ lf' ro' (by omega) (by omega) (tb_MnM (fun w => ?_) hM hq)) n 0 (n + 1) lf (by omega) (by omega) (fun q hq => absurd hq (Nat.not_lt_zero q))
    · rw [e] at hM
      obtain ⟨j, _, h3⟩ := hM.1
      rw [← h3.2]
      exact tb_ppB hp n7 _
    · constructor
      · rintro ⟨j, h1, h2⟩
        rcases Nat.lt_or_ge j k with z | z
        · exact Or.inl ⟨j, z, h2⟩
        · have e : j = k := by omega
          rw [e] at h2
          exact Or.inr h2
      · rintro (⟨j, h1, h2⟩ | h2)
        · exact ⟨j, by omega, h2⟩
        · exact ⟨k, by omega, h2⟩
theorem tb_bdW {post : Int32 → Prop} {lf ro : Nat → Int32} {x : Int32} (n7 : n ≤ 7) (hg : (∃ a, a < n ∧ x = nI a) → post 0) (hb : ¬ (∃ a, a < n ∧ x = nI a) → post 1) : wpY_bad post (nI n, le, lc, ti, fi, ch, ac, ah, lf, ro, us, jo) x := by
  rcases pk_ix x (n := n) (by omega) with z | z | ⟨j, hj, rfl⟩
  · refine br_t z (hb ?_)
    rintro ⟨a, ha, rfl⟩
    exact nI_pos (by omega) z
  · have h0 : ¬ x < 0 := Int32.not_lt.mpr (Int32.le_trans (nI_pos' (by omega)) z)
    refine br_f h0 (br_f (Int32.not_lt.mpr z) (hb ?_))
    rintro ⟨a, ha, rfl⟩
    exact nI_ge ha (by omega) z
  · exact br_f (nI_pos (by omega)) (br_t (nI_lt hj (by omega)) (hg ⟨j, hj, rfl⟩))
theorem tb_paG {post : Int32 → SY → Prop} {a b : Nat} {lf ro : Nat → Int32} (hn : 2 ≤ n) (n7 : n ≤ 7) (hp : ∀ r, pr r ≤ 40) (hw2 : ∀ r, hw r ≤ 2) (hc : ∀ a b, a < n → b < n → a ≠ b → ac (a * 7 + b) = nI (pr (tb_tr a b))) (hh : ∀ a b, a < 7 → b < 7 → ah (a * 7 + b) = nI (tb_H hw a b)) (ha : a < n) (hb : b < n) (hab : a ≠ b) (K : ∀ (r : Option Nat) (lf' ro' : Nat → Int32), tb_Mn (tb_SP n pr hw a b) r → post (tb_oi r) (nI n, le, lc, ti, fi, ch, ac, ah, lf', ro', us, jo)) : wpY_path post (nI n, le, lc, ti, fi, ch, ac, ah, lf, ro, us, jo) (nI a) (nI b) := by
  unfold wpY_path
  refine tb_bdW n7 (fun _ => br_t rfl ?_) (fun z => absurd ⟨a, ha, rfl⟩ z)
  refine tb_bdW n7 (fun _ => br_t rfl ?_) (fun z => absurd ⟨b, hb, rfl⟩ z)
  have hne : ¬ nI a = nI b := fun z => hab ((nI_eq (by omega) (by omega)).mp z)
  refine br_f hne ?_
  have e1 : nI n - 2 = nI (n - 2) := pk_sub (b := 2) (by omega)
  rw [e1]
  refine tb_orW (by omega) ⟨tb_fc (n - 2) + 1, ?_⟩
  refine tb_pa44 hn n7 hp hw2 hc hh ha hb hab (fun r lf' ro' hM => K r lf' ro' (tb_MnE (fun w => ?_) hM)) (tb_fc (n - 2)) 0 (tb_fc (n - 2) + 1) none lf ro (by omega) (by omega) (fun w h => ?_)
  · constructor
    · rintro ⟨k, hk, h1, h2⟩
      refine ⟨tb_R n a b k, tb_Rp ha hb hab hk, rfl, ?_, h1, h2⟩
      unfold tb_R
      rw [if_neg (by omega), if_pos rfl]
    · rintro ⟨d, hd, d0, d1, h1, h2⟩
      obtain ⟨k, hk, e⟩ := tb_RE hn hd
      rw [d0, d1] at e
      refine ⟨k, hk, fun r hr => h1 r ((tb_puG e r).mp hr), ?_⟩
      rw [tb_ppG e]
      exact h2
  · obtain ⟨j, hj, _⟩ := h
    exact absurd hj (Nat.not_lt_zero j)
theorem tb_by15 {post : Int32 → SY → Prop} {J5 : Int32 → Int32 → Int32 → Int32 → Int32 → Int32 → Int32 → Int32 → (Nat → Int32) → (Nat → Int32) → (Nat → Int32) → (Nat → Int32) → (Nat → Int32) → (Nat → Int32) → Prop} {b : Nat} (hn : 2 ≤ n) (n7 : n ≤ 7) (hp : ∀ r, pr r ≤ 40) (hw2 : ∀ r, hw r ≤ 2) (hc : ∀ a b, a < n → b < n → a ≠ b → ac (a * 7 + b) = nI (pr (tb_tr a b))) (hh : ∀ a b, a < 7 → b < 7 → ah (a * 7 + b) = nI (tb_H hw a b)) (hb : b < n) (K : ∀ (r : Option Nat) (lf' ro' : Nat → Int32), tb_Mn (tb_BP n pr hw b b) r → J5 (tb_oi r) (nI (b + 1)) (nI n) le lc ti fi ch ac ah lf' ro' us jo) : ∀ (m a fuel : Nat) (r : Option Nat) (lf ro : Nat → Int32), a + m = b → m < fuel → tb_Mn (tb_BP n pr hw b a) r → wY_bestPath_15 post J5 (nI b) fuel (tb_oi r) (nI a) (nI n) le lc ti fi ch ac ah lf ro us jo := by
  intro m
  induction m with
  | zero =>
    intro a fuel r lf ro ha2 hf hM
    obtain ⟨f, rfl⟩ : ∃ f, fuel = f + 1 := ⟨fuel - 1, by omega⟩
    have e : a = b := by omega
    rw [e] at hM ⊢
    exact br_t (nI_le (Nat.le_refl _) (by omega)) (nm_r (nI_1 b) (K r lf ro hM))
  | succ m ih =>
    intro a fuel r lf ro ha2 hf hM
    obtain ⟨f, rfl⟩ : ∃ f, fuel = f + 1 := ⟨fuel - 1, by omega⟩
    refine br_f (nI_ge (by omega) (by omega)) ?_
    refine tb_paG hn n7 hp hw2 hc hh hb (by omega) (by omega) (fun q lf' ro' hq => ?_)
    have hq2 : tb_Mn (tb_SP n pr hw a b) q := tb_MnE (fun w => ⟨tb_SPR, tb_SPR⟩) hq
    have S := ih (a + 1) f _ lf' ro' (by omega) (by omega) (tb_BPs (by omega) hM hq2)
    cases q with
    | none =>
      rw [tb_miN] at S
      exact br_t (by decide : (-3 : Int32) < 0) (nm_r (nI_1 a) S)
    | some p =>
      have hpp := tb_SPb hp n7 hq.1
      refine br_f (nI_pos (by omega)) ?_
      cases r with
      | none => exact br_t (by decide : (-3 : Int32) < 0) (nm_r (nI_1 a) S)
      | some v =>
        have hv := tb_BPb hp n7 hM.1
        refine br_f (nI_pos (by omega)) (pk_le v p (fun w => nm_r (nI_1 a) ?_) (fun w => nm_r (nI_1 a) ?_))
        · have e : tb_mi (some v) (some p) = some v := if_neg (by omega)
          rw [e] at S
          exact S
        · have e : tb_mi (some v) (some p) = some p := if_pos (by omega)
          rw [e] at S
          exact S
theorem tb_by5 {post : Int32 → SY → Prop} (hn : 2 ≤ n) (n7 : n ≤ 7) (hp : ∀ r, pr r ≤ 40) (hw2 : ∀ r, hw r ≤ 2) (hc : ∀ a b, a < n → b < n → a ≠ b → ac (a * 7 + b) = nI (pr (tb_tr a b))) (hh : ∀ a b, a < 7 → b < 7 → ah (a * 7 + b) = nI (tb_H hw a b)) (K : ∀ (r : Option Nat) (lf' ro' : Nat → Int32), tb_Mn (tb_BP n pr hw n 0) r → post (tb_oi r) (nI n, le, lc, ti, fi, ch, ac, ah, lf', ro', us, jo)) : ∀ (m b fuel : Nat) (r : Option Nat) (lf ro : Nat → Int32), b + m = n → m < fuel → tb_Mn (tb_BP n pr hw b 0) r → wY_bestPath_5 post fuel (tb_oi r) (nI b) (nI n) le lc ti fi ch ac ah lf ro us jo := by
  intro m
  induction m with
  | zero =>
    intro b fuel r lf ro hb hf hM
    obtain ⟨f, rfl⟩ : ∃ f, fuel = f + 1 := ⟨fuel - 1, by omega⟩
    have e : b = n := by omega
    rw [e] at hM ⊢
    exact br_t (nI_le (Nat.le_refl _) (by omega)) (K r lf ro hM)
  | succ m ih =>
    intro b fuel r lf ro hb hf hM
    obtain ⟨f, rfl⟩ : ∃ f, fuel = f + 1 := ⟨fuel - 1, by omega⟩
    refine br_f (nI_ge (by omega) (by omega)) ⟨b + 1, ?_⟩
    exact tb_by15 hn n7 hp hw2 hc hh (by omega) (fun r' lf' ro' hM' => ih (b + 1) f r' lf' ro' (by omega) (by omega) (tb_BPn hM')) b 0 (b + 1) r lf ro (by omega) (by omega) hM
theorem tb_byW {post : Int32 → SY → Prop} {lf ro : Nat → Int32} (hn : 2 ≤ n) (n7 : n ≤ 7) (hp : ∀ r, pr r ≤ 40) (hw2 : ∀ r, hw r ≤ 2) (hc : ∀ a b, a < n → b < n → a ≠ b → ac (a * 7 + b) = nI (pr (tb_tr a b))) (hh : ∀ a b, a < 7 → b < 7 → ah (a * 7 + b) = nI (tb_H hw a b)) (K : ∀ (r : Option Nat) (lf' ro' : Nat → Int32), tb_Mn (tb_BP n pr hw n 0) r → post (tb_oi r) (nI n, le, lc, ti, fi, ch, ac, ah, lf', ro', us, jo)) : wpY_bestPath post (nI n, le, lc, ti, fi, ch, ac, ah, lf, ro, us, jo) := by
  refine ⟨n + 1, tb_by5 hn n7 hp hw2 hc hh K n 0 (n + 1) none lf ro (by omega) (by omega) ?_⟩
  rintro w ⟨b', a', h1, h2, h3⟩
  omega
end TBD
end
section
section TBE
/-! Y: span by the table over masks -/
variable {le lc ti fi ch : Int32} {ac ah lf ro us : Nat → Int32} {n : Nat} {pr hw : Nat → Nat}
theorem tb_shb {x a : Nat} (hx : x < 2 ^ 31) (ha : a < 32) : (nI x >>> (nI a &&& 31)) &&& 1 = 1 ↔ x.testBit a = true := by
  rw [pk_shrN hx (nI a &&& 31) a (s_l a ha)]
  have e : nI (x / 2 ^ a) &&& 1 = nI (x / 2 ^ a % 2) := by
    show nI (x / 2 ^ a) &&& nI 1 = _
    rw [nx_and, Nat.and_one_is_mod]
  rw [e, Nat.testBit_eq_decide_div_mod_eq, decide_eq_true_iff]
  exact nI_eq (b := 1) (by omega) (by decide)
/-- the least road between two masks, the first k pairs tried -/
def tb_Bk (E : Nat → Nat → Nat → Prop) (x y k v : Nat) : Prop :=
  v ≤ 9999 ∧ (v < 9999 → ∃ a b, x.testBit a = true ∧ y.testBit b = true ∧ E a b v) ∧ ∀ a b e, a * 7 + b < k → x.testBit a = true → y.testBit b = true → E a b e → v ≤ e
theorem tb_be7 {post : Int32 → Prop} {jo : Nat → Int32} {x y : Nat} (n7 : n ≤ 7) (hp : ∀ r, pr r ≤ 40) (hw2 : ∀ r, hw r ≤ 2) (hc : ∀ a b, a < n → b < n → a ≠ b → ac (a * 7 + b) = nI (pr (tb_tr a b))) (hh : ∀ a b, a < 7 → b < 7 → ah (a * 7 + b) = nI (tb_H hw a b)) (hx : x < 2 ^ 31) (hy : y < 2 ^ 31) (xn : ∀ a, x.testBit a = true → a < n) (yn : ∀ a, y.testBit a = true → a < n) (hd : ∀ a, x.testBit a = true → ¬ y.testBit a = true) (K : ∀ v, tb_Bv (tb_E n pr hw) x y v → post (nI v)) : ∀ (m k fuel v : Nat), k + m = 49 → m < fuel → tb_Bk (tb_E n pr hw) x y k v → wY_between_7 post (nI x) (nI y) (nI n) le lc ti fi ch ac ah lf ro us jo fuel (nI v) (nI k) := by
  intro m
  induction m with
  | zero =>
    intro k fuel v hk hf hM
    obtain ⟨f, rfl⟩ : ∃ f, fuel = f + 1 := ⟨fuel - 1, by omega⟩
    have e : k = 49 := by omega
    subst e
    refine br_t (nI_le (a := 49) (Nat.le_refl _) (by decide)) (K v ⟨hM.1, hM.2.1, fun a b e ha hb he => ?_⟩)
    have h1 := xn a ha
    have h2 := yn b hb
    exact hM.2.2 a b e (by omega) ha hb he
  | succ m ih =>
    intro k fuel v hk hf hM
    obtain ⟨f, rfl⟩ : ∃ f, fuel = f + 1 := ⟨fuel - 1, by omega⟩
    obtain ⟨m1, m2, m3⟩ := hM
    obtain ⟨k1, k2⟩ := tb_kd k (by omega)
    have i1 : vp_in (nI k) 49 := vp_in_nI (by omega) (by omega)
    have keep : (∀ e, x.testBit (k / 7) = true → y.testBit (k % 7) = true → tb_E n pr hw (k / 7) (k % 7) e → v ≤ e) → wY_between_7 post (nI x) (nI y) (nI n) le lc ti fi ch ac ah lf ro us jo f (nI v) (nI (k + 1)) := fun hk2 => by
      refine ih (k + 1) f v (by omega) (by omega) ⟨m1, m2, fun a b e hab ha hb he => ?_⟩
      rcases Nat.lt_or_ge (a * 7 + b) k with z | z
      · exact m3 a b e z ha hb he
      · have h1 := yn b hb
        have e1 : a = k / 7 := by omega
        have e2 : b = k % 7 := by omega
        rw [e1] at ha he
        rw [e2] at hb he
        exact hk2 e ha hb he
    refine br_f (nI_ge (b := 49) (by omega) (by decide)) ⟨by decide, nm_r k1 ⟨by decide, nm_r k2 ?_⟩⟩
    have c1 := tb_shb (x := x) (a := k / 7) hx (by omega)
    have c2 := tb_shb (x := y) (a := k % 7) hy (by omega)
    refine br_c (fun z1 => br_c (fun z2 => ?_) (fun z2 => br_t rfl (nm_r (nI_1 k) (keep (fun e h1 h2 _ => absurd (c2.mpr h2) z2))))) (fun z1 => br_t rfl (nm_r (nI_1 k) (keep (fun e h1 _ _ => absurd (c1.mpr h1) z1))))
    have b1 := c1.mp z1
    have b2 := c2.mp z2
    have n1 := xn _ b1
    have n2 := yn _ b2
    have hne : k / 7 ≠ k % 7 := fun e => hd (k / 7) b1 (by rw [e]; exact b2)
    have ek : k / 7 * 7 + k % 7 = k := by omega
    have eh : ah (nI k).toNatClampNeg = nI (hw (tb_tr (k / 7) (k % 7))) := by
      have := hh (k / 7) (k % 7) (by omega) (by omega)
      unfold tb_H at this
      rw [ek, if_neg hne] at this
      rw [nI_clamp (by omega), this]
    have ec : ac (nI k).toNatClampNeg = nI (pr (tb_tr (k / 7) (k % 7))) := by
      have := hc (k / 7) (k % 7) n1 n2 hne
      rw [ek] at this
      rw [nI_clamp (by omega), this]
    have hl := hw2 (tb_tr (k / 7) (k % 7))
    have hp40 := hp (tb_tr (k / 7) (k % 7))
    refine br_f (by decide) ⟨i1, ?_⟩
    rw [eh]
    refine br_c (fun z => nm_r (nI_1 k) (keep (fun e _ _ he => ?_))) (fun z => ⟨i1, ?_⟩)
    · exact absurd ((nI_eq (b := 2) (by omega) (by decide)).mp z) he.2.2.2.1
    · have h2 : hw (tb_tr (k / 7) (k % 7)) ≠ 2 := fun w => z (by rw [w]; rfl)
      rw [ec]
      refine pk_le v (pr (tb_tr (k / 7) (k % 7))) (fun w => nm_r (nI_1 k) (keep (fun e _ _ he => ?_))) (fun w => ⟨i1, nm_e (nm_r (nI_1 k) ?_)⟩)
      · rw [he.2.2.2.2]
        exact w
      · refine ih (k + 1) f (pr (tb_tr (k / 7) (k % 7))) (by omega) (by omega) ⟨by omega, fun _ => ⟨k / 7, k % 7, b1, b2, n1, n2, hne, h2, rfl⟩, fun a b e hab ha hb he => ?_⟩
        rcases Nat.lt_or_ge (a * 7 + b) k with z | z
        · have := m3 a b e z ha hb he
          omega
        · have h1 := yn b hb
          have e1 : a = k / 7 := by omega
          have e2 : b = k % 7 := by omega
          rw [he.2.2.2.2, e1, e2]
          exact Nat.le_refl _
theorem tb_beW {post : Int32 → Prop} {jo : Nat → Int32} {x y : Nat} (n7 : n ≤ 7) (hp : ∀ r, pr r ≤ 40) (hw2 : ∀ r, hw r ≤ 2) (hc : ∀ a b, a < n → b < n → a ≠ b → ac (a * 7 + b) = nI (pr (tb_tr a b))) (hh : ∀ a b, a < 7 → b < 7 → ah (a * 7 + b) = nI (tb_H hw a b)) (hx : x < 2 ^ 31) (hy : y < 2 ^ 31) (xn : ∀ a, x.testBit a = true → a < n) (yn : ∀ a, y.testBit a = true → a < n) (hd : ∀ a, x.testBit a = true → ¬ y.testBit a = true) (K : ∀ v, tb_Bv (tb_E n pr hw) x y v → post (nI v)) : wpY_between post (nI n, le, lc, ti, fi, ch, ac, ah, lf, ro, us, jo) (nI x) (nI y) :=
  ⟨50, tb_be7 n7 hp hw2 hc hh hx hy xn yn hd K 49 0 50 9999 (by omega) (by omega) ⟨Nat.le_refl _, fun z => absurd z (Nat.lt_irrefl _), fun a b e h => absurd h (by omega)⟩⟩
theorem tb_Eb (hp : ∀ r, pr r ≤ 40) : ∀ a b e, tb_E n pr hw a b e → e ≤ 40 := fun a b e h => by
  rw [h.2.2.2.2]
  exact hp _
theorem tb_inn {s : Nat} (sn : s < 2 ^ n) : ∀ i, s.testBit i = true → i < n := by
  intro i hi
  rcases Nat.lt_or_ge i n with z | z
  · exact z
  · rw [Nat.testBit_lt_two_pow (Nat.lt_of_lt_of_le sn (Nat.pow_le_pow_right (by omega) z))] at hi
    cases hi
theorem tb_andS {x s : Nat} : x &&& s = x ↔ ∀ i, x.testBit i = true → s.testBit i = true := by
  constructor
  · intro h i hi
    have : (x &&& s).testBit i = true := by rw [h]; exact hi
    rw [Nat.testBit_and, hi, Bool.true_and] at this
    exact this
  · intro h
    apply Nat.eq_of_testBit_eq
    intro i
    rw [Nat.testBit_and]
    have := h i
    cases h1 : x.testBit i
    · rfl
    · rw [this h1]; rfl
theorem tb_sy39 {post : Int32 → SY → Prop} {J11 : Int32 → (Nat → Int32) → (Nat → Int32) → (Nat → Int32) → (Nat → Int32) → (Nat → Int32) → (Nat → Int32) → Prop} {x1 : Int32} {s : Nat} {J : Nat → Nat} (n7 : n ≤ 7) (hp : ∀ r, pr r ≤ 40) (hw2 : ∀ r, hw r ≤ 2) (hc : ∀ a b, a < n → b < n → a ≠ b → ac (a * 7 + b) = nI (pr (tb_tr a b))) (hh : ∀ a b, a < 7 → b < 7 → ah (a * 7 + b) = nI (tb_H hw a b)) (s128 : s < 128) (sn : s < 2 ^ n) (hJ : ∀ s', 0 < s' → s' < s → tb_Jv (tb_E n pr hw) s' (J s')) (K : ∀ (jo' : Nat → Int32) (v : Nat), (∀ s', 0 < s' → s' < s → jo' s' = nI (J s')) → jo' s = nI v → tb_Jx (tb_E n pr hw) J (tb_Bw (tb_E n pr hw) (tb_Eb hp)) s s v → J11 (nI (s + 1)) ac ah lf ro us jo') : ∀ (m x fuel v : Nat) (jo : Nat → Int32), x + m = s → 1 ≤ x → m < fuel → (∀ s', 0 < s' → s' < s → jo s' = nI (J s')) → jo s = nI v → tb_Jx (tb_E n pr hw) J (tb_Bw (tb_E n pr hw) (tb_Eb hp)) s x v → wY_span_39 post J11 x1 (nI s) (nI n) le lc ti fi ch fuel (nI x) ac ah lf ro us jo := by
  intro m
  induction m with
  | zero =>
    intro x fuel v jo hx _ hf h1 h2 h3
    obtain ⟨f, rfl⟩ : ∃ f, fuel = f + 1 := ⟨fuel - 1, by omega⟩
    have e : x = s := by omega
    rw [e] at h3 ⊢
    exact br_t (nI_le (Nat.le_refl _) (by omega)) (nm_r (nI_1 s) (K jo v h1 h2 h3))
  | succ m ih =>
    intro x fuel v jo hx x1' hf h1 h2 h3
    obtain ⟨f, rfl⟩ : ∃ f, fuel = f + 1 := ⟨fuel - 1, by omega⟩
    have hv := h3.1
    have keep : ((∀ i, x.testBit i = true → s.testBit i = true) → s - x ≤ x → v ≤ J x + J (s - x) + tb_Bw (tb_E n pr hw) (tb_Eb hp) x (s - x)) → wY_span_39 post J11 x1 (nI s) (nI n) le lc ti fi ch f (nI (x + 1)) ac ah lf ro us jo := fun hk => ih (x + 1) f v jo (by omega) (by omega) (by omega) h1 h2 (tb_JxN h3 hk)
    refine br_f (nI_ge (by omega) (by omega)) ?_
    rw [nx_and]
    refine br_c (fun z => ?_) (fun z => nm_r (nI_1 x) (keep (fun hs => absurd (by rw [tb_andS.mpr hs]) z)))
    have hle : x &&& s ≤ x := Nat.and_le_left
    have hsub := tb_andS.mp ((nI_eq (by omega) (by omega)).mp z)
    refine nm_r (pk_sub (by omega)) (pk_le (s - x) x (fun w => ⟨vp_in_nI (by omega) (by omega), vp_in_nI (by omega) (by omega), ?_⟩) (fun w => nm_r (nI_1 x) (keep (fun _ hs => absurd hs (by omega)))))
    have jx := hJ x (by omega) (by omega)
    have jy := hJ (s - x) (by omega) (by omega)
    have BV := tb_BwV (tb_E n pr hw) (tb_Eb hp) x (s - x)
    have hin := tb_inn sn
    have ysub : ∀ i, (s - x).testBit i = true → s.testBit i = true := fun i hi => by
      rw [tb_subB i x s hsub, Bool.and_eq_true] at hi
      exact hi.1
    refine tb_beW n7 hp hw2 hc hh (by omega) (by omega) (fun a ha => hin a (hsub a ha)) (fun a ha => hin a (ysub a ha)) (fun a ha => by rw [tb_subB a x s hsub, ha]; simp) (fun b hB => ?_)
    have eb : b = tb_Bw (tb_E n pr hw) (tb_Eb hp) x (s - x) := tb_BvU hB BV
    have g1 := jx.1
    have g2 := jy.1
    have g3 := BV.1
    have es : jo (nI x).toNatClampNeg + jo (nI (s - x)).toNatClampNeg + nI b = nI (J x + J (s - x) + b) := by
      rw [nI_clamp (by omega), nI_clamp (by omega), h1 x (by omega) (by omega), h1 (s - x) (by omega) (by omega), nI_add, nI_add]
    have ej : jo (nI s).toNatClampNeg = nI v := by rw [nI_clamp (by omega), h2]
    have i1 : vp_in (nI s) 128 := vp_in_nI (by omega) (by omega)
    refine nm_r es ⟨i1, ?_⟩
    rw [ej]
    refine pk_le v (J x + J (s - x) + b) (fun y => nm_r (nI_1 x) (keep (fun _ _ => by rw [← eb]; exact y))) (fun y => ⟨i1, nm_r (e' := upd jo s (nI (J x + J (s - x) + b))) (by rw [nI_clamp (by omega)]) (nm_r (nI_1 x) ?_)⟩) rfl rfl (by omega) (by omega)
    rw [eb] at y ⊢
    refine ih (x + 1) f _ _ (by omega) (by omega) (by omega) (fun s' p1 p2 => ?_) pk_us (tb_JxY h3 (by omega) (by omega) hsub jx jy BV y)
    rw [pk_un (by omega)]
    exact h1 s' p1 p2
theorem tb_pw2 : ∀ s, s < 128 → (0 < s → (s &&& (s - 1) = 0 ↔ ∃ a, a < 7 ∧ s = 2 ^ a)) := by decide +kernel
theorem tb_p2n : ∀ n, n < 8 → ((1 : Int32) <<< (nI n &&& 31)) - 1 = nI (2 ^ n - 1) ∧ 2 ^ n ≤ 128 ∧ 1 < 2 ^ (n + 1) := by decide +kernel
theorem tb_sy11 {post : Int32 → SY → Prop} (hn : 2 ≤ n) (n7 : n ≤ 7) (hp : ∀ r, pr r ≤ 40) (hw2 : ∀ r, hw r ≤ 2) (hc : ∀ a b, a < n → b < n → a ≠ b → ac (a * 7 + b) = nI (pr (tb_tr a b))) (hh : ∀ a b, a < 7 → b < 7 → ah (a * 7 + b) = nI (tb_H hw a b)) (h1 : ∀ (v : Nat) (jo' : Nat → Int32), tb_Jv (tb_E n pr hw) (2 ^ n - 1) v → v < 9999 → post (nI v) (nI n, le, lc, ti, fi, ch, ac, ah, lf, ro, us, jo')) (h0 : ∀ (v : Nat) (jo' : Nat → Int32), tb_Jv (tb_E n pr hw) (2 ^ n - 1) v → ¬ v < 9999 → post (-3) (nI n, le, lc, ti, fi, ch, ac, ah, lf, ro, us, jo')) : ∀ (m s fuel : Nat) (J : Nat → Nat) (jo : Nat → Int32), s + m = 2 ^ n → 1 ≤ s → m < fuel → (∀ s', 0 < s' → s' < s → jo s' = nI (J s') ∧ tb_Jv (tb_E n pr hw) s' (J s')) → wY_span_11 post (nI (2 ^ n - 1)) (nI n) le lc ti fi ch fuel (nI s) ac ah lf ro us jo := by
  obtain ⟨_, p2, _⟩ := tb_p2n n (by omega)
  have p3 : 2 ≤ 2 ^ n := by
    have : 2 ^ 1 ≤ 2 ^ n := Nat.pow_le_pow_right (by decide) (by omega)
    exact this
  intro m
  induction m with
  | zero =>
    intro s fuel J jo hs _ hf hJ
    obtain ⟨f, rfl⟩ : ∃ f, fuel = f + 1 := ⟨fuel - 1, by omega⟩
    obtain ⟨j1, j2⟩ := hJ (2 ^ n - 1) (by omega) (by omega)
    have i1 : vp_in (nI (2 ^ n - 1)) 128 := vp_in_nI (by omega) (by omega)
    have ej : jo (nI (2 ^ n - 1)).toNatClampNeg = nI (J (2 ^ n - 1)) := by rw [nI_clamp (by omega), j1]
    have g1 := j2.1
    refine br_t (nI_lt (by omega) (by omega)) ⟨i1, ?_⟩
    rw [ej]
    exact pk_lt (J (2 ^ n - 1)) 9999 (fun z => ⟨i1, h1 _ jo j2 z⟩) (fun z => h0 _ jo j2 (by omega)) rfl rfl (by omega) (by omega)
  | succ m ih =>
    intro s fuel J jo hs s1 hf hJ
    obtain ⟨f, rfl⟩ : ∃ f, fuel = f + 1 := ⟨fuel - 1, by omega⟩
    have i1 : vp_in (nI s) 128 := vp_in_nI (by omega) (by omega)
    have e1 : nI s - 1 = nI (s - 1) := pk_sub (b := 1) (by omega)
    have hle : s &&& (s - 1) ≤ s := Nat.and_le_left
    have hpw : s &&& (s - 1) = 0 ↔ ∃ a, s = 2 ^ a := by
      rw [tb_pw2 s (by omega) (by omega)]
      constructor
      · rintro ⟨a, _, e⟩
        exact ⟨a, e⟩
      · rintro ⟨a, e⟩
        refine ⟨a, ?_, e⟩
        rcases Nat.lt_or_ge a 7 with z | z
        · exact z
        · have : 2 ^ 7 ≤ 2 ^ a := Nat.pow_le_pow_right (by decide) z
          omega
    have go : ∀ v, tb_Jx (tb_E n pr hw) J (tb_Bw (tb_E n pr hw) (tb_Eb hp)) s 1 v → ∃ n39, wY_span_39 post (wY_span_11 post (nI (2 ^ n - 1)) (nI n) le lc ti fi ch f) (nI (2 ^ n - 1)) (nI s) (nI n) le lc ti fi ch n39 1 ac ah lf ro us (upd jo s (nI v)) := fun v hv => by
      refine ⟨s, tb_sy39 (J := J) n7 hp hw2 hc hh (by omega) (by omega) (fun s' a b => (hJ s' a b).2) (fun jo' v' k1 k2 k3 => ?_) (s - 1) 1 s v _ (by omega) (by omega) (by omega) (fun s' a b => ?_) pk_us hv⟩
      · have hjv := tb_JxE (E := tb_E n pr hw) (fun i j e h => tb_EC h) (n := n) (by omega) k3 (fun s' a b => (hJ s' a b).2) (fun x y => tb_BwV _ _ x y)
        refine ih (s + 1) f (fun j => if j = s then v' else J j) jo' (by omega) (by omega) (by omega) (fun s' a b => ?_)
        by_cases z : s' = s
        · rw [if_pos z, z]
          exact ⟨k2, hjv⟩
        · rw [if_neg z]
          exact ⟨k1 s' a (by omega), (hJ s' a (by omega)).2⟩
      · rw [pk_un (by omega)]
        exact (hJ s' a b).1
    refine br_f (nI_nlt (by omega) (by omega)) ?_
    rw [e1, nx_and]
    refine br_c (fun z => ⟨i1, nm_r (e' := upd jo s (nI 0)) (by rw [nI_clamp (by omega)]; rfl) (go 0 (tb_Jx0 (Or.inl ⟨?_, rfl⟩)))⟩) (fun z => ⟨i1, nm_r (e' := upd jo s (nI 9999)) (by rw [nI_clamp (by omega)]; rfl) (go 9999 (tb_Jx0 (Or.inr ⟨?_, rfl⟩)))⟩)
    · exact hpw.mp ((nI_eq (b := 0) (by omega) (by decide)).mp z)
    · intro w
      apply z
      rw [hpw.mpr w]
      rfl
theorem tb_syW {post : Int32 → SY → Prop} {jo : Nat → Int32} (hn : 2 ≤ n) (n7 : n ≤ 7) (hp : ∀ r, pr r ≤ 40) (hw2 : ∀ r, hw r ≤ 2) (hc : ∀ a b, a < n → b < n → a ≠ b → ac (a * 7 + b) = nI (pr (tb_tr a b))) (hh : ∀ a b, a < 7 → b < 7 → ah (a * 7 + b) = nI (tb_H hw a b)) (h1 : ∀ (v : Nat) (jo' : Nat → Int32), tb_Jv (tb_E n pr hw) (2 ^ n - 1) v → v < 9999 → post (nI v) (nI n, le, lc, ti, fi, ch, ac, ah, lf, ro, us, jo')) (h0 : ∀ (v : Nat) (jo' : Nat → Int32), tb_Jv (tb_E n pr hw) (2 ^ n - 1) v → ¬ v < 9999 → post (-3) (nI n, le, lc, ti, fi, ch, ac, ah, lf, ro, us, jo')) : wpY_span post (nI n, le, lc, ti, fi, ch, ac, ah, lf, ro, us, jo) := by
  obtain ⟨p1, p2, _⟩ := tb_p2n n (by omega)
  have p3 : 0 < 2 ^ n := Nat.two_pow_pos n
  refine nm_r p1 ⟨2 ^ n, ?_⟩
  exact tb_sy11 hn n7 hp hw2 hc hh h1 h0 (2 ^ n - 1) 1 (2 ^ n) (fun _ => 0) jo (by omega) (by omega) (by omega) (fun s' a b => absurd a (by omega))
end TBE
end
section
section TBG
/-! price, mark: both sides -/
variable {tc rq cl : Int32} {ap ar : Nat → Int32} {n : Nat} {pr hw : Nat → Nat}
def tb_set (f : Nat → Nat) (r v i : Nat) : Nat := if i = r then v else f i
theorem tb_setE (f : Nat → Nat) (r v : Nat) : tb_set f r v r = v := if_pos rfl
theorem tb_setN {f : Nat → Nat} {r v i : Nat} (h : i ≠ r) : tb_set f r v i = f i := if_neg h
theorem tb_setB {f : Nat → Nat} {r v c : Nat} (h : ∀ i, f i ≤ c) (hv : v ≤ c) (i : Nat) : tb_set f r v i ≤ c := by
  by_cases z : i = r
  · rw [z, tb_setE]
    exact hv
  · rw [tb_setN z]
    exact h i
theorem tb_setS (f : Nat → Nat) (r v : Nat) : tb_set (tb_set f r v) r (f r) = f := by
  funext i
  by_cases z : i = r
  · rw [z, tb_setE]
  · rw [tb_setN z, tb_setN z]
theorem tb_upP {f : Nat → Int32} {g : Nat → Nat} {a b v N : Nat} (ha : a < 7) (hb : b < 7) (hab : a ≠ b) (N7 : N ≤ 7) (hf : ∀ a' b', a' < N → b' < N → a' ≠ b' → f (a' * 7 + b') = nI (g (tb_tr a' b'))) : ∀ a' b', a' < N → b' < N → a' ≠ b' → upd (upd f (a * 7 + b) (nI v)) (b * 7 + a) (nI v) (a' * 7 + b') = nI (tb_set g (tb_tr a b) v (tb_tr a' b')) := by
  intro a' b' ha' hb' hab'
  by_cases z1 : a' * 7 + b' = b * 7 + a
  · have e1 : a' = b := by omega
    have e2 : b' = a := by omega
    rw [z1, pk_us, e1, e2, tb_trC b a, tb_setE]
  · rw [pk_un z1]
    by_cases z2 : a' * 7 + b' = a * 7 + b
    · have e1 : a' = a := by omega
      have e2 : b' = b := by omega
      rw [z2, pk_us, e1, e2, tb_setE]
    · rw [pk_un z2, hf a' b' ha' hb' hab', tb_setN]
      intro e
      rcases tb_trI a' (by omega) b' (by omega) hab' a ha b hb hab e with ⟨w1, w2⟩ | ⟨w1, w2⟩
      · exact z2 (by omega)
      · exact z1 (by omega)
theorem tb_upH {f : Nat → Int32} {a b v : Nat} (ha : a < 7) (hb : b < 7) (hab : a ≠ b) (hf : ∀ a' b', a' < 7 → b' < 7 → f (a' * 7 + b') = nI (tb_H hw a' b')) : ∀ a' b', a' < 7 → b' < 7 → upd (upd f (a * 7 + b) (nI v)) (b * 7 + a) (nI v) (a' * 7 + b') = nI (tb_H (tb_set hw (tb_tr a b) v) a' b') := by
  intro a' b' ha' hb'
  unfold tb_H
  by_cases z : a' = b'
  · rw [if_pos z, pk_un (by omega), pk_un (by omega), hf a' b' ha' hb']
    unfold tb_H
    rw [if_pos z]
  · rw [if_neg z]
    exact tb_upP ha hb hab (Nat.le_refl 7) (fun x y hx hy hxy => by
      rw [hf x y hx hy]
      unfold tb_H
      rw [if_neg hxy]) a' b' ha' hb' z
theorem tb_upX {f : Nat → Int32} {g : Nat → Nat} {r v : Nat} (hf : ∀ i, i < 21 → f i = nI (g i)) : ∀ i, i < 21 → upd f r (nI v) i = nI (tb_set g r v i) := by
  intro i hi
  by_cases z : i = r
  · rw [z, pk_us, tb_setE]
  · rw [pk_un z, tb_setN z, hf i hi]
/-- X's mark of a road -/
theorem tb_moX {post : Int32 → Prop} {fn : Int32} {r : Nat} (hw2 : ∀ r, hw r ≤ 2) (hrq : ∀ i, i < 32 → bt rq i = decide (i < 21 ∧ hw i = 1)) (hcl : ∀ i, i < 32 → bt cl i = decide (i < 21 ∧ hw i = 2)) (hr : r < 21) (h : post (nI (hw r))) : wpX_markOf post (fn, tc, rq, cl, ap, ar) ((1 : Int32) <<< (nI r &&& 31)) := by
  have c1 := tb_bt1 (x := rq) (r := r) (by omega)
  have c2 := tb_bt1 (x := cl) (r := r) (by omega)
  rw [hrq r (by omega), decide_eq_false_iff_not] at c1
  rw [hcl r (by omega), decide_eq_false_iff_not] at c2
  have h2 := hw2 r
  refine br_c (fun z => br_c (fun z2 => ?_) (fun z2 => ?_)) (fun z => ?_)
  · have e : hw r = 0 := by
      have := c1.mp z
      have := c2.mp z2
      omega
    rw [e] at h
    exact h
  · have e : hw r = 2 := by
      by_cases y : hw r = 2
      · exact y
      · exact absurd (c2.mpr (fun w => y w.2)) z2
    rw [e] at h
    exact h
  · have e : hw r = 1 := by
      by_cases y : hw r = 1
      · exact y
      · exact absurd (c1.mpr (fun w => y w.2)) z
    rw [e] at h
    exact h
theorem tb_mb1 {x : Int32} {r v c : Nat} (hr : r < 21) (hx : ∀ i, i < 32 → bt x i = decide (i < 21 ∧ hw i = c)) (hv : v = c) : ∀ i, i < 32 → bt (x ||| ((1 : Int32) <<< (nI r &&& 31))) i = decide (i < 21 ∧ tb_set hw r v i = c) := by
  intro i hi
  rw [tb_bset (by omega) hi, hx i hi]
  by_cases z : i = r
  · rw [z, tb_setE]
    simp [hr, hv]
  · rw [tb_setN z]
    simp [z]
theorem tb_mb0 {x : Int32} {r v c : Nat} (hr : r < 21) (hx : ∀ i, i < 32 → bt x i = decide (i < 21 ∧ hw i = c)) (hv : v ≠ c) : ∀ i, i < 32 → bt (x &&& (((1 : Int32) <<< (nI r &&& 31)) ^^^ (-1))) i = decide (i < 21 ∧ tb_set hw r v i = c) := by
  intro i hi
  rw [tb_bclr (by omega) hi, hx i hi]
  by_cases z : i = r
  · rw [z, tb_setE]
    simp [hv]
  · rw [tb_setN z]
    simp [z]
end TBG
section TBH
/-! line, sow: the prices by pairs -/
variable {tc rq cl : Int32} {n : Nat}
def tb_LI (val : Nat → Nat → Nat) (b a : Nat) (ap : Nat → Int32) : Prop := (∀ a' b', a' < b' → (b' < b ∨ (b' = b ∧ a' < a)) → ap (tb_tr a' b') = nI (val a' b')) ∧ ∀ r, r < 21 → ∃ v, v ≤ 40 ∧ ap r = nI v
theorem tb_LIs {val : Nat → Nat → Nat} {b a : Nat} {ap : Nat → Int32} (hab : a < b) (hb : b < 7) (hv : val a b ≤ 40) (h : tb_LI val b a ap) : tb_LI val b (a + 1) (upd ap (tb_tr a b) (nI (val a b))) := by
  refine ⟨fun a' b' h1 h2 => ?_, fun r hr => ?_⟩
  · by_cases z : a' = a ∧ b' = b
    · rw [z.1, z.2, pk_us]
    · have hne : tb_tr a' b' ≠ tb_tr a b := fun e => by
        rcases tb_trI a' (by omega) b' (by omega) (by omega) a (by omega) b hb (by omega) e with w | w
        · exact z w
        · omega
      rw [pk_un hne]
      exact h.1 a' b' h1 (by omega)
  · by_cases z : r = tb_tr a b
    · exact ⟨val a b, hv, by rw [z, pk_us]⟩
    · rw [pk_un z]
      exact h.2 r hr
theorem tb_LIn {val : Nat → Nat → Nat} {b : Nat} {ap : Nat → Int32} (h : tb_LI val b b ap) : tb_LI val (b + 1) 0 ap := ⟨fun a' b' h1 h2 => h.1 a' b' h1 (by omega), h.2⟩
theorem tb_chP {ap : Nat → Int32} (h : ∀ r, r < 21 → ∃ v, v ≤ 40 ∧ ap r = nI v) : ∃ pr : Nat → Nat, (∀ r, pr r ≤ 40) ∧ ∀ r, r < 21 → ap r = nI (pr r) := by
  refine ⟨fun r => if r < 21 then (ap r).toNatClampNeg else 0, fun r => ?_, fun r hr => ?_⟩
  · dsimp only
    by_cases z : r < 21
    · obtain ⟨v, hv, e⟩ := h r z
      rw [if_pos z, e, nI_clamp (by omega)]
      exact hv
    · rw [if_neg z]
      omega
  · obtain ⟨v, hv, e⟩ := h r hr
    dsimp only
    rw [if_pos hr, e, nI_clamp (by omega)]
def tb_vl (s t a b : Nat) : Nat := if (s + a * t) % 41 ≤ (s + b * t) % 41 then (s + b * t) % 41 - (s + a * t) % 41 else (s + a * t) % 41 - (s + b * t) % 41
theorem tb_vlC (s t a b : Nat) : tb_vl s t a b = tb_vl s t b a := by
  unfold tb_vl
  generalize (s + a * t) % 41 = u
  generalize (s + b * t) % 41 = v
  by_cases z : u ≤ v
  · rw [if_pos z]
    by_cases y : v ≤ u
    · rw [if_pos y]
      omega
    · rw [if_neg y]
  · rw [if_neg z, if_pos (by omega)]
theorem tb_vlB (s t a b : Nat) : tb_vl s t a b ≤ 40 := by
  unfold tb_vl
  have h1 := Nat.mod_lt (s + a * t) (y := 41) (by decide)
  have h2 := Nat.mod_lt (s + b * t) (y := 41) (by decide)
  by_cases z : (s + a * t) % 41 ≤ (s + b * t) % 41
  · rw [if_pos z]
    omega
  · rw [if_neg z]
    omega
def tb_vs (s t a b : Nat) : Nat := (s + 13 * a + 17 * b + a * b * t) % 41
theorem tb_vsB (s t a b : Nat) : tb_vs s t a b ≤ 40 := by
  have h1 := Nat.mod_lt (s + 13 * a + 17 * b + a * b * t) (y := 41) (by decide)
  unfold tb_vs
  omega
theorem tb_at {a t : Nat} (ha : a < 7) (ht : t < 41) : a * t ≤ 240 := Nat.le_trans (Nat.mul_le_mul (by omega : a ≤ 6) (by omega : t ≤ 40)) (by decide)
theorem tb_abt {a b t : Nat} (ha : a < 7) (hb : b < 7) (ht : t < 41) : a * b * t ≤ 1440 := Nat.le_trans (Nat.mul_le_mul (Nat.mul_le_mul (by omega : a ≤ 6) (by omega : b ≤ 6)) (by omega : t ≤ 40)) (by decide)
theorem tb_rl {s a t : Nat} (hs : s < 41) (ha : a < 7) (ht : t < 41) : nI s + nI a * nI t - (nI s + nI a * nI t) / 41 * 41 = nI ((s + a * t) % 41) := by
  have h := tb_at ha ht
  rw [pk_mul, nI_add]
  exact pk_rem (d := 41) (by omega) (by decide) (by decide)
theorem tb_rs {s a b t : Nat} (hs : s < 41) (ha : a < 7) (hb : b < 7) (ht : t < 41) : nI s + 13 * nI a + 17 * nI b + nI a * nI b * nI t - (nI s + 13 * nI a + 17 * nI b + nI a * nI b * nI t) / 41 * 41 = nI (tb_vs s t a b) := by
  have h := tb_abt ha hb ht
  have e : nI s + 13 * nI a + 17 * nI b + nI a * nI b * nI t = nI (s + 13 * a + 17 * b + a * b * t) := by
    show nI s + nI 13 * nI a + nI 17 * nI b + nI a * nI b * nI t = _
    rw [pk_mul, pk_mul, pk_mul, pk_mul, nI_add, nI_add, nI_add]
  rw [e]
  exact pk_rem (d := 41) (by omega) (by decide) (by decide)
theorem tb_li28 {post : Int32 → SX → Prop} {J16 : Int32 → (Nat → Int32) → (Nat → Int32) → Prop} {fn : Int32} {ar : Nat → Int32} {s t b : Nat} (hs : s < 41) (ht : t < 41) (hb : b < 7) (K : ∀ ap', tb_LI (tb_vl s t) b b ap' → J16 (nI (b + 1)) ap' ar) : ∀ (m a fuel : Nat) (ap : Nat → Int32), a + m = b → m < fuel → tb_LI (tb_vl s t) b a ap → wX_line_28 post J16 (nI s) (nI t) (nI b) fn tc rq cl fuel (nI a) ap ar := by
  intro m
  induction m with
  | zero =>
    intro a fuel ap ha hf h
    obtain ⟨f, rfl⟩ : ∃ f, fuel = f + 1 := ⟨fuel - 1, by omega⟩
    have e : a = b := by omega
    rw [e] at h ⊢
    exact br_t (nI_le (Nat.le_refl _) (by omega)) (nm_r (nI_1 b) (K ap h))
  | succ m ih =>
    intro a fuel ap ha hf h
    obtain ⟨f, rfl⟩ : ∃ f, fuel = f + 1 := ⟨fuel - 1, by omega⟩
    have hr := tb_trL a (by omega) b hb (by omega)
    have i1 : vp_in (nI (tb_tr a b)) 21 := vp_in_nI hr (by omega)
    have h1 := Nat.mod_lt (s + a * t) (y := 41) (by decide)
    have h2 := Nat.mod_lt (s + b * t) (y := 41) (by decide)
    have IH := ih (a + 1) f _ (by omega) (by omega) (tb_LIs (by omega) hb (tb_vlB s t a b) h)
    refine br_f (nI_ge (by omega) (by omega)) ⟨by decide, by decide, nm_r (e' := nI ((s + a * t) % 41) - nI ((s + b * t) % 41)) (by rw [tb_rl hs (by omega) ht, tb_rl hs hb ht]) ?_⟩
    refine tb_rbX (by omega) hb ?_
    rcases Nat.lt_or_ge ((s + a * t) % 41) ((s + b * t) % 41) with z | z
    · have e : -(nI ((s + a * t) % 41) - nI ((s + b * t) % 41)) = nI (tb_vl s t a b) := by
        rw [Int32.neg_sub, pk_sub (by omega)]
        unfold tb_vl
        rw [if_pos (by omega)]
      refine br_f (Int32.not_le.mpr (pk_sneg (by omega) z)) ⟨i1, nm_r (e' := upd ap (tb_tr a b) (nI (tb_vl s t a b))) (by rw [nI_clamp (by omega), e]) (nm_r (nI_1 a) IH)⟩
    · have e : nI ((s + a * t) % 41) - nI ((s + b * t) % 41) = nI (tb_vl s t a b) := by
        rw [pk_sub z]
        unfold tb_vl
        by_cases y : (s + a * t) % 41 ≤ (s + b * t) % 41
        · rw [if_pos y]
          congr 1
          omega
        · rw [if_neg y]
      rw [e]
      have := tb_vlB s t a b
      refine br_t (nI_pos' (by omega)) ⟨i1, nm_r (e' := upd ap (tb_tr a b) (nI (tb_vl s t a b))) (by rw [nI_clamp (by omega)]) (nm_r (nI_1 a) IH)⟩
theorem tb_li16 {post : Int32 → SX → Prop} {ar : Nat → Int32} {s t : Nat} (n7 : n ≤ 7) (hs : s < 41) (ht : t < 41) (K : ∀ ap', tb_LI (tb_vl s t) n 0 ap' → post 0 (nI n, tc, rq, cl, ap', ar)) : ∀ (m b fuel : Nat) (ap : Nat → Int32), b + m = n → m < fuel → tb_LI (tb_vl s t) b 0 ap → wX_line_16 post (nI s) (nI t) (nI n) tc rq cl fuel (nI b) ap ar := by
  intro m
  induction m with
  | zero =>
    intro b fuel ap hb hf h
    obtain ⟨f, rfl⟩ : ∃ f, fuel = f + 1 := ⟨fuel - 1, by omega⟩
    have e : b = n := by omega
    rw [e] at h ⊢
    exact br_t (nI_le (Nat.le_refl _) (by omega)) (K ap h)
  | succ m ih =>
    intro b fuel ap hb hf h
    obtain ⟨f, rfl⟩ : ∃ f, fuel = f + 1 := ⟨fuel - 1, by omega⟩
    refine br_f (nI_ge (by omega) (by omega)) ⟨b + 1, ?_⟩
    exact tb_li28 hs ht (by omega) (fun ap' h' => ih (b + 1) f ap' (by omega) (by omega) (tb_LIn h')) b 0 (b + 1) ap (by omega) (by omega) h
theorem tb_so28 {post : Int32 → SX → Prop} {J16 : Int32 → (Nat → Int32) → (Nat → Int32) → Prop} {fn : Int32} {ar : Nat → Int32} {s t b : Nat} (hs : s < 41) (ht : t < 41) (hb : b < 7) (K : ∀ ap', tb_LI (tb_vs s t) b b ap' → J16 (nI (b + 1)) ap' ar) : ∀ (m a fuel : Nat) (ap : Nat → Int32), a + m = b → m < fuel → tb_LI (tb_vs s t) b a ap → wX_sow_28 post J16 (nI s) (nI t) (nI b) fn tc rq cl fuel (nI a) ap ar := by
  intro m
  induction m with
  | zero =>
    intro a fuel ap ha hf h
    obtain ⟨f, rfl⟩ : ∃ f, fuel = f + 1 := ⟨fuel - 1, by omega⟩
    have e : a = b := by omega
    rw [e] at h ⊢
    exact br_t (nI_le (Nat.le_refl _) (by omega)) (nm_r (nI_1 b) (K ap h))
  | succ m ih =>
    intro a fuel ap ha hf h
    obtain ⟨f, rfl⟩ : ∃ f, fuel = f + 1 := ⟨fuel - 1, by omega⟩
    have hr := tb_trL a (by omega) b hb (by omega)
    have i1 : vp_in (nI (tb_tr a b)) 21 := vp_in_nI hr (by omega)
    have IH := ih (a + 1) f _ (by omega) (by omega) (tb_LIs (by omega) hb (tb_vsB s t a b) h)
    refine br_f (nI_ge (by omega) (by omega)) ?_
    refine tb_rbX (by omega) hb ⟨by decide, i1, nm_r (e' := upd ap (tb_tr a b) (nI (tb_vs s t a b))) (by rw [nI_clamp (by omega), tb_rs hs (by omega) hb ht]) (nm_r (nI_1 a) IH)⟩
theorem tb_so16 {post : Int32 → SX → Prop} {ar : Nat → Int32} {s t : Nat} (n7 : n ≤ 7) (hs : s < 41) (ht : t < 41) (K : ∀ ap', tb_LI (tb_vs s t) n 0 ap' → post 0 (nI n, tc, rq, cl, ap', ar)) : ∀ (m b fuel : Nat) (ap : Nat → Int32), b + m = n → m < fuel → tb_LI (tb_vs s t) b 0 ap → wX_sow_16 post (nI s) (nI t) (nI n) tc rq cl fuel (nI b) ap ar := by
  intro m
  induction m with
  | zero =>
    intro b fuel ap hb hf h
    obtain ⟨f, rfl⟩ : ∃ f, fuel = f + 1 := ⟨fuel - 1, by omega⟩
    have e : b = n := by omega
    rw [e] at h ⊢
    exact br_t (nI_le (Nat.le_refl _) (by omega)) (K ap h)
  | succ m ih =>
    intro b fuel ap hb hf h
    obtain ⟨f, rfl⟩ : ∃ f, fuel = f + 1 := ⟨fuel - 1, by omega⟩
    refine br_f (nI_ge (by omega) (by omega)) ⟨b + 1, ?_⟩
    exact tb_so28 hs ht (by omega) (fun ap' h' => ih (b + 1) f ap' (by omega) (by omega) (tb_LIn h')) b 0 (b + 1) ap (by omega) (by omega) h
/-! Y's loops -/
variable {le lc ti fi ch : Int32} {ah lf ro us jo : Nat → Int32}
theorem tb_ly27 {post : Int32 → SY → Prop} {fn : Int32} {s t : Nat} (hs : s < 41) (ht : t < 41) (K : ∀ ac' : Nat → Int32, (∀ k, k < 49 → ac' k = nI (tb_vl s t (k / 7) (k % 7))) → post 0 (fn, le, lc, ti, fi, ch, ac', ah, lf, ro, us, jo)) : ∀ (m k fuel : Nat) (ac : Nat → Int32), k + m = 49 → m < fuel → (∀ j, j < k → ac j = nI (tb_vl s t (j / 7) (j % 7))) → wY_line_27 post (nI s) (nI t) fn le lc ti fi ch fuel (nI k) ac ah lf ro us jo := by
  intro m
  induction m with
  | zero =>
    intro k fuel ac hk hf h
    obtain ⟨f, rfl⟩ : ∃ f, fuel = f + 1 := ⟨fuel - 1, by omega⟩
    have e : k = 49 := by omega
    subst e
    exact br_t (nI_le (a := 49) (Nat.le_refl _) (by decide)) (K ac h)
  | succ m ih =>
    intro k fuel ac hk hf h
    obtain ⟨f, rfl⟩ : ∃ f, fuel = f + 1 := ⟨fuel - 1, by omega⟩
    obtain ⟨k1, k2⟩ := tb_kd k (by omega)
    have i1 : vp_in (nI k) 49 := vp_in_nI (by omega) (by omega)
    have h1 := Nat.mod_lt (s + k / 7 * t) (y := 41) (by decide)
    have h2 := Nat.mod_lt (s + k % 7 * t) (y := 41) (by decide)
    have IH := ih (k + 1) f (upd ac k (nI (tb_vl s t (k / 7) (k % 7)))) (by omega) (by omega) (fun j hj => by
      by_cases z : j = k
      · rw [z, pk_us]
      · rw [pk_un z]
        exact h j (by omega))
    refine br_f (nI_ge (b := 49) (by omega) (by decide)) ⟨by decide, nm_r k1 ⟨by decide, nm_r k2 ⟨by decide, nm_r (tb_rl hs (by omega) ht) ⟨by decide, nm_r (tb_rl hs (by omega) ht) ?_⟩⟩⟩⟩
    refine pk_le ((s + k / 7 * t) % 41) ((s + k % 7 * t) % 41) (fun z => ⟨i1, nm_r (e' := upd ac k (nI (tb_vl s t (k / 7) (k % 7)))) ?_ (nm_r (nI_1 k) IH)⟩) (fun z => ⟨i1, nm_r (e' := upd ac k (nI (tb_vl s t (k / 7) (k % 7)))) ?_ (nm_r (nI_1 k) IH)⟩) rfl rfl (by omega) (by omega)
    · rw [nI_clamp (by omega), pk_sub z]
      unfold tb_vl
      rw [if_pos z]
    · rw [nI_clamp (by omega), pk_sub (by omega)]
      unfold tb_vl
      rw [if_neg (by omega)]
theorem tb_cgW {post : SY → Prop} {fn : Int32} {ac : Nat → Int32} {a b : Nat} {x : Int32} (ha : a < 7) (hb : b < 7) (K : post (fn, le, lc, ti, fi, ch, upd (upd ac (a * 7 + b) x) (b * 7 + a) x, ah, lf, ro, us, jo)) : wpY_charge post (fn, le, lc, ti, fi, ch, ac, ah, lf, ro, us, jo) (nI a) (nI b) x := by
  have e1 := tb_ix a ha b (by omega)
  have e2 := tb_ix b hb a (by omega)
  have i1 : vp_in (nI a * 7 + nI b) 49 := by
    rw [e1]
    exact vp_in_nI (by omega) (by omega)
  have i2 : vp_in (nI b * 7 + nI a) 49 := by
    rw [e2]
    exact vp_in_nI (by omega) (by omega)
  exact ⟨i1, nm_r (e' := upd ac (a * 7 + b) x) (by rw [e1, nI_clamp (by omega)]) ⟨i2, nm_r (e' := upd (upd ac (a * 7 + b) x) (b * 7 + a) x) (by rw [e2, nI_clamp (by omega)]) K⟩⟩
theorem tb_sy27 {post : Int32 → SY → Prop} {fn : Int32} {s t : Nat} (hs : s < 41) (ht : t < 41) (K : ∀ ac' : Nat → Int32, (∀ a b, a < b → b < 7 → ac' (a * 7 + b) = nI (tb_vs s t a b) ∧ ac' (b * 7 + a) = nI (tb_vs s t a b)) → post 0 (fn, le, lc, ti, fi, ch, ac', ah, lf, ro, us, jo)) : ∀ (m k fuel : Nat) (ac : Nat → Int32), k + m = 49 → m < fuel → (∀ a b, a < b → b < 7 → a * 7 + b < k → ac (a * 7 + b) = nI (tb_vs s t a b) ∧ ac (b * 7 + a) = nI (tb_vs s t a b)) → wY_sow_27 post (nI s) (nI t) fuel (nI k) fn le lc ti fi ch ac ah lf ro us jo := by
  intro m
  induction m with
  | zero =>
    intro k fuel ac hk hf h
    obtain ⟨f, rfl⟩ : ∃ f, fuel = f + 1 := ⟨fuel - 1, by omega⟩
    have e : k = 49 := by omega
    subst e
    exact br_t (nI_le (a := 49) (Nat.le_refl _) (by decide)) (K ac (fun a b h1 h2 => h a b h1 h2 (by omega)))
  | succ m ih =>
    intro k fuel ac hk hf h
    obtain ⟨f, rfl⟩ : ∃ f, fuel = f + 1 := ⟨fuel - 1, by omega⟩
    obtain ⟨k1, k2⟩ := tb_kd k (by omega)
    refine br_f (nI_ge (b := 49) (by omega) (by decide)) ⟨by decide, nm_r k1 ⟨by decide, nm_r k2 ⟨by decide, nm_r (tb_rs hs (by omega) (by omega) ht) ?_⟩⟩⟩
    refine pk_le (k % 7) (k / 7) (fun z => nm_r (nI_1 k) (ih (k + 1) f ac (by omega) (by omega) (fun a b h1 h2 h3 => h a b h1 h2 (by omega)))) (fun z => ?_)
    refine tb_cgW (by omega) (by omega) (nm_r (nI_1 k) (ih (k + 1) f _ (by omega) (by omega) (fun a b h1 h2 h3 => ?_)))
    by_cases w : a = k / 7 ∧ b = k % 7
    · rw [w.1, w.2]
      refine ⟨?_, pk_us⟩
      rw [pk_un (by omega), pk_us]
    · have q1 : a * 7 + b ≠ k % 7 * 7 + k / 7 := by omega
      have q2 : a * 7 + b ≠ k / 7 * 7 + k % 7 := by omega
      have q3 : b * 7 + a ≠ k % 7 * 7 + k / 7 := by omega
      have q4 : b * 7 + a ≠ k / 7 * 7 + k % 7 := by omega
      rw [pk_un q1, pk_un q2, pk_un q3, pk_un q4]
      exact h a b h1 h2 (by omega)
end TBH
end
section
section TBRel
/-! the relation; the constructors; towns, price, line, sow, mark, priceOf -/
def tb_RX (n : Nat) (pr hw : Nat → Nat) (u : SX) : Prop := ∃ (rq cl : Int32) (ap ar : Nat → Int32), u = (nI n, nI (tb_fc (n - 1)), rq, cl, ap, ar) ∧ (∀ i, i < 32 → bt rq i = decide (i < 21 ∧ hw i = 1)) ∧ (∀ i, i < 32 → bt cl i = decide (i < 21 ∧ hw i = 2)) ∧ (∀ r, r < 21 → ap r = nI (pr r)) ∧ ∀ j, j < tb_fc n → ar j = nI (tb_co (tb_D n j) n)
def tb_RY (n : Nat) (pr hw : Nat → Nat) (v : SY) : Prop := ∃ (le lc ti fi ch : Int32) (ac ah lf ro us jo : Nat → Int32), v = (nI n, le, lc, ti, fi, ch, ac, ah, lf, ro, us, jo) ∧ (∀ a b, a < n → b < n → a ≠ b → ac (a * 7 + b) = nI (pr (tb_tr a b))) ∧ ∀ a b, a < 7 → b < 7 → ah (a * 7 + b) = nI (tb_H hw a b)
/-- both hold the same towns, prices and marks; X's rows are all orders -/
def i_Rel (_ : Nat) (u : SX) (v : SY) : Prop := ∃ (n : Nat) (pr hw : Nat → Nat), 2 ≤ n ∧ n ≤ 7 ∧ (∀ r, pr r ≤ 40) ∧ (∀ r, hw r ≤ 2) ∧ tb_RX n pr hw u ∧ tb_RY n pr hw v
theorem i_up {k : Nat} {u : SX} {v : SY} (h : i_Rel k u v) : i_Rel (k + 4) u v := h
theorem tb_mk {k n : Nat} {pr hw : Nat → Nat} {rq cl : Int32} {ap ar : Nat → Int32} {le lc ti fi ch : Int32} {ac ah lf ro us jo : Nat → Int32} (hn : 2 ≤ n) (n7 : n ≤ 7) (hp : ∀ r, pr r ≤ 40) (hw2 : ∀ r, hw r ≤ 2) (hrq : ∀ i, i < 32 → bt rq i = decide (i < 21 ∧ hw i = 1)) (hcl : ∀ i, i < 32 → bt cl i = decide (i < 21 ∧ hw i = 2)) (ha : ∀ r, r < 21 → ap r = nI (pr r)) (hr : ∀ j, j < tb_fc n → ar j = nI (tb_co (tb_D n j) n)) (hc : ∀ a b, a < n → b < n → a ≠ b → ac (a * 7 + b) = nI (pr (tb_tr a b))) (hh : ∀ a b, a < 7 → b < 7 → ah (a * 7 + b) = nI (tb_H hw a b)) : i_Rel k (nI n, nI (tb_fc (n - 1)), rq, cl, ap, ar) (nI n, le, lc, ti, fi, ch, ac, ah, lf, ro, us, jo) :=
  ⟨n, pr, hw, hn, n7, hp, hw2, ⟨rq, cl, ap, ar, rfl, hrq, hcl, ha, hr⟩, ⟨le, lc, ti, fi, ch, ac, ah, lf, ro, us, jo, rfl, hc, hh⟩⟩
theorem tb_iy80 {post : SY → Prop} {fn : Int32} {ah lf ro us jo : Nat → Int32} (K : ∀ ac' : Nat → Int32, (∀ k, k < 49 → ac' k = nI 10) → post (fn, 0, 0, 0, 0, 0, ac', ah, lf, ro, us, jo)) : ∀ (m k fuel : Nat) (ac : Nat → Int32), k + m = 49 → m < fuel → (∀ j, j < k → ac j = nI 10) → wY_init_80 post fn 0 0 0 0 0 fuel (nI k) ac ah lf ro us jo := by
  intro m
  induction m with
  | zero =>
    intro k fuel ac hk hf h
    obtain ⟨f, rfl⟩ : ∃ f, fuel = f + 1 := ⟨fuel - 1, by omega⟩
    have e : k = 49 := by omega
    subst e
    exact br_t (nI_le (a := 49) (Nat.le_refl _) (by decide)) (K ac h)
  | succ m ih =>
    intro k fuel ac hk hf h
    obtain ⟨f, rfl⟩ : ∃ f, fuel = f + 1 := ⟨fuel - 1, by omega⟩
    refine br_f (nI_ge (b := 49) (by omega) (by decide)) ⟨vp_in_nI (by omega) (by omega), nm_r (e' := upd ac k (nI 10)) (by rw [nI_clamp (by omega)]; rfl) (nm_r (nI_1 k) ?_)⟩
    refine ih (k + 1) f _ (by omega) (by omega) (fun r hr => ?_)
    by_cases z : r = k
    · rw [z, pk_us]
    · rw [pk_un z]
      exact h r (by omega)
theorem tb_iyW {post : SY → Prop} {x : Int32} (K : ∀ ac' : Nat → Int32, (∀ k, k < 49 → ac' k = nI 10) → post (nI (tb_nn x), 0, 0, 0, 0, 0, ac', (fun _ => 0), (fun _ => 0), (fun _ => 0), (fun _ => 0), (fun _ => 0))) : wpY_init post x := by
  have H := tb_iy80 K 49 0 50 (fun _ => 0) (by omega) (by omega) (fun r hr => absurd hr (by omega))
  refine br_c (fun h1 => br_c (fun h2 => ⟨50, ?_⟩) (fun h2 => ⟨50, ?_⟩)) (fun h1 => ⟨50, ?_⟩)
  · rw [← tb_nnE h1 h2] at H
    exact H
  · have e : tb_nn x = 7 := by
      unfold tb_nn
      rw [if_pos h1, if_neg h2]
    rw [e] at H
    exact H
  · have e : tb_nn x = 2 := by
      unfold tb_nn
      rw [if_neg h1]
    rw [e] at H
    exact H
theorem i_vc0 (k0 : Int32) : wpX_init (fun u => wpY_init (fun v => i_Rel 1 u v) k0) k0 := by
  obtain ⟨b1, b2⟩ := tb_nnB k0
  refine tb_inX (fun ap' rows' h1 h2 => ?_)
  refine tb_iyW (fun ac' h3 => ?_)
  refine tb_mk (pr := fun _ => 10) (hw := fun _ => 0) b1 b2 (fun _ => by decide) (fun _ => by decide) (fun i hi => ?_) (fun i hi => ?_) h1 (fun j hj => ?_) (fun a b ha hb hab => h3 _ (by omega)) (fun a b ha hb => ?_)
  · rw [b_0]
    simp
  · rw [b_0]
    simp
  · rw [h2 j hj, tb_Dc]
  · have e : tb_H (fun _ => 0) a b = 0 := by
      unfold tb_H
      by_cases z : a = b
      · rw [if_pos z]
      · rw [if_neg z]
    rw [e]
    rfl
theorem i_vc_towns {k : Nat} {u : SX} {v : SY} (I : i_Rel k u v) (hk : k + 4 ≤ 2049) : wpX_towns (fun r => wpY_towns (fun r' => r' = r ∧ i_Rel (k + 4) u v) v) u := by
  have I2 := I
  obtain ⟨n, pr, hw, hn, n7, hp, hw2, ⟨rq, cl, ap, ar, rfl, hrq, hcl, ha, hr⟩, ⟨le, lc, ti, fi, ch, ac, ah, lf, ro, us, jo, rfl, hc, hh⟩⟩ := I
  exact ⟨rfl, I2⟩
/-! two towns: bad, the same, good -/
theorem tb_cls (n : Nat) (x y : Int32) : ¬ ((∃ a, a < n ∧ x = nI a) ∧ ∃ b, b < n ∧ y = nI b) ∨ (∃ a, a < n ∧ x = nI a ∧ y = nI a) ∨ ∃ a b, a < n ∧ b < n ∧ a ≠ b ∧ x = nI a ∧ y = nI b := by
  by_cases z : (∃ a, a < n ∧ x = nI a) ∧ ∃ b, b < n ∧ y = nI b
  · obtain ⟨⟨a, ha, ea⟩, b, hb, eb⟩ := z
    by_cases e : a = b
    · exact Or.inr (Or.inl ⟨a, ha, ea, by rw [e]; exact eb⟩)
    · exact Or.inr (Or.inr ⟨a, b, ha, hb, e, ea, eb⟩)
  · exact Or.inl z
variable {n : Nat} {tc rq cl : Int32} {ap ar : Nat → Int32} {le lc ti fi ch : Int32} {ac ah lf ro us jo : Nat → Int32} {pr hw : Nat → Nat}
theorem tb_pfB {post : Int32 → Prop} {x y : Int32} (n7 : n ≤ 7) (z : ¬ ((∃ a, a < n ∧ x = nI a) ∧ ∃ b, b < n ∧ y = nI b)) (h : post (-1)) : wpX_pairFault post (nI n, tc, rq, cl, ap, ar) x y :=
  tb_pfX n7 (fun _ => h) (fun a ha ex ey => absurd ⟨⟨a, ha, ex⟩, a, ha, ey⟩ z) (fun a b ha hb _ ex ey => absurd ⟨⟨a, ha, ex⟩, b, hb, ey⟩ z)
theorem tb_pfS {post : Int32 → Prop} {a : Nat} (n7 : n ≤ 7) (ha : a < n) (h : post (-2)) : wpX_pairFault post (nI n, tc, rq, cl, ap, ar) (nI a) (nI a) :=
  tb_pfX n7 (fun z => absurd ⟨⟨a, ha, rfl⟩, a, ha, rfl⟩ z) (fun _ _ _ _ => h) (fun a' b' ha' hb' hab ex ey => absurd ((nI_eq (by omega) (by omega)).mp (ex.symm.trans ey)) hab)
theorem tb_pfG {post : Int32 → Prop} {a b : Nat} (n7 : n ≤ 7) (ha : a < n) (hb : b < n) (hab : a ≠ b) (h : post 0) : wpX_pairFault post (nI n, tc, rq, cl, ap, ar) (nI a) (nI b) :=
  tb_pfX n7 (fun z => absurd ⟨⟨a, ha, rfl⟩, b, hb, rfl⟩ z) (fun c hc ex ey => absurd ((nI_eq (by omega) (by omega)).mp (ex.trans ey.symm)) hab) (fun _ _ _ _ _ _ _ => h)
theorem tb_YBb {A B C : Prop} {x y : Int32} (n7 : n ≤ 7) (z : ¬ ((∃ a, a < n ∧ x = nI a) ∧ ∃ b, b < n ∧ y = nI b)) (h : C) : wpY_bad (fun r_1 => (r_1 = 0 → wpY_bad (fun r_15 => (r_15 = 0 → ((x = y → A) ∧ (¬ x = y → B))) ∧ (¬ r_15 = 0 → C)) (nI n, le, lc, ti, fi, ch, ac, ah, lf, ro, us, jo) y) ∧ (¬ r_1 = 0 → C)) (nI n, le, lc, ti, fi, ch, ac, ah, lf, ro, us, jo) x :=
  tb_bdW n7 (fun w1 => br_t rfl (tb_bdW n7 (fun w2 => absurd ⟨w1, w2⟩ z) (fun _ => br_f (by decide) h))) (fun _ => br_f (by decide) h)
theorem tb_YBs {A B C : Prop} {a : Nat} (n7 : n ≤ 7) (ha : a < n) (h : A) : wpY_bad (fun r_1 => (r_1 = 0 → wpY_bad (fun r_15 => (r_15 = 0 → ((nI a = nI a → A) ∧ (¬ nI a = nI a → B))) ∧ (¬ r_15 = 0 → C)) (nI n, le, lc, ti, fi, ch, ac, ah, lf, ro, us, jo) (nI a)) ∧ (¬ r_1 = 0 → C)) (nI n, le, lc, ti, fi, ch, ac, ah, lf, ro, us, jo) (nI a) :=
  tb_bdW n7 (fun _ => br_t rfl (tb_bdW n7 (fun _ => br_t rfl (br_t rfl h)) (fun w => absurd ⟨a, ha, rfl⟩ w))) (fun w => absurd ⟨a, ha, rfl⟩ w)
theorem tb_YBg {A B C : Prop} {a b : Nat} (n7 : n ≤ 7) (ha : a < n) (hb : b < n) (hab : a ≠ b) (h : B) : wpY_bad (fun r_1 => (r_1 = 0 → wpY_bad (fun r_15 => (r_15 = 0 → ((nI a = nI b → A) ∧ (¬ nI a = nI b → B))) ∧ (¬ r_15 = 0 → C)) (nI n, le, lc, ti, fi, ch, ac, ah, lf, ro, us, jo) (nI b)) ∧ (¬ r_1 = 0 → C)) (nI n, le, lc, ti, fi, ch, ac, ah, lf, ro, us, jo) (nI a) :=
  tb_bdW n7 (fun _ => br_t rfl (tb_bdW n7 (fun _ => br_t rfl (br_f (fun z => hab ((nI_eq (by omega) (by omega)).mp z)) h)) (fun w => absurd ⟨b, hb, rfl⟩ w))) (fun w => absurd ⟨a, ha, rfl⟩ w)
end TBRel
section TBRel2
theorem i_vc_price {k : Nat} {u : SX} {v : SY} (I : i_Rel k u v) (hk : k + 4 ≤ 2049) (v1 : Int32) (v2 : Int32) (v3 : Int32) : wpX_price (fun r u' => wpY_price (fun r' v' => r' = r ∧ i_Rel (k + 4) u' v') v v1 v2 v3) u v1 v2 v3 := by
  have I2 := I
  obtain ⟨n, pr, hw, hn, n7, hp, hw2, ⟨rq, cl, ap, ar, rfl, hrq, hcl, ha, hr⟩, ⟨le, lc, ti, fi, ch, ac, ah, lf, ro, us, jo, rfl, hc, hh⟩⟩ := I
  unfold wpX_price wpY_price
  rcases tb_cls n v1 v2 with z | ⟨a, han, rfl, rfl⟩ | ⟨a, b, han, hbn, hab, rfl, rfl⟩
  · exact tb_pfB n7 z (br_f (by decide) (tb_YBb n7 z ⟨rfl, I2⟩))
  · exact tb_pfS n7 han (br_f (by decide) (tb_YBs n7 han ⟨rfl, I2⟩))
  · refine tb_pfG n7 han hbn hab (br_t rfl ?_)
    rcases pk_ix v3 (n := 41) (by decide) with z | z | ⟨c, hc2, rfl⟩
    · exact br_t z (tb_YBg n7 han hbn hab (br_t z ⟨rfl, I2⟩))
    · have z0 : ¬ v3 < 0 := Int32.not_lt.mpr (Int32.le_trans (by decide) z)
      have z1 : ¬ v3 ≤ 40 := fun w => absurd (Int32.le_trans z w) (by decide)
      exact br_f z0 (br_f z1 (tb_YBg n7 han hbn hab (br_f z0 (br_f z1 ⟨rfl, I2⟩))))
    · have z0 : ¬ nI c < 0 := nI_pos (by omega)
      have z1 : nI c ≤ 40 := nI_le (b := 40) (by omega) (by decide)
      have hr21 := tb_trL a (by omega) b (by omega) hab
      have i1 : vp_in (nI (tb_tr a b)) 21 := vp_in_nI hr21 (by omega)
      have e1 := tb_ix a (by omega) b (by omega)
      have i2 : vp_in (nI a * 7 + nI b) 49 := by
        rw [e1]
        exact vp_in_nI (by omega) (by omega)
      have e2 : ac (nI a * 7 + nI b).toNatClampNeg = nI (pr (tb_tr a b)) := by rw [e1, nI_clamp (by omega), hc a b han hbn hab]
      refine br_f z0 (br_t z1 ?_)
      refine tb_rbX (by omega) (by omega) ⟨i1, nm_r (e' := nI (pr (tb_tr a b))) (by rw [nI_clamp (by omega), ha _ hr21]) ⟨i1, nm_r (e' := upd ap (tb_tr a b) (nI c)) (by rw [nI_clamp (by omega)]) ?_⟩⟩
      refine tb_YBg n7 han hbn hab (br_f z0 (br_t z1 ⟨i2, nm_r e2 ?_⟩))
      refine tb_cgW (by omega) (by omega) ⟨rfl, ?_⟩
      exact tb_mk (pr := tb_set pr (tb_tr a b) c) hn n7 (tb_setB hp (by omega)) hw2 hrq hcl (tb_upX ha) hr (tb_upP (by omega) (by omega) hab n7 hc) hh
theorem tb_sfX {post : Int32 → Prop} {u : SX} {x y : Int32} (h1 : x < 0 ∨ 41 ≤ x → post (-1)) (h2 : ¬ (x < 0 ∨ 41 ≤ x) → y < 0 ∨ 41 ≤ y → post (-2)) (h3 : ∀ s t, s < 41 → t < 41 → x = nI s → y = nI t → post 0) : wpX_seedFault post u x y := by
  obtain ⟨fn, tc, rq, cl, ap, ar⟩ := u
  refine br_c (fun z => h1 (Or.inl z)) (fun z => br_c (fun z2 => ?_) (fun z2 => h1 (Or.inr (Int32.not_lt.mp z2))))
  have zz : ¬ (x < 0 ∨ 41 ≤ x) := fun w => w.elim z (fun q => Int32.not_le.mpr z2 q)
  refine br_c (fun z3 => h2 zz (Or.inl z3)) (fun z3 => br_c (fun z4 => ?_) (fun z4 => h2 zz (Or.inr (Int32.not_lt.mp z4))))
  obtain ⟨s, hs, rfl⟩ := nI_of z
  obtain ⟨t, ht, rfl⟩ := nI_of z3
  exact h3 s t ((nI_ltI (b := 41) hs (by decide)).mp z2) ((nI_ltI (b := 41) ht (by decide)).mp z4) rfl rfl
/-- a number, too small or too large -/
theorem tb_out {x : Int32} (h : x < 0 ∨ 41 ≤ x) : x < 0 ∨ (¬ x < 0 ∧ ¬ x ≤ 40) := by
  by_cases z : x < 0
  · exact Or.inl z
  · refine Or.inr ⟨z, fun w => ?_⟩
    rcases h with h | h
    · exact z h
    · exact absurd (Int32.le_trans h w) (by decide)
theorem tb_in {x : Int32} (h : ¬ (x < 0 ∨ 41 ≤ x)) : ¬ x < 0 ∧ x ≤ 40 := by
  refine ⟨fun z => h (Or.inl z), ?_⟩
  obtain ⟨s, hs, rfl⟩ := nI_of (x := x) (fun z => h (Or.inl z))
  have h2 : ¬ nI 41 ≤ nI s := fun z => h (Or.inr z)
  rw [nI_leI (by decide) hs] at h2
  exact nI_le (b := 40) (by omega) (by decide)
theorem i_vc_line {k : Nat} {u : SX} {v : SY} (I : i_Rel k u v) (hk : k + 4 ≤ 2049) (v1 : Int32) (v2 : Int32) : wpX_line (fun r u' => wpY_line (fun r' v' => r' = r ∧ i_Rel (k + 4) u' v') v v1 v2) u v1 v2 := by
  have I2 := I
  obtain ⟨n, pr, hw, hn, n7, hp, hw2, ⟨rq, cl, ap, ar, rfl, hrq, hcl, ha, hr⟩, ⟨le, lc, ti, fi, ch, ac, ah, lf, ro, us, jo, rfl, hc, hh⟩⟩ := I
  unfold wpX_line
  refine tb_sfX (fun z => br_f (by decide) ?_) (fun z1 z => br_f (by decide) ?_) (fun s t hs ht ex ey => br_t rfl ?_)
  · rcases tb_out z with w | ⟨w1, w2⟩
    · exact br_t w ⟨rfl, I2⟩
    · exact br_f w1 (br_f w2 ⟨rfl, I2⟩)
  · obtain ⟨q1, q2⟩ := tb_in z1
    rcases tb_out z with w | ⟨w1, w2⟩
    · exact br_f q1 (br_t q2 (br_t w ⟨rfl, I2⟩))
    · exact br_f q1 (br_t q2 (br_f w1 (br_f w2 ⟨rfl, I2⟩)))
  · subst ex ey
    refine ⟨n, tb_li16 n7 hs ht (fun ap' hL => ?_) (n - 1) 1 n ap (by omega) (by omega) ⟨fun a' b' h1 h2 => absurd h2 (by omega), fun r hr => ⟨pr r, hp r, ha r hr⟩⟩⟩
    have z1 : nI s ≤ 40 := nI_le (b := 40) (by omega) (by decide)
    have z2 : nI t ≤ 40 := nI_le (b := 40) (by omega) (by decide)
    refine br_f (nI_pos (by omega)) (br_t z1 (br_f (nI_pos (by omega)) (br_t z2 ⟨50, ?_⟩)))
    refine tb_ly27 hs ht (fun ac' hA => ⟨rfl, ?_⟩) 49 0 50 ac (by omega) (by omega) (fun j hj => absurd hj (by omega))
    obtain ⟨pr', hp', ha'⟩ := tb_chP hL.2
    refine tb_mk (pr := pr') hn n7 hp' hw2 hrq hcl ha' hr (fun a b han hbn hab => ?_) hh
    have q1 : (a * 7 + b) / 7 = a := by omega
    have q2 : (a * 7 + b) % 7 = b := by omega
    have hr21 := tb_trL a (by omega) b (by omega) hab
    rw [hA _ (by omega), q1, q2, ← ha' _ hr21]
    rcases Nat.lt_or_ge a b with w | w
    · rw [hL.1 a b w (Or.inl hbn)]
    · rw [tb_trC, hL.1 b a (by omega) (Or.inl han), tb_vlC]
theorem i_vc_sow {k : Nat} {u : SX} {v : SY} (I : i_Rel k u v) (hk : k + 4 ≤ 2049) (v1 : Int32) (v2 : Int32) : wpX_sow (fun r u' => wpY_sow (fun r' v' => r' = r ∧ i_Rel (k + 4) u' v') v v1 v2) u v1 v2 := by
  have I2 := I
  obtain ⟨n, pr, hw, hn, n7, hp, hw2, ⟨rq, cl, ap, ar, rfl, hrq, hcl, ha, hr⟩, ⟨le, lc, ti, fi, ch, ac, ah, lf, ro, us, jo, rfl, hc, hh⟩⟩ := I
  unfold wpX_sow
  refine tb_sfX (fun z => br_f (by decide) ?_) (fun z1 z => br_f (by decide) ?_) (fun s t hs ht ex ey => br_t rfl ?_)
  · rcases tb_out z with w | ⟨w1, w2⟩
    · exact br_t w ⟨rfl, I2⟩
    · exact br_f w1 (br_f w2 ⟨rfl, I2⟩)
  · obtain ⟨q1, q2⟩ := tb_in z1
    rcases tb_out z with w | ⟨w1, w2⟩
    · exact br_f q1 (br_t q2 (br_t w ⟨rfl, I2⟩))
    · exact br_f q1 (br_t q2 (br_f w1 (br_f w2 ⟨rfl, I2⟩)))
  · subst ex ey
    refine ⟨n, tb_so16 n7 hs ht (fun ap' hL => ?_) (n - 1) 1 n ap (by omega) (by omega) ⟨fun a' b' h1 h2 => absurd h2 (by omega), fun r hr => ⟨pr r, hp r, ha r hr⟩⟩⟩
    have z1 : nI s ≤ 40 := nI_le (b := 40) (by omega) (by decide)
    have z2 : nI t ≤ 40 := nI_le (b := 40) (by omega) (by decide)
    refine br_f (nI_pos (by omega)) (br_t z1 (br_f (nI_pos (by omega)) (br_t z2 ⟨50, ?_⟩)))
    refine tb_sy27 hs ht (fun ac' hA => ⟨rfl, ?_⟩) 49 0 50 ac (by omega) (by omega) (fun a b h1 h2 h3 => absurd h3 (by omega))
    obtain ⟨pr', hp', ha'⟩ := tb_chP hL.2
    refine tb_mk (pr := pr') hn n7 hp' hw2 hrq hcl ha' hr (fun a b han hbn hab => ?_) hh
    have hr21 := tb_trL a (by omega) b (by omega) hab
    rw [← ha' _ hr21]
    rcases Nat.lt_or_ge a b with w | w
    · rw [(hA a b w (by omega)).1, hL.1 a b w (Or.inl hbn)]
    · rw [(hA b a (by omega) (by omega)).2, tb_trC, hL.1 b a (by omega) (Or.inl han)]
theorem i_vc_priceOf {k : Nat} {u : SX} {v : SY} (I : i_Rel k u v) (hk : k + 4 ≤ 2049) (v1 : Int32) (v2 : Int32) : wpX_priceOf (fun r => wpY_priceOf (fun r' => r' = r ∧ i_Rel (k + 4) u v) v v1 v2) u v1 v2 := by
  have I2 := I
  obtain ⟨n, pr, hw, hn, n7, hp, hw2, ⟨rq, cl, ap, ar, rfl, hrq, hcl, ha, hr⟩, ⟨le, lc, ti, fi, ch, ac, ah, lf, ro, us, jo, rfl, hc, hh⟩⟩ := I
  unfold wpX_priceOf wpY_priceOf
  rcases tb_cls n v1 v2 with z | ⟨a, han, rfl, rfl⟩ | ⟨a, b, han, hbn, hab, rfl, rfl⟩
  · exact tb_pfB n7 z (br_f (by decide) (br_f (by decide) (tb_YBb n7 z ⟨rfl, I2⟩)))
  · exact tb_pfS n7 han (br_t rfl (tb_YBs n7 han ⟨rfl, I2⟩))
  · have hr21 := tb_trL a (by omega) b (by omega) hab
    have i1 : vp_in (nI (tb_tr a b)) 21 := vp_in_nI hr21 (by omega)
    have e1 := tb_ix a (by omega) b (by omega)
    have i2 : vp_in (nI a * 7 + nI b) 49 := by
      rw [e1]
      exact vp_in_nI (by omega) (by omega)
    have e2 : ac (nI a * 7 + nI b).toNatClampNeg = ap (nI (tb_tr a b)).toNatClampNeg := by rw [e1, nI_clamp (by omega), nI_clamp (by omega), hc a b han hbn hab, ha _ hr21]
    refine tb_pfG n7 han hbn hab (br_f (by decide) (br_t rfl ?_))
    exact tb_rbX (by omega) (by omega) ⟨i1, tb_YBg n7 han hbn hab ⟨i2, e2, I2⟩⟩
end TBRel2
end
section
section TBRel3
variable {n : Nat} {tc rq cl : Int32} {ap ar : Nat → Int32} {le lc ti fi ch : Int32} {ac ah lf ro us jo : Nat → Int32} {pr hw : Nat → Nat}
theorem tb_mkX {post : Int32 → SX → Prop} {a b c : Nat} (n7 : n ≤ 7) (hw2 : ∀ r, hw r ≤ 2) (hrq : ∀ i, i < 32 → bt rq i = decide (i < 21 ∧ hw i = 1)) (hcl : ∀ i, i < 32 → bt cl i = decide (i < 21 ∧ hw i = 2)) (ha : a < n) (hb : b < n) (hab : a ≠ b) (hc : c ≤ 2) (K : ∀ rq' cl' : Int32, (∀ i, i < 32 → bt rq' i = decide (i < 21 ∧ tb_set hw (tb_tr a b) c i = 1)) → (∀ i, i < 32 → bt cl' i = decide (i < 21 ∧ tb_set hw (tb_tr a b) c i = 2)) → post (nI (hw (tb_tr a b))) (nI n, tc, rq', cl', ap, ar)) : wpX_mark post (nI n, tc, rq, cl, ap, ar) (nI a) (nI b) (nI c) := by
  have hr21 := tb_trL a (by omega) b (by omega) hab
  have z1 : nI c ≤ 2 := nI_le (b := 2) (by omega) (by decide)
  have c1 : nI c = 1 ↔ c = 1 := nI_eq (b := 1) (by omega) (by decide)
  have c2 : nI c = 2 ↔ c = 2 := nI_eq (b := 2) (by omega) (by decide)
  unfold wpX_mark
  refine tb_pfG n7 ha hb hab (br_t rfl (br_f (nI_pos (by omega)) (br_t z1 ?_)))
  refine tb_rbX (by omega) (by omega) (nm_e ?_)
  refine tb_moX hw2 hrq hcl hr21 (br_c (fun z => br_c (fun w => nm_e (K _ _ ?_ ?_)) (fun w => nm_e (K _ _ ?_ ?_))) (fun z => br_c (fun w => nm_e (K _ _ ?_ ?_)) (fun w => nm_e (K _ _ ?_ ?_))))
  · exact tb_mb1 hr21 hrq (c1.mp z)
  · exact tb_mb1 hr21 hcl (c2.mp w)
  · exact tb_mb1 hr21 hrq (c1.mp z)
  · exact tb_mb0 hr21 hcl (fun q => w (c2.mpr q))
  · exact tb_mb0 hr21 hrq (fun q => z (c1.mpr q))
  · exact tb_mb1 hr21 hcl (c2.mp w)
  · exact tb_mb0 hr21 hrq (fun q => z (c1.mpr q))
  · exact tb_mb0 hr21 hcl (fun q => w (c2.mpr q))
theorem tb_mkY {post : Int32 → SY → Prop} {a b c : Nat} (n7 : n ≤ 7) (hh : ∀ a b, a < 7 → b < 7 → ah (a * 7 + b) = nI (tb_H hw a b)) (ha : a < n) (hb : b < n) (hab : a ≠ b) (hc : c ≤ 2) (K : ∀ ah' : Nat → Int32, (∀ a' b', a' < 7 → b' < 7 → ah' (a' * 7 + b') = nI (tb_H (tb_set hw (tb_tr a b) c) a' b')) → post (nI (hw (tb_tr a b))) (nI n, le, lc, ti, fi, ch, ac, ah', lf, ro, us, jo)) : wpY_mark post (nI n, le, lc, ti, fi, ch, ac, ah, lf, ro, us, jo) (nI a) (nI b) (nI c) := by
  have e1 := tb_ix a (by omega) b (by omega)
  have e2 := tb_ix b (by omega) a (by omega)
  have i1 : vp_in (nI a * 7 + nI b) 49 := by
    rw [e1]
    exact vp_in_nI (by omega) (by omega)
  have i2 : vp_in (nI b * 7 + nI a) 49 := by
    rw [e2]
    exact vp_in_nI (by omega) (by omega)
  have z1 : nI c ≤ 2 := nI_le (b := 2) (by omega) (by decide)
  have e3 : ah (nI a * 7 + nI b).toNatClampNeg = nI (hw (tb_tr a b)) := by
    rw [e1, nI_clamp (by omega), hh a b (by omega) (by omega)]
    unfold tb_H
    rw [if_neg hab]
  unfold wpY_mark
  refine tb_YBg n7 ha hb hab (br_f (nI_pos (by omega)) (br_t z1 ⟨i1, nm_r e3 ⟨i1, nm_r (e' := upd ah (a * 7 + b) (nI c)) (by rw [e1, nI_clamp (by omega)]) ⟨i2, nm_r (e' := upd (upd ah (a * 7 + b) (nI c)) (b * 7 + a) (nI c)) (by rw [e2, nI_clamp (by omega)]) ?_⟩⟩⟩))
  exact K _ (tb_upH (by omega) (by omega) hab hh)
/-- both ask the same of a tour -/
theorem tb_aE {sh : Int32} (hrq : ∀ i, i < 32 → bt rq i = decide (i < 21 ∧ hw i = 1)) (hcl : ∀ i, i < 32 → bt sh i = decide (i < 21 ∧ hw i = 2)) : tb_aX n rq sh = tb_aY n hw := by
  funext j
  refine tb_BE ?_
  constructor
  · intro h r hr
    refine ⟨fun z w => ?_, fun z => h.2 r (by omega) ?_⟩
    · have := h.1 r (by omega) w
      rw [hcl r (by omega), decide_eq_false_iff_not] at this
      exact this ⟨hr, z⟩
    · rw [hrq r (by omega), decide_eq_true_iff]
      exact ⟨hr, z⟩
  · intro h
    refine ⟨fun i hi w => ?_, fun i hi w => ?_⟩
    · rw [hcl i hi, decide_eq_false_iff_not]
      exact fun z => (h i z.1).1 z.2 w
    · rw [hrq i hi, decide_eq_true_iff] at w
      exact (h i w.1).2 w.2
theorem tb_wE {lim : Int32} (hrq : ∀ i, i < 32 → bt rq i = decide (i < 21 ∧ hw i = 1)) (hcl : ∀ i, i < 32 → bt cl i = decide (i < 21 ∧ hw i = 2)) : tb_wX n pr rq cl lim = tb_wY n pr hw lim := by
  funext j
  unfold tb_wX tb_wY
  rw [tb_aE hrq hcl]
theorem tb_bsZ {al : Nat → Bool} {p : Nat → Nat} (h : ∀ i, al i = false) : ∀ k, tb_bs al p k = none
  | 0 => rfl
  | k + 1 => by rw [tb_bs0 (h k), tb_bsZ h k]
/-- the price of X's i-th row, by its code -/
theorem tb_tpI {post : Int32 → Prop} {i : Nat} (hn : 2 ≤ n) (n7 : n ≤ 7) (ha : ∀ r, r < 21 → ap r = nI (pr r)) (hi : i < tb_fc (n - 1)) (h : post (nI (tb_pX n pr i))) : wpX_tourPrice post (nI n, tc, rq, cl, ap, ar) (nI (tb_co (tb_D n i) n)) :=
  tb_tpW hn n7 ha (tb_Dp n i) (tb_D00 (by omega) hi) h
end TBRel3
section TBRel4
theorem i_vc_mark {k : Nat} {u : SX} {v : SY} (I : i_Rel k u v) (hk : k + 4 ≤ 2049) (v1 : Int32) (v2 : Int32) (v3 : Int32) : wpX_mark (fun r u' => wpY_mark (fun r' v' => r' = r ∧ i_Rel (k + 4) u' v') v v1 v2 v3) u v1 v2 v3 := by
  have I2 := I
  obtain ⟨n, pr, hw, hn, n7, hp, hw2, ⟨rq, cl, ap, ar, rfl, hrq, hcl, ha, hr⟩, ⟨le, lc, ti, fi, ch, ac, ah, lf, ro, us, jo, rfl, hc, hh⟩⟩ := I
  rcases tb_cls n v1 v2 with z | ⟨a, han, rfl, rfl⟩ | ⟨a, b, han, hbn, hab, rfl, rfl⟩
  · unfold wpX_mark wpY_mark
    exact tb_pfB n7 z (br_f (by decide) (tb_YBb n7 z ⟨rfl, I2⟩))
  · unfold wpX_mark wpY_mark
    exact tb_pfS n7 han (br_f (by decide) (tb_YBs n7 han ⟨rfl, I2⟩))
  · rcases pk_ix v3 (n := 3) (by decide) with z | z | ⟨c, hc2, rfl⟩
    · unfold wpX_mark wpY_mark
      exact tb_pfG n7 han hbn hab (br_t rfl (br_t z (tb_YBg n7 han hbn hab (br_t z ⟨rfl, I2⟩))))
    · have z0 : ¬ v3 < 0 := Int32.not_lt.mpr (Int32.le_trans (by decide) z)
      have z1 : ¬ v3 ≤ 2 := fun w => absurd (Int32.le_trans z w) (by decide)
      unfold wpX_mark wpY_mark
      exact tb_pfG n7 han hbn hab (br_t rfl (br_f z0 (br_f z1 (tb_YBg n7 han hbn hab (br_f z0 (br_f z1 ⟨rfl, I2⟩))))))
    · refine tb_mkX n7 hw2 hrq hcl han hbn hab (by omega) (fun rq' cl' h1 h2 => ?_)
      refine tb_mkY n7 hh han hbn hab (by omega) (fun ah' h3 => ⟨rfl, ?_⟩)
      exact tb_mk hn n7 hp (tb_setB hw2 (by omega)) h1 h2 ha hr hc h3
theorem i_vc_best {k : Nat} {u : SX} {v : SY} (I : i_Rel k u v) (hk : k + 4 ≤ 2049) : wpX_best (fun r => wpY_best (fun r' v' => r' = r ∧ i_Rel (k + 4) u v') v) u := by
  obtain ⟨n, pr, hw, hn, n7, hp, hw2, ⟨rq, cl, ap, ar, rfl, hrq, hcl, ha, hr⟩, ⟨le, lc, ti, fi, ch, ac, ah, lf, ro, us, jo, rfl, hc, hh⟩⟩ := I
  unfold wpX_best wpY_best
  refine tb_bwW hn n7 hp ha hr ?_
  have hE := tb_aE (n := n) hrq hcl
  rw [hE]
  cases e : tb_bs (tb_aY n hw) (tb_pX n pr) (tb_fc (n - 1)) with
  | none =>
    refine br_t rfl (tb_loW hn n7 hp hw2 hc hh (fun lf' ro' us' => ⟨?_, tb_mk hn n7 hp hw2 hrq hcl ha hr hc hh⟩))
    rw [e]
    rfl
  | some i =>
    have hi := ((tb_bsF _).2 i e).1
    refine br_f (tb_nm1 (tb_coD31 n7 i)) (tb_tpI hn n7 ha hi (tb_loW hn n7 hp hw2 hc hh (fun lf' ro' us' => ⟨?_, tb_mk hn n7 hp hw2 hrq hcl ha hr hc hh⟩)))
    rw [e]
    rfl
theorem i_vc_bestCode {k : Nat} {u : SX} {v : SY} (I : i_Rel k u v) (hk : k + 4 ≤ 2049) : wpX_bestCode (fun r => wpY_bestCode (fun r' v' => r' = r ∧ i_Rel (k + 4) u v') v) u := by
  obtain ⟨n, pr, hw, hn, n7, hp, hw2, ⟨rq, cl, ap, ar, rfl, hrq, hcl, ha, hr⟩, ⟨le, lc, ti, fi, ch, ac, ah, lf, ro, us, jo, rfl, hc, hh⟩⟩ := I
  unfold wpX_bestCode wpY_bestCode
  refine tb_bwW hn n7 hp ha hr ?_
  have hE := tb_aE (n := n) hrq hcl
  rw [hE]
  exact tb_loW hn n7 hp hw2 hc hh (fun lf' ro' us' => ⟨rfl, tb_mk hn n7 hp hw2 hrq hcl ha hr hc hh⟩)
theorem i_vc_bestTours {k : Nat} {u : SX} {v : SY} (I : i_Rel k u v) (hk : k + 4 ≤ 2049) : wpX_bestTours (fun r => wpY_bestTours (fun r' v' => r' = r ∧ i_Rel (k + 4) u v') v) u := by
  obtain ⟨n, pr, hw, hn, n7, hp, hw2, ⟨rq, cl, ap, ar, rfl, hrq, hcl, ha, hr⟩, ⟨le, lc, ti, fi, ch, ac, ah, lf, ro, us, jo, rfl, hc, hh⟩⟩ := I
  unfold wpX_bestTours wpY_bestTours
  refine tb_bwW hn n7 hp ha hr ?_
  have hE := tb_aE (n := n) hrq hcl
  rw [hE]
  cases e : tb_bs (tb_aY n hw) (tb_pX n pr) (tb_fc (n - 1)) with
  | none =>
    refine br_t rfl (tb_loW hn n7 hp hw2 hc hh (fun lf' ro' us' => ⟨?_, tb_mk hn n7 hp hw2 hrq hcl ha hr hc hh⟩))
    rw [tb_tiZ e]
    rfl
  | some i =>
    have hi := ((tb_bsF _).2 i e).1
    refine br_f (tb_nm1 (tb_coD31 n7 i)) (tb_tpI hn n7 ha hi ?_)
    refine tb_wiW (tc := 0) hn n7 ha hr ?_
    have hw3 : tb_cn (tb_wX n pr rq cl (nI (tb_pX n pr i))) (tb_fc (n - 1)) = tb_ti (tb_aY n hw) (tb_pX n pr) (tb_fc (n - 1)) := by
      rw [← tb_tiW e]
      refine tb_cnG _ (fun j hj => ?_)
      have b1 : tb_pX n pr i ≤ 280 := tb_tpB hp n7 _
      have b2 : tb_pX n pr j ≤ 280 := tb_tpB hp n7 _
      unfold tb_wX
      rw [hE]
      congr 1
      by_cases z : tb_pX n pr j ≤ tb_pX n pr i
      · rw [decide_eq_true z, decide_eq_false (nI_nlt z (by omega))]
        rfl
      · rw [decide_eq_false z, decide_eq_true (nI_lt (by omega) (by omega))]
        rfl
    rw [hw3]
    exact tb_loW hn n7 hp hw2 hc hh (fun lf' ro' us' => ⟨rfl, tb_mk hn n7 hp hw2 hrq hcl ha hr hc hh⟩)
theorem i_vc_allowed {k : Nat} {u : SX} {v : SY} (I : i_Rel k u v) (hk : k + 4 ≤ 2049) : wpX_allowed (fun r => wpY_allowed (fun r' v' => r' = r ∧ i_Rel (k + 4) u v') v) u := by
  obtain ⟨n, pr, hw, hn, n7, hp, hw2, ⟨rq, cl, ap, ar, rfl, hrq, hcl, ha, hr⟩, ⟨le, lc, ti, fi, ch, ac, ah, lf, ro, us, jo, rfl, hc, hh⟩⟩ := I
  unfold wpY_allowed
  refine tb_alW hn n7 hr ?_
  have hE := tb_aE (n := n) hrq hcl
  rw [hE]
  exact tb_loW hn n7 hp hw2 hc hh (fun lf' ro' us' => ⟨rfl, tb_mk hn n7 hp hw2 hrq hcl ha hr hc hh⟩)
theorem i_vc_within {k : Nat} {u : SX} {v : SY} (I : i_Rel k u v) (hk : k + 4 ≤ 2049) (v1 : Int32) : wpX_within (fun r => wpY_within (fun r' v' => r' = r ∧ i_Rel (k + 4) u v') v v1) u v1 := by
  obtain ⟨n, pr, hw, hn, n7, hp, hw2, ⟨rq, cl, ap, ar, rfl, hrq, hcl, ha, hr⟩, ⟨le, lc, ti, fi, ch, ac, ah, lf, ro, us, jo, rfl, hc, hh⟩⟩ := I
  unfold wpY_within
  refine tb_wiW (tc := 0) hn n7 ha hr ?_
  have hE := tb_wE (n := n) (pr := pr) (lim := v1) hrq hcl
  rw [hE]
  exact tb_loW hn n7 hp hw2 hc hh (fun lf' ro' us' => ⟨rfl, tb_mk hn n7 hp hw2 hrq hcl ha hr hc hh⟩)
theorem i_vc_priceOfTour {k : Nat} {u : SX} {v : SY} (I : i_Rel k u v) (hk : k + 4 ≤ 2049) (v1 : Int32) : wpX_priceOfTour (fun r => wpY_priceOfTour (fun r' v' => r' = r ∧ i_Rel (k + 4) u v') v v1) u v1 := by
  obtain ⟨n, pr, hw, hn, n7, hp, hw2, ⟨rq, cl, ap, ar, rfl, hrq, hcl, ha, hr⟩, ⟨le, lc, ti, fi, ch, ac, ah, lf, ro, us, jo, rfl, hc, hh⟩⟩ := I
  have h7 := tb_p7 (n - 1) (by omega)
  unfold wpX_priceOfTour wpY_priceOfTour
  by_cases T : ∃ c, v1 = nI c ∧ c < 7 ^ (n - 1) ∧ tb_pm n (tb_dg n c)
  · obtain ⟨c, rfl, hc7, hpm⟩ := T
    have hc7n : c < 7 ^ n := Nat.lt_of_lt_of_le hc7 (Nat.pow_le_pow_right (by decide) (by omega))
    have d0 := tb_dg0 (n := n) hc7
    refine tb_itW hn n7 hr (fun _ => br_f (by decide) ?_) (fun z => ?_)
    · have ec : nI c = nI (tb_co (tb_dg n c) n) := by rw [tb_dgE hc7n]
      refine (congrArg (wpX_tourPrice _ _) ec).mpr (tb_tpW hn n7 ha hpm d0 ?_)
      refine tb_rdW hn n7 (fun c' e1 e2 e3 ro' h' => br_f (by decide) ?_) (fun z => absurd ⟨c, rfl, hc7, hpm⟩ z)
      have : c = c' := (nI_eq (by omega) (by omega)).mp e1
      subst this
      exact tb_prW hn n7 hpm d0 h' hc ⟨rfl, tb_mk hn n7 hp hw2 hrq hcl ha hr hc hh⟩
    · obtain ⟨i, hi, e⟩ := (tb_isT hn n7).mpr ⟨hc7, hpm⟩
      exact absurd (by rw [e]) (z i hi)
  · refine tb_itW hn n7 hr (fun ⟨i, hi, e⟩ => absurd ?_ T) (fun _ => br_t rfl ?_)
    · obtain ⟨q1, q2⟩ := (tb_isT hn n7).mp ⟨i, hi, rfl⟩
      exact ⟨_, e.symm, q1, q2⟩
    · exact tb_rdW hn n7 (fun c' e1 e2 e3 ro' h' => absurd ⟨c', e1, e2, e3⟩ T) (fun z ro' => br_t rfl ⟨rfl, tb_mk hn n7 hp hw2 hrq hcl ha hr hc hh⟩)
theorem i_vc_isAllowed {k : Nat} {u : SX} {v : SY} (I : i_Rel k u v) (hk : k + 4 ≤ 2049) (v1 : Int32) : wpX_isAllowed (fun r => wpY_isAllowed (fun r' v' => r' = r ∧ i_Rel (k + 4) u v') v v1) u v1 := by
  obtain ⟨n, pr, hw, hn, n7, hp, hw2, ⟨rq, cl, ap, ar, rfl, hrq, hcl, ha, hr⟩, ⟨le, lc, ti, fi, ch, ac, ah, lf, ro, us, jo, rfl, hc, hh⟩⟩ := I
  have h7 := tb_p7 (n - 1) (by omega)
  unfold wpX_isAllowed wpY_isAllowed
  by_cases T : ∃ c, v1 = nI c ∧ c < 7 ^ (n - 1) ∧ tb_pm n (tb_dg n c)
  · obtain ⟨c, rfl, hc7, hpm⟩ := T
    have hc7n : c < 7 ^ n := Nat.lt_of_lt_of_le hc7 (Nat.pow_le_pow_right (by decide) (by omega))
    have d0 := tb_dg0 (n := n) hc7
    refine tb_itW hn n7 hr (fun _ => br_f (by decide) ?_) (fun z => ?_)
    · obtain ⟨i, hi, e⟩ := (tb_isT hn n7).mpr ⟨hc7, hpm⟩
      have hg : ∀ t, t < n → tb_dg n c t = tb_D n i t := tb_dgD (by omega) (fun t ht => Nat.lt_of_lt_of_le ((tb_Dp n i).1 t ht) n7) e
      have hA : tb_ft n rq cl (tb_D n i) ↔ tb_al n hw (tb_dg n c) := by
        rw [tb_alG hg]
        have := congrFun (tb_aE (n := n) hrq hcl) i
        unfold tb_aX tb_aY at this
        constructor
        · intro w
          exact tb_BT.mp (this ▸ tb_BT.mpr w)
        · intro w
          exact tb_BT.mp (this.symm ▸ tb_BT.mpr w)
      have ec : nI c = nI (tb_co (tb_D n i) n) := by rw [e]
      have Y : ∀ (r : Int32), ((tb_al n hw (tb_dg n c) → r = 1) ∧ (¬ tb_al n hw (tb_dg n c) → r = 0)) → wpY_read (fun r_1 u => match u with | (f_n_2, f_least_3, f_leastCode_4, f_ties_5, f_fine_6, f_cheap_7, a_cost_8, a_how_9, a_left_10, a_row_11, a_used_12, a_joined_13) => (((r_1 = 0 → ((-1) = r ∧ i_Rel (k + 4) (nI n, nI (tb_fc (n - 1)), rq, cl, ap, ar) (f_n_2, f_least_3, f_leastCode_4, f_ties_5, f_fine_6, f_cheap_7, a_cost_8, a_how_9, a_left_10, a_row_11, a_used_12, a_joined_13))) ∧ (¬ r_1 = 0 → (wpY_rowAllowed (fun r_15 u => match u with | (f_n_2, f_least_3, f_leastCode_4, f_ties_5, f_fine_6, f_cheap_7, a_cost_8, a_how_9, a_left_10, a_row_11, a_used_12, a_joined_13) => (((r_15 = 0 → (0 = r ∧ i_Rel (k + 4) (nI n, nI (tb_fc (n - 1)), rq, cl, ap, ar) (f_n_2, f_least_3, f_leastCode_4, f_ties_5, f_fine_6, f_cheap_7, a_cost_8, a_how_9, a_left_10, a_row_11, a_used_12, a_joined_13))) ∧ (¬ r_15 = 0 → (1 = r ∧ i_Rel (k + 4) (nI n, nI (tb_fc (n - 1)), rq, cl, ap, ar) (f_n_2, f_least_3, f_leastCode_4, f_ties_5, f_fine_6, f_cheap_7, a_cost_8, a_how_9, a_left_10, a_row_11, a_used_12, a_joined_13)))))) (f_n_2, f_least_3, f_leastCode_4, f_ties_5, f_fine_6, f_cheap_7, a_cost_8, a_how_9, a_left_10, a_row_11, a_used_12, a_joined_13)))))) (nI n, le, lc, ti, fi, ch, ac, ah, lf, ro, us, jo) (nI c) := by
        intro r hrr
        refine tb_rdW hn n7 (fun c' e1 e2 e3 ro' h' => br_f (by decide) ?_) (fun z => absurd ⟨c, rfl, hc7, hpm⟩ z)
        have : c = c' := (nI_eq (by omega) (by omega)).mp e1
        subst this
        exact tb_raW hn n7 hpm d0 h' hw2 hh (fun w us' => br_f (by decide) ⟨(hrr.1 w).symm, tb_mk hn n7 hp hw2 hrq hcl ha hr hc hh⟩) (fun w us' => br_t rfl ⟨(hrr.2 w).symm, tb_mk hn n7 hp hw2 hrq hcl ha hr hc hh⟩)
      refine (congrArg (fun x => wpX_fits _ _ x _) ec).mpr (tb_ftW hn n7 (tb_Dp n i) (tb_D00 (by omega) hi) (fun w => br_f (by decide) ?_) (fun w => br_t rfl ?_))
      · exact Y 1 ⟨fun _ => rfl, fun q => absurd (hA.mp w) q⟩
      · exact Y 0 ⟨fun q => absurd (hA.mpr q) w, fun _ => rfl⟩
    · obtain ⟨i, hi, e⟩ := (tb_isT hn n7).mpr ⟨hc7, hpm⟩
      exact absurd (by rw [e]) (z i hi)
  · refine tb_itW hn n7 hr (fun ⟨i, hi, e⟩ => absurd ?_ T) (fun _ => br_t rfl ?_)
    · obtain ⟨q1, q2⟩ := (tb_isT hn n7).mp ⟨i, hi, rfl⟩
      exact ⟨_, e.symm, q1, q2⟩
    · exact tb_rdW hn n7 (fun c' e1 e2 e3 ro' h' => absurd ⟨c', e1, e2, e3⟩ T) (fun z ro' => br_t rfl ⟨rfl, tb_mk hn n7 hp hw2 hrq hcl ha hr hc hh⟩)
end TBRel4
end
section
section TBRel5
variable {n : Nat} {rq cl : Int32} {ap ar : Nat → Int32} {le lc ti fi ch : Int32} {ac ah lf ro us jo : Nat → Int32} {pr hw : Nat → Nat}
/-- what worth answers for a road r -/
noncomputable def tb_wr (n : Nat) (pr hw : Nat → Nat) (r : Nat) : Int32 :=
  match tb_bs (tb_aY n hw) (tb_pX n pr) (tb_fc (n - 1)) with
  | none => -3
  | some i => if hw r = 1 then -4 else match tb_bs (tb_aY n (tb_set hw r 2)) (tb_pX n pr) (tb_fc (n - 1)) with
    | none => -4
    | some j => nI (tb_pX n pr j) - nI (tb_pX n pr i)
theorem tb_wr0 {r : Nat} (h : tb_bs (tb_aY n hw) (tb_pX n pr) (tb_fc (n - 1)) = none) : tb_wr n pr hw r = -3 := by
  unfold tb_wr
  rw [h]
theorem tb_wr1 {r i : Nat} (h : tb_bs (tb_aY n hw) (tb_pX n pr) (tb_fc (n - 1)) = some i) (h1 : hw r = 1) : tb_wr n pr hw r = -4 := by
  unfold tb_wr
  rw [h]
  exact if_pos h1
theorem tb_wr2 {r i : Nat} (h : tb_bs (tb_aY n hw) (tb_pX n pr) (tb_fc (n - 1)) = some i) (h1 : hw r ≠ 1) (h2 : tb_bs (tb_aY n (tb_set hw r 2)) (tb_pX n pr) (tb_fc (n - 1)) = none) : tb_wr n pr hw r = -4 := by
  unfold tb_wr
  rw [h]
  refine (if_neg h1).trans ?_
  rw [h2]
theorem tb_wr3 {r i j : Nat} (h : tb_bs (tb_aY n hw) (tb_pX n pr) (tb_fc (n - 1)) = some i) (h1 : hw r ≠ 1) (h2 : tb_bs (tb_aY n (tb_set hw r 2)) (tb_pX n pr) (tb_fc (n - 1)) = some j) : tb_wr n pr hw r = nI (tb_pX n pr j) - nI (tb_pX n pr i) := by
  unfold tb_wr
  rw [h]
  refine (if_neg h1).trans ?_
  rw [h2]
theorem tb_woX {post : Int32 → Prop} {a b : Nat} (hn : 2 ≤ n) (n7 : n ≤ 7) (hp : ∀ r, pr r ≤ 40) (hrq : ∀ i, i < 32 → bt rq i = decide (i < 21 ∧ hw i = 1)) (hcl : ∀ i, i < 32 → bt cl i = decide (i < 21 ∧ hw i = 2)) (ha : ∀ r, r < 21 → ap r = nI (pr r)) (hr : ∀ j, j < tb_fc n → ar j = nI (tb_co (tb_D n j) n)) (han : a < n) (hbn : b < n) (hab : a ≠ b) (h : post (tb_wr n pr hw (tb_tr a b))) : wpX_worth post (nI n, nI (tb_fc (n - 1)), rq, cl, ap, ar) (nI a) (nI b) := by
  have hr21 := tb_trL a (by omega) b (by omega) hab
  unfold wpX_worth
  refine tb_pfG n7 han hbn hab (br_t rfl ?_)
  refine tb_bwW hn n7 hp ha hr ?_
  have hE := tb_aE (n := n) hrq hcl
  rw [hE]
  cases e : tb_bs (tb_aY n hw) (tb_pX n pr) (tb_fc (n - 1)) with
  | none =>
    rw [tb_wr0 e] at h
    exact br_t rfl h
  | some i =>
    have hi := ((tb_bsF _).2 i e).1
    refine br_f (tb_nm1 (tb_coD31 n7 i)) ?_
    refine tb_rbX (by omega) (by omega) (nm_e ?_)
    refine tb_bwW hn n7 hp ha hr ?_
    by_cases z : hw (tb_tr a b) = 1
    · rw [tb_wr1 e z] at h
      have hN : tb_bs (tb_aX n rq (cl ||| ((1 : Int32) <<< (nI (tb_tr a b) &&& 31)))) (tb_pX n pr) (tb_fc (n - 1)) = none := by
        refine tb_bsZ (fun j => tb_BF.mpr (fun w => ?_)) _
        have w2 := w.2 (tb_tr a b) (by omega) (by rw [hrq _ (by omega)]; exact decide_eq_true ⟨hr21, z⟩)
        have w1 := w.1 (tb_tr a b) (by omega) w2
        rw [tb_bset (by omega) (by omega), decide_eq_true rfl, Bool.or_true] at w1
        cases w1
      rw [hN]
      exact br_t rfl h
    · have hrq2 : ∀ i, i < 32 → bt rq i = decide (i < 21 ∧ tb_set hw (tb_tr a b) 2 i = 1) := by
        intro i hi
        rw [hrq i hi]
        by_cases y : i = tb_tr a b
        · rw [y, tb_setE]
          simp [z]
        · rw [tb_setN y]
      have hE2 := tb_aE (n := n) hrq2 (tb_mb1 hr21 hcl (rfl : 2 = 2))
      rw [hE2]
      cases e2 : tb_bs (tb_aY n (tb_set hw (tb_tr a b) 2)) (tb_pX n pr) (tb_fc (n - 1)) with
      | none =>
        rw [tb_wr2 e z e2] at h
        exact br_t rfl h
      | some j =>
        have hj := ((tb_bsF _).2 j e2).1
        rw [tb_wr3 e z e2] at h
        exact br_f (tb_nm1 (tb_coD31 n7 j)) (tb_tpI hn n7 ha hj (tb_tpI hn n7 ha hi h))
theorem tb_woY {post : Int32 → SY → Prop} {a b : Nat} (hn : 2 ≤ n) (n7 : n ≤ 7) (hp : ∀ r, pr r ≤ 40) (hw2 : ∀ r, hw r ≤ 2) (hc : ∀ a b, a < n → b < n → a ≠ b → ac (a * 7 + b) = nI (pr (tb_tr a b))) (hh : ∀ a b, a < 7 → b < 7 → ah (a * 7 + b) = nI (tb_H hw a b)) (han : a < n) (hbn : b < n) (hab : a ≠ b) (K : ∀ (le' lc' ti' fi' ch' : Int32) (ah' lf' ro' us' : Nat → Int32), (∀ a b, a < 7 → b < 7 → ah' (a * 7 + b) = nI (tb_H hw a b)) → post (tb_wr n pr hw (tb_tr a b)) (nI n, le', lc', ti', fi', ch', ac, ah', lf', ro', us', jo)) : wpY_worth post (nI n, le, lc, ti, fi, ch, ac, ah, lf, ro, us, jo) (nI a) (nI b) := by
  have e1 := tb_ix a (by omega) b (by omega)
  have i1 : vp_in (nI a * 7 + nI b) 49 := by
    rw [e1]
    exact vp_in_nI (by omega) (by omega)
  have e3 : ah (nI a * 7 + nI b).toNatClampNeg = nI (hw (tb_tr a b)) := by
    rw [e1, nI_clamp (by omega), hh a b (by omega) (by omega)]
    unfold tb_H
    rw [if_neg hab]
  have h2 := hw2 (tb_tr a b)
  have c1 : nI (hw (tb_tr a b)) = 1 ↔ hw (tb_tr a b) = 1 := nI_eq (b := 1) (by omega) (by decide)
  have b1 : ∀ q, tb_pX n pr q ≤ 280 := fun q => tb_tpB hp n7 _
  unfold wpY_worth
  refine tb_YBg n7 han hbn hab ?_
  refine tb_loW hn n7 hp hw2 hc hh (fun lf1 ro1 us1 => ?_)
  cases e : tb_bs (tb_aY n hw) (tb_pX n pr) (tb_fc (n - 1)) with
  | none =>
    rw [tb_wr0 e] at K
    exact br_f (by decide : ¬ (0 : Int32) ≤ -1) (K _ _ _ _ _ ah lf1 ro1 us1 hh)
  | some i =>
    have bi := b1 i
    refine br_t (nI_pos' (by omega)) ⟨i1, nm_r e3 (br_c (fun z => ?_) (fun z => ?_))⟩
    · rw [tb_wr1 e (c1.mp z)] at K
      exact K _ _ _ _ _ ah lf1 ro1 us1 hh
    · have z2 : hw (tb_tr a b) ≠ 1 := fun w => z (c1.mpr w)
      refine tb_mkY (c := 2) n7 hh han hbn hab (by omega) (fun ah2 hh2 => ?_)
      refine tb_loW hn n7 hp (tb_setB hw2 (by omega)) hc hh2 (fun lf3 ro3 us3 => ?_)
      refine tb_mkY n7 hh2 han hbn hab h2 (fun ah4 hh4 => ?_)
      rw [tb_setS] at hh4
      cases e2 : tb_bs (tb_aY n (tb_set hw (tb_tr a b) 2)) (tb_pX n pr) (tb_fc (n - 1)) with
      | none =>
        rw [tb_wr2 e z2 e2] at K
        exact br_f (by decide : ¬ (0 : Int32) ≤ -1) (K _ _ _ _ _ ah4 lf3 ro3 us3 hh4)
      | some j =>
        have bj := b1 j
        rw [tb_wr3 e z2 e2] at K
        exact br_t (nI_pos' (by omega)) (K _ _ _ _ _ ah4 lf3 ro3 us3 hh4)
end TBRel5
section TBRel6
theorem i_vc_path {k : Nat} {u : SX} {v : SY} (I : i_Rel k u v) (hk : k + 4 ≤ 2049) (v1 : Int32) (v2 : Int32) : wpX_path (fun r => wpY_path (fun r' v' => r' = r ∧ i_Rel (k + 4) u v') v v1 v2) u v1 v2 := by
  have I2 := I
  obtain ⟨n, pr, hw, hn, n7, hp, hw2, ⟨rq, cl, ap, ar, rfl, hrq, hcl, ha, hr⟩, ⟨le, lc, ti, fi, ch, ac, ah, lf, ro, us, jo, rfl, hc, hh⟩⟩ := I
  rcases tb_cls n v1 v2 with z | ⟨a, han, rfl, rfl⟩ | ⟨a, b, han, hbn, hab, rfl, rfl⟩
  · unfold wpX_path wpY_path
    exact tb_pfB n7 z (br_f (by decide) (tb_YBb n7 z ⟨rfl, I2⟩))
  · unfold wpX_path wpY_path
    exact tb_pfS n7 han (br_f (by decide) (tb_YBs n7 han ⟨rfl, I2⟩))
  · unfold wpX_path
    refine tb_pfG n7 han hbn hab (br_t rfl ?_)
    refine tb_lpW hn n7 hp ha hr hcl han hbn (fun r hM => ?_)
    refine tb_paG hn n7 hp hw2 hc hh han hbn hab (fun r' lf' ro' hM' => ⟨?_, tb_mk hn n7 hp hw2 hrq hcl ha hr hc hh⟩)
    rw [tb_MnU (fun _ => Iff.rfl) hM' hM]
theorem i_vc_bestPath {k : Nat} {u : SX} {v : SY} (I : i_Rel k u v) (hk : k + 4 ≤ 2049) : wpX_bestPath (fun r => wpY_bestPath (fun r' v' => r' = r ∧ i_Rel (k + 4) u v') v) u := by
  obtain ⟨n, pr, hw, hn, n7, hp, hw2, ⟨rq, cl, ap, ar, rfl, hrq, hcl, ha, hr⟩, ⟨le, lc, ti, fi, ch, ac, ah, lf, ro, us, jo, rfl, hc, hh⟩⟩ := I
  refine tb_bpW hn n7 hp ha hr hcl (fun r hM => ?_)
  refine tb_byW hn n7 hp hw2 hc hh (fun r' lf' ro' hM' => ⟨?_, tb_mk hn n7 hp hw2 hrq hcl ha hr hc hh⟩)
  rw [tb_MnU (fun _ => Iff.rfl) hM' hM]
theorem i_vc_span {k : Nat} {u : SX} {v : SY} (I : i_Rel k u v) (hk : k + 4 ≤ 2049) : wpX_span (fun r => wpY_span (fun r' v' => r' = r ∧ i_Rel (k + 4) u v') v) u := by
  obtain ⟨n, pr, hw, hn, n7, hp, hw2, ⟨rq, cl, ap, ar, rfl, hrq, hcl, ha, hr⟩, ⟨le, lc, ti, fi, ch, ac, ah, lf, ro, us, jo, rfl, hc, hh⟩⟩ := I
  refine tb_spW hn n7 hp ha hcl (fun s c1 c2 c3 => ?_) (fun c0 => ?_)
  · refine tb_syW hn n7 hp hw2 hc hh (fun w jo' hJ hw3 => ⟨?_, tb_mk hn n7 hp hw2 hrq hcl ha hr hc hh⟩) (fun w jo' hJ hw3 => ?_)
    · obtain ⟨y1, y2, y3⟩ := tb_spY hJ
      rw [Nat.le_antisymm (y3 s c1) (c2 w (y2 hw3))]
    · have := (tb_spY hJ).2.2 s c1
      exact absurd (by omega) hw3
  · refine tb_syW hn n7 hp hw2 hc hh (fun w jo' hJ hw3 => ?_) (fun w jo' hJ hw3 => ⟨rfl, tb_mk hn n7 hp hw2 hrq hcl ha hr hc hh⟩)
    exact absurd ((tb_spY hJ).2.1 hw3) (c0 w)
theorem i_vc_worth {k : Nat} {u : SX} {v : SY} (I : i_Rel k u v) (hk : k + 4 ≤ 2049) (v1 : Int32) (v2 : Int32) : wpX_worth (fun r => wpY_worth (fun r' v' => r' = r ∧ i_Rel (k + 4) u v') v v1 v2) u v1 v2 := by
  have I2 := I
  obtain ⟨n, pr, hw, hn, n7, hp, hw2, ⟨rq, cl, ap, ar, rfl, hrq, hcl, ha, hr⟩, ⟨le, lc, ti, fi, ch, ac, ah, lf, ro, us, jo, rfl, hc, hh⟩⟩ := I
  rcases tb_cls n v1 v2 with z | ⟨a, han, rfl, rfl⟩ | ⟨a, b, han, hbn, hab, rfl, rfl⟩
  · unfold wpX_worth wpY_worth
    exact tb_pfB n7 z (br_f (by decide) (tb_YBb n7 z ⟨rfl, I2⟩))
  · unfold wpX_worth wpY_worth
    exact tb_pfS n7 han (br_f (by decide) (tb_YBs n7 han ⟨rfl, I2⟩))
  · refine tb_woX hn n7 hp hrq hcl ha hr han hbn hab ?_
    exact tb_woY hn n7 hp hw2 hc hh han hbn hab (fun _ _ _ _ _ ah' lf' ro' us' hh' => ⟨rfl, tb_mk hn n7 hp hw2 hrq hcl ha hr hc hh'⟩)
end TBRel6
end
