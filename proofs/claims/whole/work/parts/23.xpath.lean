section TBM
/-! X: pairFault, leastPath, bestPath -/
variable {rq cl : Int32} {ap ar : Nat → Int32} {n : Nat} {pr hw : Nat → Nat}
def tb_oi : Option Nat → Int32
  | none => -3
  | some v => nI v
theorem tb_miN (r : Option Nat) : tb_mi r none = r := by cases r <;> rfl
theorem tb_itX {post : Int32 → Prop} {tc x : Int32} (n7 : n ≤ 7) (hg : (∃ a, a < n ∧ x = nI a) → post 1) (hb : ¬ (∃ a, a < n ∧ x = nI a) → post 0) : wpX_isTown post (nI n, tc, rq, cl, ap, ar) x := by
  rcases pk_ix x (n := n) (by omega) with z | z | ⟨j, hj, rfl⟩
  · refine br_t z (hb ?_)
    rintro ⟨a, ha, rfl⟩
    exact nI_pos (by omega) z
  · have h0 : ¬ x < 0 := Int32.not_lt.mpr (Int32.le_trans (nI_pos' (by omega)) z)
    refine br_f h0 (br_t z (hb ?_))
    rintro ⟨a, ha, rfl⟩
    exact nI_ge ha (by omega) z
  · exact br_f (nI_pos (by omega)) (br_f (nI_ge hj (by omega)) (hg ⟨j, hj, rfl⟩))
theorem tb_pfX {post : Int32 → Prop} {tc x y : Int32} (n7 : n ≤ 7) (hb : ¬ ((∃ a, a < n ∧ x = nI a) ∧ ∃ b, b < n ∧ y = nI b) → post (-1)) (hs : ∀ a, a < n → x = nI a → y = nI a → post (-2)) (hg : ∀ a b, a < n → b < n → a ≠ b → x = nI a → y = nI b → post 0) : wpX_pairFault post (nI n, tc, rq, cl, ap, ar) x y := by
  unfold wpX_pairFault
  refine tb_itX n7 (fun z => br_f (by decide) ?_) (fun z => br_t rfl (hb (fun w => z w.1)))
  refine tb_itX n7 (fun z2 => br_f (by decide) ?_) (fun z2 => br_t rfl (hb (fun w => z2 w.2)))
  obtain ⟨a, ha, rfl⟩ := z
  obtain ⟨b, hb2, rfl⟩ := z2
  refine br_c (fun w => hs a ha rfl w.symm) (fun w => hg a b ha hb2 (fun e => w (by rw [e])) rfl rfl)
/-- what one of X's rows gives for the way to b -/
def tb_XT (n : Nat) (pr : Nat → Nat) (cl : Int32) (b j w : Nat) : Prop := tb_D n j (n - 1) = b ∧ (∀ r, tb_pu n (tb_D n j) r → bt cl r = false) ∧ tb_pp n pr (tb_D n j) = w
theorem tb_lp21 {post : Int32 → Prop} {b lo hi : Nat} (hn : 2 ≤ n) (n7 : n ≤ 7) (hp : ∀ r, pr r ≤ 40) (ha : ∀ r, r < 21 → ap r = nI (pr r)) (hr : ∀ j, j < tb_fc n → ar j = nI (tb_co (tb_D n j) n)) (hb : b < n) (hhi : hi ≤ tb_fc n) (K : ∀ r, tb_Mn (fun w => ∃ j, lo ≤ j ∧ j < hi ∧ tb_XT n pr cl b j w) r → post (tb_oi r)) : ∀ (m i fuel : Nat) (r : Option Nat), i + m = hi → lo ≤ i → m < fuel → tb_Mn (fun w => ∃ j, lo ≤ j ∧ j < i ∧ tb_XT n pr cl b j w) r → wX_leastPath_21 post (nI b) (nI hi) (nI n) (nI (tb_fc (n - 1))) rq cl ap ar fuel (tb_oi r) (nI i) := by
  have h5 := (tb_fcV n (by omega)).1
  intro m
  induction m with
  | zero =>
    intro i fuel r hi2 _ hf hM
    obtain ⟨f, rfl⟩ : ∃ f, fuel = f + 1 := ⟨fuel - 1, by omega⟩
    have e : i = hi := by omega
    rw [e] at hM ⊢
    exact br_t (nI_le (Nat.le_refl _) (by omega)) (K r hM)
  | succ m ih =>
    intro i fuel r hi2 hlo hf hM
    obtain ⟨f, rfl⟩ : ∃ f, fuel = f + 1 := ⟨fuel - 1, by omega⟩
    have hd := tb_Dp n i
    have i1 : vp_in (nI i) 5040 := vp_in_nI (by omega) (by omega)
    have ea : ar (nI i).toNatClampNeg = nI (tb_co (tb_D n i) n) := by rw [nI_clamp (by omega), hr i (by omega)]
    obtain ⟨_, q2⟩ := tb_last n7 hd (m := n - 1) (by omega)
    have e1 : n - 1 + 1 = n := by omega
    rw [e1] at q2
    have hl := hd.1 (n - 1) (by omega)
    have hpp := tb_ppB (n := n) hp n7 (tb_D n i)
    have step : ∀ q, tb_Mn (fun w => tb_XT n pr cl b i w) q → wX_leastPath_21 post (nI b) (nI hi) (nI n) (nI (tb_fc (n - 1))) rq cl ap ar f (tb_oi (tb_mi r q)) (nI (i + 1)) := fun q hq => by
      refine ih (i + 1) f _ (by omega) (by omega) (by omega) (tb_MnM (fun w => ?_) hM hq)
      constructor
      · rintro ⟨j, h1, h2, h3⟩
        rcases Nat.lt_or_ge j i with z | z
        · exact Or.inl ⟨j, h1, z, h3⟩
        · have e : j = i := by omega
          rw [e] at h3
          exact Or.inr h3
      · rintro (⟨j, h1, h2, h3⟩ | h3)
        · exact ⟨j, h1, by omega, h3⟩
        · exact ⟨i, hlo, by omega, h3⟩
    have none' : (∀ w, ¬ tb_XT n pr cl b i w) → wX_leastPath_21 post (nI b) (nI hi) (nI n) (nI (tb_fc (n - 1))) rq cl ap ar f (tb_oi r) (nI (i + 1)) := fun w => by
      have := step none w
      rw [tb_miN] at this
      exact this
    refine br_f (nI_ge (by omega) (by omega)) ⟨i1, by decide, ?_⟩
    rw [ea, q2]
    refine br_c (fun z => ⟨i1, ?_⟩) (fun z => nm_r (nI_1 i) (none' (fun w hw => z (by rw [hw.1]))))
    have z2 : tb_D n i (n - 1) = b := (nI_eq (by omega) (by omega)).mp z
    refine tb_rrW hn n7 hd (fun y hy => ?_)
    refine br_c (fun z3 => ⟨i1, ?_⟩) (fun z3 => nm_r (nI_1 i) (none' (fun w hw => z3 (tb_bd.mpr (fun j hj hj2 => hw.2.1 j ((hy j hj).mp hj2))))))
    have z4 : ∀ r, tb_pu n (tb_D n i) r → bt cl r = false := fun j hj => by
      have h21 := tb_puL n7 hd hj
      exact tb_bd.mp z3 j (by omega) ((hy j (by omega)).mpr hj)
    have S := step (some (tb_pp n pr (tb_D n i))) ⟨⟨z2, z4, rfl⟩, fun w hw => Nat.le_of_eq hw.2.2⟩
    refine tb_rpW hn n7 ha hd ?_
    cases r with
    | none => exact br_t rfl (nm_r (nI_1 i) S)
    | some v =>
      have hv : v ≤ 240 := by
        obtain ⟨j, _, _, h3⟩ := hM.1
        rw [← h3.2.2]
        exact tb_ppB hp n7 _
      refine br_f (tb_nm3 (by omega)) (pk_le v (tb_pp n pr (tb_D n i)) (fun w => nm_r (nI_1 i) ?_) (fun w => nm_r (nI_1 i) ?_))
      · have e : tb_mi (some v) (some (tb_pp n pr (tb_D n i))) = some v := if_neg (by omega)
        rw [e] at S
        exact S
      · have e : tb_mi (some v) (some (tb_pp n pr (tb_D n i))) = some (tb_pp n pr (tb_D n i)) := if_pos (by omega)
        rw [e] at S
        exact S
theorem tb_lpW {post : Int32 → Prop} {a b : Nat} (hn : 2 ≤ n) (n7 : n ≤ 7) (hp : ∀ r, pr r ≤ 40) (ha : ∀ r, r < 21 → ap r = nI (pr r)) (hr : ∀ j, j < tb_fc n → ar j = nI (tb_co (tb_D n j) n)) (hcl : ∀ i, i < 32 → bt cl i = decide (i < 21 ∧ hw i = 2)) (han : a < n) (hb : b < n) (K : ∀ r, tb_Mn (tb_SP n pr hw a b) r → post (tb_oi r)) : wpX_leastPath post (nI n, nI (tb_fc (n - 1)), rq, cl, ap, ar) (nI a) (nI b) := by
  have e1 : (nI a + 1) * nI (tb_fc (n - 1)) = nI ((a + 1) * tb_fc (n - 1)) := by rw [nI_1, pk_mul]
  have f0 := tb_fcp (n - 1)
  have hhi : (a + 1) * tb_fc (n - 1) ≤ tb_fc n := by
    rw [tb_fcn hn n7]
    exact Nat.mul_le_mul_right _ (by omega)
  have e2 : (a + 1) * tb_fc (n - 1) = a * tb_fc (n - 1) + tb_fc (n - 1) := Nat.succ_mul _ _
  refine nm_r e1 (nm_r (pk_mul a (tb_fc (n - 1))) ⟨tb_fc (n - 1) + 1, ?_⟩)
  refine tb_lp21 (lo := a * tb_fc (n - 1)) hn n7 hp ha hr hb hhi (fun r hM => K r (tb_MnE (fun w => ?_) hM)) (tb_fc (n - 1)) (a * tb_fc (n - 1)) _ none (by omega) (Nat.le_refl _) (by omega) (fun w => ?_)
  · constructor
    · rintro ⟨j, h1, h2, h3, h4, h5⟩
      obtain ⟨k, rfl⟩ : ∃ k, j = a * tb_fc (n - 1) + k := ⟨j - a * tb_fc (n - 1), by omega⟩
      have hd := tb_Dp n (a * tb_fc (n - 1) + k)
      refine ⟨tb_D n (a * tb_fc (n - 1) + k), hd, (tb_DA han (by omega)).1, h3, fun r hr2 z => ?_, h5⟩
      have h21 := tb_puL n7 hd hr2
      have := h4 r hr2
      rw [hcl r (by omega), decide_eq_false_iff_not] at this
      exact this ⟨h21, z⟩
    · rintro ⟨d, hd, d0, d1, h4, h5⟩
      obtain ⟨k, hk, e⟩ := tb_DE (by omega) hd
      rw [d0] at e
      refine ⟨a * tb_fc (n - 1) + k, by omega, by omega, ?_, fun r hr2 => ?_, ?_⟩
      · rw [e (n - 1) (by omega)]
        exact d1
      · have h21 := tb_puL n7 (tb_Dp n _) hr2
        rw [tb_puG e] at hr2
        rw [hcl r (by omega), decide_eq_false_iff_not]
        exact fun z => h4 r hr2 z.2
      · rw [tb_ppG e]
        exact h5
  · rintro ⟨j, h1, h2, _⟩
    omega
/-- the ways between any two towns, up to the pair (b, a) -/
def tb_BP (n : Nat) (pr hw : Nat → Nat) (b a w : Nat) : Prop := ∃ b' a', a' < b' ∧ (b' < b ∨ (b' = b ∧ a' < a)) ∧ tb_SP n pr hw a' b' w
theorem tb_SPb {a b w : Nat} (hp : ∀ r, pr r ≤ 40) (n7 : n ≤ 7) (h : tb_SP n pr hw a b w) : w ≤ 240 := by
  obtain ⟨d, _, _, _, _, e⟩ := h
  rw [← e]
  exact tb_ppB hp n7 d
theorem tb_BPs {a b : Nat} (hab : a < b) {r q : Option Nat} (h : tb_Mn (tb_BP n pr hw b a) r) (hq : tb_Mn (tb_SP n pr hw a b) q) : tb_Mn (tb_BP n pr hw b (a + 1)) (tb_mi r q) := by
  refine tb_MnM (fun w => ?_) h hq
  constructor
  · rintro ⟨b', a', h1, h2, h3⟩
    rcases h2 with h2 | ⟨h2, h4⟩
    · exact Or.inl ⟨b', a', h1, Or.inl h2, h3⟩
    · rcases Nat.lt_or_ge a' a with z | z
      · exact Or.inl ⟨b', a', h1, Or.inr ⟨h2, z⟩, h3⟩
      · have e : a' = a := by omega
        rw [e, h2] at h3
        exact Or.inr h3
  · rintro (⟨b', a', h1, h2, h3⟩ | h3)
    · exact ⟨b', a', h1, by omega, h3⟩
    · exact ⟨b, a, hab, Or.inr ⟨rfl, by omega⟩, h3⟩
theorem tb_BPn {b : Nat} {r : Option Nat} (h : tb_Mn (tb_BP n pr hw b b) r) : tb_Mn (tb_BP n pr hw (b + 1) 0) r := by
  refine tb_MnE (fun w => ?_) h
  constructor
  · rintro ⟨b', a', h1, h2, h3⟩
    exact ⟨b', a', h1, by omega, h3⟩
  · rintro ⟨b', a', h1, h2, h3⟩
    exact ⟨b', a', h1, by omega, h3⟩
theorem tb_BPb {a b w : Nat} (hp : ∀ r, pr r ≤ 40) (n7 : n ≤ 7) (h : tb_BP n pr hw b a w) : w ≤ 240 := by
  obtain ⟨b', a', _, _, h3⟩ := h
  exact tb_SPb hp n7 h3
theorem tb_bp15 {post : Int32 → Prop} {J5 : Int32 → Int32 → Prop} {b : Nat} (hn : 2 ≤ n) (n7 : n ≤ 7) (hp : ∀ r, pr r ≤ 40) (ha : ∀ r, r < 21 → ap r = nI (pr r)) (hr : ∀ j, j < tb_fc n → ar j = nI (tb_co (tb_D n j) n)) (hcl : ∀ i, i < 32 → bt cl i = decide (i < 21 ∧ hw i = 2)) (hb : b < n) (K : ∀ r, tb_Mn (tb_BP n pr hw b b) r → J5 (tb_oi r) (nI (b + 1))) : ∀ (m a fuel : Nat) (r : Option Nat), a + m = b → m < fuel → tb_Mn (tb_BP n pr hw b a) r → wX_bestPath_15 post J5 (nI b) (nI n) (nI (tb_fc (n - 1))) rq cl ap ar fuel (tb_oi r) (nI a) := by
  intro m
  induction m with
  | zero =>
    intro a fuel r ha2 hf hM
    obtain ⟨f, rfl⟩ : ∃ f, fuel = f + 1 := ⟨fuel - 1, by omega⟩
    have e : a = b := by omega
    rw [e] at hM ⊢
    exact br_t (nI_le (Nat.le_refl _) (by omega)) (nm_r (nI_1 b) (K r hM))
  | succ m ih =>
    intro a fuel r ha2 hf hM
    obtain ⟨f, rfl⟩ : ∃ f, fuel = f + 1 := ⟨fuel - 1, by omega⟩
    refine br_f (nI_ge (by omega) (by omega)) ?_
    refine tb_lpW hn n7 hp ha hr hcl (by omega) hb (fun q hq => ?_)
    have S := ih (a + 1) f _ (by omega) (by omega) (tb_BPs (by omega) hM hq)
    cases q with
    | none =>
      rw [tb_miN] at S
      exact br_t rfl (nm_r (nI_1 a) S)
    | some p =>
      have hpp := tb_SPb hp n7 hq.1
      refine br_f (tb_nm3 (by omega)) ?_
      cases r with
      | none => exact br_t rfl (nm_r (nI_1 a) S)
      | some v =>
        have hv := tb_BPb hp n7 hM.1
        refine br_f (tb_nm3 (by omega)) (pk_le v p (fun w => nm_r (nI_1 a) ?_) (fun w => nm_r (nI_1 a) ?_))
        · have e : tb_mi (some v) (some p) = some v := if_neg (by omega)
          rw [e] at S
          exact S
        · have e : tb_mi (some v) (some p) = some p := if_pos (by omega)
          rw [e] at S
          exact S
theorem tb_bp5 {post : Int32 → Prop} (hn : 2 ≤ n) (n7 : n ≤ 7) (hp : ∀ r, pr r ≤ 40) (ha : ∀ r, r < 21 → ap r = nI (pr r)) (hr : ∀ j, j < tb_fc n → ar j = nI (tb_co (tb_D n j) n)) (hcl : ∀ i, i < 32 → bt cl i = decide (i < 21 ∧ hw i = 2)) (K : ∀ r, tb_Mn (tb_BP n pr hw n 0) r → post (tb_oi r)) : ∀ (m b fuel : Nat) (r : Option Nat), b + m = n → m < fuel → tb_Mn (tb_BP n pr hw b 0) r → wX_bestPath_5 post (nI n) (nI (tb_fc (n - 1))) rq cl ap ar fuel (tb_oi r) (nI b) := by
  intro m
  induction m with
  | zero =>
    intro b fuel r hb hf hM
    obtain ⟨f, rfl⟩ : ∃ f, fuel = f + 1 := ⟨fuel - 1, by omega⟩
    have e : b = n := by omega
    rw [e] at hM ⊢
    exact br_t (nI_le (Nat.le_refl _) (by omega)) (K r hM)
  | succ m ih =>
    intro b fuel r hb hf hM
    obtain ⟨f, rfl⟩ : ∃ f, fuel = f + 1 := ⟨fuel - 1, by omega⟩
    refine br_f (nI_ge (by omega) (by omega)) ⟨b + 1, ?_⟩
    exact tb_bp15 hn n7 hp ha hr hcl (by omega) (fun r' hM' => ih (b + 1) f r' (by omega) (by omega) (tb_BPn hM')) b 0 (b + 1) r (by omega) (by omega) hM
theorem tb_bpW {post : Int32 → Prop} (hn : 2 ≤ n) (n7 : n ≤ 7) (hp : ∀ r, pr r ≤ 40) (ha : ∀ r, r < 21 → ap r = nI (pr r)) (hr : ∀ j, j < tb_fc n → ar j = nI (tb_co (tb_D n j) n)) (hcl : ∀ i, i < 32 → bt cl i = decide (i < 21 ∧ hw i = 2)) (K : ∀ r, tb_Mn (tb_BP n pr hw n 0) r → post (tb_oi r)) : wpX_bestPath post (nI n, nI (tb_fc (n - 1)), rq, cl, ap, ar) := by
  refine ⟨n, tb_bp5 hn n7 hp ha hr hcl K (n - 1) 1 n none (by omega) (by omega) ?_⟩
  rintro w ⟨b', a', h1, h2, h3⟩
  omega
end TBM
