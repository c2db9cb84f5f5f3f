section TBK
/-! X: the loops over the tours -/
variable {rq cl : Int32} {ap ar : Nat → Int32} {n : Nat} {pr : Nat → Nat}
noncomputable def tb_aX (n : Nat) (rq sh : Int32) (i : Nat) : Bool := tb_B (tb_ft n rq sh (tb_D n i))
def tb_pX (n : Nat) (pr : Nat → Nat) (i : Nat) : Nat := tb_tp n pr (tb_D n i)
def tb_oc (n : Nat) : Option Nat → Int32
  | none => -1
  | some i => nI (tb_co (tb_D n i) n)
theorem tb_coD31 (n7 : n ≤ 7) (j : Nat) : tb_co (tb_D n j) n < 2 ^ 31 :=
  Nat.lt_trans (tb_coB n (fun t ht => Nat.lt_of_lt_of_le ((tb_Dp n j).1 t ht) n7)) (tb_p7 n (by omega))
theorem tb_fc5 (n7 : n ≤ 7) : tb_fc (n - 1) ≤ 5040 := (tb_fcV (n - 1) (by omega)).1
theorem tb_fcn (hn : 2 ≤ n) (n7 : n ≤ 7) : tb_fc n = n * tb_fc (n - 1) := (tb_fcV n (by omega)).2 (by omega)
theorem tb_fcl (hn : 2 ≤ n) (n7 : n ≤ 7) {i : Nat} (hi : i < tb_fc (n - 1)) : i < tb_fc n := by
  rw [tb_fcn hn n7]
  exact Nat.lt_of_lt_of_le hi (Nat.le_mul_of_pos_left _ (by omega))
theorem tb_bw40 {post : Int32 → Prop} {J7 : Int32 → Int32 → Int32 → Prop} {sh x2 x3 x5 : Int32} {i : Nat} (hn : 2 ≤ n) (n7 : n ≤ 7) (hr : ∀ j, j < tb_fc n → ar j = nI (tb_co (tb_D n j) n)) (hi : i < tb_fc (n - 1)) (h1 : tb_aX n rq sh i = true → J7 (nI (tb_co (tb_D n i) n)) x5 (nI (i + 1))) (h0 : tb_aX n rq sh i = false → J7 x2 x3 (nI (i + 1))) : wX_bestTourWithout_40 post J7 sh x2 x3 (nI i) x5 (nI n) (nI (tb_fc (n - 1))) rq cl ap ar := by
  have h5 := tb_fc5 n7
  have hl := tb_fcl hn n7 hi
  refine ⟨vp_in_nI (by omega) (by omega), ?_⟩
  rw [nI_clamp (by omega), hr i hl]
  refine tb_ftW hn n7 (tb_Dp n i) (tb_D00 (by omega) hi) (fun z => br_f (by decide) ⟨vp_in_nI (by omega) (by omega), nm_e (nm_r (nI_1 i) (h1 (tb_BT.mpr z)))⟩) (fun z => br_t rfl (nm_r (nI_1 i) (h0 (tb_BF.mpr z))))
theorem tb_bw7 {post : Int32 → Prop} {sh : Int32} (hn : 2 ≤ n) (n7 : n ≤ 7) (hp : ∀ r, pr r ≤ 40) (ha : ∀ r, r < 21 → ap r = nI (pr r)) (hr : ∀ j, j < tb_fc n → ar j = nI (tb_co (tb_D n j) n)) (h : post (tb_oc n (tb_bs (tb_aX n rq sh) (tb_pX n pr) (tb_fc (n - 1))))) : ∀ (m i fuel : Nat) (x3 : Int32), i + m = tb_fc (n - 1) → m < fuel → (∀ q, tb_bs (tb_aX n rq sh) (tb_pX n pr) i = some q → x3 = nI (tb_pX n pr q)) → wX_bestTourWithout_7 post sh (nI n) (nI (tb_fc (n - 1))) rq cl ap ar fuel (tb_oc n (tb_bs (tb_aX n rq sh) (tb_pX n pr) i)) x3 (nI i) := by
  have h5 := tb_fc5 n7
  intro m
  induction m with
  | zero =>
    intro i fuel x3 hi hf _
    obtain ⟨f, rfl⟩ : ∃ f, fuel = f + 1 := ⟨fuel - 1, by omega⟩
    have hi : i = tb_fc (n - 1) := by omega
    rw [hi]
    exact br_t (nI_le (Nat.le_refl _) (by omega)) h
  | succ m ih =>
    intro i fuel x3 hi hf hx
    obtain ⟨f, rfl⟩ : ∃ f, fuel = f + 1 := ⟨fuel - 1, by omega⟩
    have hi2 : i < tb_fc (n - 1) := by omega
    have hl := tb_fcl hn n7 hi2
    have b1 : ∀ q, tb_pX n pr q ≤ 280 := fun q => tb_tpB hp n7 _
    refine br_f (nI_ge (by omega) (by omega)) ⟨vp_in_nI (by omega) (by omega), ?_⟩
    rw [nI_clamp (by omega), hr i hl]
    refine tb_tpW hn n7 ha (tb_Dp n i) (tb_D00 (by omega) hi2) ?_
    have ihx := fun x3 hx => ih (i + 1) f x3 (by omega) (by omega) hx
    cases e : tb_bs (tb_aX n rq sh) (tb_pX n pr) i with
    | none =>
      have eN := tb_bsN e
      refine br_t rfl (tb_bw40 hn n7 hr hi2 (fun z => ?_) (fun z => ?_))
      · rw [if_pos z] at eN
        have := ihx (nI (tb_pX n pr i)) (fun q hq => by
          rw [eN] at hq
          cases hq
          rfl)
        rw [eN] at this
        exact this
      · rw [if_neg (by rw [z]; decide)] at eN
        have := ihx x3 (fun q hq => by
          rw [eN] at hq
          cases hq)
        rw [eN] at this
        exact this
    | some q =>
      have eS := tb_bsS e
      have ex := hx q e
      have b2 := b1 q
      have b3 := b1 i
      subst ex
      refine br_f (tb_nm1 (tb_coD31 n7 q)) (pk_le (tb_pX n pr q) (tb_pX n pr i) (fun z => nm_r (nI_1 i) ?_) (fun z => tb_bw40 hn n7 hr hi2 (fun w => ?_) (fun w => ?_)))
      · rw [if_neg (by omega)] at eS
        have := ihx (nI (tb_pX n pr q)) (fun q' hq => by
          rw [eS] at hq
          cases hq
          rfl)
        rw [eS] at this
        exact this
      · rw [if_pos ⟨w, z⟩] at eS
        have := ihx (nI (tb_pX n pr i)) (fun q' hq => by
          rw [eS] at hq
          cases hq
          rfl)
        rw [eS] at this
        exact this
      · rw [if_neg (by rw [w]; intro v; exact absurd v.1 (by decide))] at eS
        have := ihx (nI (tb_pX n pr q)) (fun q' hq => by
          rw [eS] at hq
          cases hq
          rfl)
        rw [eS] at this
        exact this
theorem tb_bwW {post : Int32 → Prop} {sh : Int32} (hn : 2 ≤ n) (n7 : n ≤ 7) (hp : ∀ r, pr r ≤ 40) (ha : ∀ r, r < 21 → ap r = nI (pr r)) (hr : ∀ j, j < tb_fc n → ar j = nI (tb_co (tb_D n j) n)) (h : post (tb_oc n (tb_bs (tb_aX n rq sh) (tb_pX n pr) (tb_fc (n - 1))))) : wpX_bestTourWithout post (nI n, nI (tb_fc (n - 1)), rq, cl, ap, ar) sh :=
  ⟨tb_fc (n - 1) + 1, tb_bw7 hn n7 hp ha hr h (tb_fc (n - 1)) 0 (tb_fc (n - 1) + 1) 0 (by omega) (by omega) (fun q hq => by cases hq)⟩
/-- counted by within -/
noncomputable def tb_wX (n : Nat) (pr : Nat → Nat) (rq sh lim : Int32) (i : Nat) : Bool := tb_aX n rq sh i && !decide (lim < nI (tb_pX n pr i))
theorem tb_wi4 {post : Int32 → Prop} {lim : Int32} (hn : 2 ≤ n) (n7 : n ≤ 7) (ha : ∀ r, r < 21 → ap r = nI (pr r)) (hr : ∀ j, j < tb_fc n → ar j = nI (tb_co (tb_D n j) n)) (h : post (nI (tb_cn (tb_wX n pr rq cl lim) (tb_fc (n - 1))))) : ∀ (m i fuel : Nat), i + m = tb_fc (n - 1) → m < fuel → wX_within_4 post lim (nI n) (nI (tb_fc (n - 1))) rq cl ap ar fuel (nI (tb_cn (tb_wX n pr rq cl lim) i)) (nI i) := by
  have h5 := tb_fc5 n7
  intro m
  induction m with
  | zero =>
    intro i fuel hi hf
    obtain ⟨f, rfl⟩ : ∃ f, fuel = f + 1 := ⟨fuel - 1, by omega⟩
    have hi : i = tb_fc (n - 1) := by omega
    rw [hi]
    exact br_t (nI_le (Nat.le_refl _) (by omega)) h
  | succ m ih =>
    intro i fuel hi hf
    obtain ⟨f, rfl⟩ : ∃ f, fuel = f + 1 := ⟨fuel - 1, by omega⟩
    have hi2 : i < tb_fc (n - 1) := by omega
    have hl := tb_fcl hn n7 hi2
    have IH := ih (i + 1) f (by omega) (by omega)
    refine br_f (nI_ge (by omega) (by omega)) ⟨vp_in_nI (by omega) (by omega), ?_⟩
    rw [nI_clamp (by omega), hr i hl]
    refine tb_tpW hn n7 ha (tb_Dp n i) (tb_D00 (by omega) hi2) (br_c (fun z => nm_r (nI_1 i) ?_) (fun z => ⟨vp_in_nI (by omega) (by omega), ?_⟩))
    · have e : tb_wX n pr rq cl lim i = false := by
        unfold tb_wX tb_pX
        rw [decide_eq_true z]
        simp
      rw [tb_cnF e] at IH
      exact IH
    · refine tb_ftW hn n7 (tb_Dp n i) (tb_D00 (by omega) hi2) (fun w => br_f (by decide) (nm_r (nI_1 _) (nm_r (nI_1 i) ?_))) (fun w => br_t rfl (nm_r (nI_1 i) ?_))
      · have e : tb_wX n pr rq cl lim i = true := by
          unfold tb_wX tb_pX tb_aX
          rw [decide_eq_false z, tb_BT.mpr w]
          rfl
        rw [tb_cnT e] at IH
        exact IH
      · have e : tb_wX n pr rq cl lim i = false := by
          unfold tb_wX tb_pX tb_aX
          rw [tb_BF.mpr w]
          rfl
        rw [tb_cnF e] at IH
        exact IH
theorem tb_wiW {post : Int32 → Prop} {lim tc : Int32} (hn : 2 ≤ n) (n7 : n ≤ 7) (ha : ∀ r, r < 21 → ap r = nI (pr r)) (hr : ∀ j, j < tb_fc n → ar j = nI (tb_co (tb_D n j) n)) (h : post (nI (tb_cn (tb_wX n pr rq cl lim) (tb_fc (n - 1))))) : wpX_within post (nI n, nI (tb_fc (n - 1)), rq, cl, ap, ar) lim :=
  ⟨tb_fc (n - 1) + 1, tb_wi4 hn n7 ha hr h (tb_fc (n - 1)) 0 (tb_fc (n - 1) + 1) (by omega) (by omega)⟩
theorem tb_al4 {post : Int32 → Prop} (hn : 2 ≤ n) (n7 : n ≤ 7) (hr : ∀ j, j < tb_fc n → ar j = nI (tb_co (tb_D n j) n)) (h : post (nI (tb_cn (tb_aX n rq cl) (tb_fc (n - 1))))) : ∀ (m i fuel : Nat), i + m = tb_fc (n - 1) → m < fuel → wX_allowed_4 post (nI n) (nI (tb_fc (n - 1))) rq cl ap ar fuel (nI (tb_cn (tb_aX n rq cl) i)) (nI i) := by
  have h5 := tb_fc5 n7
  intro m
  induction m with
  | zero =>
    intro i fuel hi hf
    obtain ⟨f, rfl⟩ : ∃ f, fuel = f + 1 := ⟨fuel - 1, by omega⟩
    have hi : i = tb_fc (n - 1) := by omega
    rw [hi]
    exact br_t (nI_le (Nat.le_refl _) (by omega)) h
  | succ m ih =>
    intro i fuel hi hf
    obtain ⟨f, rfl⟩ : ∃ f, fuel = f + 1 := ⟨fuel - 1, by omega⟩
    have hi2 : i < tb_fc (n - 1) := by omega
    have hl := tb_fcl hn n7 hi2
    have IH := ih (i + 1) f (by omega) (by omega)
    refine br_f (nI_ge (by omega) (by omega)) ⟨vp_in_nI (by omega) (by omega), ?_⟩
    rw [nI_clamp (by omega), hr i hl]
    refine tb_ftW hn n7 (tb_Dp n i) (tb_D00 (by omega) hi2) (fun w => br_f (by decide) (nm_r (nI_1 _) (nm_r (nI_1 i) ?_))) (fun w => br_t rfl (nm_r (nI_1 i) ?_))
    · have e : tb_aX n rq cl i = true := tb_BT.mpr w
      rw [tb_cnT e] at IH
      exact IH
    · have e : tb_aX n rq cl i = false := tb_BF.mpr w
      rw [tb_cnF e] at IH
      exact IH
theorem tb_alW {post : Int32 → Prop} (hn : 2 ≤ n) (n7 : n ≤ 7) (hr : ∀ j, j < tb_fc n → ar j = nI (tb_co (tb_D n j) n)) (h : post (nI (tb_cn (tb_aX n rq cl) (tb_fc (n - 1))))) : wpX_allowed post (nI n, nI (tb_fc (n - 1)), rq, cl, ap, ar) :=
  ⟨tb_fc (n - 1) + 1, tb_al4 hn n7 hr h (tb_fc (n - 1)) 0 (tb_fc (n - 1) + 1) (by omega) (by omega)⟩
theorem tb_it2 {post : Int32 → Prop} {x : Int32} (hn : 2 ≤ n) (n7 : n ≤ 7) (hr : ∀ j, j < tb_fc n → ar j = nI (tb_co (tb_D n j) n)) (h1 : (∃ i, i < tb_fc (n - 1) ∧ nI (tb_co (tb_D n i) n) = x) → post 1) (h0 : (∀ i, i < tb_fc (n - 1) → ¬ nI (tb_co (tb_D n i) n) = x) → post 0) : ∀ (m i fuel : Nat), i + m = tb_fc (n - 1) → m < fuel → (∀ j, j < i → ¬ nI (tb_co (tb_D n j) n) = x) → wX_isTour_2 post x (nI n) (nI (tb_fc (n - 1))) rq cl ap ar fuel (nI i) := by
  have h5 := tb_fc5 n7
  intro m
  induction m with
  | zero =>
    intro i fuel hi hf hj
    obtain ⟨f, rfl⟩ : ∃ f, fuel = f + 1 := ⟨fuel - 1, by omega⟩
    have hi : i = tb_fc (n - 1) := by omega
    rw [hi] at hj ⊢
    exact br_t (nI_le (Nat.le_refl _) (by omega)) (h0 hj)
  | succ m ih =>
    intro i fuel hi hf hj
    obtain ⟨f, rfl⟩ : ∃ f, fuel = f + 1 := ⟨fuel - 1, by omega⟩
    have hi2 : i < tb_fc (n - 1) := by omega
    have hl := tb_fcl hn n7 hi2
    have ea : ar (nI i).toNatClampNeg = nI (tb_co (tb_D n i) n) := by rw [nI_clamp (by omega), hr i hl]
    refine br_f (nI_ge (by omega) (by omega)) ⟨vp_in_nI (by omega) (by omega), br_c (fun z => h1 ⟨i, hi2, ea.symm.trans z⟩) (fun z => nm_r (nI_1 i) ?_)⟩
    refine ih (i + 1) f (by omega) (by omega) (fun j hj2 w => ?_)
    rcases Nat.lt_or_ge j i with v | v
    · exact hj j v w
    · have e : j = i := by omega
      subst e
      exact z (ea.trans w)
theorem tb_itW {post : Int32 → Prop} {x : Int32} (hn : 2 ≤ n) (n7 : n ≤ 7) (hr : ∀ j, j < tb_fc n → ar j = nI (tb_co (tb_D n j) n)) (h1 : (∃ i, i < tb_fc (n - 1) ∧ nI (tb_co (tb_D n i) n) = x) → post 1) (h0 : (∀ i, i < tb_fc (n - 1) → ¬ nI (tb_co (tb_D n i) n) = x) → post 0) : wpX_isTour post (nI n, nI (tb_fc (n - 1)), rq, cl, ap, ar) x :=
  ⟨tb_fc (n - 1) + 1, tb_it2 hn n7 hr h1 h0 (tb_fc (n - 1)) 0 (tb_fc (n - 1) + 1) (by omega) (by omega) (fun j hj => absurd hj (by omega))⟩
end TBK
