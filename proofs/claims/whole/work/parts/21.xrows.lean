section TBJ
/-! X: the price and the roads of a row, of a tour -/
variable {tc rq cl : Int32} {ap ar : Nat → Int32} {n : Nat} {pr : Nat → Nat} {d : Nat → Nat}
theorem tb_nm1 {c : Nat} (h : c < 2 ^ 31) : ¬ nI c = -1 := fun e => nI_pos h (by rw [e]; decide)
theorem tb_nm3 {c : Nat} (h : c < 2 ^ 31) : ¬ nI c = -3 := fun e => nI_pos h (by rw [e]; decide)
/-- the last digit, and the code without it -/
theorem tb_last (n7 : n ≤ 7) (hd : tb_pm n d) {m : Nat} (hm : m < n) : nI (tb_co d (m + 1)) / 7 = nI (tb_co d m) ∧ nI (tb_co d (m + 1)) - nI (tb_co d (m + 1)) / 7 * 7 = nI (d m) := by
  have h7 : ∀ t, t < n → d t < 7 := fun t ht => Nat.lt_of_lt_of_le (hd.1 t ht) n7
  have hb : tb_co d (m + 1) < 2 ^ 31 := Nat.lt_trans (tb_coB (m + 1) (fun t ht => h7 t (by omega))) (tb_p7 _ (by omega))
  have e := tb_r7 hb
  rw [tb_coM (h7 m hm), tb_coD (h7 m hm)] at e
  exact e
theorem tb_rpX {post : Int32 → Prop} (n7 : n ≤ 7) (ha : ∀ r, r < 21 → ap r = nI (pr r)) (hd : tb_pm n d) : ∀ (m acc fuel : Nat), m < n → m < fuel → post (nI (acc + tb_sm (fun t => pr (tb_tr (d t) (d (t + 1)))) m)) → wX_rowPrice_7 post (nI n) tc rq cl ap ar fuel (nI acc) (nI (tb_co d (m + 1))) (nI (n - m)) := by
  intro m
  induction m with
  | zero =>
    intro acc fuel _ hf h
    obtain ⟨f, rfl⟩ : ∃ f, fuel = f + 1 := ⟨fuel - 1, by omega⟩
    exact br_t (nI_le (by omega) (by omega)) h
  | succ m ih =>
    intro acc fuel hm hf h
    obtain ⟨f, rfl⟩ : ∃ f, fuel = f + 1 := ⟨fuel - 1, by omega⟩
    obtain ⟨q1, q2⟩ := tb_last n7 hd hm
    obtain ⟨q3, q4⟩ := tb_last n7 hd (m := m) (by omega)
    have a1 := hd.1 (m + 1) hm
    have a2 := hd.1 m (by omega)
    have hne : d (m + 1) ≠ d m := fun z => by
      have := hd.2 (m + 1) m hm (by omega) z
      omega
    have hr := tb_trL (d (m + 1)) (by omega) (d m) (by omega) hne
    refine br_f (nI_ge (by omega) (by omega)) ⟨by decide, nm_r q2 ⟨by decide, nm_r q1 ⟨by decide, ?_⟩⟩⟩
    rw [q4]
    refine tb_rbX (by omega) (by omega) ⟨vp_in_nI hr (by omega), nm_r (e' := nI (acc + pr (tb_tr (d (m + 1)) (d m)))) (by rw [nI_clamp (by omega), ha _ hr, nI_add]) (nm_r (e' := nI (n - m)) (by rw [nI_1]; congr 1; omega) ?_)⟩
    refine ih _ f (by omega) (by omega) ?_
    have e : acc + tb_sm (fun t => pr (tb_tr (d t) (d (t + 1)))) (m + 1) = acc + pr (tb_tr (d (m + 1)) (d m)) + tb_sm (fun t => pr (tb_tr (d t) (d (t + 1)))) m := by
      rw [tb_smS, tb_trC (d (m + 1)) (d m)]
      show acc + (_ + pr (tb_tr (d m) (d (m + 1)))) = _
      omega
    rw [← e]
    exact h
theorem tb_rpW {post : Int32 → Prop} (hn : 2 ≤ n) (n7 : n ≤ 7) (ha : ∀ r, r < 21 → ap r = nI (pr r)) (hd : tb_pm n d) (h : post (nI (tb_pp n pr d))) : wpX_rowPrice post (nI n, tc, rq, cl, ap, ar) (nI (tb_co d n)) := by
  have H := tb_rpX (post := post) (tc := tc) (rq := rq) (cl := cl) (ar := ar) n7 ha hd (n - 1) 0 n (by omega) (by omega) (by rw [Nat.zero_add]; exact h)
  have e1 : n - 1 + 1 = n := by omega
  have e2 : n - (n - 1) = 1 := by omega
  rw [e1, e2] at H
  exact ⟨n, H⟩
theorem tb_rrX {post : Int32 → Prop} (n7 : n ≤ 7) (hd : tb_pm n d) : ∀ (m fuel : Nat) (x : Int32), m < n → m < fuel → (∀ y : Int32, (∀ i, i < 32 → (bt y i = true ↔ bt x i = true ∨ ∃ t, t < m ∧ tb_tr (d t) (d (t + 1)) = i)) → post y) → wX_rowRoads_7 post (nI n) tc rq cl ap ar fuel x (nI (tb_co d (m + 1))) (nI (n - m)) := by
  intro m
  induction m with
  | zero =>
    intro fuel x _ hf h
    obtain ⟨f, rfl⟩ : ∃ f, fuel = f + 1 := ⟨fuel - 1, by omega⟩
    refine br_t (nI_le (by omega) (by omega)) (h x (fun i _ => ⟨Or.inl, fun z => ?_⟩))
    rcases z with z | ⟨t, ht, _⟩
    · exact z
    · exact absurd ht (by omega)
  | succ m ih =>
    intro fuel x hm hf h
    obtain ⟨f, rfl⟩ : ∃ f, fuel = f + 1 := ⟨fuel - 1, by omega⟩
    obtain ⟨q1, q2⟩ := tb_last n7 hd hm
    obtain ⟨q3, q4⟩ := tb_last n7 hd (m := m) (by omega)
    have a1 := hd.1 (m + 1) hm
    have a2 := hd.1 m (by omega)
    have hne : d (m + 1) ≠ d m := fun z => by
      have := hd.2 (m + 1) m hm (by omega) z
      omega
    have hr := tb_trL (d (m + 1)) (by omega) (d m) (by omega) hne
    refine br_f (nI_ge (by omega) (by omega)) ⟨by decide, nm_r q2 ⟨by decide, nm_r q1 ⟨by decide, ?_⟩⟩⟩
    rw [q4]
    refine tb_rbX (by omega) (by omega) (nm_e (nm_r (e' := nI (n - m)) (by rw [nI_1]; congr 1; omega) ?_))
    refine ih f _ (by omega) (by omega) (fun y hy => h y (fun i hi => ?_))
    rw [hy i hi, tb_bset (by omega) hi, Bool.or_eq_true, decide_eq_true_iff, tb_trC (d (m + 1)) (d m)]
    constructor
    · rintro ((z | z) | ⟨t, ht, z⟩)
      · exact Or.inl z
      · exact Or.inr ⟨m, by omega, z.symm⟩
      · exact Or.inr ⟨t, by omega, z⟩
    · rintro (z | ⟨t, ht, z⟩)
      · exact Or.inl (Or.inl z)
      · rcases Nat.lt_or_ge t m with w | w
        · exact Or.inr ⟨t, w, z⟩
        · have e : t = m := by omega
          subst e
          exact Or.inl (Or.inr z.symm)
theorem tb_rrW {post : Int32 → Prop} (hn : 2 ≤ n) (n7 : n ≤ 7) (hd : tb_pm n d) (h : ∀ y : Int32, (∀ i, i < 32 → (bt y i = true ↔ tb_pu n d i)) → post y) : wpX_rowRoads post (nI n, tc, rq, cl, ap, ar) (nI (tb_co d n)) := by
  have H := tb_rrX (post := post) (tc := tc) (rq := rq) (cl := cl) (ap := ap) (ar := ar) n7 hd (n - 1) n (nI 0) (by omega) (by omega) (fun y hy => h y (fun i hi => by
    rw [hy i hi, nI_0, b_0]
    constructor
    · rintro (z | ⟨t, ht, z⟩)
      · cases z
      · exact ⟨t, by omega, z⟩
    · rintro ⟨t, ht, z⟩
      exact Or.inr ⟨t, by omega, z⟩))
  have e1 : n - 1 + 1 = n := by omega
  have e2 : n - (n - 1) = 1 := by omega
  rw [e1, e2] at H
  exact ⟨n, H⟩
theorem tb_tpW {post : Int32 → Prop} (hn : 2 ≤ n) (n7 : n ≤ 7) (ha : ∀ r, r < 21 → ap r = nI (pr r)) (hd : tb_pm n d) (h0 : d 0 = 0) (h : post (nI (tb_tp n pr d))) : wpX_tourPrice post (nI n, tc, rq, cl, ap, ar) (nI (tb_co d n)) := by
  obtain ⟨q1, q2⟩ := tb_last n7 hd (m := n - 1) (by omega)
  have e1 : n - 1 + 1 = n := by omega
  rw [e1] at q2
  have a1 := hd.1 (n - 1) (by omega)
  have hne : d (n - 1) ≠ 0 := fun z => by
    have := hd.2 (n - 1) 0 (by omega) (by omega) (z.trans h0.symm)
    omega
  have hr := tb_trL (d (n - 1)) (by omega) 0 (by omega) hne
  unfold wpX_tourPrice
  refine tb_rpW hn n7 ha hd ⟨by decide, ?_⟩
  rw [q2]
  refine tb_rbX (b := 0) (by omega) (by omega) ⟨vp_in_nI hr (by omega), ?_⟩
  rw [nI_clamp (by omega), ha _ hr, nI_add, ← tb_tpE (by omega)]
  exact h
/-- what fits asks -/
def tb_ft (n : Nat) (rq sh : Int32) (d : Nat → Nat) : Prop := (∀ i, i < 32 → tb_tu n d i → bt sh i = false) ∧ ∀ i, i < 32 → bt rq i = true → tb_tu n d i
theorem tb_ftW {post : Int32 → Prop} {sh : Int32} (hn : 2 ≤ n) (n7 : n ≤ 7) (hd : tb_pm n d) (h0 : d 0 = 0) (h1 : tb_ft n rq sh d → post 1) (h2 : ¬ tb_ft n rq sh d → post 0) : wpX_fits post (nI n, tc, rq, cl, ap, ar) (nI (tb_co d n)) sh := by
  obtain ⟨q1, q2⟩ := tb_last n7 hd (m := n - 1) (by omega)
  have e1 : n - 1 + 1 = n := by omega
  rw [e1] at q2
  have a1 := hd.1 (n - 1) (by omega)
  have hne : d (n - 1) ≠ 0 := fun z => by
    have := hd.2 (n - 1) 0 (by omega) (by omega) (z.trans h0.symm)
    omega
  have hr := tb_trL (d (n - 1)) (by omega) 0 (by omega) hne
  unfold wpX_fits
  refine tb_rrW hn n7 hd (fun y hy => ⟨by decide, ?_⟩)
  rw [q2]
  refine tb_rbX (b := 0) (by omega) (by omega) (nm_e ?_)
  have hb : ∀ i, i < 32 → (bt (y ||| ((1 : Int32) <<< (nI (tb_tr (d (n - 1)) 0) &&& 31))) i = true ↔ tb_tu n d i) := by
    intro i hi
    rw [tb_bset (by omega) hi, Bool.or_eq_true, decide_eq_true_iff, hy i hi, tb_tuE (by omega)]
    constructor
    · rintro (z | z)
      · exact Or.inl z
      · exact Or.inr z.symm
    · rintro (z | z)
      · exact Or.inl z
      · exact Or.inr z.symm
  have c1 := tb_bd (x := y ||| ((1 : Int32) <<< (nI (tb_tr (d (n - 1)) 0) &&& 31))) (y := sh)
  have c2 := tb_bsub (x := y ||| ((1 : Int32) <<< (nI (tb_tr (d (n - 1)) 0) &&& 31))) (y := rq)
  refine br_c (fun z1 => br_c (fun z2 => h1 ⟨fun i hi w => ?_, fun i hi w => ?_⟩) (fun z2 => h2 (fun w => z2 ?_))) (fun z1 => h2 (fun w => z1 ?_))
  · exact c1.mp z1 i hi ((hb i hi).mpr w)
  · exact (hb i hi).mp (c2.mp z2 i hi w)
  · exact c2.mpr (fun i hi v => (hb i hi).mpr (w.2 i hi v))
  · exact c1.mpr (fun i hi v => w.1 i hi ((hb i hi).mp v))
end TBJ
