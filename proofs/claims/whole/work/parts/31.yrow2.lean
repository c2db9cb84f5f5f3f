section TBZ
/-! Y: code, price of the row; rowAllowed -/
variable {le lc ti fi ch : Int32} {ac ah lf ro us jo : Nat → Int32} {n : Nat} {pr hw : Nat → Nat} {d : Nat → Nat}
theorem tb_cr4 {post : Int32 → Prop} (n7 : n ≤ 7) (hr : ∀ t, t < n → ro t = nI (d t)) (h : post (nI (tb_co d n))) : ∀ (m t fuel : Nat), t + m = n → m < fuel → wY_codeOfRow_4 post (nI n) le lc ti fi ch ac ah lf ro us jo fuel (nI (tb_co d t)) (nI t) := by
  intro m
  induction m with
  | zero =>
    intro t fuel ht hf
    obtain ⟨f, rfl⟩ : ∃ f, fuel = f + 1 := ⟨fuel - 1, by omega⟩
    have ht : t = n := by omega
    rw [ht]
    exact br_t (nI_le (Nat.le_refl _) (by omega)) h
  | succ m ih =>
    intro t fuel ht hf
    obtain ⟨f, rfl⟩ : ∃ f, fuel = f + 1 := ⟨fuel - 1, by omega⟩
    have e : nI (tb_co d t) * 7 + ro (nI t).toNatClampNeg = nI (tb_co d (t + 1)) := by
      rw [nI_clamp (by omega), hr t (by omega)]
      show nI (tb_co d t) * nI 7 + nI (d t) = _
      rw [pk_mul, nI_add]
      rfl
    refine br_f (nI_ge (by omega) (by omega)) ⟨vp_in_nI (by omega) (by omega), nm_r e (nm_r (nI_1 t) ?_)⟩
    exact ih (t + 1) f (by omega) (by omega)
theorem tb_crW {post : Int32 → Prop} (hn : 2 ≤ n) (n7 : n ≤ 7) (h0 : d 0 = 0) (hr : ∀ t, t < n → ro t = nI (d t)) (h : post (nI (tb_co d n))) : wpY_codeOfRow post (nI n, le, lc, ti, fi, ch, ac, ah, lf, ro, us, jo) := by
  have H := tb_cr4 (post := post) (le := le) (lc := lc) (ti := ti) (fi := fi) (ch := ch) (ac := ac) (ah := ah) (lf := lf) (us := us) (jo := jo) n7 hr h (n - 1) 1 n (by omega) (by omega)
  have e : tb_co d 1 = 0 := by
    rw [tb_coS, h0]
    rfl
  rw [e] at H
  exact ⟨n, H⟩
theorem tb_pr4 {post : Int32 → Prop} {e : Nat → Nat} (n7 : n ≤ 7) (hr : ∀ t, t ≤ n → ro t = nI (e t)) (he : ∀ t, t < n → e t < n ∧ e (t + 1) < n ∧ e t ≠ e (t + 1)) (hc : ∀ a b, a < n → b < n → a ≠ b → ac (a * 7 + b) = nI (pr (tb_tr a b))) (h : post (nI (tb_sm (fun t => pr (tb_tr (e t) (e (t + 1)))) n))) : ∀ (m t fuel : Nat), t + m = n → m < fuel → wY_priceOfRow_4 post (nI n) le lc ti fi ch ac ah lf ro us jo fuel (nI (tb_sm (fun t => pr (tb_tr (e t) (e (t + 1)))) t)) (nI t) := by
  intro m
  induction m with
  | zero =>
    intro t fuel ht hf
    obtain ⟨f, rfl⟩ : ∃ f, fuel = f + 1 := ⟨fuel - 1, by omega⟩
    have ht : t = n := by omega
    rw [ht]
    exact br_t (nI_le (Nat.le_refl _) (by omega)) h
  | succ m ih =>
    intro t fuel ht hf
    obtain ⟨f, rfl⟩ : ∃ f, fuel = f + 1 := ⟨fuel - 1, by omega⟩
    obtain ⟨a1, a2, a3⟩ := he t (by omega)
    have i1 : vp_in (nI t + 1) 8 := by
      rw [nI_1]
      exact vp_in_nI (by omega) (by omega)
    have ix : ro (nI t).toNatClampNeg * 7 + ro (nI t + 1).toNatClampNeg = nI (e t * 7 + e (t + 1)) := by
      rw [nI_1, nI_clamp (by omega), nI_clamp (by omega), hr t (by omega), hr (t + 1) (by omega)]
      exact tb_ix _ (by omega) _ (by omega)
    have i2 : vp_in (ro (nI t).toNatClampNeg * 7 + ro (nI t + 1).toNatClampNeg) 49 := by
      rw [ix]
      exact vp_in_nI (by omega) (by omega)
    refine br_f (nI_ge (by omega) (by omega)) ⟨vp_in_nI (by omega) (by omega), i1, i2, nm_r (e' := nI (tb_sm (fun t => pr (tb_tr (e t) (e (t + 1)))) (t + 1))) (by rw [ix, nI_clamp (by omega), hc _ _ a1 a2 a3, nI_add]; rfl) (nm_r (nI_1 t) ?_)⟩
    exact ih (t + 1) f (by omega) (by omega)
theorem tb_prW {post : Int32 → Prop} (hn : 2 ≤ n) (n7 : n ≤ 7) (hd : tb_pm n d) (h0 : d 0 = 0) (hr : ∀ t, t ≤ n → ro t = nI (tb_cy n d t)) (hc : ∀ a b, a < n → b < n → a ≠ b → ac (a * 7 + b) = nI (pr (tb_tr a b))) (h : post (nI (tb_tp n pr d))) : wpY_priceOfRow post (nI n, le, lc, ti, fi, ch, ac, ah, lf, ro, us, jo) :=
  ⟨n + 1, tb_pr4 n7 hr (fun t ht => tb_cyN hn hd h0 ht) hc h n 0 (n + 1) (by omega) (by omega)⟩
/-- the marks held against the roads used -/
theorem tb_ra87 {post : Int32 → SY → Prop} {fn : Int32} {g : Nat → Nat} {V : Nat → Prop} (hg : ∀ k, k < 49 → ah k = nI (g k) ∧ g k ≤ 2) (hV : ∀ k, k < 49 → (us k = 0 ↔ ¬ V k)) (h1 : (∀ k, k < 49 → (g k = 2 → ¬ V k) ∧ (g k = 1 → V k)) → post 1 (fn, le, lc, ti, fi, ch, ac, ah, lf, ro, us, jo)) (h0 : ∀ k, k < 49 → ¬ ((g k = 2 → ¬ V k) ∧ (g k = 1 → V k)) → post 0 (fn, le, lc, ti, fi, ch, ac, ah, lf, ro, us, jo)) : ∀ (m k fuel : Nat), k + m = 49 → m < fuel → (∀ j, j < k → (g j = 2 → ¬ V j) ∧ (g j = 1 → V j)) → wY_rowAllowed_87 post fn le lc ti fi ch ac ah lf ro us jo fuel (nI k) := by
  intro m
  induction m with
  | zero =>
    intro k fuel hk hf hj
    obtain ⟨f, rfl⟩ : ∃ f, fuel = f + 1 := ⟨fuel - 1, by omega⟩
    have hk : k = 49 := by omega
    subst hk
    exact br_t (nI_le (a := 49) (Nat.le_refl _) (by decide)) (h1 hj)
  | succ m ih =>
    intro k fuel hk hf hj
    obtain ⟨f, rfl⟩ : ∃ f, fuel = f + 1 := ⟨fuel - 1, by omega⟩
    obtain ⟨g1, g2⟩ := hg k (by omega)
    have v := hV k (by omega)
    have i1 : vp_in (nI k) 49 := vp_in_nI (by omega) (by omega)
    have ea : ah (nI k).toNatClampNeg = nI (g k) := by rw [nI_clamp (by omega), g1]
    have eu : us (nI k).toNatClampNeg = us k := by rw [nI_clamp (by omega)]
    have c2 : ah (nI k).toNatClampNeg = 2 ↔ g k = 2 := by
      rw [ea]
      exact nI_eq (b := 2) (by omega) (by decide)
    have c1 : ah (nI k).toNatClampNeg = 1 ↔ g k = 1 := by
      rw [ea]
      exact nI_eq (b := 1) (by omega) (by decide)
    have step : ((g k = 2 → ¬ V k) ∧ (g k = 1 → V k)) → wY_rowAllowed_87 post fn le lc ti fi ch ac ah lf ro us jo f (nI (k + 1)) := fun w => ih (k + 1) f (by omega) (by omega) (fun j hj2 => by
      rcases Nat.lt_or_ge j k with z | z
      · exact hj j z
      · have e : j = k := by omega
        rw [e]
        exact w)
    have s114 : (g k = 2 → ¬ V k) → wY_rowAllowed_114 post (wY_rowAllowed_87 post fn le lc ti fi ch ac ah lf ro us jo f) (nI k) fn le lc ti fi ch ac ah lf ro us jo := fun w2 => by
      refine ⟨i1, br_c (fun z => ⟨i1, br_c (fun z2 => ?_) (fun z2 => nm_r (nI_1 k) (step ⟨w2, fun _ => ?_⟩))⟩) (fun z => nm_r (nI_1 k) (step ⟨w2, fun q => absurd (c1.mpr q) z⟩))⟩
      · rw [eu] at z2
        exact h0 k (by omega) (fun w => v.mp z2 (w.2 (c1.mp z)))
      · rw [eu] at z2
        exact Classical.byContradiction (fun w => z2 (v.mpr w))
    refine br_f (nI_ge (b := 49) (by omega) (by decide)) ⟨i1, br_c (fun z => ⟨i1, br_c (fun z2 => s114 (fun _ => ?_)) (fun z2 => ?_)⟩) (fun z => s114 (fun q => absurd (c2.mpr q) z))⟩
    · rw [eu] at z2
      exact v.mp z2
    · rw [eu] at z2
      exact h0 k (by omega) (fun w => z2 (v.mpr (w.1 (c2.mp z))))
/-- the roads of the row marked as used -/
theorem tb_ra23 {post : Int32 → SY → Prop} (hn : 2 ≤ n) (n7 : n ≤ 7) (hd : tb_pm n d) (h0 : d 0 = 0) (hr : ∀ t, t ≤ n → ro t = nI (tb_cy n d t)) (K : ∀ us' : Nat → Int32, (∀ k, k < 49 → (us' k = 0 ↔ ¬ tb_us n d n (k / 7) (k % 7))) → ∃ f, wY_rowAllowed_87 post (nI n) le lc ti fi ch ac ah lf ro us' jo f 0) : ∀ (m t fuel : Nat) (us : Nat → Int32), t + m = n → m < fuel → (∀ k, k < 49 → (us k = 0 ↔ ¬ tb_us n d t (k / 7) (k % 7))) → wY_rowAllowed_23 post (nI n) le lc ti fi ch fuel (nI t) ac ah lf ro us jo := by
  intro m
  induction m with
  | zero =>
    intro t fuel us ht hf hu
    obtain ⟨f, rfl⟩ : ∃ f, fuel = f + 1 := ⟨fuel - 1, by omega⟩
    have ht : t = n := by omega
    rw [ht] at hu ⊢
    exact br_t (nI_le (Nat.le_refl _) (by omega)) (K us hu)
  | succ m ih =>
    intro t fuel us ht hf hu
    obtain ⟨f, rfl⟩ : ∃ f, fuel = f + 1 := ⟨fuel - 1, by omega⟩
    obtain ⟨a1, a2, a3⟩ := tb_cyN hn hd h0 (t := t) (by omega)
    have i1 : vp_in (nI t + 1) 8 := by
      rw [nI_1]
      exact vp_in_nI (by omega) (by omega)
    have i0 : vp_in (nI t) 8 := vp_in_nI (by omega) (by omega)
    have e1 : ro (nI t).toNatClampNeg = nI (tb_cy n d t) := by rw [nI_clamp (by omega), hr t (by omega)]
    have e2 : ro (nI t + 1).toNatClampNeg = nI (tb_cy n d (t + 1)) := by rw [nI_1, nI_clamp (by omega), hr (t + 1) (by omega)]
    have x1 : ro (nI t).toNatClampNeg * 7 + ro (nI t + 1).toNatClampNeg = nI (tb_cy n d t * 7 + tb_cy n d (t + 1)) := by
      rw [e1, e2]
      exact tb_ix _ (by omega) _ (by omega)
    have x2 : ro (nI t + 1).toNatClampNeg * 7 + ro (nI t).toNatClampNeg = nI (tb_cy n d (t + 1) * 7 + tb_cy n d t) := by
      rw [e1, e2]
      exact tb_ix _ (by omega) _ (by omega)
    have j1 : vp_in (ro (nI t).toNatClampNeg * 7 + ro (nI t + 1).toNatClampNeg) 49 := by
      rw [x1]
      exact vp_in_nI (by omega) (by omega)
    have j2 : vp_in (ro (nI t + 1).toNatClampNeg * 7 + ro (nI t).toNatClampNeg) 49 := by
      rw [x2]
      exact vp_in_nI (by omega) (by omega)
    have vb1 : vp_nar .boolean 1 = 1 := rfl
    refine br_f (nI_ge (by omega) (by omega)) ⟨i0, i1, j1, nm_r (e' := upd us (tb_cy n d t * 7 + tb_cy n d (t + 1)) 1) (by rw [x1, nI_clamp (by omega), vb1]) ⟨i1, i0, j2, nm_r (e' := upd (upd us (tb_cy n d t * 7 + tb_cy n d (t + 1)) 1) (tb_cy n d (t + 1) * 7 + tb_cy n d t) 1) (by rw [x2, nI_clamp (by omega), vb1]) (nm_r (nI_1 t) ?_)⟩⟩
    refine ih (t + 1) f _ (by omega) (by omega) (fun k hk => ?_)
    have hS : tb_us n d (t + 1) (k / 7) (k % 7) ↔ tb_us n d t (k / 7) (k % 7) ∨ ((tb_cy n d t = k / 7 ∧ tb_cy n d (t + 1) = k % 7) ∨ (tb_cy n d (t + 1) = k / 7 ∧ tb_cy n d t = k % 7)) := by
      constructor
      · rintro ⟨s, hs, z⟩
        rcases Nat.lt_or_ge s t with w | w
        · exact Or.inl ⟨s, w, z⟩
        · have e : s = t := by omega
          rw [e] at z
          exact Or.inr z
      · rintro (⟨s, hs, z⟩ | z)
        · exact ⟨s, by omega, z⟩
        · exact ⟨t, by omega, z⟩
    rw [hS]
    by_cases z2 : k = tb_cy n d (t + 1) * 7 + tb_cy n d t
    · rw [z2, pk_us]
      refine ⟨fun z => absurd z (by decide), fun z => absurd (Or.inr (Or.inr ⟨by omega, by omega⟩)) z⟩
    · rw [pk_un z2]
      by_cases z1 : k = tb_cy n d t * 7 + tb_cy n d (t + 1)
      · rw [z1, pk_us]
        refine ⟨fun z => absurd z (by decide), fun z => absurd (Or.inr (Or.inl ⟨by omega, by omega⟩)) z⟩
      · rw [pk_un z1, hu k hk]
        constructor
        · rintro w (v | ⟨v1, v2⟩ | ⟨v1, v2⟩)
          · exact w v
          · exact z1 (by omega)
          · exact z2 (by omega)
        · intro w v
          exact w (Or.inl v)
theorem tb_ra2 {post : Int32 → SY → Prop} {fn : Int32} (K : ∀ us' : Nat → Int32, (∀ k, k < 49 → us' k = 0) → ∃ f, wY_rowAllowed_23 post fn le lc ti fi ch f 0 ac ah lf ro us' jo) : ∀ (m t fuel : Nat) (us : Nat → Int32), t + m = 49 → m < fuel → (∀ k, k < t → us k = 0) → wY_rowAllowed_2 post fn le lc ti fi ch fuel (nI t) ac ah lf ro us jo := by
  intro m
  induction m with
  | zero =>
    intro t fuel us ht hf hu
    obtain ⟨f, rfl⟩ : ∃ f, fuel = f + 1 := ⟨fuel - 1, by omega⟩
    have ht : t = 49 := by omega
    subst ht
    exact br_t (nI_le (a := 49) (Nat.le_refl _) (by decide)) (K us hu)
  | succ m ih =>
    intro t fuel us ht hf hu
    obtain ⟨f, rfl⟩ : ∃ f, fuel = f + 1 := ⟨fuel - 1, by omega⟩
    refine br_f (nI_ge (b := 49) (by omega) (by decide)) ⟨vp_in_nI (by omega) (by omega), nm_r (e' := upd us t 0) (by rw [nI_clamp (by omega)]; rfl) (nm_r (nI_1 t) ?_)⟩
    refine ih (t + 1) f _ (by omega) (by omega) (fun k hk => ?_)
    by_cases z : k = t
    · rw [z, pk_us]
    · rw [pk_un z]
      exact hu k (by omega)
theorem tb_raW {post : Int32 → SY → Prop} (hn : 2 ≤ n) (n7 : n ≤ 7) (hd : tb_pm n d) (h0 : d 0 = 0) (hr : ∀ t, t ≤ n → ro t = nI (tb_cy n d t)) (hw2 : ∀ r, hw r ≤ 2) (hh : ∀ a b, a < 7 → b < 7 → ah (a * 7 + b) = nI (tb_H hw a b)) (h1 : tb_al n hw d → ∀ us' : Nat → Int32, post 1 (nI n, le, lc, ti, fi, ch, ac, ah, lf, ro, us', jo)) (h2 : ¬ tb_al n hw d → ∀ us' : Nat → Int32, post 0 (nI n, le, lc, ti, fi, ch, ac, ah, lf, ro, us', jo)) : wpY_rowAllowed post (nI n, le, lc, ti, fi, ch, ac, ah, lf, ro, us, jo) := by
  refine ⟨50, tb_ra2 (fun us1 hu1 => ⟨n + 1, tb_ra23 hn n7 hd h0 hr (fun us2 hu2 => ⟨50, ?_⟩) n 0 (n + 1) us1 (by omega) (by omega) (fun k hk => ?_)⟩) 49 0 50 us (by omega) (by omega) (fun k hk => absurd hk (by omega))⟩
  · have hY := tb_alY hn n7 hd h0 hw
    refine tb_ra87 (g := fun k => tb_H hw (k / 7) (k % 7)) (V := fun k => tb_us n d n (k / 7) (k % 7)) (fun k hk => ⟨?_, ?_⟩) hu2 (fun H => h1 (hY.mpr (fun a b ha hb => ?_)) us2) (fun k hk H => h2 (fun w => H (hY.mp w (k / 7) (k % 7) (by omega) (by omega))) us2) 49 0 50 (by omega) (by omega) (fun j hj => absurd hj (by omega))
    · have := hh (k / 7) (k % 7) (by omega) (by omega)
      have e : k / 7 * 7 + k % 7 = k := by omega
      rw [e] at this
      exact this
    · show tb_H hw (k / 7) (k % 7) ≤ 2
      unfold tb_H
      by_cases z : k / 7 = k % 7
      · rw [if_pos z]
        omega
      · rw [if_neg z]
        exact hw2 _
    · have := H (a * 7 + b) (by omega)
      have q1 : (a * 7 + b) / 7 = a := by omega
      have q2 : (a * 7 + b) % 7 = b := by omega
      rw [q1, q2] at this
      exact this
  · refine ⟨fun _ => ?_, fun _ => hu1 k hk⟩
    rintro ⟨t, ht, _⟩
    exact absurd ht (by omega)
end TBZ
