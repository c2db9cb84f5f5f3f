section TBN
/-! X: span by the growing set -/
variable {tc rq cl : Int32} {ap ar : Nat → Int32} {n : Nat} {pr hw : Nat → Nat}
/-- the prices at which town t can be joined to the set -/
def tb_TJ (n : Nat) (pr hw : Nat → Nat) (x : Int32) (t m w : Nat) : Prop := ∃ o, o < m ∧ bt x o = true ∧ o ≠ t ∧ hw (tb_tr o t) ≠ 2 ∧ pr (tb_tr o t) = w
theorem tb_pj6 {post : Int32 → Prop} {x : Int32} {t : Nat} (n7 : n ≤ 7) (hp : ∀ r, pr r ≤ 40) (ha : ∀ r, r < 21 → ap r = nI (pr r)) (hcl : ∀ i, i < 32 → bt cl i = decide (i < 21 ∧ hw i = 2)) (ht : t < n) (K : ∀ r, tb_Mn (tb_TJ n pr hw x t n) r → post (tb_oi r)) : ∀ (m o fuel : Nat) (r : Option Nat), o + m = n → m < fuel → tb_Mn (tb_TJ n pr hw x t o) r → wX_priceToJoin_6 post x (nI t) (nI n) tc rq cl ap ar fuel (tb_oi r) (nI o) := by
  intro m
  induction m with
  | zero =>
    intro o fuel r ho hf hM
    obtain ⟨f, rfl⟩ : ∃ f, fuel = f + 1 := ⟨fuel - 1, by omega⟩
    have e : o = n := by omega
    rw [e] at hM ⊢
    exact br_t (nI_le (Nat.le_refl _) (by omega)) (K r hM)
  | succ m ih =>
    intro o fuel r ho hf hM
    obtain ⟨f, rfl⟩ : ∃ f, fuel = f + 1 := ⟨fuel - 1, by omega⟩
    have step : ∀ q, tb_Mn (fun w => bt x o = true ∧ o ≠ t ∧ hw (tb_tr o t) ≠ 2 ∧ pr (tb_tr o t) = w) q → wX_priceToJoin_6 post x (nI t) (nI n) tc rq cl ap ar f (tb_oi (tb_mi r q)) (nI (o + 1)) := fun q hq => by
      refine ih (o + 1) f _ (by omega) (by omega) (tb_MnM (fun w => ?_) hM hq)
      constructor
      · rintro ⟨j, h1, h2⟩
        rcases Nat.lt_or_ge j o with z | z
        · exact Or.inl ⟨j, z, h2⟩
        · have e : j = o := by omega
          rw [e] at h2
          exact Or.inr h2
      · rintro (⟨j, h1, h2⟩ | h2)
        · exact ⟨j, by omega, h2⟩
        · exact ⟨o, by omega, h2⟩
    have none' : (∀ w, ¬ (bt x o = true ∧ o ≠ t ∧ hw (tb_tr o t) ≠ 2 ∧ pr (tb_tr o t) = w)) → wX_priceToJoin_6 post x (nI t) (nI n) tc rq cl ap ar f (tb_oi r) (nI (o + 1)) := fun w => by
      have := step none w
      rw [tb_miN] at this
      exact this
    refine br_f (nI_ge (by omega) (by omega)) (br_c (fun z => nm_r (nI_1 o) (none' (fun w h => ?_))) (fun z => br_c (fun z2 => nm_r (nI_1 o) (none' (fun w h => ?_))) (fun z2 => ?_)))
    · rw [(tb_bt1 (by omega)).mp z] at h
      exact absurd h.1 (by decide)
    · exact h.2.1 ((nI_eq (by omega) (by omega)).mp z2)
    · have hot : o ≠ t := fun e => z2 (by rw [e])
      have hbt : bt x o = true := by
        cases e : bt x o with
        | true => rfl
        | false => exact absurd ((tb_bt1 (by omega)).mpr e) z
      have hr := tb_trL o (by omega) t (by omega) hot
      have i1 : vp_in (nI (tb_tr o t)) 21 := vp_in_nI hr (by omega)
      have ea : ap (nI (tb_tr o t)).toNatClampNeg = nI (pr (tb_tr o t)) := by rw [nI_clamp (by omega), ha _ hr]
      have hq := hp (tb_tr o t)
      refine tb_rbX (by omega) (by omega) (br_c (fun z3 => ?_) (fun z3 => br_t rfl (nm_r (nI_1 o) (none' (fun w h => ?_)))))
      · have h2 : hw (tb_tr o t) ≠ 2 := fun e => by
          have := (tb_bt1 (x := cl) (r := tb_tr o t) (by omega)).mp z3
          rw [hcl _ (by omega), decide_eq_false_iff_not] at this
          exact this ⟨hr, e⟩
        have S := step (some (pr (tb_tr o t))) ⟨⟨hbt, hot, h2, rfl⟩, fun w h => Nat.le_of_eq h.2.2.2⟩
        refine br_f (by decide) ?_
        cases r with
        | none => exact br_t rfl ⟨i1, nm_r ea (nm_r (nI_1 o) S)⟩
        | some v =>
          have hv : v ≤ 40 := by
            obtain ⟨j, _, h⟩ := hM.1
            rw [← h.2.2.2]
            exact hp _
          refine br_f (tb_nm3 (by omega)) ⟨i1, ?_⟩
          rw [ea]
          refine pk_le v (pr (tb_tr o t)) (fun w => nm_r (nI_1 o) ?_) (fun w => ⟨i1, nm_e (nm_r (nI_1 o) ?_)⟩)
          · have e : tb_mi (some v) (some (pr (tb_tr o t))) = some v := if_neg (by omega)
            rw [e] at S
            exact S
          · have e : tb_mi (some v) (some (pr (tb_tr o t))) = some (pr (tb_tr o t)) := if_pos (by omega)
            rw [e] at S
            exact S
      · apply z3
        rw [tb_bt1 (by omega), hcl _ (by omega), decide_eq_false_iff_not]
        exact fun e => h.2.2.1 e.2
theorem tb_pjW {post : Int32 → Prop} {x : Int32} {t : Nat} (n7 : n ≤ 7) (hp : ∀ r, pr r ≤ 40) (ha : ∀ r, r < 21 → ap r = nI (pr r)) (hcl : ∀ i, i < 32 → bt cl i = decide (i < 21 ∧ hw i = 2)) (ht : t < n) (K : ∀ r, tb_Mn (tb_TJ n pr hw x t n) r → post (tb_oi r)) : wpX_priceToJoin post (nI n, tc, rq, cl, ap, ar) x (nI t) := by
  refine ⟨n + 1, tb_pj6 n7 hp ha hcl ht K n 0 (n + 1) none (by omega) (by omega) ?_⟩
  rintro w ⟨o, h1, _⟩
  omega
/-- the nearest town below t -/
def tb_NT (n : Nat) (pr hw : Nat → Nat) (x : Int32) (t : Nat) : Option (Nat × Nat) → Prop
  | none => ∀ t', t' < t → bt x t' = false → ∀ w, ¬ tb_TJ n pr hw x t' n w
  | some (q, b) => q < t ∧ bt x q = false ∧ tb_TJ n pr hw x q n b ∧ ∀ t', t' < t → bt x t' = false → ∀ w, tb_TJ n pr hw x t' n w → b ≤ w
def tb_on : Option (Nat × Nat) → Int32
  | none => -1
  | some (q, _) => nI q
theorem tb_TJb {x : Int32} {t m w : Nat} (hp : ∀ r, pr r ≤ 40) (h : tb_TJ n pr hw x t m w) : w ≤ 40 := by
  obtain ⟨o, _, _, _, _, e⟩ := h
  rw [← e]
  exact hp _
theorem tb_nt7 {post : Int32 → Prop} {x : Int32} (n7 : n ≤ 7) (hp : ∀ r, pr r ≤ 40) (ha : ∀ r, r < 21 → ap r = nI (pr r)) (hcl : ∀ i, i < 32 → bt cl i = decide (i < 21 ∧ hw i = 2)) (K : ∀ r, tb_NT n pr hw x n r → post (tb_on r)) : ∀ (m t fuel : Nat) (r : Option (Nat × Nat)) (x3 : Int32), t + m = n → m < fuel → tb_NT n pr hw x t r → (∀ q b, r = some (q, b) → x3 = nI b) → wX_nearestTown_7 post x (nI n) tc rq cl ap ar fuel (tb_on r) x3 (nI t) := by
  intro m
  induction m with
  | zero =>
    intro t fuel r x3 ht hf hM _
    obtain ⟨f, rfl⟩ : ∃ f, fuel = f + 1 := ⟨fuel - 1, by omega⟩
    have e : t = n := by omega
    rw [e] at hM ⊢
    exact br_t (nI_le (Nat.le_refl _) (by omega)) (K r hM)
  | succ m ih =>
    intro t fuel r x3 ht hf hM hx
    obtain ⟨f, rfl⟩ : ∃ f, fuel = f + 1 := ⟨fuel - 1, by omega⟩
    -- nothing better at t
    have keep : (bt x t = false → ∀ w, tb_TJ n pr hw x t n w → ∃ q b, r = some (q, b) ∧ b ≤ w) → wX_nearestTown_7 post x (nI n) tc rq cl ap ar f (tb_on r) x3 (nI (t + 1)) := fun hk => by
      refine ih (t + 1) f r x3 (by omega) (by omega) ?_ hx
      cases r with
      | none =>
        intro t' h1 h2 w h3
        rcases Nat.lt_or_ge t' t with z | z
        · exact hM t' z h2 w h3
        · have e : t' = t := by omega
          rw [e] at h2 h3
          obtain ⟨q, b, e2, _⟩ := hk h2 w h3
          cases e2
      | some qb =>
        obtain ⟨q, b⟩ := qb
        obtain ⟨m1, m2, m3, m4⟩ := hM
        refine ⟨by omega, m2, m3, fun t' h1 h2 w h3 => ?_⟩
        rcases Nat.lt_or_ge t' t with z | z
        · exact m4 t' z h2 w h3
        · have e : t' = t := by omega
          rw [e] at h2 h3
          obtain ⟨q', b', e2, h4⟩ := hk h2 w h3
          cases e2
          exact h4
    have take : ∀ p, bt x t = false → tb_Mn (tb_TJ n pr hw x t n) (some p) → (∀ q b, r = some (q, b) → p < b) → wX_nearestTown_7 post x (nI n) tc rq cl ap ar f (nI t) (nI p) (nI (t + 1)) := fun p hb hM2 hlt => by
      refine ih (t + 1) f (some (t, p)) (nI p) (by omega) (by omega) ⟨by omega, hb, hM2.1, fun t' h1 h2 w h3 => ?_⟩ (fun q b e => by cases e; rfl)
      rcases Nat.lt_or_ge t' t with z | z
      · cases r with
        | none => exact absurd h3 (hM t' z h2 w)
        | some qb =>
          obtain ⟨q, b⟩ := qb
          have := hM.2.2.2 t' z h2 w h3
          have := hlt q b rfl
          omega
      · have e : t' = t := by omega
        rw [e] at h3
        exact hM2.2 w h3
    refine br_f (nI_ge (by omega) (by omega)) (br_c (fun z => ?_) (fun z => nm_r (nI_1 t) (keep (fun h => absurd ((tb_bt1 (by omega)).mpr h) z))))
    have hb : bt x t = false := (tb_bt1 (by omega)).mp z
    refine tb_pjW n7 hp ha hcl (by omega) (fun q hq => ?_)
    cases q with
    | none => exact br_t rfl (nm_r (nI_1 t) (keep (fun _ w h => absurd h (hq w))))
    | some p =>
      have hpb := tb_TJb hp hq.1
      refine br_f (tb_nm3 (by omega)) ?_
      cases r with
      | none => exact br_t (by decide : (-1 : Int32) < 0) (nm_r (nI_1 t) (take p hb hq (fun q b e => by cases e)))
      | some qb =>
        obtain ⟨q, b⟩ := qb
        have hbb := tb_TJb hp hM.2.2.1
        have e3 := hx q b rfl
        subst e3
        have hqt := hM.1
        refine br_f (nI_pos (by omega)) (pk_le b p (fun w => nm_r (nI_1 t) (keep (fun _ w' h => ⟨q, b, rfl, ?_⟩))) (fun w => nm_r (nI_1 t) (take p hb hq (fun q' b' e => by cases e; exact w))))
        have := hq.2 w' h
        omega
theorem tb_ntW {post : Int32 → Prop} {x : Int32} (n7 : n ≤ 7) (hp : ∀ r, pr r ≤ 40) (ha : ∀ r, r < 21 → ap r = nI (pr r)) (hcl : ∀ i, i < 32 → bt cl i = decide (i < 21 ∧ hw i = 2)) (K : ∀ r, tb_NT n pr hw x n r → post (tb_on r)) : wpX_nearestTown post (nI n, tc, rq, cl, ap, ar) x :=
  ⟨n + 1, tb_nt7 n7 hp ha hcl K n 0 (n + 1) none 0 (by omega) (by omega) (fun t' h => absurd h (by omega)) (fun q b e => by cases e)⟩
/-- the towns of a mask -/
def tb_P (x : Int32) (i : Nat) : Prop := i < 32 ∧ bt x i = true
theorem tb_sp6 {post : Int32 → Prop} (hn : 2 ≤ n) (n7 : n ≤ 7) (hp : ∀ r, pr r ≤ 40) (ha : ∀ r, r < 21 → ap r = nI (pr r)) (hcl : ∀ i, i < 32 → bt cl i = decide (i < 21 ∧ hw i = 2)) (h1 : ∀ s, tb_Cn (tb_E n pr hw) (fun i => i < n) s → (∀ w, tb_Cn (tb_E n pr hw) (fun i => i < n) w → s ≤ w) → s ≤ 240 → post (nI s)) (h0 : (∀ w, ¬ tb_Cn (tb_E n pr hw) (fun i => i < n) w) → post (-3)) : ∀ (m k fuel s : Nat) (x : Int32), k + m = n → 1 ≤ k → m < fuel → s ≤ 40 * (k - 1) → tb_XS (tb_E n pr hw) n (tb_P x) k s → wX_span_6 post (nI n) tc rq cl ap ar fuel x (nI s) (nI k) := by
  intro m
  induction m with
  | zero =>
    intro k fuel s x hk _ hf hs hX
    obtain ⟨f, rfl⟩ : ∃ f, fuel = f + 1 := ⟨fuel - 1, by omega⟩
    have e : k = n := by omega
    rw [e] at hX ⊢
    obtain ⟨c1, c2⟩ := tb_XSe hX
    exact br_t (nI_le (Nat.le_refl _) (by omega)) (h1 s c1 c2 (by omega))
  | succ m ih =>
    intro k fuel s x hk k1 hf hs hX
    obtain ⟨f, rfl⟩ : ∃ f, fuel = f + 1 := ⟨fuel - 1, by omega⟩
    refine br_f (nI_ge (by omega) (by omega)) ?_
    refine tb_ntW n7 hp ha hcl (fun r hN => ?_)
    have hout : ∀ j, j < n → ¬ tb_P x j → bt x j = false := fun j hj h => by
      cases e : bt x j with
      | false => rfl
      | true => exact absurd ⟨by omega, e⟩ h
    cases r with
    | none =>
      refine br_f (by decide : ¬ (0 : Int32) ≤ -1) (h0 (fun w => ?_))
      refine tb_XSn hX (by omega) (fun i j e he hc => ?_) w
      rcases hc with ⟨c1, c2⟩ | ⟨c1, c2⟩
      · exact hN j he.2.1 (hout j he.2.1 c2) e ⟨i, he.1, c1.2, he.2.2.1, he.2.2.2.1, he.2.2.2.2.symm⟩
      · have he2 := tb_EC he
        exact hN i he.1 (hout i he.1 c1) e ⟨j, he2.1, c2.2, he2.2.2.1, he2.2.2.2.1, he2.2.2.2.2.symm⟩
    | some qb =>
      obtain ⟨q, b⟩ := qb
      obtain ⟨q1, q2, q3, q4⟩ := hN
      refine br_t (nI_pos' (by omega)) ?_
      refine tb_pjW n7 hp ha hcl q1 (fun r' hM => ?_)
      have er : r' = some b := tb_MnU (fun _ => Iff.rfl) hM (⟨q3, fun w h => q4 q q1 q2 w h⟩ : tb_Mn (tb_TJ n pr hw x q n) (some b))
      subst er
      have hb40 := tb_TJb hp q3
      refine nm_r (nI_add s b) (nm_e (nm_r (nI_1 k) ?_))
      refine ih (k + 1) f (s + b) (x ||| ((1 : Int32) <<< (nI q &&& 31))) (by omega) (by omega) (by omega) ?_ ?_
      · have : 40 * (k + 1 - 1) = 40 * (k - 1) + 40 := by omega
        omega
      · obtain ⟨o, o1, o2, o3, o4, o5⟩ := q3
        refine tb_XSs hX (fun i j e he hc => ?_) (p := o) (t := q) ⟨by omega, o2⟩ (fun z => ?_) q1 ⟨o1, q1, o3, o4, o5.symm⟩ (fun i => ?_)
        · rcases hc with ⟨c1, c2⟩ | ⟨c1, c2⟩
          · exact q4 j he.2.1 (hout j he.2.1 c2) e ⟨i, he.1, c1.2, he.2.2.1, he.2.2.2.1, he.2.2.2.2.symm⟩
          · have he2 := tb_EC he
            exact q4 i he.1 (hout i he.1 c1) e ⟨j, he2.1, c2.2, he2.2.2.1, he2.2.2.2.1, he2.2.2.2.2.symm⟩
        · rw [z.2] at q2
          cases q2
        · unfold tb_P
          constructor
          · rintro ⟨z1, z2⟩
            rw [tb_bset (by omega) z1, Bool.or_eq_true, decide_eq_true_iff] at z2
            rcases z2 with z2 | z2
            · exact Or.inl ⟨z1, z2⟩
            · exact Or.inr z2
          · rintro (⟨z1, z2⟩ | z)
            · refine ⟨z1, ?_⟩
              rw [tb_bset (by omega) z1, z2]
              rfl
            · have hi : i < 32 := by omega
              refine ⟨hi, ?_⟩
              rw [tb_bset (by omega) hi, decide_eq_true z, Bool.or_true]
theorem tb_b1b : ∀ i, i < 32 → bt 1 i = decide (i = 0) := by decide +kernel
theorem tb_spW {post : Int32 → Prop} (hn : 2 ≤ n) (n7 : n ≤ 7) (hp : ∀ r, pr r ≤ 40) (ha : ∀ r, r < 21 → ap r = nI (pr r)) (hcl : ∀ i, i < 32 → bt cl i = decide (i < 21 ∧ hw i = 2)) (h1 : ∀ s, tb_Cn (tb_E n pr hw) (fun i => i < n) s → (∀ w, tb_Cn (tb_E n pr hw) (fun i => i < n) w → s ≤ w) → s ≤ 240 → post (nI s)) (h0 : (∀ w, ¬ tb_Cn (tb_E n pr hw) (fun i => i < n) w) → post (-3)) : wpX_span post (nI n, tc, rq, cl, ap, ar) := by
  refine ⟨n, tb_sp6 hn n7 hp ha hcl h1 h0 (n - 1) 1 n 0 1 (by omega) (by omega) (by omega) (by omega) (tb_XS0 (by omega) (fun i => ?_))⟩
  unfold tb_P
  constructor
  · rintro ⟨z1, z2⟩
    rw [tb_b1b i z1, decide_eq_true_iff] at z2
    exact z2
  · intro z
    subst z
    exact ⟨by omega, by rw [tb_b1b 0 (by omega)]; rfl⟩
end TBN
