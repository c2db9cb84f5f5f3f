section TBC
/-! Y: read -/
variable {le lc ti fi ch : Int32} {ac ah lf us jo : Nat → Int32} {n : Nat} {d : Nat → Nat}
theorem tb_rd80 {post : Int32 → SY → Prop} {J66 : Int32 → Prop} {ro : Nat → Int32} {v : Nat} (n7 : n ≤ 7) (hn : 2 ≤ n) (h7 : ∀ t, d t < 7) (hv : v < n) (hr : ∀ t, t < n → ro t = nI (d t)) (h1 : tb_cn (fun s => decide (d (s + 1) = v)) (n - 1) = 1 → J66 (nI (v + 1))) (h0 : tb_cn (fun s => decide (d (s + 1) = v)) (n - 1) ≠ 1 → post 0 (nI n, le, lc, ti, fi, ch, ac, ah, lf, ro, us, jo)) : ∀ (m s fuel : Nat), s + m = n - 1 → m < fuel → wY_read_80 post J66 (nI v) (nI n) le lc ti fi ch ac ah lf ro us jo fuel (nI (tb_cn (fun s => decide (d (s + 1) = v)) s)) (nI (s + 1)) := by
  intro m
  induction m with
  | zero =>
    intro s fuel hs hf
    obtain ⟨f, rfl⟩ : ∃ f, fuel = f + 1 := ⟨fuel - 1, by omega⟩
    have e : s = n - 1 := by omega
    rw [e]
    have hl := tb_cnL (fun s => decide (d (s + 1) = v)) (n - 1)
    refine br_t (nI_le (by omega) (by omega)) (br_c (fun z => nm_r (nI_1 v) (h1 ?_)) (fun z => h0 (fun w => z ?_)))
    · exact (nI_eq (b := 1) (by omega) (by decide)).mp z
    · rw [w]
      rfl
  | succ m ih =>
    intro s fuel hs hf
    obtain ⟨f, rfl⟩ : ∃ f, fuel = f + 1 := ⟨fuel - 1, by omega⟩
    have ea : ro (nI (s + 1)).toNatClampNeg = nI (d (s + 1)) := by rw [nI_clamp (by omega), hr (s + 1) (by omega)]
    have hd := h7 (s + 1)
    have IH := ih (s + 1) f (by omega) (by omega)
    refine br_f (nI_ge (by omega) (by omega)) ⟨vp_in_nI (by omega) (by omega), ?_⟩
    rw [ea]
    refine br_c (fun z => nm_r (nI_1 _) (nm_r (nI_1 (s + 1)) ?_)) (fun z => nm_r (nI_1 (s + 1)) ?_)
    · have e : d (s + 1) = v := (nI_eq (by omega) (by omega)).mp z
      rw [tb_cnT (p := fun s => decide (d (s + 1) = v)) (decide_eq_true e)] at IH
      exact IH
    · have e : ¬ d (s + 1) = v := fun w => z (by rw [w])
      rw [tb_cnF (p := fun s => decide (d (s + 1) = v)) (decide_eq_false e)] at IH
      exact IH
theorem tb_rd66 {post : Int32 → SY → Prop} {ro : Nat → Int32} (n7 : n ≤ 7) (hn : 2 ≤ n) (h7 : ∀ t, d t < 7) (hr : ∀ t, t < n → ro t = nI (d t)) (h1 : (∀ v, 1 ≤ v → v < n → tb_cn (fun s => decide (d (s + 1) = v)) (n - 1) = 1) → post 1 (nI n, le, lc, ti, fi, ch, ac, ah, lf, ro, us, jo)) (h0 : ∀ v, 1 ≤ v → v < n → tb_cn (fun s => decide (d (s + 1) = v)) (n - 1) ≠ 1 → post 0 (nI n, le, lc, ti, fi, ch, ac, ah, lf, ro, us, jo)) : ∀ (m v fuel : Nat), v + m = n → 1 ≤ v → m < fuel → (∀ w, 1 ≤ w → w < v → tb_cn (fun s => decide (d (s + 1) = w)) (n - 1) = 1) → wY_read_66 post (nI n) le lc ti fi ch ac ah lf ro us jo fuel (nI v) := by
  intro m
  induction m with
  | zero =>
    intro v fuel hv _ hf hw
    obtain ⟨f, rfl⟩ : ∃ f, fuel = f + 1 := ⟨fuel - 1, by omega⟩
    have e : v = n := by omega
    rw [e] at hw ⊢
    exact br_t (nI_le (Nat.le_refl _) (by omega)) (h1 hw)
  | succ m ih =>
    intro v fuel hv v1 hf hw
    obtain ⟨f, rfl⟩ : ∃ f, fuel = f + 1 := ⟨fuel - 1, by omega⟩
    refine br_f (nI_ge (by omega) (by omega)) ⟨n, ?_⟩
    refine tb_rd80 n7 hn h7 (by omega) hr (fun z => ih (v + 1) f (by omega) (by omega) (by omega) (fun w w1 w2 => ?_)) (fun z => h0 v v1 (by omega) z) (n - 1) 0 n (by omega) (by omega)
    rcases Nat.lt_or_ge w v with y | y
    · exact hw w w1 y
    · have e : w = v := by omega
      rw [e]
      exact z
theorem tb_rd15 {post : Int32 → SY → Prop} {c : Nat} (hn : 2 ≤ n) (n7 : n ≤ 7) (hc : c < 2 ^ 31) (h1 : c < 7 ^ (n - 1) → tb_pm n (tb_dg n c) → ∀ ro' : Nat → Int32, (∀ t, t ≤ n → ro' t = nI (tb_cy n (tb_dg n c) t)) → post 1 (nI n, le, lc, ti, fi, ch, ac, ah, lf, ro', us, jo)) (h0 : ¬ (c < 7 ^ (n - 1) ∧ tb_pm n (tb_dg n c)) → ∀ ro' : Nat → Int32, post 0 (nI n, le, lc, ti, fi, ch, ac, ah, lf, ro', us, jo)) : ∀ (t fuel : Nat) (ro : Nat → Int32), t < n → t < fuel → (∀ s, t < s → s < n → ro s = nI (tb_dg n c s)) → wY_read_15 post (nI n) le lc ti fi ch fuel (nI (c / 7 ^ (n - 1 - t))) (nI t) ac ah lf ro us jo := by
  intro t
  induction t with
  | zero =>
    intro fuel ro ht hf hr
    obtain ⟨f, rfl⟩ : ∃ f, fuel = f + 1 := ⟨fuel - 1, by omega⟩
    have hcl : c / 7 ^ (n - 1 - 0) < 2 ^ 31 := Nat.lt_of_le_of_lt (Nat.div_le_self _ _) hc
    have p0 : 0 < 7 ^ (n - 1) := Nat.pow_pos (by decide)
    refine br_t (nI_lt (b := 1) (by omega) (by decide)) (br_c (fun z => nm_e ⟨vp_in_nI (by omega) (by omega), nm_r (e' := upd (upd ro 0 0) n 0) (by rw [nI_clamp (by omega)]) ⟨n, ?_⟩⟩) (fun z => h0 (fun w => z ?_) ro))
    · have z2 : c / 7 ^ (n - 1) = 0 := (nI_eq (b := 0) hcl (by decide)).mp z
      have z3 : c < 7 ^ (n - 1) := by
        rcases Nat.lt_or_ge c (7 ^ (n - 1)) with y | y
        · exact y
        · have := Nat.div_pos y p0
          omega
      have d0 := tb_dg0 (n := n) z3
      have hr2 : ∀ t, t ≤ n → upd (upd ro 0 0) n 0 t = nI (tb_cy n (tb_dg n c) t) := by
        intro t ht
        by_cases y : t = n
        · rw [y, pk_us, tb_cyE]
          rfl
        · rw [pk_un y, tb_cyL (by omega)]
          by_cases y2 : t = 0
          · rw [y2, pk_us, d0]
            rfl
          · rw [pk_un y2]
            exact hr t (by omega) (by omega)
      have hE := tb_rdE (n := n) (d := tb_dg n c) hn d0
      refine tb_rd66 (d := tb_dg n c) n7 hn (tb_dg7 n c) (fun t ht => by rw [hr2 t (by omega), tb_cyL ht]) (fun H => h1 z3 (hE.mpr H) _ hr2) (fun v v1 v2 H => h0 (fun w => H (hE.mp w.2 v v1 v2)) _) (n - 1) 1 n (by omega) (by omega) (by omega) (fun w w1 w2 => absurd w1 (by omega))
    · have : c / 7 ^ (n - 1 - 0) = 0 := Nat.div_eq_of_lt w.1
      rw [this]
      rfl
  | succ t ih =>
    intro fuel ro ht hf hr
    obtain ⟨f, rfl⟩ : ∃ f, fuel = f + 1 := ⟨fuel - 1, by omega⟩
    have hcl : c / 7 ^ (n - 1 - (t + 1)) < 2 ^ 31 := Nat.lt_of_le_of_lt (Nat.div_le_self _ _) hc
    obtain ⟨q1, q2⟩ := tb_r7 hcl
    have e : 7 ^ (n - 1 - t) = 7 ^ (n - 1 - (t + 1)) * 7 := by
      rw [← Nat.pow_succ]
      congr 1
      omega
    have e2 : c / 7 ^ (n - 1 - (t + 1)) / 7 = c / 7 ^ (n - 1 - t) := by rw [e, Nat.div_div_eq_div_mul]
    rw [e2] at q1
    refine br_f (nI_nlt (b := 1) (by omega) (by omega)) ⟨by decide, vp_in_nI (by omega) (by omega), nm_r (e' := upd ro (t + 1) (nI (tb_dg n c (t + 1)))) (by rw [nI_clamp (by omega), q2]; rfl) ⟨by decide, nm_r q1 (nm_r (pk_m1 t) ?_)⟩⟩
    refine ih f _ (by omega) (by omega) (fun s s1 s2 => ?_)
    by_cases y : s = t + 1
    · rw [y, pk_us]
    · rw [pk_un y]
      exact hr s (by omega) s2
theorem tb_rdW {post : Int32 → SY → Prop} {x : Int32} {ro : Nat → Int32} (hn : 2 ≤ n) (n7 : n ≤ 7) (h1 : ∀ c, x = nI c → c < 7 ^ (n - 1) → tb_pm n (tb_dg n c) → ∀ ro' : Nat → Int32, (∀ t, t ≤ n → ro' t = nI (tb_cy n (tb_dg n c) t)) → post 1 (nI n, le, lc, ti, fi, ch, ac, ah, lf, ro', us, jo)) (h0 : ¬ (∃ c, x = nI c ∧ c < 7 ^ (n - 1) ∧ tb_pm n (tb_dg n c)) → ∀ ro' : Nat → Int32, post 0 (nI n, le, lc, ti, fi, ch, ac, ah, lf, ro', us, jo)) : wpY_read post (nI n, le, lc, ti, fi, ch, ac, ah, lf, ro, us, jo) x := by
  have h7 := tb_p7 (n - 1) (by omega)
  refine br_c (fun z => ?_) (fun z => h0 ?_ ro)
  · obtain ⟨c, hc, rfl⟩ := nI_of (x := x) (Int32.not_lt.mpr z)
    have e1 : nI n - 1 = nI (n - 1) := pk_sub (b := 1) (by omega)
    refine nm_r e1 ⟨n, ?_⟩
    have H := tb_rd15 (post := post) (le := le) (lc := lc) (ti := ti) (fi := fi) (ch := ch) (ac := ac) (ah := ah) (lf := lf) (us := us) (jo := jo) hn n7 hc (fun a b => h1 c rfl a b) (fun w => h0 (fun ⟨c', e, a, b⟩ => w ?_)) (n - 1) n ro (by omega) (by omega) (fun s s1 s2 => absurd s1 (by omega))
    · rw [Nat.sub_self, Nat.pow_zero, Nat.div_one] at H
      exact H
    · have : c = c' := (nI_eq hc (by omega)).mp e
      rw [this]
      exact ⟨a, b⟩
  · rintro ⟨c, e, a, _⟩
    exact z (by rw [e]; exact nI_pos' (by omega))
end TBC
