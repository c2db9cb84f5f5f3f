section TBY
/-! Y: orders, arrange, tour -/
variable {fn le lc ti fi ch : Int32} {ac ah lf ro us jo : Nat → Int32} {n : Nat}
theorem tb_orX {post : Int32 → Prop} {m : Nat} (hm : m ≤ 7) (h : post (nI (tb_fc m))) : ∀ (k j fuel : Nat), (j + k = m ∨ (k = 0 ∧ m = 0 ∧ j = 1)) → 1 ≤ j → k < fuel → wY_orders_4 post (nI m) fn le lc ti fi ch ac ah lf ro us jo fuel (nI (tb_fc j)) (nI (j + 1)) := by
  intro k
  induction k with
  | zero =>
    intro j fuel hj h1 hf
    obtain ⟨f, rfl⟩ : ∃ f, fuel = f + 1 := ⟨fuel - 1, by omega⟩
    have e : tb_fc j = tb_fc m := by
      rcases hj with z | ⟨_, z1, z2⟩
      · have : j = m := by omega
        rw [this]
      · rw [z1, z2]
        rfl
    rw [e]
    exact br_t (nI_lt (by omega) (by omega)) h
  | succ k ih =>
    intro j fuel hj h1 hf
    obtain ⟨f, rfl⟩ : ∃ f, fuel = f + 1 := ⟨fuel - 1, by omega⟩
    refine br_f (nI_nlt (by omega) (by omega)) (br_f (nI_nlt (a := 7) (by omega) (by decide)) (nm_r (e' := nI (tb_fc (j + 1))) (by rw [pk_mul, Nat.mul_comm]; rfl) (nm_r (nI_1 (j + 1)) ?_)))
    exact ih (j + 1) f (by omega) (by omega) (by omega)
theorem tb_orW {post : Int32 → Prop} {m : Nat} (hm : m ≤ 7) (h : post (nI (tb_fc m))) : wpY_orders post (fn, le, lc, ti, fi, ch, ac, ah, lf, ro, us, jo) (nI m) := by
  refine ⟨8, ?_⟩
  exact tb_orX hm h (m - 1) 1 8 (by omega) (by omega) (by omega)
/-- the town taken out of left -/
theorem tb_ar78 {post : SY → Prop} {J6 : Int32 → Int32 → (Nat → Int32) → (Nat → Int32) → (Nat → Int32) → (Nat → Int32) → (Nat → Int32) → (Nat → Int32) → Prop} {x3 x4 : Int32} {m p j a : Nat} {l : List Nat} (m7 : m ≤ 7) (hp : p + j = m) (K : ∀ lf' : Nat → Int32, (∀ q, q + 1 < j → lf' q = nI ((l.eraseIdx a).getD q 0)) → J6 x4 (nI (p + 1)) ac ah lf' ro us jo) : ∀ (b q fuel : Nat) (lf : Nat → Int32), q + b + 1 = j → b < fuel → a ≤ q → (∀ q', q' < q → lf q' = nI ((l.eraseIdx a).getD q' 0)) → (∀ q', q ≤ q' → q' < j → lf q' = nI (l.getD q' 0)) → wY_arrange_78 post J6 (nI m) x3 x4 (nI p) fn le lc ti fi ch fuel (nI q) ac ah lf ro us jo := by
  have em : nI m - nI p = nI j := by rw [pk_sub (by omega)]; congr 1; omega
  intro b
  induction b with
  | zero =>
    intro q fuel lf hq hf ha h1 h2
    obtain ⟨f, rfl⟩ : ∃ f, fuel = f + 1 := ⟨fuel - 1, by omega⟩
    have hc : nI m - nI p ≤ nI q + 1 := by
      rw [em, nI_1]
      exact nI_le (by omega) (by omega)
    exact br_t hc (nm_r (nI_1 p) (K lf (fun q' hq' => h1 q' (by omega))))
  | succ b ih =>
    intro q fuel lf hq hf ha h1 h2
    obtain ⟨f, rfl⟩ : ∃ f, fuel = f + 1 := ⟨fuel - 1, by omega⟩
    have hc : ¬ nI m - nI p ≤ nI q + 1 := by
      rw [em, nI_1]
      exact nI_ge (by omega) (by omega)
    have i1 : vp_in (nI q + 1) 8 := by
      rw [nI_1]
      exact vp_in_nI (by omega) (by omega)
    refine br_f hc ⟨i1, vp_in_nI (by omega) (by omega), nm_r (e' := upd lf q (lf (q + 1))) (by rw [nI_1, nI_clamp (by omega), nI_clamp (by omega)]) (nm_r (nI_1 q) ?_)⟩
    refine ih (q + 1) f _ (by omega) (by omega) (by omega) (fun q' hq' => ?_) (fun q' hq1 hq2 => ?_)
    · by_cases z : q' = q
      · rw [z, pk_us, h2 (q + 1) (by omega) (by omega), tb_eiG ha]
      · rw [pk_un z]
        exact h1 q' (by omega)
    · rw [pk_un (by omega)]
      exact h2 q' (by omega) hq2
/-- which town: the rest by the orders of what is left -/
theorem tb_ar27 {post : SY → Prop} {J6 : Int32 → Int32 → (Nat → Int32) → (Nat → Int32) → (Nat → Int32) → (Nat → Int32) → (Nat → Int32) → (Nat → Int32) → Prop} {x3 : Int32} {m p j rest : Nat} (m7 : m ≤ 7) (hp : p + (j + 1) = m) (hr : rest < tb_fc (j + 1)) (K : wY_arrange_58 post J6 (nI m) x3 (nI (rest % tb_fc j)) (nI p) (nI (rest / tb_fc j)) fn le lc ti fi ch ac ah lf ro us jo) : ∀ (b a fuel : Nat), a + b = rest / tb_fc j → b < fuel → wY_arrange_27 post J6 (nI m) x3 (nI p) (nI (tb_fc j)) fn le lc ti fi ch ac ah lf ro us jo fuel (nI (rest - a * tb_fc j)) (nI a) := by
  have em : nI m - 1 - nI p = nI j := by
    show nI m - nI 1 - nI p = nI j
    rw [pk_sub (by omega), pk_sub (by omega)]
    congr 1
    omega
  have hq := tb_qlt hr
  have f0 := tb_fcp j
  have fB := (tb_fcV (j + 1) (by omega)).1
  have fC := (tb_fcV j (by omega)).1
  have hdm := Nat.div_add_mod' rest (tb_fc j)
  have hml := Nat.mod_lt rest f0
  intro b
  induction b with
  | zero =>
    intro a fuel ha hf
    obtain ⟨f, rfl⟩ : ∃ f, fuel = f + 1 := ⟨fuel - 1, by omega⟩
    have e : a = rest / tb_fc j := by omega
    have e2 : rest - a * tb_fc j = rest % tb_fc j := by
      rw [e]
      omega
    rw [e2, e]
    refine br_c (fun _ => K) (fun _ => br_t (nI_lt hml (by omega)) K)
  | succ b ih =>
    intro a fuel ha hf
    obtain ⟨f, rfl⟩ : ∃ f, fuel = f + 1 := ⟨fuel - 1, by omega⟩
    have h1 : (a + 1) * tb_fc j ≤ rest / tb_fc j * tb_fc j := Nat.mul_le_mul_right _ (by omega)
    rw [Nat.succ_mul] at h1
    have hc : ¬ nI m - 1 - nI p ≤ nI a := by
      rw [em]
      exact nI_ge (by omega) (by omega)
    refine br_f hc (br_f (nI_nlt (by omega) (by omega)) (nm_r (e' := nI (rest - (a + 1) * tb_fc j)) (by rw [pk_sub (by omega), Nat.succ_mul]; congr 1; omega) (nm_r (nI_1 a) ?_)))
    exact ih (a + 1) f (by omega) (by omega)
theorem tb_ar6 {post : SY → Prop} {m fr : Nat} (m7 : m ≤ 7) (hfr : fr + m ≤ 8) : ∀ (j p rest fuel : Nat) (l : List Nat) (lf ro : Nat → Int32), p + j = m → l.length = j → rest < tb_fc j → j < fuel → (∀ q, q < j → lf q = nI (l.getD q 0)) → (∀ lf' ro' : Nat → Int32, (∀ q, q < j → ro' (fr + p + q) = nI ((tb_ar j rest l).getD q 0)) → (∀ i, i < fr + p → ro' i = ro i) → post (fn, le, lc, ti, fi, ch, ac, ah, lf', ro', us, jo)) → wY_arrange_6 post (nI m) (nI fr) fn le lc ti fi ch fuel (nI rest) (nI p) ac ah lf ro us jo := by
  intro j
  induction j with
  | zero =>
    intro p rest fuel l lf ro hp hl hr hf hlf K
    obtain ⟨f, rfl⟩ : ∃ f, fuel = f + 1 := ⟨fuel - 1, by omega⟩
    exact br_t (nI_le (by omega) (by omega)) (K lf ro (fun q hq => absurd hq (by omega)) (fun i _ => rfl))
  | succ j ih =>
    intro p rest fuel l lf ro hp hl hr hf hlf K
    obtain ⟨f, rfl⟩ : ∃ f, fuel = f + 1 := ⟨fuel - 1, by omega⟩
    have em : nI m - 1 - nI p = nI j := by
      show nI m - nI 1 - nI p = nI j
      rw [pk_sub (by omega), pk_sub (by omega)]
      congr 1
      omega
    have hq := tb_qlt hr
    have fC := (tb_fcV j (by omega)).1
    refine br_f (nI_ge (by omega) (by omega)) ?_
    rw [em]
    refine tb_orW (by omega) ⟨rest / tb_fc j + 1, ?_⟩
    have H := tb_ar27 (post := post) (J6 := wY_arrange_6 post (nI m) (nI fr) fn le lc ti fi ch f) (x3 := nI fr) (fn := fn) (le := le) (lc := lc) (ti := ti) (fi := fi) (ch := ch) (ac := ac) (ah := ah) (lf := lf) (ro := ro) (us := us) (jo := jo) m7 hp hr ?_ (rest / tb_fc j) 0 (rest / tb_fc j + 1) (by omega) (by omega)
    · rw [Nat.zero_mul, Nat.sub_zero] at H
      exact H
    · have i2 : vp_in (nI fr + nI p) 8 := by
        rw [nI_add]
        exact vp_in_nI (by omega) (by omega)
      refine ⟨vp_in_nI (by omega) (by omega), i2, nm_r (e' := upd ro (fr + p) (nI (l.getD (rest / tb_fc j) 0))) (by rw [nI_add, nI_clamp (by omega), nI_clamp (by omega), hlf _ (by omega)]) ⟨j + 1 - rest / tb_fc j, ?_⟩⟩
      refine tb_ar78 (j := j + 1) (a := rest / tb_fc j) (l := l) m7 hp (fun lf' h' => ?_) (j - rest / tb_fc j) (rest / tb_fc j) _ lf (by omega) (by omega) (Nat.le_refl _) (fun q' hq' => ?_) (fun q' hq1 hq2 => hlf q' hq2)
      · refine ih (p + 1) (rest % tb_fc j) f (l.eraseIdx (rest / tb_fc j)) lf' _ (by omega) (by rw [List.length_eraseIdx_of_lt (by omega)]; omega) (Nat.mod_lt _ (tb_fcp j)) (by omega) (fun q hq => h' q (by omega)) (fun lf2 ro2 g1 g2 => K lf2 ro2 (fun q hq => ?_) (fun i hi => ?_))
        · rw [tb_arS]
          cases q with
          | zero =>
            rw [Nat.add_zero, g2 (fr + p) (by omega), pk_us]
            rfl
          | succ q =>
            have e : fr + p + (q + 1) = fr + (p + 1) + q := by omega
            rw [e, g1 q (by omega)]
            rfl
        · rw [g2 i (by omega), pk_un (by omega)]
      · rw [tb_eiL hq']
        exact hlf q' (by omega)
theorem tb_arW {post : SY → Prop} {m fr k : Nat} {l : List Nat} (m7 : m ≤ 7) (hfr : fr + m ≤ 8) (hl : l.length = m) (hk : k < tb_fc m) (hlf : ∀ q, q < m → lf q = nI (l.getD q 0)) (K : ∀ lf' ro' : Nat → Int32, (∀ q, q < m → ro' (fr + q) = nI ((tb_ar m k l).getD q 0)) → post (fn, le, lc, ti, fi, ch, ac, ah, lf', ro', us, jo)) : wpY_arrange post (fn, le, lc, ti, fi, ch, ac, ah, lf, ro, us, jo) (nI k) (nI m) (nI fr) :=
  ⟨m + 1, tb_ar6 m7 hfr m 0 k (m + 1) l lf ro (by omega) hl hk (by omega) hlf (fun lf' ro' h1 _ => K lf' ro' h1)⟩
theorem tb_to2 {post : SY → Prop} {k : Nat} (hn : 2 ≤ n) (n7 : n ≤ 7) (hk : k < tb_fc (n - 1)) (K : ∀ lf' ro' : Nat → Int32, (∀ t, t ≤ n → ro' t = nI (tb_cy n (tb_D n k) t)) → post (nI n, le, lc, ti, fi, ch, ac, ah, lf', ro', us, jo)) : ∀ (m t fuel : Nat) (lf : Nat → Int32), t + m = n → 1 ≤ t → m < fuel → (∀ q, q + 1 < t → lf q = nI (q + 1)) → wY_tour_2 post (nI k) (nI n) le lc ti fi ch fuel (nI t) ac ah lf ro us jo := by
  intro m
  induction m with
  | zero =>
    intro t fuel lf ht h1 hf hlf
    obtain ⟨f, rfl⟩ : ∃ f, fuel = f + 1 := ⟨fuel - 1, by omega⟩
    refine br_t (nI_le (by omega) (by omega)) ?_
    have e1 : nI n - 1 = nI (n - 1) := pk_sub (b := 1) (by omega)
    rw [e1]
    refine tb_arW (l := tb_un n [0]) (fr := 1) (by omega) (by omega) (tb_unL (by omega)) hk (fun q hq => ?_) (fun lf' ro' h' => ?_)
    · rw [hlf q (by omega), tb_un0G n (by omega) q hq]
    · refine nm_e ⟨vp_in_nI (by omega) (by omega), nm_r (e' := upd (upd ro' 0 0) n 0) (by rw [nI_clamp (by omega)]) (K lf' _ (fun t' ht' => ?_))⟩
      by_cases z : t' = n
      · rw [z, pk_us, tb_cyE]
        rfl
      · rw [pk_un z, tb_cyL (by omega)]
        cases t' with
        | zero =>
          rw [pk_us, tb_D00 (by omega) hk]
          rfl
        | succ t' =>
          have e2 : 1 + t' = t' + 1 := by omega
          have := h' t' (by omega)
          rw [e2] at this
          rw [pk_un (by omega), this, tb_D0S hk (by omega)]
  | succ m ih =>
    intro t fuel lf ht h1 hf hlf
    obtain ⟨f, rfl⟩ : ∃ f, fuel = f + 1 := ⟨fuel - 1, by omega⟩
    have e1 : nI t - 1 = nI (t - 1) := pk_sub (b := 1) (by omega)
    have i1 : vp_in (nI t - 1) 8 := by
      rw [e1]
      exact vp_in_nI (by omega) (by omega)
    refine br_f (nI_ge (by omega) (by omega)) ⟨i1, nm_r (e' := upd lf (t - 1) (nI t)) (by rw [e1, nI_clamp (by omega)]) (nm_r (nI_1 t) ?_)⟩
    refine ih (t + 1) f _ (by omega) (by omega) (by omega) (fun q hq => ?_)
    by_cases z : q = t - 1
    · rw [z, pk_us]
      congr 1
      omega
    · rw [pk_un z]
      exact hlf q (by omega)
theorem tb_toW {post : SY → Prop} {k : Nat} (hn : 2 ≤ n) (n7 : n ≤ 7) (hk : k < tb_fc (n - 1)) (K : ∀ lf' ro' : Nat → Int32, (∀ t, t ≤ n → ro' t = nI (tb_cy n (tb_D n k) t)) → post (nI n, le, lc, ti, fi, ch, ac, ah, lf', ro', us, jo)) : wpY_tour post (nI n, le, lc, ti, fi, ch, ac, ah, lf, ro, us, jo) (nI k) :=
  ⟨n, tb_to2 hn n7 hk K (n - 1) 1 n lf (by omega) (by omega) (by omega) (fun q hq => absurd hq (by omega))⟩
end TBY
