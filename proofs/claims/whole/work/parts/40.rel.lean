section TBRel
/-! the relation; the constructors; towns, price, line, sow, mark, priceOf -/
def tb_RX (n : Nat) (pr hw : Nat → Nat) (u : SX) : Prop := ∃ (rq cl : Int32) (ap ar : Nat → Int32), u = (nI n, nI (tb_fc (n - 1)), rq, cl, ap, ar) ∧ (∀ i, i < 32 → bt rq i = decide (i < 21 ∧ hw i = 1)) ∧ (∀ i, i < 32 → bt cl i = decide (i < 21 ∧ hw i = 2)) ∧ (∀ r, r < 21 → ap r = nI (pr r)) ∧ ∀ j, j < tb_fc n → ar j = nI (tb_co (tb_D n j) n)
def tb_RY (n : Nat) (pr hw : Nat → Nat) (v : SY) : Prop := ∃ (le lc ti fi ch : Int32) (ac ah lf ro us jo : Nat → Int32), v = (nI n, le, lc, ti, fi, ch, ac, ah, lf, ro, us, jo) ∧ (∀ a b, a < n → b < n → a ≠ b → ac (a * 7 + b) = nI (pr (tb_tr a b))) ∧ ∀ a b, a < 7 → b < 7 → ah (a * 7 + b) = nI (tb_H hw a b)
/-- both hold the same towns, prices and marks; X's rows are all orders -/
def i_Rel (_ : Nat) (u : SX) (v : SY) : Prop := ∃ (n : Nat) (pr hw : Nat → Nat), 2 ≤ n ∧ n ≤ 7 ∧ (∀ r, pr r ≤ 40) ∧ (∀ r, hw r ≤ 2) ∧ tb_RX n pr hw u ∧ tb_RY n pr hw v
theorem i_up {k : Nat} {u : SX} {v : SY} (h : i_Rel k u v) : i_Rel (k + 4) u v := h
theorem tb_mk {k n : Nat} {pr hw : Nat → Nat} {rq cl : Int32} {ap ar : Nat → Int32} {le lc ti fi ch : Int32} {ac ah lf ro us jo : Nat → Int32} (hn : 2 ≤ n) (n7 : n ≤ 7) (hp : ∀ r, pr r ≤ 40) (hw2 : ∀ r, hw r ≤ 2) (hrq : ∀ i, i < 32 → bt rq i = decide (i < 21 ∧ hw i = 1)) (hcl : ∀ i, i < 32 → bt cl i = decide (i < 21 ∧ hw i = 2)) (ha : ∀ r, r < 21 → ap r = nI (pr r)) (hr : ∀ j, j < tb_fc n → ar j = nI (tb_co (tb_D n j) n)) (hc : ∀ a b, a < n → b < n → a ≠ b → ac (a * 7 + b) = nI (pr (tb_tr a b))) (hh : ∀ a b, a < 7 → b < 7 → ah (a * 7 + b) = nI (tb_H hw a b)) : i_Rel k (nI n, nI (tb_fc (n - 1)), rq, cl, ap, ar) (nI n, le, lc, ti, fi, ch, ac, ah, lf, ro, us, jo) :=
  ⟨n, pr, hw, hn, n7, hp, hw2, ⟨rq, cl, ap, ar, rfl, hrq, hcl, ha, hr⟩, ⟨le, lc, ti, fi, ch, ac, ah, lf, ro, us, jo, rfl, hc, hh⟩⟩
theorem tb_iy80 {post : SY → Prop} {fn : Int32} {ah lf ro us jo : Nat → Int32} (K : ∀ ac' : Nat → Int32, (∀ k, k < 49 → ac' k = nI 10) → post (fn, 0, 0, 0, 0, 0, ac', ah, lf, ro, us, jo)) : ∀ (m k fuel : Nat) (ac : Nat → Int32), k + m = 49 → m < fuel → (∀ j, j < k → ac j = nI 10) → wY_init_80 post fn 0 0 0 0 0 fuel (nI k) ac ah lf ro us jo := by
  intro m
  induction m with
  | zero =>
    intro k fuel ac hk hf h
    obtain ⟨f, rfl⟩ : ∃ f, fuel = f + 1 := ⟨fuel - 1, by omega⟩
    have e : k = 49 := by omega
    subst e
    exact br_t (nI_le (a := 49) (Nat.le_refl _) (by decide)) (K ac h)
  | succ m ih =>
    intro k fuel ac hk hf h
    obtain ⟨f, rfl⟩ : ∃ f, fuel = f + 1 := ⟨fuel - 1, by omega⟩
    refine br_f (nI_ge (b := 49) (by omega) (by decide)) ⟨vp_in_nI (by omega) (by omega), nm_r (e' := upd ac k (nI 10)) (by rw [nI_clamp (by omega)]; rfl) (nm_r (nI_1 k) ?_)⟩
    refine ih (k + 1) f _ (by omega) (by omega) (fun r hr => ?_)
    by_cases z : r = k
    · rw [z, pk_us]
    · rw [pk_un z]
      exact h r (by omega)
theorem tb_iyW {post : SY → Prop} {x : Int32} (K : ∀ ac' : Nat → Int32, (∀ k, k < 49 → ac' k = nI 10) → post (nI (tb_nn x), 0, 0, 0, 0, 0, ac', (fun _ => 0), (fun _ => 0), (fun _ => 0), (fun _ => 0), (fun _ => 0))) : wpY_init post x := by
  have H := tb_iy80 K 49 0 50 (fun _ => 0) (by omega) (by omega) (fun r hr => absurd hr (by omega))
  refine br_c (fun h1 => br_c (fun h2 => ⟨50, ?_⟩) (fun h2 => ⟨50, ?_⟩)) (fun h1 => ⟨50, ?_⟩)
  · rw [← tb_nnE h1 h2] at H
    exact H
  · have e : tb_nn x = 7 := by
      unfold tb_nn
      rw [if_pos h1, if_neg h2]
    rw [e] at H
    exact H
  · have e : tb_nn x = 2 := by
      unfold tb_nn
      rw [if_neg h1]
    rw [e] at H
    exact H
theorem i_vc0 (k0 : Int32) : wpX_init (fun u => wpY_init (fun v => i_Rel 1 u v) k0) k0 := by
  obtain ⟨b1, b2⟩ := tb_nnB k0
  refine tb_inX (fun ap' rows' h1 h2 => ?_)
  refine tb_iyW (fun ac' h3 => ?_)
  refine tb_mk (pr := fun _ => 10) (hw := fun _ => 0) b1 b2 (fun _ => by decide) (fun _ => by decide) (fun i hi => ?_) (fun i hi => ?_) h1 (fun j hj => ?_) (fun a b ha hb hab => h3 _ (by omega)) (fun a b ha hb => ?_)
  · rw [b_0]
    simp
  · rw [b_0]
    simp
  · rw [h2 j hj, tb_Dc]
  · have e : tb_H (fun _ => 0) a b = 0 := by
      unfold tb_H
      by_cases z : a = b
      · rw [if_pos z]
      · rw [if_neg z]
    rw [e]
    rfl
theorem i_vc_towns {k : Nat} {u : SX} {v : SY} (I : i_Rel k u v) (hk : k + 4 ≤ 2049) : wpX_towns (fun r => wpY_towns (fun r' => r' = r ∧ i_Rel (k + 4) u v) v) u := by
  have I2 := I
  obtain ⟨n, pr, hw, hn, n7, hp, hw2, ⟨rq, cl, ap, ar, rfl, hrq, hcl, ha, hr⟩, ⟨le, lc, ti, fi, ch, ac, ah, lf, ro, us, jo, rfl, hc, hh⟩⟩ := I
  exact ⟨rfl, I2⟩
/-! two towns: bad, the same, good -/
theorem tb_cls (n : Nat) (x y : Int32) : ¬ ((∃ a, a < n ∧ x = nI a) ∧ ∃ b, b < n ∧ y = nI b) ∨ (∃ a, a < n ∧ x = nI a ∧ y = nI a) ∨ ∃ a b, a < n ∧ b < n ∧ a ≠ b ∧ x = nI a ∧ y = nI b := by
  by_cases z : (∃ a, a < n ∧ x = nI a) ∧ ∃ b, b < n ∧ y = nI b
  · obtain ⟨⟨a, ha, ea⟩, b, hb, eb⟩ := z
    by_cases e : a = b
    · exact Or.inr (Or.inl ⟨a, ha, ea, by rw [e]; exact eb⟩)
    · exact Or.inr (Or.inr ⟨a, b, ha, hb, e, ea, eb⟩)
  · exact Or.inl z
variable {n : Nat} {tc rq cl : Int32} {ap ar : Nat → Int32} {le lc ti fi ch : Int32} {ac ah lf ro us jo : Nat → Int32} {pr hw : Nat → Nat}
theorem tb_pfB {post : Int32 → Prop} {x y : Int32} (n7 : n ≤ 7) (z : ¬ ((∃ a, a < n ∧ x = nI a) ∧ ∃ b, b < n ∧ y = nI b)) (h : post (-1)) : wpX_pairFault post (nI n, tc, rq, cl, ap, ar) x y :=
  tb_pfX n7 (fun _ => h) (fun a ha ex ey => absurd ⟨⟨a, ha, ex⟩, a, ha, ey⟩ z) (fun a b ha hb _ ex ey => absurd ⟨⟨a, ha, ex⟩, b, hb, ey⟩ z)
theorem tb_pfS {post : Int32 → Prop} {a : Nat} (n7 : n ≤ 7) (ha : a < n) (h : post (-2)) : wpX_pairFault post (nI n, tc, rq, cl, ap, ar) (nI a) (nI a) :=
  tb_pfX n7 (fun z => absurd ⟨⟨a, ha, rfl⟩, a, ha, rfl⟩ z) (fun _ _ _ _ => h) (fun a' b' ha' hb' hab ex ey => absurd ((nI_eq (by omega) (by omega)).mp (ex.symm.trans ey)) hab)
theorem tb_pfG {post : Int32 → Prop} {a b : Nat} (n7 : n ≤ 7) (ha : a < n) (hb : b < n) (hab : a ≠ b) (h : post 0) : wpX_pairFault post (nI n, tc, rq, cl, ap, ar) (nI a) (nI b) :=
  tb_pfX n7 (fun z => absurd ⟨⟨a, ha, rfl⟩, b, hb, rfl⟩ z) (fun c hc ex ey => absurd ((nI_eq (by omega) (by omega)).mp (ex.trans ey.symm)) hab) (fun _ _ _ _ _ _ _ => h)
theorem tb_YBb {A B C : Prop} {x y : Int32} (n7 : n ≤ 7) (z : ¬ ((∃ a, a < n ∧ x = nI a) ∧ ∃ b, b < n ∧ y = nI b)) (h : C) : wpY_bad (fun r_1 => (r_1 = 0 → wpY_bad (fun r_15 => (r_15 = 0 → ((x = y → A) ∧ (¬ x = y → B))) ∧ (¬ r_15 = 0 → C)) (nI n, le, lc, ti, fi, ch, ac, ah, lf, ro, us, jo) y) ∧ (¬ r_1 = 0 → C)) (nI n, le, lc, ti, fi, ch, ac, ah, lf, ro, us, jo) x :=
  tb_bdW n7 (fun w1 => br_t rfl (tb_bdW n7 (fun w2 => absurd ⟨w1, w2⟩ z) (fun _ => br_f (by decide) h))) (fun _ => br_f (by decide) h)
theorem tb_YBs {A B C : Prop} {a : Nat} (n7 : n ≤ 7) (ha : a < n) (h : A) : wpY_bad (fun r_1 => (r_1 = 0 → wpY_bad (fun r_15 => (r_15 = 0 → ((nI a = nI a → A) ∧ (¬ nI a = nI a → B))) ∧ (¬ r_15 = 0 → C)) (nI n, le, lc, ti, fi, ch, ac, ah, lf, ro, us, jo) (nI a)) ∧ (¬ r_1 = 0 → C)) (nI n, le, lc, ti, fi, ch, ac, ah, lf, ro, us, jo) (nI a) :=
  tb_bdW n7 (fun _ => br_t rfl (tb_bdW n7 (fun _ => br_t rfl (br_t rfl h)) (fun w => absurd ⟨a, ha, rfl⟩ w))) (fun w => absurd ⟨a, ha, rfl⟩ w)
theorem tb_YBg {A B C : Prop} {a b : Nat} (n7 : n ≤ 7) (ha : a < n) (hb : b < n) (hab : a ≠ b) (h : B) : wpY_bad (fun r_1 => (r_1 = 0 → wpY_bad (fun r_15 => (r_15 = 0 → ((nI a = nI b → A) ∧ (¬ nI a = nI b → B))) ∧ (¬ r_15 = 0 → C)) (nI n, le, lc, ti, fi, ch, ac, ah, lf, ro, us, jo) (nI b)) ∧ (¬ r_1 = 0 → C)) (nI n, le, lc, ti, fi, ch, ac, ah, lf, ro, us, jo) (nI a) :=
  tb_bdW n7 (fun _ => br_t rfl (tb_bdW n7 (fun _ => br_t rfl (br_f (fun z => hab ((nI_eq (by omega) (by omega)).mp z)) h)) (fun w => absurd ⟨b, hb, rfl⟩ w))) (fun w => absurd ⟨a, ha, rfl⟩ w)
end TBRel
section TBRel2
theorem i_vc_price {k : Nat} {u : SX} {v : SY} (I : i_Rel k u v) (hk : k + 4 ≤ 2049) (v1 : Int32) (v2 : Int32) (v3 : Int32) : wpX_price (fun r u' => wpY_price (fun r' v' => r' = r ∧ i_Rel (k + 4) u' v') v v1 v2 v3) u v1 v2 v3 := by
  have I2 := I
  obtain ⟨n, pr, hw, hn, n7, hp, hw2, ⟨rq, cl, ap, ar, rfl, hrq, hcl, ha, hr⟩, ⟨le, lc, ti, fi, ch, ac, ah, lf, ro, us, jo, rfl, hc, hh⟩⟩ := I
  unfold wpX_price wpY_price
  rcases tb_cls n v1 v2 with z | ⟨a, han, rfl, rfl⟩ | ⟨a, b, han, hbn, hab, rfl, rfl⟩
  · exact tb_pfB n7 z (br_f (by decide) (tb_YBb n7 z ⟨rfl, I2⟩))
  · exact tb_pfS n7 han (br_f (by decide) (tb_YBs n7 han ⟨rfl, I2⟩))
  · refine tb_pfG n7 han hbn hab (br_t rfl ?_)
    rcases pk_ix v3 (n := 41) (by decide) with z | z | ⟨c, hc2, rfl⟩
    · exact br_t z (tb_YBg n7 han hbn hab (br_t z ⟨rfl, I2⟩))
    · have z0 : ¬ v3 < 0 := Int32.not_lt.mpr (Int32.le_trans (by decide) z)
      have z1 : ¬ v3 ≤ 40 := fun w => absurd (Int32.le_trans z w) (by decide)
      exact br_f z0 (br_f z1 (tb_YBg n7 han hbn hab (br_f z0 (br_f z1 ⟨rfl, I2⟩))))
    · have z0 : ¬ nI c < 0 := nI_pos (by omega)
      have z1 : nI c ≤ 40 := nI_le (b := 40) (by omega) (by decide)
      have hr21 := tb_trL a (by omega) b (by omega) hab
      have i1 : vp_in (nI (tb_tr a b)) 21 := vp_in_nI hr21 (by omega)
      have e1 := tb_ix a (by omega) b (by omega)
      have i2 : vp_in (nI a * 7 + nI b) 49 := by
        rw [e1]
        exact vp_in_nI (by omega) (by omega)
      have e2 : ac (nI a * 7 + nI b).toNatClampNeg = nI (pr (tb_tr a b)) := by rw [e1, nI_clamp (by omega), hc a b han hbn hab]
      refine br_f z0 (br_t z1 ?_)
      refine tb_rbX (by omega) (by omega) ⟨i1, nm_r (e' := nI (pr (tb_tr a b))) (by rw [nI_clamp (by omega), ha _ hr21]) ⟨i1, nm_r (e' := upd ap (tb_tr a b) (nI c)) (by rw [nI_clamp (by omega)]) ?_⟩⟩
      refine tb_YBg n7 han hbn hab (br_f z0 (br_t z1 ⟨i2, nm_r e2 ?_⟩))
      refine tb_cgW (by omega) (by omega) ⟨rfl, ?_⟩
      exact tb_mk (pr := tb_set pr (tb_tr a b) c) hn n7 (tb_setB hp (by omega)) hw2 hrq hcl (tb_upX ha) hr (tb_upP (by omega) (by omega) hab n7 hc) hh
theorem tb_sfX {post : Int32 → Prop} {u : SX} {x y : Int32} (h1 : x < 0 ∨ 41 ≤ x → post (-1)) (h2 : ¬ (x < 0 ∨ 41 ≤ x) → y < 0 ∨ 41 ≤ y → post (-2)) (h3 : ∀ s t, s < 41 → t < 41 → x = nI s → y = nI t → post 0) : wpX_seedFault post u x y := by
  obtain ⟨fn, tc, rq, cl, ap, ar⟩ := u
  refine br_c (fun z => h1 (Or.inl z)) (fun z => br_c (fun z2 => ?_) (fun z2 => h1 (Or.inr (Int32.not_lt.mp z2))))
  have zz : ¬ (x < 0 ∨ 41 ≤ x) := fun w => w.elim z (fun q => Int32.not_le.mpr z2 q)
  refine br_c (fun z3 => h2 zz (Or.inl z3)) (fun z3 => br_c (fun z4 => ?_) (fun z4 => h2 zz (Or.inr (Int32.not_lt.mp z4))))
  obtain ⟨s, hs, rfl⟩ := nI_of z
  obtain ⟨t, ht, rfl⟩ := nI_of z3
  exact h3 s t ((nI_ltI (b := 41) hs (by decide)).mp z2) ((nI_ltI (b := 41) ht (by decide)).mp z4) rfl rfl
/-- a number, too small or too large -/
theorem tb_out {x : Int32} (h : x < 0 ∨ 41 ≤ x) : x < 0 ∨ (¬ x < 0 ∧ ¬ x ≤ 40) := by
  by_cases z : x < 0
  · exact Or.inl z
  · refine Or.inr ⟨z, fun w => ?_⟩
    rcases h with h | h
    · exact z h
    · exact absurd (Int32.le_trans h w) (by decide)
theorem tb_in {x : Int32} (h : ¬ (x < 0 ∨ 41 ≤ x)) : ¬ x < 0 ∧ x ≤ 40 := by
  refine ⟨fun z => h (Or.inl z), ?_⟩
  obtain ⟨s, hs, rfl⟩ := nI_of (x := x) (fun z => h (Or.inl z))
  have h2 : ¬ nI 41 ≤ nI s := fun z => h (Or.inr z)
  rw [nI_leI (by decide) hs] at h2
  exact nI_le (b := 40) (by omega) (by decide)
theorem i_vc_line {k : Nat} {u : SX} {v : SY} (I : i_Rel k u v) (hk : k + 4 ≤ 2049) (v1 : Int32) (v2 : Int32) : wpX_line (fun r u' => wpY_line (fun r' v' => r' = r ∧ i_Rel (k + 4) u' v') v v1 v2) u v1 v2 := by
  have I2 := I
  obtain ⟨n, pr, hw, hn, n7, hp, hw2, ⟨rq, cl, ap, ar, rfl, hrq, hcl, ha, hr⟩, ⟨le, lc, ti, fi, ch, ac, ah, lf, ro, us, jo, rfl, hc, hh⟩⟩ := I
  unfold wpX_line
  refine tb_sfX (fun z => br_f (by decide) ?_) (fun z1 z => br_f (by decide) ?_) (fun s t hs ht ex ey => br_t rfl ?_)
  · rcases tb_out z with w | ⟨w1, w2⟩
    · exact br_t w ⟨rfl, I2⟩
    · exact br_f w1 (br_f w2 ⟨rfl, I2⟩)
  · obtain ⟨q1, q2⟩ := tb_in z1
    rcases tb_out z with w | ⟨w1, w2⟩
    · exact br_f q1 (br_t q2 (br_t w ⟨rfl, I2⟩))
    · exact br_f q1 (br_t q2 (br_f w1 (br_f w2 ⟨rfl, I2⟩)))
  · subst ex ey
    refine ⟨n, tb_li16 n7 hs ht (fun ap' hL => ?_) (n - 1) 1 n ap (by omega) (by omega) ⟨fun a' b' h1 h2 => absurd h2 (by omega), fun r hr => ⟨pr r, hp r, ha r hr⟩⟩⟩
    have z1 : nI s ≤ 40 := nI_le (b := 40) (by omega) (by decide)
    have z2 : nI t ≤ 40 := nI_le (b := 40) (by omega) (by decide)
    refine br_f (nI_pos (by omega)) (br_t z1 (br_f (nI_pos (by omega)) (br_t z2 ⟨50, ?_⟩)))
    refine tb_ly27 hs ht (fun ac' hA => ⟨rfl, ?_⟩) 49 0 50 ac (by omega) (by omega) (fun j hj => absurd hj (by omega))
    obtain ⟨pr', hp', ha'⟩ := tb_chP hL.2
    refine tb_mk (pr := pr') hn n7 hp' hw2 hrq hcl ha' hr (fun a b han hbn hab => ?_) hh
    have q1 : (a * 7 + b) / 7 = a := by omega
    have q2 : (a * 7 + b) % 7 = b := by omega
    have hr21 := tb_trL a (by omega) b (by omega) hab
    rw [hA _ (by omega), q1, q2, ← ha' _ hr21]
    rcases Nat.lt_or_ge a b with w | w
    · rw [hL.1 a b w (Or.inl hbn)]
    · rw [tb_trC, hL.1 b a (by omega) (Or.inl han), tb_vlC]
theorem i_vc_sow {k : Nat} {u : SX} {v : SY} (I : i_Rel k u v) (hk : k + 4 ≤ 2049) (v1 : Int32) (v2 : Int32) : wpX_sow (fun r u' => wpY_sow (fun r' v' => r' = r ∧ i_Rel (k + 4) u' v') v v1 v2) u v1 v2 := by
  have I2 := I
  obtain ⟨n, pr, hw, hn, n7, hp, hw2, ⟨rq, cl, ap, ar, rfl, hrq, hcl, ha, hr⟩, ⟨le, lc, ti, fi, ch, ac, ah, lf, ro, us, jo, rfl, hc, hh⟩⟩ := I
  unfold wpX_sow
  refine tb_sfX (fun z => br_f (by decide) ?_) (fun z1 z => br_f (by decide) ?_) (fun s t hs ht ex ey => br_t rfl ?_)
  · rcases tb_out z with w | ⟨w1, w2⟩
    · exact br_t w ⟨rfl, I2⟩
    · exact br_f w1 (br_f w2 ⟨rfl, I2⟩)
  · obtain ⟨q1, q2⟩ := tb_in z1
    rcases tb_out z with w | ⟨w1, w2⟩
    · exact br_f q1 (br_t q2 (br_t w ⟨rfl, I2⟩))
    · exact br_f q1 (br_t q2 (br_f w1 (br_f w2 ⟨rfl, I2⟩)))
  · subst ex ey
    refine ⟨n, tb_so16 n7 hs ht (fun ap' hL => ?_) (n - 1) 1 n ap (by omega) (by omega) ⟨fun a' b' h1 h2 => absurd h2 (by omega), fun r hr => ⟨pr r, hp r, ha r hr⟩⟩⟩
    have z1 : nI s ≤ 40 := nI_le (b := 40) (by omega) (by decide)
    have z2 : nI t ≤ 40 := nI_le (b := 40) (by omega) (by decide)
    refine br_f (nI_pos (by omega)) (br_t z1 (br_f (nI_pos (by omega)) (br_t z2 ⟨50, ?_⟩)))
    refine tb_sy27 hs ht (fun ac' hA => ⟨rfl, ?_⟩) 49 0 50 ac (by omega) (by omega) (fun a b h1 h2 h3 => absurd h3 (by omega))
    obtain ⟨pr', hp', ha'⟩ := tb_chP hL.2
    refine tb_mk (pr := pr') hn n7 hp' hw2 hrq hcl ha' hr (fun a b han hbn hab => ?_) hh
    have hr21 := tb_trL a (by omega) b (by omega) hab
    rw [← ha' _ hr21]
    rcases Nat.lt_or_ge a b with w | w
    · rw [(hA a b w (by omega)).1, hL.1 a b w (Or.inl hbn)]
    · rw [(hA b a (by omega) (by omega)).2, tb_trC, hL.1 b a (by omega) (Or.inl han)]
theorem i_vc_priceOf {k : Nat} {u : SX} {v : SY} (I : i_Rel k u v) (hk : k + 4 ≤ 2049) (v1 : Int32) (v2 : Int32) : wpX_priceOf (fun r => wpY_priceOf (fun r' => r' = r ∧ i_Rel (k + 4) u v) v v1 v2) u v1 v2 := by
  have I2 := I
  obtain ⟨n, pr, hw, hn, n7, hp, hw2, ⟨rq, cl, ap, ar, rfl, hrq, hcl, ha, hr⟩, ⟨le, lc, ti, fi, ch, ac, ah, lf, ro, us, jo, rfl, hc, hh⟩⟩ := I
  unfold wpX_priceOf wpY_priceOf
  rcases tb_cls n v1 v2 with z | ⟨a, han, rfl, rfl⟩ | ⟨a, b, han, hbn, hab, rfl, rfl⟩
  · exact tb_pfB n7 z (br_f (by decide) (br_f (by decide) (tb_YBb n7 z ⟨rfl, I2⟩)))
  · exact tb_pfS n7 han (br_t rfl (tb_YBs n7 han ⟨rfl, I2⟩))
  · have hr21 := tb_trL a (by omega) b (by omega) hab
    have i1 : vp_in (nI (tb_tr a b)) 21 := vp_in_nI hr21 (by omega)
    have e1 := tb_ix a (by omega) b (by omega)
    have i2 : vp_in (nI a * 7 + nI b) 49 := by
      rw [e1]
      exact vp_in_nI (by omega) (by omega)
    have e2 : ac (nI a * 7 + nI b).toNatClampNeg = ap (nI (tb_tr a b)).toNatClampNeg := by rw [e1, nI_clamp (by omega), nI_clamp (by omega), hc a b han hbn hab, ha _ hr21]
    refine tb_pfG n7 han hbn hab (br_f (by decide) (br_t rfl ?_))
    exact tb_rbX (by omega) (by omega) ⟨i1, tb_YBg n7 han hbn hab ⟨i2, e2, I2⟩⟩
end TBRel2
