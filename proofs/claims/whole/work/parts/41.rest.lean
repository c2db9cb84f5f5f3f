section TBRel3
variable {n : Nat} {tc rq cl : Int32} {ap ar : Nat → Int32} {le lc ti fi ch : Int32} {ac ah lf ro us jo : Nat → Int32} {pr hw : Nat → Nat}
theorem tb_mkX {post : Int32 → SX → Prop} {a b c : Nat} (n7 : n ≤ 7) (hw2 : ∀ r, hw r ≤ 2) (hrq : ∀ i, i < 32 → bt rq i = decide (i < 21 ∧ hw i = 1)) (hcl : ∀ i, i < 32 → bt cl i = decide (i < 21 ∧ hw i = 2)) (ha : a < n) (hb : b < n) (hab : a ≠ b) (hc : c ≤ 2) (K : ∀ rq' cl' : Int32, (∀ i, i < 32 → bt rq' i = decide (i < 21 ∧ tb_set hw (tb_tr a b) c i = 1)) → (∀ i, i < 32 → bt cl' i = decide (i < 21 ∧ tb_set hw (tb_tr a b) c i = 2)) → post (nI (hw (tb_tr a b))) (nI n, tc, rq', cl', ap, ar)) : wpX_mark post (nI n, tc, rq, cl, ap, ar) (nI a) (nI b) (nI c) := by
  have hr21 := tb_trL a (by omega) b (by omega) hab
  have z1 : nI c ≤ 2 := nI_le (b := 2) (by omega) (by decide)
  have c1 : nI c = 1 ↔ c = 1 := nI_eq (b := 1) (by omega) (by decide)
  have c2 : nI c = 2 ↔ c = 2 := nI_eq (b := 2) (by omega) (by decide)
  unfold wpX_mark
  refine tb_pfG n7 ha hb hab (br_t rfl (br_f (nI_pos (by omega)) (br_t z1 ?_)))
  refine tb_rbX (by omega) (by omega) (nm_e ?_)
  refine tb_moX hw2 hrq hcl hr21 (br_c (fun z => br_c (fun w => nm_e (K _ _ ?_ ?_)) (fun w => nm_e (K _ _ ?_ ?_))) (fun z => br_c (fun w => nm_e (K _ _ ?_ ?_)) (fun w => nm_e (K _ _ ?_ ?_))))
  · exact tb_mb1 hr21 hrq (c1.mp z)
  · exact tb_mb1 hr21 hcl (c2.mp w)
  · exact tb_mb1 hr21 hrq (c1.mp z)
  · exact tb_mb0 hr21 hcl (fun q => w (c2.mpr q))
  · exact tb_mb0 hr21 hrq (fun q => z (c1.mpr q))
  · exact tb_mb1 hr21 hcl (c2.mp w)
  · exact tb_mb0 hr21 hrq (fun q => z (c1.mpr q))
  · exact tb_mb0 hr21 hcl (fun q => w (c2.mpr q))
theorem tb_mkY {post : Int32 → SY → Prop} {a b c : Nat} (n7 : n ≤ 7) (hh : ∀ a b, a < 7 → b < 7 → ah (a * 7 + b) = nI (tb_H hw a b)) (ha : a < n) (hb : b < n) (hab : a ≠ b) (hc : c ≤ 2) (K : ∀ ah' : Nat → Int32, (∀ a' b', a' < 7 → b' < 7 → ah' (a' * 7 + b') = nI (tb_H (tb_set hw (tb_tr a b) c) a' b')) → post (nI (hw (tb_tr a b))) (nI n, le, lc, ti, fi, ch, ac, ah', lf, ro, us, jo)) : wpY_mark post (nI n, le, lc, ti, fi, ch, ac, ah, lf, ro, us, jo) (nI a) (nI b) (nI c) := by
  have e1 := tb_ix a (by omega) b (by omega)
  have e2 := tb_ix b (by omega) a (by omega)
  have i1 : vp_in (nI a * 7 + nI b) 49 := by
    rw [e1]
    exact vp_in_nI (by omega) (by omega)
  have i2 : vp_in (nI b * 7 + nI a) 49 := by
    rw [e2]
    exact vp_in_nI (by omega) (by omega)
  have z1 : nI c ≤ 2 := nI_le (b := 2) (by omega) (by decide)
  have e3 : ah (nI a * 7 + nI b).toNatClampNeg = nI (hw (tb_tr a b)) := by
    rw [e1, nI_clamp (by omega), hh a b (by omega) (by omega)]
    unfold tb_H
    rw [if_neg hab]
  unfold wpY_mark
  refine tb_YBg n7 ha hb hab (br_f (nI_pos (by omega)) (br_t z1 ⟨i1, nm_r e3 ⟨i1, nm_r (e' := upd ah (a * 7 + b) (nI c)) (by rw [e1, nI_clamp (by omega)]) ⟨i2, nm_r (e' := upd (upd ah (a * 7 + b) (nI c)) (b * 7 + a) (nI c)) (by rw [e2, nI_clamp (by omega)]) ?_⟩⟩⟩))
  exact K _ (tb_upH (by omega) (by omega) hab hh)
/-- both ask the same of a tour -/
theorem tb_aE {sh : Int32} (hrq : ∀ i, i < 32 → bt rq i = decide (i < 21 ∧ hw i = 1)) (hcl : ∀ i, i < 32 → bt sh i = decide (i < 21 ∧ hw i = 2)) : tb_aX n rq sh = tb_aY n hw := by
  funext j
  refine tb_BE ?_
  constructor
  · intro h r hr
    refine ⟨fun z w => ?_, fun z => h.2 r (by omega) ?_⟩
    · have := h.1 r (by omega) w
      rw [hcl r (by omega), decide_eq_false_iff_not] at this
      exact this ⟨hr, z⟩
    · rw [hrq r (by omega), decide_eq_true_iff]
      exact ⟨hr, z⟩
  · intro h
    refine ⟨fun i hi w => ?_, fun i hi w => ?_⟩
    · rw [hcl i hi, decide_eq_false_iff_not]
      exact fun z => (h i z.1).1 z.2 w
    · rw [hrq i hi, decide_eq_true_iff] at w
      exact (h i w.1).2 w.2
theorem tb_wE {lim : Int32} (hrq : ∀ i, i < 32 → bt rq i = decide (i < 21 ∧ hw i = 1)) (hcl : ∀ i, i < 32 → bt cl i = decide (i < 21 ∧ hw i = 2)) : tb_wX n pr rq cl lim = tb_wY n pr hw lim := by
  funext j
  unfold tb_wX tb_wY
  rw [tb_aE hrq hcl]
theorem tb_bsZ {al : Nat → Bool} {p : Nat → Nat} (h : ∀ i, al i = false) : ∀ k, tb_bs al p k = none
  | 0 => rfl
  | k + 1 => by rw [tb_bs0 (h k), tb_bsZ h k]
/-- the price of X's i-th row, by its code -/
theorem tb_tpI {post : Int32 → Prop} {i : Nat} (hn : 2 ≤ n) (n7 : n ≤ 7) (ha : ∀ r, r < 21 → ap r = nI (pr r)) (hi : i < tb_fc (n - 1)) (h : post (nI (tb_pX n pr i))) : wpX_tourPrice post (nI n, tc, rq, cl, ap, ar) (nI (tb_co (tb_D n i) n)) :=
  tb_tpW hn n7 ha (tb_Dp n i) (tb_D00 (by omega) hi) h
end TBRel3
section TBRel4
theorem i_vc_mark {k : Nat} {u : SX} {v : SY} (I : i_Rel k u v) (hk : k + 4 ≤ 2049) (v1 : Int32) (v2 : Int32) (v3 : Int32) : wpX_mark (fun r u' => wpY_mark (fun r' v' => r' = r ∧ i_Rel (k + 4) u' v') v v1 v2 v3) u v1 v2 v3 := by
  have I2 := I
  obtain ⟨n, pr, hw, hn, n7, hp, hw2, ⟨rq, cl, ap, ar, rfl, hrq, hcl, ha, hr⟩, ⟨le, lc, ti, fi, ch, ac, ah, lf, ro, us, jo, rfl, hc, hh⟩⟩ := I
  rcases tb_cls n v1 v2 with z | ⟨a, han, rfl, rfl⟩ | ⟨a, b, han, hbn, hab, rfl, rfl⟩
  · unfold wpX_mark wpY_mark
    exact tb_pfB n7 z (br_f (by decide) (tb_YBb n7 z ⟨rfl, I2⟩))
  · unfold wpX_mark wpY_mark
    exact tb_pfS n7 han (br_f (by decide) (tb_YBs n7 han ⟨rfl, I2⟩))
  · rcases pk_ix v3 (n := 3) (by decide) with z | z | ⟨c, hc2, rfl⟩
    · unfold wpX_mark wpY_mark
      exact tb_pfG n7 han hbn hab (br_t rfl (br_t z (tb_YBg n7 han hbn hab (br_t z ⟨rfl, I2⟩))))
    · have z0 : ¬ v3 < 0 := Int32.not_lt.mpr (Int32.le_trans (by decide) z)
      have z1 : ¬ v3 ≤ 2 := fun w => absurd (Int32.le_trans z w) (by decide)
      unfold wpX_mark wpY_mark
      exact tb_pfG n7 han hbn hab (br_t rfl (br_f z0 (br_f z1 (tb_YBg n7 han hbn hab (br_f z0 (br_f z1 ⟨rfl, I2⟩))))))
    · refine tb_mkX n7 hw2 hrq hcl han hbn hab (by omega) (fun rq' cl' h1 h2 => ?_)
      refine tb_mkY n7 hh han hbn hab (by omega) (fun ah' h3 => ⟨rfl, ?_⟩)
      exact tb_mk hn n7 hp (tb_setB hw2 (by omega)) h1 h2 ha hr hc h3
theorem i_vc_best {k : Nat} {u : SX} {v : SY} (I : i_Rel k u v) (hk : k + 4 ≤ 2049) : wpX_best (fun r => wpY_best (fun r' v' => r' = r ∧ i_Rel (k + 4) u v') v) u := by
  obtain ⟨n, pr, hw, hn, n7, hp, hw2, ⟨rq, cl, ap, ar, rfl, hrq, hcl, ha, hr⟩, ⟨le, lc, ti, fi, ch, ac, ah, lf, ro, us, jo, rfl, hc, hh⟩⟩ := I
  unfold wpX_best wpY_best
  refine tb_bwW hn n7 hp ha hr ?_
  have hE := tb_aE (n := n) hrq hcl
  rw [hE]
  cases e : tb_bs (tb_aY n hw) (tb_pX n pr) (tb_fc (n - 1)) with
  | none =>
    refine br_t rfl (tb_loW hn n7 hp hw2 hc hh (fun lf' ro' us' => ⟨?_, tb_mk hn n7 hp hw2 hrq hcl ha hr hc hh⟩))
    rw [e]
    rfl
  | some i =>
    have hi := ((tb_bsF _).2 i e).1
    refine br_f (tb_nm1 (tb_coD31 n7 i)) (tb_tpI hn n7 ha hi (tb_loW hn n7 hp hw2 hc hh (fun lf' ro' us' => ⟨?_, tb_mk hn n7 hp hw2 hrq hcl ha hr hc hh⟩)))
    rw [e]
    rfl
theorem i_vc_bestCode {k : Nat} {u : SX} {v : SY} (I : i_Rel k u v) (hk : k + 4 ≤ 2049) : wpX_bestCode (fun r => wpY_bestCode (fun r' v' => r' = r ∧ i_Rel (k + 4) u v') v) u := by
  obtain ⟨n, pr, hw, hn, n7, hp, hw2, ⟨rq, cl, ap, ar, rfl, hrq, hcl, ha, hr⟩, ⟨le, lc, ti, fi, ch, ac, ah, lf, ro, us, jo, rfl, hc, hh⟩⟩ := I
  unfold wpX_bestCode wpY_bestCode
  refine tb_bwW hn n7 hp ha hr ?_
  have hE := tb_aE (n := n) hrq hcl
  rw [hE]
  exact tb_loW hn n7 hp hw2 hc hh (fun lf' ro' us' => ⟨rfl, tb_mk hn n7 hp hw2 hrq hcl ha hr hc hh⟩)
theorem i_vc_bestTours {k : Nat} {u : SX} {v : SY} (I : i_Rel k u v) (hk : k + 4 ≤ 2049) : wpX_bestTours (fun r => wpY_bestTours (fun r' v' => r' = r ∧ i_Rel (k + 4) u v') v) u := by
  obtain ⟨n, pr, hw, hn, n7, hp, hw2, ⟨rq, cl, ap, ar, rfl, hrq, hcl, ha, hr⟩, ⟨le, lc, ti, fi, ch, ac, ah, lf, ro, us, jo, rfl, hc, hh⟩⟩ := I
  unfold wpX_bestTours wpY_bestTours
  refine tb_bwW hn n7 hp ha hr ?_
  have hE := tb_aE (n := n) hrq hcl
  rw [hE]
  cases e : tb_bs (tb_aY n hw) (tb_pX n pr) (tb_fc (n - 1)) with
  | none =>
    refine br_t rfl (tb_loW hn n7 hp hw2 hc hh (fun lf' ro' us' => ⟨?_, tb_mk hn n7 hp hw2 hrq hcl ha hr hc hh⟩))
    rw [tb_tiZ e]
    rfl
  | some i =>
    have hi := ((tb_bsF _).2 i e).1
    refine br_f (tb_nm1 (tb_coD31 n7 i)) (tb_tpI hn n7 ha hi ?_)
    refine tb_wiW (tc := 0) hn n7 ha hr ?_
    have hw3 : tb_cn (tb_wX n pr rq cl (nI (tb_pX n pr i))) (tb_fc (n - 1)) = tb_ti (tb_aY n hw) (tb_pX n pr) (tb_fc (n - 1)) := by
      rw [← tb_tiW e]
      refine tb_cnG _ (fun j hj => ?_)
      have b1 : tb_pX n pr i ≤ 280 := tb_tpB hp n7 _
      have b2 : tb_pX n pr j ≤ 280 := tb_tpB hp n7 _
      unfold tb_wX
      rw [hE]
      congr 1
      by_cases z : tb_pX n pr j ≤ tb_pX n pr i
      · rw [decide_eq_true z, decide_eq_false (nI_nlt z (by omega))]
        rfl
      · rw [decide_eq_false z, decide_eq_true (nI_lt (by omega) (by omega))]
        rfl
    rw [hw3]
    exact tb_loW hn n7 hp hw2 hc hh (fun lf' ro' us' => ⟨rfl, tb_mk hn n7 hp hw2 hrq hcl ha hr hc hh⟩)
theorem i_vc_allowed {k : Nat} {u : SX} {v : SY} (I : i_Rel k u v) (hk : k + 4 ≤ 2049) : wpX_allowed (fun r => wpY_allowed (fun r' v' => r' = r ∧ i_Rel (k + 4) u v') v) u := by
  obtain ⟨n, pr, hw, hn, n7, hp, hw2, ⟨rq, cl, ap, ar, rfl, hrq, hcl, ha, hr⟩, ⟨le, lc, ti, fi, ch, ac, ah, lf, ro, us, jo, rfl, hc, hh⟩⟩ := I
  unfold wpY_allowed
  refine tb_alW hn n7 hr ?_
  have hE := tb_aE (n := n) hrq hcl
  rw [hE]
  exact tb_loW hn n7 hp hw2 hc hh (fun lf' ro' us' => ⟨rfl, tb_mk hn n7 hp hw2 hrq hcl ha hr hc hh⟩)
theorem i_vc_within {k : Nat} {u : SX} {v : SY} (I : i_Rel k u v) (hk : k + 4 ≤ 2049) (v1 : Int32) : wpX_within (fun r => wpY_within (fun r' v' => r' = r ∧ i_Rel (k + 4) u v') v v1) u v1 := by
  obtain ⟨n, pr, hw, hn, n7, hp, hw2, ⟨rq, cl, ap, ar, rfl, hrq, hcl, ha, hr⟩, ⟨le, lc, ti, fi, ch, ac, ah, lf, ro, us, jo, rfl, hc, hh⟩⟩ := I
  unfold wpY_within
  refine tb_wiW (tc := 0) hn n7 ha hr ?_
  have hE := tb_wE (n := n) (pr := pr) (lim := v1) hrq hcl
  rw [hE]
  exact tb_loW hn n7 hp hw2 hc hh (fun lf' ro' us' => ⟨rfl, tb_mk hn n7 hp hw2 hrq hcl ha hr hc hh⟩)
theorem i_vc_priceOfTour {k : Nat} {u : SX} {v : SY} (I : i_Rel k u v) (hk : k + 4 ≤ 2049) (v1 : Int32) : wpX_priceOfTour (fun r => wpY_priceOfTour (fun r' v' => r' = r ∧ i_Rel (k + 4) u v') v v1) u v1 := by
  obtain ⟨n, pr, hw, hn, n7, hp, hw2, ⟨rq, cl, ap, ar, rfl, hrq, hcl, ha, hr⟩, ⟨le, lc, ti, fi, ch, ac, ah, lf, ro, us, jo, rfl, hc, hh⟩⟩ := I
  have h7 := tb_p7 (n - 1) (by omega)
  unfold wpX_priceOfTour wpY_priceOfTour
  by_cases T : ∃ c, v1 = nI c ∧ c < 7 ^ (n - 1) ∧ tb_pm n (tb_dg n c)
  · obtain ⟨c, rfl, hc7, hpm⟩ := T
    have hc7n : c < 7 ^ n := Nat.lt_of_lt_of_le hc7 (Nat.pow_le_pow_right (by decide) (by omega))
    have d0 := tb_dg0 (n := n) hc7
    refine tb_itW hn n7 hr (fun _ => br_f (by decide) ?_) (fun z => ?_)
    · have ec : nI c = nI (tb_co (tb_dg n c) n) := by rw [tb_dgE hc7n]
      refine (congrArg (wpX_tourPrice _ _) ec).mpr (tb_tpW hn n7 ha hpm d0 ?_)
      refine tb_rdW hn n7 (fun c' e1 e2 e3 ro' h' => br_f (by decide) ?_) (fun z => absurd ⟨c, rfl, hc7, hpm⟩ z)
      have : c = c' := (nI_eq (by omega) (by omega)).mp e1
      subst this
      exact tb_prW hn n7 hpm d0 h' hc ⟨rfl, tb_mk hn n7 hp hw2 hrq hcl ha hr hc hh⟩
    · obtain ⟨i, hi, e⟩ := (tb_isT hn n7).mpr ⟨hc7, hpm⟩
      exact absurd (by rw [e]) (z i hi)
  · refine tb_itW hn n7 hr (fun ⟨i, hi, e⟩ => absurd ?_ T) (fun _ => br_t rfl ?_)
    · obtain ⟨q1, q2⟩ := (tb_isT hn n7).mp ⟨i, hi, rfl⟩
      exact ⟨_, e.symm, q1, q2⟩
    · exact tb_rdW hn n7 (fun c' e1 e2 e3 ro' h' => absurd ⟨c', e1, e2, e3⟩ T) (fun z ro' => br_t rfl ⟨rfl, tb_mk hn n7 hp hw2 hrq hcl ha hr hc hh⟩)
theorem i_vc_isAllowed {k : Nat} {u : SX} {v : SY} (I : i_Rel k u v) (hk : k + 4 ≤ 2049) (v1 : Int32) : wpX_isAllowed (fun r => wpY_isAllowed (fun r' v' => r' = r ∧ i_Rel (k + 4) u v') v v1) u v1 := by
  obtain ⟨n, pr, hw, hn, n7, hp, hw2, ⟨rq, cl, ap, ar, rfl, hrq, hcl, ha, hr⟩, ⟨le, lc, ti, fi, ch, ac, ah, lf, ro, us, jo, rfl, hc, hh⟩⟩ := I
  have h7 := tb_p7 (n - 1) (by omega)
  unfold wpX_isAllowed wpY_isAllowed
  by_cases T : ∃ c, v1 = nI c ∧ c < 7 ^ (n - 1) ∧ tb_pm n (tb_dg n c)
  · obtain ⟨c, rfl, hc7, hpm⟩ := T
    have hc7n : c < 7 ^ n := Nat.lt_of_lt_of_le hc7 (Nat.pow_le_pow_right (by decide) (by omega))
    have d0 := tb_dg0 (n := n) hc7
    refine tb_itW hn n7 hr (fun _ => br_f (by decide) ?_) (fun z => ?_)
    · obtain ⟨i, hi, e⟩ := (tb_isT hn n7).mpr ⟨hc7, hpm⟩
      have hg : ∀ t, t < n → tb_dg n c t = tb_D n i t := tb_dgD (by omega) (fun t ht => Nat.lt_of_lt_of_le ((tb_Dp n i).1 t ht) n7) e
      have hA : tb_ft n rq cl (tb_D n i) ↔ tb_al n hw (tb_dg n c) := by
        rw [tb_alG hg]
        have := congrFun (tb_aE (n := n) hrq hcl) i
        unfold tb_aX tb_aY at this
        constructor
        · intro w
          exact tb_BT.mp (this ▸ tb_BT.mpr w)
        · intro w
          exact tb_BT.mp (this.symm ▸ tb_BT.mpr w)
      have ec : nI c = nI (tb_co (tb_D n i) n) := by rw [e]
      have Y : ∀ (r : Int32), ((tb_al n hw (tb_dg n c) → r = 1) ∧ (¬ tb_al n hw (tb_dg n c) → r = 0)) → wpY_read (fun r_1 u => match u with | (f_n_2, f_least_3, f_leastCode_4, f_ties_5, f_fine_6, f_cheap_7, a_cost_8, a_how_9, a_left_10, a_row_11, a_used_12, a_joined_13) => (((r_1 = 0 → ((-1) = r ∧ i_Rel (k + 4) (nI n, nI (tb_fc (n - 1)), rq, cl, ap, ar) (f_n_2, f_least_3, f_leastCode_4, f_ties_5, f_fine_6, f_cheap_7, a_cost_8, a_how_9, a_left_10, a_row_11, a_used_12, a_joined_13))) ∧ (¬ r_1 = 0 → (wpY_rowAllowed (fun r_15 u => match u with | (f_n_2, f_least_3, f_leastCode_4, f_ties_5, f_fine_6, f_cheap_7, a_cost_8, a_how_9, a_left_10, a_row_11, a_used_12, a_joined_13) => (((r_15 = 0 → (0 = r ∧ i_Rel (k + 4) (nI n, nI (tb_fc (n - 1)), rq, cl, ap, ar) (f_n_2, f_least_3, f_leastCode_4, f_ties_5, f_fine_6, f_cheap_7, a_cost_8, a_how_9, a_left_10, a_row_11, a_used_12, a_joined_13))) ∧ (¬ r_15 = 0 → (1 = r ∧ i_Rel (k + 4) (nI n, nI (tb_fc (n - 1)), rq, cl, ap, ar) (f_n_2, f_least_3, f_leastCode_4, f_ties_5, f_fine_6, f_cheap_7, a_cost_8, a_how_9, a_left_10, a_row_11, a_used_12, a_joined_13)))))) (f_n_2, f_least_3, f_leastCode_4, f_ties_5, f_fine_6, f_cheap_7, a_cost_8, a_how_9, a_left_10, a_row_11, a_used_12, a_joined_13)))))) (nI n, le, lc, ti, fi, ch, ac, ah, lf, ro, us, jo) (nI c) := by
        intro r hrr
        refine tb_rdW hn n7 (fun c' e1 e2 e3 ro' h' => br_f (by decide) ?_) (fun z => absurd ⟨c, rfl, hc7, hpm⟩ z)
        have : c = c' := (nI_eq (by omega) (by omega)).mp e1
        subst this
        exact tb_raW hn n7 hpm d0 h' hw2 hh (fun w us' => br_f (by decide) ⟨(hrr.1 w).symm, tb_mk hn n7 hp hw2 hrq hcl ha hr hc hh⟩) (fun w us' => br_t rfl ⟨(hrr.2 w).symm, tb_mk hn n7 hp hw2 hrq hcl ha hr hc hh⟩)
      refine (congrArg (fun x => wpX_fits _ _ x _) ec).mpr (tb_ftW hn n7 (tb_Dp n i) (tb_D00 (by omega) hi) (fun w => br_f (by decide) ?_) (fun w => br_t rfl ?_))
      · exact Y 1 ⟨fun _ => rfl, fun q => absurd (hA.mp w) q⟩
      · exact Y 0 ⟨fun q => absurd (hA.mpr q) w, fun _ => rfl⟩
    · obtain ⟨i, hi, e⟩ := (tb_isT hn n7).mpr ⟨hc7, hpm⟩
      exact absurd (by rw [e]) (z i hi)
  · refine tb_itW hn n7 hr (fun ⟨i, hi, e⟩ => absurd ?_ T) (fun _ => br_t rfl ?_)
    · obtain ⟨q1, q2⟩ := (tb_isT hn n7).mp ⟨i, hi, rfl⟩
      exact ⟨_, e.symm, q1, q2⟩
    · exact tb_rdW hn n7 (fun c' e1 e2 e3 ro' h' => absurd ⟨c', e1, e2, e3⟩ T) (fun z ro' => br_t rfl ⟨rfl, tb_mk hn n7 hp hw2 hrq hcl ha hr hc hh⟩)
end TBRel4
