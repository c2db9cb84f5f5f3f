section TBRel5
variable {n : Nat} {rq cl : Int32} {ap ar : Nat → Int32} {le lc ti fi ch : Int32} {ac ah lf ro us jo : Nat → Int32} {pr hw : Nat → Nat}
/-- what worth answers for a road r -/
noncomputable def tb_wr (n : Nat) (pr hw : Nat → Nat) (r : Nat) : Int32 :=
  match tb_bs (tb_aY n hw) (tb_pX n pr) (tb_fc (n - 1)) with
  | none => -3
  | some i => if hw r = 1 then -4 else match tb_bs (tb_aY n (tb_set hw r 2)) (tb_pX n pr) (tb_fc (n - 1)) with
    | none => -4
    | some j => nI (tb_pX n pr j) - nI (tb_pX n pr i)
theorem tb_wr0 {r : Nat} (h : tb_bs (tb_aY n hw) (tb_pX n pr) (tb_fc (n - 1)) = none) : tb_wr n pr hw r = -3 := by
  unfold tb_wr
  rw [h]
theorem tb_wr1 {r i : Nat} (h : tb_bs (tb_aY n hw) (tb_pX n pr) (tb_fc (n - 1)) = some i) (h1 : hw r = 1) : tb_wr n pr hw r = -4 := by
  unfold tb_wr
  rw [h]
  exact if_pos h1
theorem tb_wr2 {r i : Nat} (h : tb_bs (tb_aY n hw) (tb_pX n pr) (tb_fc (n - 1)) = some i) (h1 : hw r ≠ 1) (h2 : tb_bs (tb_aY n (tb_set hw r 2)) (tb_pX n pr) (tb_fc (n - 1)) = none) : tb_wr n pr hw r = -4 := by
  unfold tb_wr
  rw [h]
  refine (if_neg h1).trans ?_
  rw [h2]
theorem tb_wr3 {r i j : Nat} (h : tb_bs (tb_aY n hw) (tb_pX n pr) (tb_fc (n - 1)) = some i) (h1 : hw r ≠ 1) (h2 : tb_bs (tb_aY n (tb_set hw r 2)) (tb_pX n pr) (tb_fc (n - 1)) = some j) : tb_wr n pr hw r = nI (tb_pX n pr j) - nI (tb_pX n pr i) := by
  unfold tb_wr
  rw [h]
  refine (if_neg h1).trans ?_
  rw [h2]
theorem tb_woX {post : Int32 → Prop} {a b : Nat} (hn : 2 ≤ n) (n7 : n ≤ 7) (hp : ∀ r, pr r ≤ 40) (hrq : ∀ i, i < 32 → bt rq i = decide (i < 21 ∧ hw i = 1)) (hcl : ∀ i, i < 32 → bt cl i = decide (i < 21 ∧ hw i = 2)) (ha : ∀ r, r < 21 → ap r = nI (pr r)) (hr : ∀ j, j < tb_fc n → ar j = nI (tb_co (tb_D n j) n)) (han : a < n) (hbn : b < n) (hab : a ≠ b) (h : post (tb_wr n pr hw (tb_tr a b))) : wpX_worth post (nI n, nI (tb_fc (n - 1)), rq, cl, ap, ar) (nI a) (nI b) := by
  have hr21 := tb_trL a (by omega) b (by omega) hab
  unfold wpX_worth
  refine tb_pfG n7 han hbn hab (br_t rfl ?_)
  refine tb_bwW hn n7 hp ha hr ?_
  have hE := tb_aE (n := n) hrq hcl
  rw [hE]
  cases e : tb_bs (tb_aY n hw) (tb_pX n pr) (tb_fc (n - 1)) with
  | none =>
    rw [tb_wr0 e] at h
    exact br_t rfl h
  | some i =>
    have hi := ((tb_bsF _).2 i e).1
    refine br_f (tb_nm1 (tb_coD31 n7 i)) ?_
    refine tb_rbX (by omega) (by omega) (nm_e ?_)
    refine tb_bwW hn n7 hp ha hr ?_
    by_cases z : hw (tb_tr a b) = 1
    · rw [tb_wr1 e z] at h
      have hN : tb_bs (tb_aX n rq (cl ||| ((1 : Int32) <<< (nI (tb_tr a b) &&& 31)))) (tb_pX n pr) (tb_fc (n - 1)) = none := by
        refine tb_bsZ (fun j => tb_BF.mpr (fun w => ?_)) _
        have w2 := w.2 (tb_tr a b) (by omega) (by rw [hrq _ (by omega)]; exact decide_eq_true ⟨hr21, z⟩)
        have w1 := w.1 (tb_tr a b) (by omega) w2
        rw [tb_bset (by omega) (by omega), decide_eq_true rfl, Bool.or_true] at w1
        cases w1
      rw [hN]
      exact br_t rfl h
    · have hrq2 : ∀ i, i < 32 → bt rq i = decide (i < 21 ∧ tb_set hw (tb_tr a b) 2 i = 1) := by
        intro i hi
        rw [hrq i hi]
        by_cases y : i = tb_tr a b
        · rw [y, tb_setE]
          simp [z]
        · rw [tb_setN y]
      have hE2 := tb_aE (n := n) hrq2 (tb_mb1 hr21 hcl (rfl : 2 = 2))
      rw [hE2]
      cases e2 : tb_bs (tb_aY n (tb_set hw (tb_tr a b) 2)) (tb_pX n pr) (tb_fc (n - 1)) with
      | none =>
        rw [tb_wr2 e z e2] at h
        exact br_t rfl h
      | some j =>
        have hj := ((tb_bsF _).2 j e2).1
        rw [tb_wr3 e z e2] at h
        exact br_f (tb_nm1 (tb_coD31 n7 j)) (tb_tpI hn n7 ha hj (tb_tpI hn n7 ha hi h))
theorem tb_woY {post : Int32 → SY → Prop} {a b : Nat} (hn : 2 ≤ n) (n7 : n ≤ 7) (hp : ∀ r, pr r ≤ 40) (hw2 : ∀ r, hw r ≤ 2) (hc : ∀ a b, a < n → b < n → a ≠ b → ac (a * 7 + b) = nI (pr (tb_tr a b))) (hh : ∀ a b, a < 7 → b < 7 → ah (a * 7 + b) = nI (tb_H hw a b)) (han : a < n) (hbn : b < n) (hab : a ≠ b) (K : ∀ (le' lc' ti' fi' ch' : Int32) (ah' lf' ro' us' : Nat → Int32), (∀ a b, a < 7 → b < 7 → ah' (a * 7 + b) = nI (tb_H hw a b)) → post (tb_wr n pr hw (tb_tr a b)) (nI n, le', lc', ti', fi', ch', ac, ah', lf', ro', us', jo)) : wpY_worth post (nI n, le, lc, ti, fi, ch, ac, ah, lf, ro, us, jo) (nI a) (nI b) := by
  have e1 := tb_ix a (by omega) b (by omega)
  have i1 : vp_in (nI a * 7 + nI b) 49 := by
    rw [e1]
    exact vp_in_nI (by omega) (by omega)
  have e3 : ah (nI a * 7 + nI b).toNatClampNeg = nI (hw (tb_tr a b)) := by
    rw [e1, nI_clamp (by omega), hh a b (by omega) (by omega)]
    unfold tb_H
    rw [if_neg hab]
  have h2 := hw2 (tb_tr a b)
  have c1 : nI (hw (tb_tr a b)) = 1 ↔ hw (tb_tr a b) = 1 := nI_eq (b := 1) (by omega) (by decide)
  have b1 : ∀ q, tb_pX n pr q ≤ 280 := fun q => tb_tpB hp n7 _
  unfold wpY_worth
  refine tb_YBg n7 han hbn hab ?_
  refine tb_loW hn n7 hp hw2 hc hh (fun lf1 ro1 us1 => ?_)
  cases e : tb_bs (tb_aY n hw) (tb_pX n pr) (tb_fc (n - 1)) with
  | none =>
    rw [tb_wr0 e] at K
    exact br_f (by decide : ¬ (0 : Int32) ≤ -1) (K _ _ _ _ _ ah lf1 ro1 us1 hh)
  | some i =>
    have bi := b1 i
    refine br_t (nI_pos' (by omega)) ⟨i1, nm_r e3 (br_c (fun z => ?_) (fun z => ?_))⟩
    · rw [tb_wr1 e (c1.mp z)] at K
      exact K _ _ _ _ _ ah lf1 ro1 us1 hh
    · have z2 : hw (tb_tr a b) ≠ 1 := fun w => z (c1.mpr w)
      refine tb_mkY (c := 2) n7 hh han hbn hab (by omega) (fun ah2 hh2 => ?_)
      refine tb_loW hn n7 hp (tb_setB hw2 (by omega)) hc hh2 (fun lf3 ro3 us3 => ?_)
      refine tb_mkY n7 hh2 han hbn hab h2 (fun ah4 hh4 => ?_)
      rw [tb_setS] at hh4
      cases e2 : tb_bs (tb_aY n (tb_set hw (tb_tr a b) 2)) (tb_pX n pr) (tb_fc (n - 1)) with
      | none =>
        rw [tb_wr2 e z2 e2] at K
        exact br_f (by decide : ¬ (0 : Int32) ≤ -1) (K _ _ _ _ _ ah4 lf3 ro3 us3 hh4)
      | some j =>
        have bj := b1 j
        rw [tb_wr3 e z2 e2] at K
        exact br_t (nI_pos' (by omega)) (K _ _ _ _ _ ah4 lf3 ro3 us3 hh4)
end TBRel5
section TBRel6
theorem i_vc_path {k : Nat} {u : SX} {v : SY} (I : i_Rel k u v) (hk : k + 4 ≤ 2049) (v1 : Int32) (v2 : Int32) : wpX_path (fun r => wpY_path (fun r' v' => r' = r ∧ i_Rel (k + 4) u v') v v1 v2) u v1 v2 := by
  have I2 := I
  obtain ⟨n, pr, hw, hn, n7, hp, hw2, ⟨rq, cl, ap, ar, rfl, hrq, hcl, ha, hr⟩, ⟨le, lc, ti, fi, ch, ac, ah, lf, ro, us, jo, rfl, hc, hh⟩⟩ := I
  rcases tb_cls n v1 v2 with z | ⟨a, han, rfl, rfl⟩ | ⟨a, b, han, hbn, hab, rfl, rfl⟩
  · unfold wpX_path wpY_path
    exact tb_pfB n7 z (br_f (by decide) (tb_YBb n7 z ⟨rfl, I2⟩))
  · unfold wpX_path wpY_path
    exact tb_pfS n7 han (br_f (by decide) (tb_YBs n7 han ⟨rfl, I2⟩))
  · unfold wpX_path
    refine tb_pfG n7 han hbn hab (br_t rfl ?_)
    refine tb_lpW hn n7 hp ha hr hcl han hbn (fun r hM => ?_)
    refine tb_paG hn n7 hp hw2 hc hh han hbn hab (fun r' lf' ro' hM' => ⟨?_, tb_mk hn n7 hp hw2 hrq hcl ha hr hc hh⟩)
    rw [tb_MnU (fun _ => Iff.rfl) hM' hM]
theorem i_vc_bestPath {k : Nat} {u : SX} {v : SY} (I : i_Rel k u v) (hk : k + 4 ≤ 2049) : wpX_bestPath (fun r => wpY_bestPath (fun r' v' => r' = r ∧ i_Rel (k + 4) u v') v) u := by
  obtain ⟨n, pr, hw, hn, n7, hp, hw2, ⟨rq, cl, ap, ar, rfl, hrq, hcl, ha, hr⟩, ⟨le, lc, ti, fi, ch, ac, ah, lf, ro, us, jo, rfl, hc, hh⟩⟩ := I
  refine tb_bpW hn n7 hp ha hr hcl (fun r hM => ?_)
  refine tb_byW hn n7 hp hw2 hc hh (fun r' lf' ro' hM' => ⟨?_, tb_mk hn n7 hp hw2 hrq hcl ha hr hc hh⟩)
  rw [tb_MnU (fun _ => Iff.rfl) hM' hM]
theorem i_vc_span {k : Nat} {u : SX} {v : SY} (I : i_Rel k u v) (hk : k + 4 ≤ 2049) : wpX_span (fun r => wpY_span (fun r' v' => r' = r ∧ i_Rel (k + 4) u v') v) u := by
  obtain ⟨n, pr, hw, hn, n7, hp, hw2, ⟨rq, cl, ap, ar, rfl, hrq, hcl, ha, hr⟩, ⟨le, lc, ti, fi, ch, ac, ah, lf, ro, us, jo, rfl, hc, hh⟩⟩ := I
  refine tb_spW hn n7 hp ha hcl (fun s c1 c2 c3 => ?_) (fun c0 => ?_)
  · refine tb_syW hn n7 hp hw2 hc hh (fun w jo' hJ hw3 => ⟨?_, tb_mk hn n7 hp hw2 hrq hcl ha hr hc hh⟩) (fun w jo' hJ hw3 => ?_)
    · obtain ⟨y1, y2, y3⟩ := tb_spY hJ
      rw [Nat.le_antisymm (y3 s c1) (c2 w (y2 hw3))]
    · have := (tb_spY hJ).2.2 s c1
      exact absurd (by omega) hw3
  · refine tb_syW hn n7 hp hw2 hc hh (fun w jo' hJ hw3 => ?_) (fun w jo' hJ hw3 => ⟨rfl, tb_mk hn n7 hp hw2 hrq hcl ha hr hc hh⟩)
    exact absurd ((tb_spY hJ).2.1 hw3) (c0 w)
theorem i_vc_worth {k : Nat} {u : SX} {v : SY} (I : i_Rel k u v) (hk : k + 4 ≤ 2049) (v1 : Int32) (v2 : Int32) : wpX_worth (fun r => wpY_worth (fun r' v' => r' = r ∧ i_Rel (k + 4) u v') v v1 v2) u v1 v2 := by
  have I2 := I
  obtain ⟨n, pr, hw, hn, n7, hp, hw2, ⟨rq, cl, ap, ar, rfl, hrq, hcl, ha, hr⟩, ⟨le, lc, ti, fi, ch, ac, ah, lf, ro, us, jo, rfl, hc, hh⟩⟩ := I
  rcases tb_cls n v1 v2 with z | ⟨a, han, rfl, rfl⟩ | ⟨a, b, han, hbn, hab, rfl, rfl⟩
  · unfold wpX_worth wpY_worth
    exact tb_pfB n7 z (br_f (by decide) (tb_YBb n7 z ⟨rfl, I2⟩))
  · unfold wpX_worth wpY_worth
    exact tb_pfS n7 han (br_f (by decide) (tb_YBs n7 han ⟨rfl, I2⟩))
  · refine tb_woX hn n7 hp hrq hcl ha hr han hbn hab ?_
    exact tb_woY hn n7 hp hw2 hc hh han hbn hab (fun _ _ _ _ _ ah' lf' ro' us' hh' => ⟨rfl, tb_mk hn n7 hp hw2 hrq hcl ha hr hc hh'⟩)
end TBRel6
