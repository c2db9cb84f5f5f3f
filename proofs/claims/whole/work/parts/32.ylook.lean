section TBA
/-! Y: look -/
variable {ac ah jo : Nat → Int32} {n : Nat} {pr hw : Nat → Nat}
noncomputable def tb_aY (n : Nat) (hw : Nat → Nat) (i : Nat) : Bool := tb_B (tb_al n hw (tb_D n i))
noncomputable def tb_wY (n : Nat) (pr hw : Nat → Nat) (lim : Int32) (i : Nat) : Bool := tb_aY n hw i && !decide (lim < nI (tb_pX n pr i))
def tb_ol (n : Nat) (pr : Nat → Nat) : Option Nat → Int32
  | none => -1
  | some i => nI (tb_pX n pr i)
theorem tb_lo90 {post : SY → Prop} {J38 : Int32 → Int32 → Int32 → Int32 → Int32 → Int32 → Int32 → (Nat → Int32) → (Nat → Int32) → (Nat → Int32) → (Nat → Int32) → (Nat → Int32) → (Nat → Int32) → Prop} {x1 x2 fi ch : Int32} {lf ro us : Nat → Int32} {k : Nat} (hn : 2 ≤ n) (n7 : n ≤ 7) (hp : ∀ r, pr r ≤ 40) (hk : k < tb_fc (n - 1)) (ha : tb_aY n hw k = true) (hr : ∀ t, t ≤ n → ro t = nI (tb_cy n (tb_D n k) t)) (H : J38 (nI (k + 1)) (nI n) (tb_ol n pr (tb_bs (tb_aY n hw) (tb_pX n pr) (k + 1))) (tb_oc n (tb_bs (tb_aY n hw) (tb_pX n pr) (k + 1))) (nI (tb_ti (tb_aY n hw) (tb_pX n pr) (k + 1))) fi ch ac ah lf ro us jo) : wY_look_90 post J38 x1 x2 (nI k) (nI (tb_pX n pr k)) (nI n) (tb_ol n pr (tb_bs (tb_aY n hw) (tb_pX n pr) k)) (tb_oc n (tb_bs (tb_aY n hw) (tb_pX n pr) k)) (nI (tb_ti (tb_aY n hw) (tb_pX n pr) k)) fi ch ac ah lf ro us jo := by
  have b1 : ∀ q, tb_pX n pr q ≤ 280 := fun q => tb_tpB hp n7 _
  have bk := b1 k
  have hr2 : ∀ t, t < n → ro t = nI (tb_D n k t) := fun t ht => by rw [hr t (by omega), tb_cyL ht]
  have h0 := tb_D00 (n := n) (by omega) hk
  cases e : tb_bs (tb_aY n hw) (tb_pX n pr) k with
  | none =>
    have eN := tb_bsN e
    rw [if_pos ha] at eN
    rw [eN, tb_tiN e ha] at H
    refine br_f (tb_nm1 (by omega)) (br_t (by decide : (-1 : Int32) < 0) ?_)
    exact tb_crW hn n7 h0 hr2 (nm_r (nI_1 k) H)
  | some q =>
    have bq := b1 q
    have eS := tb_bsS e
    rcases Nat.lt_trichotomy (tb_pX n pr k) (tb_pX n pr q) with z | z | z
    · rw [if_pos ⟨ha, z⟩] at eS
      rw [eS, tb_tiL e ha z] at H
      refine br_f (fun w => ?_) (br_f (nI_pos (by omega)) (br_f (nI_ge z (by omega)) ?_))
      · have w2 := (nI_eq (by omega) (by omega)).mp w
        omega
      · exact tb_crW hn n7 h0 hr2 (nm_r (nI_1 k) H)
    · rw [if_neg (by omega)] at eS
      rw [eS, tb_tiE e ha z] at H
      refine br_t (by rw [z]; rfl) (nm_r (nI_1 _) (br_f (nI_pos (by omega)) (br_t (nI_le (by omega) (by omega)) (nm_r (nI_1 k) H))))
    · rw [if_neg (by omega)] at eS
      rw [eS, tb_tiG e z] at H
      refine br_f (fun w => ?_) (br_f (nI_pos (by omega)) (br_t (nI_le (by omega) (by omega)) (nm_r (nI_1 k) H)))
      have w2 := (nI_eq (by omega) (by omega)).mp w
      omega
theorem tb_lo38 {post : SY → Prop} {lim : Int32} (hn : 2 ≤ n) (n7 : n ≤ 7) (hp : ∀ r, pr r ≤ 40) (hw2 : ∀ r, hw r ≤ 2) (hc : ∀ a b, a < n → b < n → a ≠ b → ac (a * 7 + b) = nI (pr (tb_tr a b))) (hh : ∀ a b, a < 7 → b < 7 → ah (a * 7 + b) = nI (tb_H hw a b)) (K : ∀ lf' ro' us' : Nat → Int32, post (nI n, tb_ol n pr (tb_bs (tb_aY n hw) (tb_pX n pr) (tb_fc (n - 1))), tb_oc n (tb_bs (tb_aY n hw) (tb_pX n pr) (tb_fc (n - 1))), nI (tb_ti (tb_aY n hw) (tb_pX n pr) (tb_fc (n - 1))), nI (tb_cn (tb_aY n hw) (tb_fc (n - 1))), nI (tb_cn (tb_wY n pr hw lim) (tb_fc (n - 1))), ac, ah, lf', ro', us', jo)) : ∀ (m k fuel : Nat) (lf ro us : Nat → Int32), k + m = tb_fc (n - 1) → m < fuel → wY_look_38 post lim (nI (tb_fc (n - 1))) fuel (nI k) (nI n) (tb_ol n pr (tb_bs (tb_aY n hw) (tb_pX n pr) k)) (tb_oc n (tb_bs (tb_aY n hw) (tb_pX n pr) k)) (nI (tb_ti (tb_aY n hw) (tb_pX n pr) k)) (nI (tb_cn (tb_aY n hw) k)) (nI (tb_cn (tb_wY n pr hw lim) k)) ac ah lf ro us jo := by
  have h5 := tb_fc5 n7
  intro m
  induction m with
  | zero =>
    intro k fuel lf ro us hk hf
    obtain ⟨f, rfl⟩ : ∃ f, fuel = f + 1 := ⟨fuel - 1, by omega⟩
    have hk : k = tb_fc (n - 1) := by omega
    rw [hk]
    exact br_t (nI_le (Nat.le_refl _) (by omega)) (K lf ro us)
  | succ m ih =>
    intro k fuel lf ro us hk hf
    obtain ⟨f, rfl⟩ : ∃ f, fuel = f + 1 := ⟨fuel - 1, by omega⟩
    have hk2 : k < tb_fc (n - 1) := by omega
    have h0 := tb_D00 (n := n) (by omega) hk2
    have hd := tb_Dp n k
    refine br_f (nI_ge (by omega) (by omega)) ?_
    refine tb_toW hn n7 hk2 (fun lf' ro' hro => ?_)
    refine tb_raW hn n7 hd h0 hro hw2 hh (fun hal us' => ?_) (fun hal us' => ?_)
    · have ha : tb_aY n hw k = true := tb_BT.mpr hal
      have IH := ih (k + 1) f lf' ro' us' (by omega) (by omega)
      rw [tb_cnT (p := tb_aY n hw) ha] at IH
      refine br_f (by decide) ?_
      refine tb_prW hn n7 hd h0 hro hc (nm_r (nI_1 _) (br_c (fun z => ?_) (fun z => nm_r (nI_1 _) ?_)))
      · have e : tb_wY n pr hw lim k = false := by
          unfold tb_wY tb_pX
          rw [decide_eq_true z]
          simp
        rw [tb_cnF e] at IH
        exact tb_lo90 hn n7 hp hk2 ha hro IH
      · have e : tb_wY n pr hw lim k = true := by
          unfold tb_wY tb_pX
          rw [decide_eq_false z, ha]
          rfl
        rw [tb_cnT e] at IH
        exact tb_lo90 hn n7 hp hk2 ha hro IH
    · have ha : tb_aY n hw k = false := tb_BF.mpr hal
      have IH := ih (k + 1) f lf' ro' us' (by omega) (by omega)
      have e : tb_wY n pr hw lim k = false := by
        unfold tb_wY
        rw [ha]
        rfl
      rw [tb_cnF (p := tb_aY n hw) ha, tb_cnF e, tb_bs0 ha, tb_tiF ha] at IH
      exact br_t rfl (nm_r (nI_1 k) IH)
theorem tb_loW {post : SY → Prop} {lim le lc ti fi ch : Int32} {lf ro us : Nat → Int32} (hn : 2 ≤ n) (n7 : n ≤ 7) (hp : ∀ r, pr r ≤ 40) (hw2 : ∀ r, hw r ≤ 2) (hc : ∀ a b, a < n → b < n → a ≠ b → ac (a * 7 + b) = nI (pr (tb_tr a b))) (hh : ∀ a b, a < 7 → b < 7 → ah (a * 7 + b) = nI (tb_H hw a b)) (K : ∀ lf' ro' us' : Nat → Int32, post (nI n, tb_ol n pr (tb_bs (tb_aY n hw) (tb_pX n pr) (tb_fc (n - 1))), tb_oc n (tb_bs (tb_aY n hw) (tb_pX n pr) (tb_fc (n - 1))), nI (tb_ti (tb_aY n hw) (tb_pX n pr) (tb_fc (n - 1))), nI (tb_cn (tb_aY n hw) (tb_fc (n - 1))), nI (tb_cn (tb_wY n pr hw lim) (tb_fc (n - 1))), ac, ah, lf', ro', us', jo)) : wpY_look post (nI n, le, lc, ti, fi, ch, ac, ah, lf, ro, us, jo) lim := by
  unfold wpY_look
  have e1 : nI n - 1 = nI (n - 1) := pk_sub (b := 1) (by omega)
  dsimp only
  rw [e1]
  refine tb_orW (by omega) ⟨tb_fc (n - 1) + 1, ?_⟩
  exact tb_lo38 hn n7 hp hw2 hc hh K (tb_fc (n - 1)) 0 (tb_fc (n - 1) + 1) lf ro us (by omega) (by omega)
end TBA
