section TBD
/-! Y: path, bestPath -/
variable {le lc ti fi ch : Int32} {ac ah us jo : Nat → Int32} {n : Nat} {pr hw : Nat → Nat} {d : Nat → Nat}
theorem tb_pp4 {post : Int32 → Prop} {lf ro : Nat → Int32} (hn : 2 ≤ n) (n7 : n ≤ 7) (hd : tb_pm n d) (hr : ∀ t, t < n → ro t = nI (d t)) (hw2 : ∀ r, hw r ≤ 2) (hc : ∀ a b, a < n → b < n → a ≠ b → ac (a * 7 + b) = nI (pr (tb_tr a b))) (hh : ∀ a b, a < 7 → b < 7 → ah (a * 7 + b) = nI (tb_H hw a b)) (h1 : (∀ r, tb_pu n d r → hw r ≠ 2) → post (nI (tb_pp n pr d))) (h0 : ∀ r, tb_pu n d r → hw r = 2 → post (-1)) : ∀ (m t fuel : Nat), t + m = n - 1 → m < fuel → (∀ s, s < t → hw (tb_tr (d s) (d (s + 1))) ≠ 2) → wY_priceOfPath_4 post (nI n) le lc ti fi ch ac ah lf ro us jo fuel (nI (tb_sm (fun t => pr (tb_tr (d t) (d (t + 1)))) t)) (nI t) := by
  intro m
  induction m with
  | zero =>
    intro t fuel ht hf hs
    obtain ⟨f, rfl⟩ : ∃ f, fuel = f + 1 := ⟨fuel - 1, by omega⟩
    have e : t = n - 1 := by omega
    have c : nI n ≤ nI t + 1 := by
      rw [nI_1]
      exact nI_le (by omega) (by omega)
    rw [e] at c hs ⊢
    refine br_t c (h1 ?_)
    rintro r ⟨s, s1, rfl⟩
    exact hs s (by omega)
  | succ m ih =>
    intro t fuel ht hf hs
    obtain ⟨f, rfl⟩ : ∃ f, fuel = f + 1 := ⟨fuel - 1, by omega⟩
    have c : ¬ nI n ≤ nI t + 1 := by
      rw [nI_1]
      exact nI_ge (by omega) (by omega)
    have a1 := hd.1 t (by omega)
    have a2 := hd.1 (t + 1) (by omega)
    have a3 : d t ≠ d (t + 1) := fun z => by
      have := hd.2 t (t + 1) (by omega) (by omega) z
      omega
    have i1 : vp_in (nI t + 1) 8 := by
      rw [nI_1]
      exact vp_in_nI (by omega) (by omega)
    have ix : ro (nI t).toNatClampNeg * 7 + ro (nI t + 1).toNatClampNeg = nI (d t * 7 + d (t + 1)) := by
      rw [nI_1, nI_clamp (by omega), nI_clamp (by omega), hr t (by omega), hr (t + 1) (by omega)]
      exact tb_ix _ (by omega) _ (by omega)
    have i2 : vp_in (nI (d t * 7 + d (t + 1))) 49 := vp_in_nI (by omega) (by omega)
    have eh : ah (nI (d t * 7 + d (t + 1))).toNatClampNeg = nI (hw (tb_tr (d t) (d (t + 1)))) := by
      rw [nI_clamp (by omega), hh _ _ (by omega) (by omega)]
      unfold tb_H
      rw [if_neg a3]
    have ec : ac (nI (d t * 7 + d (t + 1))).toNatClampNeg = nI (pr (tb_tr (d t) (d (t + 1)))) := by rw [nI_clamp (by omega), hc _ _ a1 a2 a3]
    have hl := hw2 (tb_tr (d t) (d (t + 1)))
    refine br_f c ⟨vp_in_nI (by omega) (by omega), i1, nm_r ix ⟨i2, ?_⟩⟩
    rw [eh]
    refine br_c (fun z => h0 _ ⟨t, by omega, rfl⟩ ((nI_eq (b := 2) (by omega) (by decide)).mp z)) (fun z => ⟨i2, nm_r (e' := nI (tb_sm (fun t => pr (tb_tr (d t) (d (t + 1)))) (t + 1))) (by rw [ec, nI_add]; rfl) (nm_r (nI_1 t) ?_)⟩)
    refine ih (t + 1) f (by omega) (by omega) (fun s hs2 => ?_)
    rcases Nat.lt_or_ge s t with y | y
    · exact hs s y
    · have e : s = t := by omega
      rw [e]
      intro w
      exact z (by rw [w]; rfl)
theorem tb_ppW {post : Int32 → Prop} {lf ro : Nat → Int32} (hn : 2 ≤ n) (n7 : n ≤ 7) (hd : tb_pm n d) (hr : ∀ t, t < n → ro t = nI (d t)) (hw2 : ∀ r, hw r ≤ 2) (hc : ∀ a b, a < n → b < n → a ≠ b → ac (a * 7 + b) = nI (pr (tb_tr a b))) (hh : ∀ a b, a < 7 → b < 7 → ah (a * 7 + b) = nI (tb_H hw a b)) (h1 : (∀ r, tb_pu n d r → hw r ≠ 2) → post (nI (tb_pp n pr d))) (h0 : ∀ r, tb_pu n d r → hw r = 2 → post (-1)) : wpY_priceOfPath post (nI n, le, lc, ti, fi, ch, ac, ah, lf, ro, us, jo) :=
  ⟨n, tb_pp4 hn n7 hd hr hw2 hc hh h1 h0 (n - 1) 0 n (by omega) (by omega) (fun s hs => absurd hs (by omega))⟩
theorem tb_unLe (t : Nat) (p : List Nat) : (tb_un t p).length ≤ t := by
  rw [tb_lkN]
  exact tb_lkL p t
/-- what Y's k-th way from a to b gives -/
def tb_YT (n : Nat) (pr hw : Nat → Nat) (a b k w : Nat) : Prop := (∀ r, tb_pu n (tb_R n a b k) r → hw r ≠ 2) ∧ tb_pp n pr (tb_R n a b k) = w
theorem tb_pa57 {post : Int32 → SY → Prop} {J44 : Int32 → Int32 → Int32 → Int32 → Int32 → Int32 → Int32 → Int32 → (Nat → Int32) → (Nat → Int32) → (Nat → Int32) → (Nat → Int32) → (Nat → Int32) → (Nat → Int32) → Prop} {x4 : Int32} {a b k : Nat} {r : Option Nat} {ro : Nat → Int32} (hn : 2 ≤ n) (n7 : n ≤ 7) (hp : ∀ r, pr r ≤ 40) (hw2 : ∀ r, hw r ≤ 2) (hc : ∀ a b, a < n → b < n → a ≠ b → ac (a * 7 + b) = nI (pr (tb_tr a b))) (hh : ∀ a b, a < 7 → b < 7 → ah (a * 7 + b) = nI (tb_H hw a b)) (ha : a < n) (hb : b < n) (hab : a ≠ b) (hk : k < tb_fc (n - 2)) (hr240 : ∀ v, r = some v → v ≤ 240) (K : ∀ (q : Option Nat) (lf' ro' : Nat → Int32), tb_Mn (tb_YT n pr hw a b k) q → J44 (tb_oi (tb_mi r q)) (nI (k + 1)) (nI n) le lc ti fi ch ac ah lf' ro' us jo) : ∀ (m t fuel : Nat) (lf : Nat → Int32), t + m = n → m < fuel → (∀ q, q < (tb_un t [a, b]).length → lf q = nI ((tb_un t [a, b]).getD q 0)) → wY_path_57 post J44 (nI a) (nI b) (tb_oi r) x4 (nI k) (nI n) le lc ti fi ch fuel (nI (tb_un t [a, b]).length) (nI t) ac ah lf ro us jo := by
  intro m
  induction m with
  | zero =>
    intro t fuel lf ht hf hl
    obtain ⟨f, rfl⟩ : ∃ f, fuel = f + 1 := ⟨fuel - 1, by omega⟩
    have e : t = n := by omega
    subst e
    rw [tb_unL2 ha hb hab] at hl ⊢
    refine br_t (nI_le (Nat.le_refl _) (by omega)) ?_
    refine tb_arW (l := tb_un t [a, b]) (fr := 1) (by omega) (by omega) (tb_unL2 ha hb hab) hk hl (fun lf' ro' h' => ?_)
    have e1 : nI t - 1 = nI (t - 1) := pk_sub (b := 1) (by omega)
    have i1 : vp_in (nI t - 1) 8 := by
      rw [e1]
      exact vp_in_nI (by omega) (by omega)
    refine nm_e ⟨i1, nm_r (e' := upd (upd ro' 0 (nI a)) (t - 1) (nI b)) (by rw [e1, nI_clamp (by omega)]) ?_⟩
    have hR := tb_Rp ha hb hab hk
    have hrr : ∀ s, s < t → upd (upd ro' 0 (nI a)) (t - 1) (nI b) s = nI (tb_R t a b k s) := by
      intro s hs
      unfold tb_R
      by_cases y2 : s = t - 1
      · rw [y2, pk_us, if_neg (by omega), if_pos rfl]
      · rw [pk_un y2]
        by_cases y1 : s = 0
        · rw [y1, pk_us, if_pos rfl]
        · rw [pk_un y1, if_neg y1, if_neg y2]
          have e2 : 1 + (s - 1) = s := by omega
          have := h' (s - 1) (by omega)
          rw [e2] at this
          exact this
    have hpp := tb_ppB (n := t) hp n7 (tb_R t a b k)
    refine tb_ppW (d := tb_R t a b k) hn n7 hR hrr hw2 hc hh (fun z => ?_) (fun r1 z1 z2 => ?_)
    · have S := K (some (tb_pp t pr (tb_R t a b k))) lf' (upd (upd ro' 0 (nI a)) (t - 1) (nI b)) ⟨⟨z, rfl⟩, fun w hw => Nat.le_of_eq hw.2⟩
      refine br_f (nI_pos (by omega)) ?_
      cases r with
      | none => exact br_t (by decide : (-3 : Int32) < 0) (nm_r (nI_1 k) S)
      | some v =>
        have hv := hr240 v rfl
        refine br_f (nI_pos (by omega)) (pk_le v (tb_pp t pr (tb_R t a b k)) (fun w => nm_r (nI_1 k) ?_) (fun w => nm_r (nI_1 k) ?_))
        · have e : tb_mi (some v) (some (tb_pp t pr (tb_R t a b k))) = some v := if_neg (by omega)
          rw [e] at S
          exact S
        · have e : tb_mi (some v) (some (tb_pp t pr (tb_R t a b k))) = some (tb_pp t pr (tb_R t a b k)) := if_pos (by omega)
          rw [e] at S
          exact S
    · have S := K none lf' (upd (upd ro' 0 (nI a)) (t - 1) (nI b)) (fun w hw => hw.1 r1 z1 z2)
      rw [tb_miN] at S
      exact br_t (by decide) (nm_r (nI_1 k) S)
  | succ m ih =>
    intro t fuel lf ht hf hl
    obtain ⟨f, rfl⟩ : ∃ f, fuel = f + 1 := ⟨fuel - 1, by omega⟩
    have IH := fun lf => ih (t + 1) f lf (by omega) (by omega)
    have hle := tb_unLe t [a, b]
    rw [tb_unS] at IH
    refine br_f (nI_ge (by omega) (by omega)) (br_c (fun z => nm_r (nI_1 t) ?_) (fun z => br_c (fun z2 => nm_r (nI_1 t) ?_) (fun z2 => ⟨vp_in_nI (by omega) (by omega), nm_r (e' := upd lf (tb_un t [a, b]).length (nI t)) (by rw [nI_clamp (by omega)]) (nm_r (nI_1 _) (nm_r (nI_1 t) ?_))⟩)))
    · have e : t = a := (nI_eq (by omega) (by omega)).mp z
      rw [if_pos (by rw [e]; exact List.mem_cons_self)] at IH
      exact IH lf hl
    · have e : t = b := (nI_eq (by omega) (by omega)).mp z2
      rw [if_pos (by rw [e]; exact List.mem_cons_of_mem _ List.mem_cons_self)] at IH
      exact IH lf hl
    · have e1 : t ≠ a := fun w => z (by rw [w])
      have e2 : t ≠ b := fun w => z2 (by rw [w])
      rw [if_neg (by simp [e1, e2])] at IH
      have I2 := IH (upd lf (tb_un t [a, b]).length (nI t)) (fun q hq => by
        rw [List.length_append, List.length_singleton] at hq
        by_cases y : q = (tb_un t [a, b]).length
        · rw [y, pk_us, List.getD_eq_getElem?_getD, List.getElem?_append_right (Nat.le_refl _), Nat.sub_self]
          rfl
        · rw [pk_un y, hl q (by omega), List.getD_eq_getElem?_getD, List.getD_eq_getElem?_getD, List.getElem?_append_left (by omega)])
      rw [List.length_append, List.length_singleton] at I2
      exact I2
theorem tb_pa44 {post : Int32 → SY → Prop} {a b : Nat} (hn : 2 ≤ n) (n7 : n ≤ 7) (hp : ∀ r, pr r ≤ 40) (hw2 : ∀ r, hw r ≤ 2) (hc : ∀ a b, a < n → b < n → a ≠ b → ac (a * 7 + b) = nI (pr (tb_tr a b))) (hh : ∀ a b, a < 7 → b < 7 → ah (a * 7 + b) = nI (tb_H hw a b)) (ha : a < n) (hb : b < n) (hab : a ≠ b) (K : ∀ (r : Option Nat) (lf' ro' : Nat → Int32), tb_Mn (fun w => ∃ k, k < tb_fc (n - 2) ∧ tb_YT n pr hw a b k w) r → post (tb_oi r) (nI n, le, lc, ti, fi, ch, ac, ah, lf', ro', us, jo)) : ∀ (m k fuel : Nat) (r : Option Nat) (lf ro : Nat → Int32), k + m = tb_fc (n - 2) → m < fuel → tb_Mn (fun w => ∃ j, j < k ∧ tb_YT n pr hw a b j w) r → wY_path_44 post (nI a) (nI b) (nI (tb_fc (n - 2))) fuel (tb_oi r) (nI k) (nI n) le lc ti fi ch ac ah lf ro us jo := by
  have h5 := (tb_fcV (n - 2) (by omega)).1
  intro m
  induction m with
  | zero =>
    intro k fuel r lf ro hk hf hM
    obtain ⟨f, rfl⟩ : ∃ f, fuel = f + 1 := ⟨fuel - 1, by omega⟩
    have e : k = tb_fc (n - 2) := by omega
    rw [e] at hM ⊢
    exact br_t (nI_le (Nat.le_refl _) (by omega)) (K r lf ro hM)
  | succ m ih =>
    intro k fuel r lf ro hk hf hM
    obtain ⟨f, rfl⟩ : ∃ f, fuel = f + 1 := ⟨fuel - 1, by omega⟩
    refine br_f (nI_ge (by omega) (by omega)) ⟨n + 1, ?_⟩
    refine tb_pa57 hn n7 hp hw2 hc hh ha hb hab (by omega) (fun v e => ?_) (fun q lf' ro' hq => ih (k + 1) f _ lf' ro' (by omega) (by omega) (tb_MnM (fun w => ?_) hM hq)) n 0 (n + 1) lf (by omega) (by omega) (fun q hq => absurd hq (Nat.not_lt_zero q))
    · rw [e] at hM
      obtain ⟨j, _, h3⟩ := hM.1
      rw [← h3.2]
      exact tb_ppB hp n7 _
    · constructor
      · rintro ⟨j, h1, h2⟩
        rcases Nat.lt_or_ge j k with z | z
        · exact Or.inl ⟨j, z, h2⟩
        · have e : j = k := by omega
          rw [e] at h2
          exact Or.inr h2
      · rintro (⟨j, h1, h2⟩ | h2)
        · exact ⟨j, by omega, h2⟩
        · exact ⟨k, by omega, h2⟩
theorem tb_bdW {post : Int32 → Prop} {lf ro : Nat → Int32} {x : Int32} (n7 : n ≤ 7) (hg : (∃ a, a < n ∧ x = nI a) → post 0) (hb : ¬ (∃ a, a < n ∧ x = nI a) → post 1) : wpY_bad post (nI n, le, lc, ti, fi, ch, ac, ah, lf, ro, us, jo) x := by
  rcases pk_ix x (n := n) (by omega) with z | z | ⟨j, hj, rfl⟩
  · refine br_t z (hb ?_)
    rintro ⟨a, ha, rfl⟩
    exact nI_pos (by omega) z
  · have h0 : ¬ x < 0 := Int32.not_lt.mpr (Int32.le_trans (nI_pos' (by omega)) z)
    refine br_f h0 (br_f (Int32.not_lt.mpr z) (hb ?_))
    rintro ⟨a, ha, rfl⟩
    exact nI_ge ha (by omega) z
  · exact br_f (nI_pos (by omega)) (br_t (nI_lt hj (by omega)) (hg ⟨j, hj, rfl⟩))
theorem tb_paG {post : Int32 → SY → Prop} {a b : Nat} {lf ro : Nat → Int32} (hn : 2 ≤ n) (n7 : n ≤ 7) (hp : ∀ r, pr r ≤ 40) (hw2 : ∀ r, hw r ≤ 2) (hc : ∀ a b, a < n → b < n → a ≠ b → ac (a * 7 + b) = nI (pr (tb_tr a b))) (hh : ∀ a b, a < 7 → b < 7 → ah (a * 7 + b) = nI (tb_H hw a b)) (ha : a < n) (hb : b < n) (hab : a ≠ b) (K : ∀ (r : Option Nat) (lf' ro' : Nat → Int32), tb_Mn (tb_SP n pr hw a b) r → post (tb_oi r) (nI n, le, lc, ti, fi, ch, ac, ah, lf', ro', us, jo)) : wpY_path post (nI n, le, lc, ti, fi, ch, ac, ah, lf, ro, us, jo) (nI a) (nI b) := by
  unfold wpY_path
  refine tb_bdW n7 (fun _ => br_t rfl ?_) (fun z => absurd ⟨a, ha, rfl⟩ z)
  refine tb_bdW n7 (fun _ => br_t rfl ?_) (fun z => absurd ⟨b, hb, rfl⟩ z)
  have hne : ¬ nI a = nI b := fun z => hab ((nI_eq (by omega) (by omega)).mp z)
  refine br_f hne ?_
  have e1 : nI n - 2 = nI (n - 2) := pk_sub (b := 2) (by omega)
  rw [e1]
  refine tb_orW (by omega) ⟨tb_fc (n - 2) + 1, ?_⟩
  refine tb_pa44 hn n7 hp hw2 hc hh ha hb hab (fun r lf' ro' hM => K r lf' ro' (tb_MnE (fun w => ?_) hM)) (tb_fc (n - 2)) 0 (tb_fc (n - 2) + 1) none lf ro (by omega) (by omega) (fun w h => ?_)
  · constructor
    · rintro ⟨k, hk, h1, h2⟩
      refine ⟨tb_R n a b k, tb_Rp ha hb hab hk, rfl, ?_, h1, h2⟩
      unfold tb_R
      rw [if_neg (by omega), if_pos rfl]
    · rintro ⟨d, hd, d0, d1, h1, h2⟩
      obtain ⟨k, hk, e⟩ := tb_RE hn hd
      rw [d0, d1] at e
      refine ⟨k, hk, fun r hr => h1 r ((tb_puG e r).mp hr), ?_⟩
      rw [tb_ppG e]
      exact h2
  · obtain ⟨j, hj, _⟩ := h
    exact absurd hj (Nat.not_lt_zero j)
theorem tb_by15 {post : Int32 → SY → Prop} {J5 : Int32 → Int32 → Int32 → Int32 → Int32 → Int32 → Int32 → Int32 → (Nat → Int32) → (Nat → Int32) → (Nat → Int32) → (Nat → Int32) → (Nat → Int32) → (Nat → Int32) → Prop} {b : Nat} (hn : 2 ≤ n) (n7 : n ≤ 7) (hp : ∀ r, pr r ≤ 40) (hw2 : ∀ r, hw r ≤ 2) (hc : ∀ a b, a < n → b < n → a ≠ b → ac (a * 7 + b) = nI (pr (tb_tr a b))) (hh : ∀ a b, a < 7 → b < 7 → ah (a * 7 + b) = nI (tb_H hw a b)) (hb : b < n) (K : ∀ (r : Option Nat) (lf' ro' : Nat → Int32), tb_Mn (tb_BP n pr hw b b) r → J5 (tb_oi r) (nI (b + 1)) (nI n) le lc ti fi ch ac ah lf' ro' us jo) : ∀ (m a fuel : Nat) (r : Option Nat) (lf ro : Nat → Int32), a + m = b → m < fuel → tb_Mn (tb_BP n pr hw b a) r → wY_bestPath_15 post J5 (nI b) fuel (tb_oi r) (nI a) (nI n) le lc ti fi ch ac ah lf ro us jo := by
  intro m
  induction m with
  | zero =>
    intro a fuel r lf ro ha2 hf hM
    obtain ⟨f, rfl⟩ : ∃ f, fuel = f + 1 := ⟨fuel - 1, by omega⟩
    have e : a = b := by omega
    rw [e] at hM ⊢
    exact br_t (nI_le (Nat.le_refl _) (by omega)) (nm_r (nI_1 b) (K r lf ro hM))
  | succ m ih =>
    intro a fuel r lf ro ha2 hf hM
    obtain ⟨f, rfl⟩ : ∃ f, fuel = f + 1 := ⟨fuel - 1, by omega⟩
    refine br_f (nI_ge (by omega) (by omega)) ?_
    refine tb_paG hn n7 hp hw2 hc hh hb (by omega) (by omega) (fun q lf' ro' hq => ?_)
    have hq2 : tb_Mn (tb_SP n pr hw a b) q := tb_MnE (fun w => ⟨tb_SPR, tb_SPR⟩) hq
    have S := ih (a + 1) f _ lf' ro' (by omega) (by omega) (tb_BPs (by omega) hM hq2)
    cases q with
    | none =>
      rw [tb_miN] at S
      exact br_t (by decide : (-3 : Int32) < 0) (nm_r (nI_1 a) S)
    | some p =>
      have hpp := tb_SPb hp n7 hq.1
      refine br_f (nI_pos (by omega)) ?_
      cases r with
      | none => exact br_t (by decide : (-3 : Int32) < 0) (nm_r (nI_1 a) S)
      | some v =>
        have hv := tb_BPb hp n7 hM.1
        refine br_f (nI_pos (by omega)) (pk_le v p (fun w => nm_r (nI_1 a) ?_) (fun w => nm_r (nI_1 a) ?_))
        · have e : tb_mi (some v) (some p) = some v := if_neg (by omega)
          rw [e] at S
          exact S
        · have e : tb_mi (some v) (some p) = some p := if_pos (by omega)
          rw [e] at S
          exact S
theorem tb_by5 {post : Int32 → SY → Prop} (hn : 2 ≤ n) (n7 : n ≤ 7) (hp : ∀ r, pr r ≤ 40) (hw2 : ∀ r, hw r ≤ 2) (hc : ∀ a b, a < n → b < n → a ≠ b → ac (a * 7 + b) = nI (pr (tb_tr a b))) (hh : ∀ a b, a < 7 → b < 7 → ah (a * 7 + b) = nI (tb_H hw a b)) (K : ∀ (r : Option Nat) (lf' ro' : Nat → Int32), tb_Mn (tb_BP n pr hw n 0) r → post (tb_oi r) (nI n, le, lc, ti, fi, ch, ac, ah, lf', ro', us, jo)) : ∀ (m b fuel : Nat) (r : Option Nat) (lf ro : Nat → Int32), b + m = n → m < fuel → tb_Mn (tb_BP n pr hw b 0) r → wY_bestPath_5 post fuel (tb_oi r) (nI b) (nI n) le lc ti fi ch ac ah lf ro us jo := by
  intro m
  induction m with
  | zero =>
    intro b fuel r lf ro hb hf hM
    obtain ⟨f, rfl⟩ : ∃ f, fuel = f + 1 := ⟨fuel - 1, by omega⟩
    have e : b = n := by omega
    rw [e] at hM ⊢
    exact br_t (nI_le (Nat.le_refl _) (by omega)) (K r lf ro hM)
  | succ m ih =>
    intro b fuel r lf ro hb hf hM
    obtain ⟨f, rfl⟩ : ∃ f, fuel = f + 1 := ⟨fuel - 1, by omega⟩
    refine br_f (nI_ge (by omega) (by omega)) ⟨b + 1, ?_⟩
    exact tb_by15 hn n7 hp hw2 hc hh (by omega) (fun r' lf' ro' hM' => ih (b + 1) f r' lf' ro' (by omega) (by omega) (tb_BPn hM')) b 0 (b + 1) r lf ro (by omega) (by omega) hM
theorem tb_byW {post : Int32 → SY → Prop} {lf ro : Nat → Int32} (hn : 2 ≤ n) (n7 : n ≤ 7) (hp : ∀ r, pr r ≤ 40) (hw2 : ∀ r, hw r ≤ 2) (hc : ∀ a b, a < n → b < n → a ≠ b → ac (a * 7 + b) = nI (pr (tb_tr a b))) (hh : ∀ a b, a < 7 → b < 7 → ah (a * 7 + b) = nI (tb_H hw a b)) (K : ∀ (r : Option Nat) (lf' ro' : Nat → Int32), tb_Mn (tb_BP n pr hw n 0) r → post (tb_oi r) (nI n, le, lc, ti, fi, ch, ac, ah, lf', ro', us, jo)) : wpY_bestPath post (nI n, le, lc, ti, fi, ch, ac, ah, lf, ro, us, jo) := by
  refine ⟨n + 1, tb_by5 hn n7 hp hw2 hc hh K n 0 (n + 1) none lf ro (by omega) (by omega) ?_⟩
  rintro w ⟨b', a', h1, h2, h3⟩
  omega
end TBD
