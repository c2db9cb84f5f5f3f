section TBE
/-! Y: span by the table over masks -/
variable {le lc ti fi ch : Int32} {ac ah lf ro us : Nat → Int32} {n : Nat} {pr hw : Nat → Nat}
theorem tb_shb {x a : Nat} (hx : x < 2 ^ 31) (ha : a < 32) : (nI x >>> (nI a &&& 31)) &&& 1 = 1 ↔ x.testBit a = true := by
  rw [pk_shrN hx (nI a &&& 31) a (s_l a ha)]
  have e : nI (x / 2 ^ a) &&& 1 = nI (x / 2 ^ a % 2) := by
    show nI (x / 2 ^ a) &&& nI 1 = _
    rw [nx_and, Nat.and_one_is_mod]
  rw [e, Nat.testBit_eq_decide_div_mod_eq, decide_eq_true_iff]
  exact nI_eq (b := 1) (by omega) (by decide)
/-- the least road between two masks, the first k pairs tried -/
def tb_Bk (E : Nat → Nat → Nat → Prop) (x y k v : Nat) : Prop :=
  v ≤ 9999 ∧ (v < 9999 → ∃ a b, x.testBit a = true ∧ y.testBit b = true ∧ E a b v) ∧ ∀ a b e, a * 7 + b < k → x.testBit a = true → y.testBit b = true → E a b e → v ≤ e
theorem tb_be7 {post : Int32 → Prop} {jo : Nat → Int32} {x y : Nat} (n7 : n ≤ 7) (hp : ∀ r, pr r ≤ 40) (hw2 : ∀ r, hw r ≤ 2) (hc : ∀ a b, a < n → b < n → a ≠ b → ac (a * 7 + b) = nI (pr (tb_tr a b))) (hh : ∀ a b, a < 7 → b < 7 → ah (a * 7 + b) = nI (tb_H hw a b)) (hx : x < 2 ^ 31) (hy : y < 2 ^ 31) (xn : ∀ a, x.testBit a = true → a < n) (yn : ∀ a, y.testBit a = true → a < n) (hd : ∀ a, x.testBit a = true → ¬ y.testBit a = true) (K : ∀ v, tb_Bv (tb_E n pr hw) x y v → post (nI v)) : ∀ (m k fuel v : Nat), k + m = 49 → m < fuel → tb_Bk (tb_E n pr hw) x y k v → wY_between_7 post (nI x) (nI y) (nI n) le lc ti fi ch ac ah lf ro us jo fuel (nI v) (nI k) := by
  intro m
  induction m with
  | zero =>
    intro k fuel v hk hf hM
    obtain ⟨f, rfl⟩ : ∃ f, fuel = f + 1 := ⟨fuel - 1, by omega⟩
    have e : k = 49 := by omega
    subst e
    refine br_t (nI_le (a := 49) (Nat.le_refl _) (by decide)) (K v ⟨hM.1, hM.2.1, fun a b e ha hb he => ?_⟩)
    have h1 := xn a ha
    have h2 := yn b hb
    exact hM.2.2 a b e (by omega) ha hb he
  | succ m ih =>
    intro k fuel v hk hf hM
    obtain ⟨f, rfl⟩ : ∃ f, fuel = f + 1 := ⟨fuel - 1, by omega⟩
    obtain ⟨m1, m2, m3⟩ := hM
    obtain ⟨k1, k2⟩ := tb_kd k (by omega)
    have i1 : vp_in (nI k) 49 := vp_in_nI (by omega) (by omega)
    have keep : (∀ e, x.testBit (k / 7) = true → y.testBit (k % 7) = true → tb_E n pr hw (k / 7) (k % 7) e → v ≤ e) → wY_between_7 post (nI x) (nI y) (nI n) le lc ti fi ch ac ah lf ro us jo f (nI v) (nI (k + 1)) := fun hk2 => by
      refine ih (k + 1) f v (by omega) (by omega) ⟨m1, m2, fun a b e hab ha hb he => ?_⟩
      rcases Nat.lt_or_ge (a * 7 + b) k with z | z
      · exact m3 a b e z ha hb he
      · have h1 := yn b hb
        have e1 : a = k / 7 := by omega
        have e2 : b = k % 7 := by omega
        rw [e1] at ha he
        rw [e2] at hb he
        exact hk2 e ha hb he
    refine br_f (nI_ge (b := 49) (by omega) (by decide)) ⟨by decide, nm_r k1 ⟨by decide, nm_r k2 ?_⟩⟩
    have c1 := tb_shb (x := x) (a := k / 7) hx (by omega)
    have c2 := tb_shb (x := y) (a := k % 7) hy (by omega)
    refine br_c (fun z1 => br_c (fun z2 => ?_) (fun z2 => br_t rfl (nm_r (nI_1 k) (keep (fun e h1 h2 _ => absurd (c2.mpr h2) z2))))) (fun z1 => br_t rfl (nm_r (nI_1 k) (keep (fun e h1 _ _ => absurd (c1.mpr h1) z1))))
    have b1 := c1.mp z1
    have b2 := c2.mp z2
    have n1 := xn _ b1
    have n2 := yn _ b2
    have hne : k / 7 ≠ k % 7 := fun e => hd (k / 7) b1 (by rw [e]; exact b2)
    have ek : k / 7 * 7 + k % 7 = k := by omega
    have eh : ah (nI k).toNatClampNeg = nI (hw (tb_tr (k / 7) (k % 7))) := by
      have := hh (k / 7) (k % 7) (by omega) (by omega)
      unfold tb_H at this
      rw [ek, if_neg hne] at this
      rw [nI_clamp (by omega), this]
    have ec : ac (nI k).toNatClampNeg = nI (pr (tb_tr (k / 7) (k % 7))) := by
      have := hc (k / 7) (k % 7) n1 n2 hne
      rw [ek] at this
      rw [nI_clamp (by omega), this]
    have hl := hw2 (tb_tr (k / 7) (k % 7))
    have hp40 := hp (tb_tr (k / 7) (k % 7))
    refine br_f (by decide) ⟨i1, ?_⟩
    rw [eh]
    refine br_c (fun z => nm_r (nI_1 k) (keep (fun e _ _ he => ?_))) (fun z => ⟨i1, ?_⟩)
    · exact absurd ((nI_eq (b := 2) (by omega) (by decide)).mp z) he.2.2.2.1
    · have h2 : hw (tb_tr (k / 7) (k % 7)) ≠ 2 := fun w => z (by rw [w]; rfl)
      rw [ec]
      refine pk_le v (pr (tb_tr (k / 7) (k % 7))) (fun w => nm_r (nI_1 k) (keep (fun e _ _ he => ?_))) (fun w => ⟨i1, nm_e (nm_r (nI_1 k) ?_)⟩)
      · rw [he.2.2.2.2]
        exact w
      · refine ih (k + 1) f (pr (tb_tr (k / 7) (k % 7))) (by omega) (by omega) ⟨by omega, fun _ => ⟨k / 7, k % 7, b1, b2, n1, n2, hne, h2, rfl⟩, fun a b e hab ha hb he => ?_⟩
        rcases Nat.lt_or_ge (a * 7 + b) k with z | z
        · have := m3 a b e z ha hb he
          omega
        · have h1 := yn b hb
          have e1 : a = k / 7 := by omega
          have e2 : b = k % 7 := by omega
          rw [he.2.2.2.2, e1, e2]
          exact Nat.le_refl _
theorem tb_beW {post : Int32 → Prop} {jo : Nat → Int32} {x y : Nat} (n7 : n ≤ 7) (hp : ∀ r, pr r ≤ 40) (hw2 : ∀ r, hw r ≤ 2) (hc : ∀ a b, a < n → b < n → a ≠ b → ac (a * 7 + b) = nI (pr (tb_tr a b))) (hh : ∀ a b, a < 7 → b < 7 → ah (a * 7 + b) = nI (tb_H hw a b)) (hx : x < 2 ^ 31) (hy : y < 2 ^ 31) (xn : ∀ a, x.testBit a = true → a < n) (yn : ∀ a, y.testBit a = true → a < n) (hd : ∀ a, x.testBit a = true → ¬ y.testBit a = true) (K : ∀ v, tb_Bv (tb_E n pr hw) x y v → post (nI v)) : wpY_between post (nI n, le, lc, ti, fi, ch, ac, ah, lf, ro, us, jo) (nI x) (nI y) :=
  ⟨50, tb_be7 n7 hp hw2 hc hh hx hy xn yn hd K 49 0 50 9999 (by omega) (by omega) ⟨Nat.le_refl _, fun z => absurd z (Nat.lt_irrefl _), fun a b e h => absurd h (by omega)⟩⟩
theorem tb_Eb (hp : ∀ r, pr r ≤ 40) : ∀ a b e, tb_E n pr hw a b e → e ≤ 40 := fun a b e h => by
  rw [h.2.2.2.2]
  exact hp _
theorem tb_inn {s : Nat} (sn : s < 2 ^ n) : ∀ i, s.testBit i = true → i < n := by
  intro i hi
  rcases Nat.lt_or_ge i n with z | z
  · exact z
  · rw [Nat.testBit_lt_two_pow (Nat.lt_of_lt_of_le sn (Nat.pow_le_pow_right (by omega) z))] at hi
    cases hi
theorem tb_andS {x s : Nat} : x &&& s = x ↔ ∀ i, x.testBit i = true → s.testBit i = true := by
  constructor
  · intro h i hi
    have : (x &&& s).testBit i = true := by rw [h]; exact hi
    rw [Nat.testBit_and, hi, Bool.true_and] at this
    exact this
  · intro h
    apply Nat.eq_of_testBit_eq
    intro i
    rw [Nat.testBit_and]
    have := h i
    cases h1 : x.testBit i
    · rfl
    · rw [this h1]; rfl
theorem tb_sy39 {post : Int32 → SY → Prop} {J11 : Int32 → (Nat → Int32) → (Nat → Int32) → (Nat → Int32) → (Nat → Int32) → (Nat → Int32) → (Nat → Int32) → Prop} {x1 : Int32} {s : Nat} {J : Nat → Nat} (n7 : n ≤ 7) (hp : ∀ r, pr r ≤ 40) (hw2 : ∀ r, hw r ≤ 2) (hc : ∀ a b, a < n → b < n → a ≠ b → ac (a * 7 + b) = nI (pr (tb_tr a b))) (hh : ∀ a b, a < 7 → b < 7 → ah (a * 7 + b) = nI (tb_H hw a b)) (s128 : s < 128) (sn : s < 2 ^ n) (hJ : ∀ s', 0 < s' → s' < s → tb_Jv (tb_E n pr hw) s' (J s')) (K : ∀ (jo' : Nat → Int32) (v : Nat), (∀ s', 0 < s' → s' < s → jo' s' = nI (J s')) → jo' s = nI v → tb_Jx (tb_E n pr hw) J (tb_Bw (tb_E n pr hw) (tb_Eb hp)) s s v → J11 (nI (s + 1)) ac ah lf ro us jo') : ∀ (m x fuel v : Nat) (jo : Nat → Int32), x + m = s → 1 ≤ x → m < fuel → (∀ s', 0 < s' → s' < s → jo s' = nI (J s')) → jo s = nI v → tb_Jx (tb_E n pr hw) J (tb_Bw (tb_E n pr hw) (tb_Eb hp)) s x v → wY_span_39 post J11 x1 (nI s) (nI n) le lc ti fi ch fuel (nI x) ac ah lf ro us jo := by
  intro m
  induction m with
  | zero =>
    intro x fuel v jo hx _ hf h1 h2 h3
    obtain ⟨f, rfl⟩ : ∃ f, fuel = f + 1 := ⟨fuel - 1, by omega⟩
    have e : x = s := by omega
    rw [e] at h3 ⊢
    exact br_t (nI_le (Nat.le_refl _) (by omega)) (nm_r (nI_1 s) (K jo v h1 h2 h3))
  | succ m ih =>
    intro x fuel v jo hx x1' hf h1 h2 h3
    obtain ⟨f, rfl⟩ : ∃ f, fuel = f + 1 := ⟨fuel - 1, by omega⟩
    have hv := h3.1
    have keep : ((∀ i, x.testBit i = true → s.testBit i = true) → s - x ≤ x → v ≤ J x + J (s - x) + tb_Bw (tb_E n pr hw) (tb_Eb hp) x (s - x)) → wY_span_39 post J11 x1 (nI s) (nI n) le lc ti fi ch f (nI (x + 1)) ac ah lf ro us jo := fun hk => ih (x + 1) f v jo (by omega) (by omega) (by omega) h1 h2 (tb_JxN h3 hk)
    refine br_f (nI_ge (by omega) (by omega)) ?_
    rw [nx_and]
    refine br_c (fun z => ?_) (fun z => nm_r (nI_1 x) (keep (fun hs => absurd (by rw [tb_andS.mpr hs]) z)))
    have hle : x &&& s ≤ x := Nat.and_le_left
    have hsub := tb_andS.mp ((nI_eq (by omega) (by omega)).mp z)
    refine nm_r (pk_sub (by omega)) (pk_le (s - x) x (fun w => ⟨vp_in_nI (by omega) (by omega), vp_in_nI (by omega) (by omega), ?_⟩) (fun w => nm_r (nI_1 x) (keep (fun _ hs => absurd hs (by omega)))))
    have jx := hJ x (by omega) (by omega)
    have jy := hJ (s - x) (by omega) (by omega)
    have BV := tb_BwV (tb_E n pr hw) (tb_Eb hp) x (s - x)
    have hin := tb_inn sn
    have ysub : ∀ i, (s - x).testBit i = true → s.testBit i = true := fun i hi => by
      rw [tb_subB i x s hsub, Bool.and_eq_true] at hi
      exact hi.1
    refine tb_beW n7 hp hw2 hc hh (by omega) (by omega) (fun a ha => hin a (hsub a ha)) (fun a ha => hin a (ysub a ha)) (fun a ha => by rw [tb_subB a x s hsub, ha]; simp) (fun b hB => ?_)
    have eb : b = tb_Bw (tb_E n pr hw) (tb_Eb hp) x (s - x) := tb_BvU hB BV
    have g1 := jx.1
    have g2 := jy.1
    have g3 := BV.1
    have es : jo (nI x).toNatClampNeg + jo (nI (s - x)).toNatClampNeg + nI b = nI (J x + J (s - x) + b) := by
      rw [nI_clamp (by omega), nI_clamp (by omega), h1 x (by omega) (by omega), h1 (s - x) (by omega) (by omega), nI_add, nI_add]
    have ej : jo (nI s).toNatClampNeg = nI v := by rw [nI_clamp (by omega), h2]
    have i1 : vp_in (nI s) 128 := vp_in_nI (by omega) (by omega)
    refine nm_r es ⟨i1, ?_⟩
    rw [ej]
    refine pk_le v (J x + J (s - x) + b) (fun y => nm_r (nI_1 x) (keep (fun _ _ => by rw [← eb]; exact y))) (fun y => ⟨i1, nm_r (e' := upd jo s (nI (J x + J (s - x) + b))) (by rw [nI_clamp (by omega)]) (nm_r (nI_1 x) ?_)⟩) rfl rfl (by omega) (by omega)
    rw [eb] at y ⊢
    refine ih (x + 1) f _ _ (by omega) (by omega) (by omega) (fun s' p1 p2 => ?_) pk_us (tb_JxY h3 (by omega) (by omega) hsub jx jy BV y)
    rw [pk_un (by omega)]
    exact h1 s' p1 p2
theorem tb_pw2 : ∀ s, s < 128 → (0 < s → (s &&& (s - 1) = 0 ↔ ∃ a, a < 7 ∧ s = 2 ^ a)) := by decide +kernel
theorem tb_p2n : ∀ n, n < 8 → ((1 : Int32) <<< (nI n &&& 31)) - 1 = nI (2 ^ n - 1) ∧ 2 ^ n ≤ 128 ∧ 1 < 2 ^ (n + 1) := by decide +kernel
theorem tb_sy11 {post : Int32 → SY → Prop} (hn : 2 ≤ n) (n7 : n ≤ 7) (hp : ∀ r, pr r ≤ 40) (hw2 : ∀ r, hw r ≤ 2) (hc : ∀ a b, a < n → b < n → a ≠ b → ac (a * 7 + b) = nI (pr (tb_tr a b))) (hh : ∀ a b, a < 7 → b < 7 → ah (a * 7 + b) = nI (tb_H hw a b)) (h1 : ∀ (v : Nat) (jo' : Nat → Int32), tb_Jv (tb_E n pr hw) (2 ^ n - 1) v → v < 9999 → post (nI v) (nI n, le, lc, ti, fi, ch, ac, ah, lf, ro, us, jo')) (h0 : ∀ (v : Nat) (jo' : Nat → Int32), tb_Jv (tb_E n pr hw) (2 ^ n - 1) v → ¬ v < 9999 → post (-3) (nI n, le, lc, ti, fi, ch, ac, ah, lf, ro, us, jo')) : ∀ (m s fuel : Nat) (J : Nat → Nat) (jo : Nat → Int32), s + m = 2 ^ n → 1 ≤ s → m < fuel → (∀ s', 0 < s' → s' < s → jo s' = nI (J s') ∧ tb_Jv (tb_E n pr hw) s' (J s')) → wY_span_11 post (nI (2 ^ n - 1)) (nI n) le lc ti fi ch fuel (nI s) ac ah lf ro us jo := by
  obtain ⟨_, p2, _⟩ := tb_p2n n (by omega)
  have p3 : 2 ≤ 2 ^ n := by
    have : 2 ^ 1 ≤ 2 ^ n := Nat.pow_le_pow_right (by decide) (by omega)
    exact this
  intro m
  induction m with
  | zero =>
    intro s fuel J jo hs _ hf hJ
    obtain ⟨f, rfl⟩ : ∃ f, fuel = f + 1 := ⟨fuel - 1, by omega⟩
    obtain ⟨j1, j2⟩ := hJ (2 ^ n - 1) (by omega) (by omega)
    have i1 : vp_in (nI (2 ^ n - 1)) 128 := vp_in_nI (by omega) (by omega)
    have ej : jo (nI (2 ^ n - 1)).toNatClampNeg = nI (J (2 ^ n - 1)) := by rw [nI_clamp (by omega), j1]
    have g1 := j2.1
    refine br_t (nI_lt (by omega) (by omega)) ⟨i1, ?_⟩
    rw [ej]
    exact pk_lt (J (2 ^ n - 1)) 9999 (fun z => ⟨i1, h1 _ jo j2 z⟩) (fun z => h0 _ jo j2 (by omega)) rfl rfl (by omega) (by omega)
  | succ m ih =>
    intro s fuel J jo hs s1 hf hJ
    obtain ⟨f, rfl⟩ : ∃ f, fuel = f + 1 := ⟨fuel - 1, by omega⟩
    have i1 : vp_in (nI s) 128 := vp_in_nI (by omega) (by omega)
    have e1 : nI s - 1 = nI (s - 1) := pk_sub (b := 1) (by omega)
    have hle : s &&& (s - 1) ≤ s := Nat.and_le_left
    have hpw : s &&& (s - 1) = 0 ↔ ∃ a, s = 2 ^ a := by
      rw [tb_pw2 s (by omega) (by omega)]
      constructor
      · rintro ⟨a, _, e⟩
        exact ⟨a, e⟩
      · rintro ⟨a, e⟩
        refine ⟨a, ?_, e⟩
        rcases Nat.lt_or_ge a 7 with z | z
        · exact z
        · have : 2 ^ 7 ≤ 2 ^ a := Nat.pow_le_pow_right (by decide) z
          omega
    have go : ∀ v, tb_Jx (tb_E n pr hw) J (tb_Bw (tb_E n pr hw) (tb_Eb hp)) s 1 v → ∃ n39, wY_span_39 post (wY_span_11 post (nI (2 ^ n - 1)) (nI n) le lc ti fi ch f) (nI (2 ^ n - 1)) (nI s) (nI n) le lc ti fi ch n39 1 ac ah lf ro us (upd jo s (nI v)) := fun v hv => by
      refine ⟨s, tb_sy39 (J := J) n7 hp hw2 hc hh (by omega) (by omega) (fun s' a b => (hJ s' a b).2) (fun jo' v' k1 k2 k3 => ?_) (s - 1) 1 s v _ (by omega) (by omega) (by omega) (fun s' a b => ?_) pk_us hv⟩
      · have hjv := tb_JxE (E := tb_E n pr hw) (fun i j e h => tb_EC h) (n := n) (by omega) k3 (fun s' a b => (hJ s' a b).2) (fun x y => tb_BwV _ _ x y)
        refine ih (s + 1) f (fun j => if j = s then v' else J j) jo' (by omega) (by omega) (by omega) (fun s' a b => ?_)
        by_cases z : s' = s
        · rw [if_pos z, z]
          exact ⟨k2, hjv⟩
        · rw [if_neg z]
          exact ⟨k1 s' a (by omega), (hJ s' a (by omega)).2⟩
      · rw [pk_un (by omega)]
        exact (hJ s' a b).1
    refine br_f (nI_nlt (by omega) (by omega)) ?_
    rw [e1, nx_and]
    refine br_c (fun z => ⟨i1, nm_r (e' := upd jo s (nI 0)) (by rw [nI_clamp (by omega)]; rfl) (go 0 (tb_Jx0 (Or.inl ⟨?_, rfl⟩)))⟩) (fun z => ⟨i1, nm_r (e' := upd jo s (nI 9999)) (by rw [nI_clamp (by omega)]; rfl) (go 9999 (tb_Jx0 (Or.inr ⟨?_, rfl⟩)))⟩)
    · exact hpw.mp ((nI_eq (b := 0) (by omega) (by decide)).mp z)
    · intro w
      apply z
      rw [hpw.mpr w]
      rfl
theorem tb_syW {post : Int32 → SY → Prop} {jo : Nat → Int32} (hn : 2 ≤ n) (n7 : n ≤ 7) (hp : ∀ r, pr r ≤ 40) (hw2 : ∀ r, hw r ≤ 2) (hc : ∀ a b, a < n → b < n → a ≠ b → ac (a * 7 + b) = nI (pr (tb_tr a b))) (hh : ∀ a b, a < 7 → b < 7 → ah (a * 7 + b) = nI (tb_H hw a b)) (h1 : ∀ (v : Nat) (jo' : Nat → Int32), tb_Jv (tb_E n pr hw) (2 ^ n - 1) v → v < 9999 → post (nI v) (nI n, le, lc, ti, fi, ch, ac, ah, lf, ro, us, jo')) (h0 : ∀ (v : Nat) (jo' : Nat → Int32), tb_Jv (tb_E n pr hw) (2 ^ n - 1) v → ¬ v < 9999 → post (-3) (nI n, le, lc, ti, fi, ch, ac, ah, lf, ro, us, jo')) : wpY_span post (nI n, le, lc, ti, fi, ch, ac, ah, lf, ro, us, jo) := by
  obtain ⟨p1, p2, _⟩ := tb_p2n n (by omega)
  have p3 : 0 < 2 ^ n := Nat.two_pow_pos n
  refine nm_r p1 ⟨2 ^ n, ?_⟩
  exact tb_sy11 hn n7 hp hw2 hc hh h1 h0 (2 ^ n - 1) 1 (2 ^ n) (fun _ => 0) jo (by omega) (by omega) (by omega) (fun s' a b => absurd a (by omega))
end TBE
