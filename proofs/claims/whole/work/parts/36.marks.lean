section TBG
/-! price, mark: both sides -/
variable {tc rq cl : Int32} {ap ar : Nat → Int32} {n : Nat} {pr hw : Nat → Nat}
def tb_set (f : Nat → Nat) (r v i : Nat) : Nat := if i = r then v else f i
theorem tb_setE (f : Nat → Nat) (r v : Nat) : tb_set f r v r = v := if_pos rfl
theorem tb_setN {f : Nat → Nat} {r v i : Nat} (h : i ≠ r) : tb_set f r v i = f i := if_neg h
theorem tb_setB {f : Nat → Nat} {r v c : Nat} (h : ∀ i, f i ≤ c) (hv : v ≤ c) (i : Nat) : tb_set f r v i ≤ c := by
  by_cases z : i = r
  · rw [z, tb_setE]
    exact hv
  · rw [tb_setN z]
    exact h i
theorem tb_setS (f : Nat → Nat) (r v : Nat) : tb_set (tb_set f r v) r (f r) = f := by
  funext i
  by_cases z : i = r
  · rw [z, tb_setE]
  · rw [tb_setN z, tb_setN z]
theorem tb_upP {f : Nat → Int32} {g : Nat → Nat} {a b v N : Nat} (ha : a < 7) (hb : b < 7) (hab : a ≠ b) (N7 : N ≤ 7) (hf : ∀ a' b', a' < N → b' < N → a' ≠ b' → f (a' * 7 + b') = nI (g (tb_tr a' b'))) : ∀ a' b', a' < N → b' < N → a' ≠ b' → upd (upd f (a * 7 + b) (nI v)) (b * 7 + a) (nI v) (a' * 7 + b') = nI (tb_set g (tb_tr a b) v (tb_tr a' b')) := by
  intro a' b' ha' hb' hab'
  by_cases z1 : a' * 7 + b' = b * 7 + a
  · have e1 : a' = b := by omega
    have e2 : b' = a := by omega
    rw [z1, pk_us, e1, e2, tb_trC b a, tb_setE]
  · rw [pk_un z1]
    by_cases z2 : a' * 7 + b' = a * 7 + b
    · have e1 : a' = a := by omega
      have e2 : b' = b := by omega
      rw [z2, pk_us, e1, e2, tb_setE]
    · rw [pk_un z2, hf a' b' ha' hb' hab', tb_setN]
      intro e
      rcases tb_trI a' (by omega) b' (by omega) hab' a ha b hb hab e with ⟨w1, w2⟩ | ⟨w1, w2⟩
      · exact z2 (by omega)
      · exact z1 (by omega)
theorem tb_upH {f : Nat → Int32} {a b v : Nat} (ha : a < 7) (hb : b < 7) (hab : a ≠ b) (hf : ∀ a' b', a' < 7 → b' < 7 → f (a' * 7 + b') = nI (tb_H hw a' b')) : ∀ a' b', a' < 7 → b' < 7 → upd (upd f (a * 7 + b) (nI v)) (b * 7 + a) (nI v) (a' * 7 + b') = nI (tb_H (tb_set hw (tb_tr a b) v) a' b') := by
  intro a' b' ha' hb'
  unfold tb_H
  by_cases z : a' = b'
  · rw [if_pos z, pk_un (by omega), pk_un (by omega), hf a' b' ha' hb']
    unfold tb_H
    rw [if_pos z]
  · rw [if_neg z]
    exact tb_upP ha hb hab (Nat.le_refl 7) (fun x y hx hy hxy => by
      rw [hf x y hx hy]
      unfold tb_H
      rw [if_neg hxy]) a' b' ha' hb' z
theorem tb_upX {f : Nat → Int32} {g : Nat → Nat} {r v : Nat} (hf : ∀ i, i < 21 → f i = nI (g i)) : ∀ i, i < 21 → upd f r (nI v) i = nI (tb_set g r v i) := by
  intro i hi
  by_cases z : i = r
  · rw [z, pk_us, tb_setE]
  · rw [pk_un z, tb_setN z, hf i hi]
/-- X's mark of a road -/
theorem tb_moX {post : Int32 → Prop} {fn : Int32} {r : Nat} (hw2 : ∀ r, hw r ≤ 2) (hrq : ∀ i, i < 32 → bt rq i = decide (i < 21 ∧ hw i = 1)) (hcl : ∀ i, i < 32 → bt cl i = decide (i < 21 ∧ hw i = 2)) (hr : r < 21) (h : post (nI (hw r))) : wpX_markOf post (fn, tc, rq, cl, ap, ar) ((1 : Int32) <<< (nI r &&& 31)) := by
  have c1 := tb_bt1 (x := rq) (r := r) (by omega)
  have c2 := tb_bt1 (x := cl) (r := r) (by omega)
  rw [hrq r (by omega), decide_eq_false_iff_not] at c1
  rw [hcl r (by omega), decide_eq_false_iff_not] at c2
  have h2 := hw2 r
  refine br_c (fun z => br_c (fun z2 => ?_) (fun z2 => ?_)) (fun z => ?_)
  · have e : hw r = 0 := by
      have := c1.mp z
      have := c2.mp z2
      omega
    rw [e] at h
    exact h
  · have e : hw r = 2 := by
      by_cases y : hw r = 2
      · exact y
      · exact absurd (c2.mpr (fun w => y w.2)) z2
    rw [e] at h
    exact h
  · have e : hw r = 1 := by
      by_cases y : hw r = 1
      · exact y
      · exact absurd (c1.mpr (fun w => y w.2)) z
    rw [e] at h
    exact h
theorem tb_mb1 {x : Int32} {r v c : Nat} (hr : r < 21) (hx : ∀ i, i < 32 → bt x i = decide (i < 21 ∧ hw i = c)) (hv : v = c) : ∀ i, i < 32 → bt (x ||| ((1 : Int32) <<< (nI r &&& 31))) i = decide (i < 21 ∧ tb_set hw r v i = c) := by
  intro i hi
  rw [tb_bset (by omega) hi, hx i hi]
  by_cases z : i = r
  · rw [z, tb_setE]
    simp [hr, hv]
  · rw [tb_setN z]
    simp [z]
theorem tb_mb0 {x : Int32} {r v c : Nat} (hr : r < 21) (hx : ∀ i, i < 32 → bt x i = decide (i < 21 ∧ hw i = c)) (hv : v ≠ c) : ∀ i, i < 32 → bt (x &&& (((1 : Int32) <<< (nI r &&& 31)) ^^^ (-1))) i = decide (i < 21 ∧ tb_set hw r v i = c) := by
  intro i hi
  rw [tb_bclr (by omega) hi, hx i hi]
  by_cases z : i = r
  · rw [z, tb_setE]
    simp [hv]
  · rw [tb_setN z]
    simp [z]
end TBG
section TBH
/-! line, sow: the prices by pairs -/
variable {tc rq cl : Int32} {n : Nat}
def tb_LI (val : Nat → Nat → Nat) (b a : Nat) (ap : Nat → Int32) : Prop := (∀ a' b', a' < b' → (b' < b ∨ (b' = b ∧ a' < a)) → ap (tb_tr a' b') = nI (val a' b')) ∧ ∀ r, r < 21 → ∃ v, v ≤ 40 ∧ ap r = nI v
theorem tb_LIs {val : Nat → Nat → Nat} {b a : Nat} {ap : Nat → Int32} (hab : a < b) (hb : b < 7) (hv : val a b ≤ 40) (h : tb_LI val b a ap) : tb_LI val b (a + 1) (upd ap (tb_tr a b) (nI (val a b))) := by
  refine ⟨fun a' b' h1 h2 => ?_, fun r hr => ?_⟩
  · by_cases z : a' = a ∧ b' = b
    · rw [z.1, z.2, pk_us]
    · have hne : tb_tr a' b' ≠ tb_tr a b := fun e => by
        rcases tb_trI a' (by omega) b' (by omega) (by omega) a (by omega) b hb (by omega) e with w | w
        · exact z w
        · omega
      rw [pk_un hne]
      exact h.1 a' b' h1 (by omega)
  · by_cases z : r = tb_tr a b
    · exact ⟨val a b, hv, by rw [z, pk_us]⟩
    · rw [pk_un z]
      exact h.2 r hr
theorem tb_LIn {val : Nat → Nat → Nat} {b : Nat} {ap : Nat → Int32} (h : tb_LI val b b ap) : tb_LI val (b + 1) 0 ap := ⟨fun a' b' h1 h2 => h.1 a' b' h1 (by omega), h.2⟩
theorem tb_chP {ap : Nat → Int32} (h : ∀ r, r < 21 → ∃ v, v ≤ 40 ∧ ap r = nI v) : ∃ pr : Nat → Nat, (∀ r, pr r ≤ 40) ∧ ∀ r, r < 21 → ap r = nI (pr r) := by
  refine ⟨fun r => if r < 21 then (ap r).toNatClampNeg else 0, fun r => ?_, fun r hr => ?_⟩
  · dsimp only
    by_cases z : r < 21
    · obtain ⟨v, hv, e⟩ := h r z
      rw [if_pos z, e, nI_clamp (by omega)]
      exact hv
    · rw [if_neg z]
      omega
  · obtain ⟨v, hv, e⟩ := h r hr
    dsimp only
    rw [if_pos hr, e, nI_clamp (by omega)]
def tb_vl (s t a b : Nat) : Nat := if (s + a * t) % 41 ≤ (s + b * t) % 41 then (s + b * t) % 41 - (s + a * t) % 41 else (s + a * t) % 41 - (s + b * t) % 41
theorem tb_vlC (s t a b : Nat) : tb_vl s t a b = tb_vl s t b a := by
  unfold tb_vl
  generalize (s + a * t) % 41 = u
  generalize (s + b * t) % 41 = v
  by_cases z : u ≤ v
  · rw [if_pos z]
    by_cases y : v ≤ u
    · rw [if_pos y]
      omega
    · rw [if_neg y]
  · rw [if_neg z, if_pos (by omega)]
theorem tb_vlB (s t a b : Nat) : tb_vl s t a b ≤ 40 := by
  unfold tb_vl
  have h1 := Nat.mod_lt (s + a * t) (y := 41) (by decide)
  have h2 := Nat.mod_lt (s + b * t) (y := 41) (by decide)
  by_cases z : (s + a * t) % 41 ≤ (s + b * t) % 41
  · rw [if_pos z]
    omega
  · rw [if_neg z]
    omega
def tb_vs (s t a b : Nat) : Nat := (s + 13 * a + 17 * b + a * b * t) % 41
theorem tb_vsB (s t a b : Nat) : tb_vs s t a b ≤ 40 := by
  have h1 := Nat.mod_lt (s + 13 * a + 17 * b + a * b * t) (y := 41) (by decide)
  unfold tb_vs
  omega
theorem tb_at {a t : Nat} (ha : a < 7) (ht : t < 41) : a * t ≤ 240 := Nat.le_trans (Nat.mul_le_mul (by omega : a ≤ 6) (by omega : t ≤ 40)) (by decide)
theorem tb_abt {a b t : Nat} (ha : a < 7) (hb : b < 7) (ht : t < 41) : a * b * t ≤ 1440 := Nat.le_trans (Nat.mul_le_mul (Nat.mul_le_mul (by omega : a ≤ 6) (by omega : b ≤ 6)) (by omega : t ≤ 40)) (by decide)
theorem tb_rl {s a t : Nat} (hs : s < 41) (ha : a < 7) (ht : t < 41) : nI s + nI a * nI t - (nI s + nI a * nI t) / 41 * 41 = nI ((s + a * t) % 41) := by
  have h := tb_at ha ht
  rw [pk_mul, nI_add]
  exact pk_rem (d := 41) (by omega) (by decide) (by decide)
theorem tb_rs {s a b t : Nat} (hs : s < 41) (ha : a < 7) (hb : b < 7) (ht : t < 41) : nI s + 13 * nI a + 17 * nI b + nI a * nI b * nI t - (nI s + 13 * nI a + 17 * nI b + nI a * nI b * nI t) / 41 * 41 = nI (tb_vs s t a b) := by
  have h := tb_abt ha hb ht
  have e : nI s + 13 * nI a + 17 * nI b + nI a * nI b * nI t = nI (s + 13 * a + 17 * b + a * b * t) := by
    show nI s + nI 13 * nI a + nI 17 * nI b + nI a * nI b * nI t = _
    rw [pk_mul, pk_mul, pk_mul, pk_mul, nI_add, nI_add, nI_add]
  rw [e]
  exact pk_rem (d := 41) (by omega) (by decide) (by decide)
theorem tb_li28 {post : Int32 → SX → Prop} {J16 : Int32 → (Nat → Int32) → (Nat → Int32) → Prop} {fn : Int32} {ar : Nat → Int32} {s t b : Nat} (hs : s < 41) (ht : t < 41) (hb : b < 7) (K : ∀ ap', tb_LI (tb_vl s t) b b ap' → J16 (nI (b + 1)) ap' ar) : ∀ (m a fuel : Nat) (ap : Nat → Int32), a + m = b → m < fuel → tb_LI (tb_vl s t) b a ap → wX_line_28 post J16 (nI s) (nI t) (nI b) fn tc rq cl fuel (nI a) ap ar := by
  intro m
  induction m with
  | zero =>
    intro a fuel ap ha hf h
    obtain ⟨f, rfl⟩ : ∃ f, fuel = f + 1 := ⟨fuel - 1, by omega⟩
    have e : a = b := by omega
    rw [e] at h ⊢
    exact br_t (nI_le (Nat.le_refl _) (by omega)) (nm_r (nI_1 b) (K ap h))
  | succ m ih =>
    intro a fuel ap ha hf h
    obtain ⟨f, rfl⟩ : ∃ f, fuel = f + 1 := ⟨fuel - 1, by omega⟩
    have hr := tb_trL a (by omega) b hb (by omega)
    have i1 : vp_in (nI (tb_tr a b)) 21 := vp_in_nI hr (by omega)
    have h1 := Nat.mod_lt (s + a * t) (y := 41) (by decide)
    have h2 := Nat.mod_lt (s + b * t) (y := 41) (by decide)
    have IH := ih (a + 1) f _ (by omega) (by omega) (tb_LIs (by omega) hb (tb_vlB s t a b) h)
    refine br_f (nI_ge (by omega) (by omega)) ⟨by decide, by decide, nm_r (e' := nI ((s + a * t) % 41) - nI ((s + b * t) % 41)) (by rw [tb_rl hs (by omega) ht, tb_rl hs hb ht]) ?_⟩
    refine tb_rbX (by omega) hb ?_
    rcases Nat.lt_or_ge ((s + a * t) % 41) ((s + b * t) % 41) with z | z
    · have e : -(nI ((s + a * t) % 41) - nI ((s + b * t) % 41)) = nI (tb_vl s t a b) := by
        rw [Int32.neg_sub, pk_sub (by omega)]
        unfold tb_vl
        rw [if_pos (by omega)]
      refine br_f (Int32.not_le.mpr (pk_sneg (by omega) z)) ⟨i1, nm_r (e' := upd ap (tb_tr a b) (nI (tb_vl s t a b))) (by rw [nI_clamp (by omega), e]) (nm_r (nI_1 a) IH)⟩
    · have e : nI ((s + a * t) % 41) - nI ((s + b * t) % 41) = nI (tb_vl s t a b) := by
        rw [pk_sub z]
        unfold tb_vl
        by_cases y : (s + a * t) % 41 ≤ (s + b * t) % 41
        · rw [if_pos y]
          congr 1
          omega
        · rw [if_neg y]
      rw [e]
      have := tb_vlB s t a b
      refine br_t (nI_pos' (by omega)) ⟨i1, nm_r (e' := upd ap (tb_tr a b) (nI (tb_vl s t a b))) (by rw [nI_clamp (by omega)]) (nm_r (nI_1 a) IH)⟩
theorem tb_li16 {post : Int32 → SX → Prop} {ar : Nat → Int32} {s t : Nat} (n7 : n ≤ 7) (hs : s < 41) (ht : t < 41) (K : ∀ ap', tb_LI (tb_vl s t) n 0 ap' → post 0 (nI n, tc, rq, cl, ap', ar)) : ∀ (m b fuel : Nat) (ap : Nat → Int32), b + m = n → m < fuel → tb_LI (tb_vl s t) b 0 ap → wX_line_16 post (nI s) (nI t) (nI n) tc rq cl fuel (nI b) ap ar := by
  intro m
  induction m with
  | zero =>
    intro b fuel ap hb hf h
    obtain ⟨f, rfl⟩ : ∃ f, fuel = f + 1 := ⟨fuel - 1, by omega⟩
    have e : b = n := by omega
    rw [e] at h ⊢
    exact br_t (nI_le (Nat.le_refl _) (by omega)) (K ap h)
  | succ m ih =>
    intro b fuel ap hb hf h
    obtain ⟨f, rfl⟩ : ∃ f, fuel = f + 1 := ⟨fuel - 1, by omega⟩
    refine br_f (nI_ge (by omega) (by omega)) ⟨b + 1, ?_⟩
    exact tb_li28 hs ht (by omega) (fun ap' h' => ih (b + 1) f ap' (by omega) (by omega) (tb_LIn h')) b 0 (b + 1) ap (by omega) (by omega) h
theorem tb_so28 {post : Int32 → SX → Prop} {J16 : Int32 → (Nat → Int32) → (Nat → Int32) → Prop} {fn : Int32} {ar : Nat → Int32} {s t b : Nat} (hs : s < 41) (ht : t < 41) (hb : b < 7) (K : ∀ ap', tb_LI (tb_vs s t) b b ap' → J16 (nI (b + 1)) ap' ar) : ∀ (m a fuel : Nat) (ap : Nat → Int32), a + m = b → m < fuel → tb_LI (tb_vs s t) b a ap → wX_sow_28 post J16 (nI s) (nI t) (nI b) fn tc rq cl fuel (nI a) ap ar := by
  intro m
  induction m with
  | zero =>
    intro a fuel ap ha hf h
    obtain ⟨f, rfl⟩ : ∃ f, fuel = f + 1 := ⟨fuel - 1, by omega⟩
    have e : a = b := by omega
    rw [e] at h ⊢
    exact br_t (nI_le (Nat.le_refl _) (by omega)) (nm_r (nI_1 b) (K ap h))
  | succ m ih =>
    intro a fuel ap ha hf h
    obtain ⟨f, rfl⟩ : ∃ f, fuel = f + 1 := ⟨fuel - 1, by omega⟩
    have hr := tb_trL a (by omega) b hb (by omega)
    have i1 : vp_in (nI (tb_tr a b)) 21 := vp_in_nI hr (by omega)
    have IH := ih (a + 1) f _ (by omega) (by omega) (tb_LIs (by omega) hb (tb_vsB s t a b) h)
    refine br_f (nI_ge (by omega) (by omega)) ?_
    refine tb_rbX (by omega) hb ⟨by decide, i1, nm_r (e' := upd ap (tb_tr a b) (nI (tb_vs s t a b))) (by rw [nI_clamp (by omega), tb_rs hs (by omega) hb ht]) (nm_r (nI_1 a) IH)⟩
theorem tb_so16 {post : Int32 → SX → Prop} {ar : Nat → Int32} {s t : Nat} (n7 : n ≤ 7) (hs : s < 41) (ht : t < 41) (K : ∀ ap', tb_LI (tb_vs s t) n 0 ap' → post 0 (nI n, tc, rq, cl, ap', ar)) : ∀ (m b fuel : Nat) (ap : Nat → Int32), b + m = n → m < fuel → tb_LI (tb_vs s t) b 0 ap → wX_sow_16 post (nI s) (nI t) (nI n) tc rq cl fuel (nI b) ap ar := by
  intro m
  induction m with
  | zero =>
    intro b fuel ap hb hf h
    obtain ⟨f, rfl⟩ : ∃ f, fuel = f + 1 := ⟨fuel - 1, by omega⟩
    have e : b = n := by omega
    rw [e] at h ⊢
    exact br_t (nI_le (Nat.le_refl _) (by omega)) (K ap h)
  | succ m ih =>
    intro b fuel ap hb hf h
    obtain ⟨f, rfl⟩ : ∃ f, fuel = f + 1 := ⟨fuel - 1, by omega⟩
    refine br_f (nI_ge (by omega) (by omega)) ⟨b + 1, ?_⟩
    exact tb_so28 hs ht (by omega) (fun ap' h' => ih (b + 1) f ap' (by omega) (by omega) (tb_LIn h')) b 0 (b + 1) ap (by omega) (by omega) h
/-! Y's loops -/
variable {le lc ti fi ch : Int32} {ah lf ro us jo : Nat → Int32}
theorem tb_ly27 {post : Int32 → SY → Prop} {fn : Int32} {s t : Nat} (hs : s < 41) (ht : t < 41) (K : ∀ ac' : Nat → Int32, (∀ k, k < 49 → ac' k = nI (tb_vl s t (k / 7) (k % 7))) → post 0 (fn, le, lc, ti, fi, ch, ac', ah, lf, ro, us, jo)) : ∀ (m k fuel : Nat) (ac : Nat → Int32), k + m = 49 → m < fuel → (∀ j, j < k → ac j = nI (tb_vl s t (j / 7) (j % 7))) → wY_line_27 post (nI s) (nI t) fn le lc ti fi ch fuel (nI k) ac ah lf ro us jo := by
  intro m
  induction m with
  | zero =>
    intro k fuel ac hk hf h
    obtain ⟨f, rfl⟩ : ∃ f, fuel = f + 1 := ⟨fuel - 1, by omega⟩
    have e : k = 49 := by omega
    subst e
    exact br_t (nI_le (a := 49) (Nat.le_refl _) (by decide)) (K ac h)
  | succ m ih =>
    intro k fuel ac hk hf h
    obtain ⟨f, rfl⟩ : ∃ f, fuel = f + 1 := ⟨fuel - 1, by omega⟩
    obtain ⟨k1, k2⟩ := tb_kd k (by omega)
    have i1 : vp_in (nI k) 49 := vp_in_nI (by omega) (by omega)
    have h1 := Nat.mod_lt (s + k / 7 * t) (y := 41) (by decide)
    have h2 := Nat.mod_lt (s + k % 7 * t) (y := 41) (by decide)
    have IH := ih (k + 1) f (upd ac k (nI (tb_vl s t (k / 7) (k % 7)))) (by omega) (by omega) (fun j hj => by
      by_cases z : j = k
      · rw [z, pk_us]
      · rw [pk_un z]
        exact h j (by omega))
    refine br_f (nI_ge (b := 49) (by omega) (by decide)) ⟨by decide, nm_r k1 ⟨by decide, nm_r k2 ⟨by decide, nm_r (tb_rl hs (by omega) ht) ⟨by decide, nm_r (tb_rl hs (by omega) ht) ?_⟩⟩⟩⟩
    refine pk_le ((s + k / 7 * t) % 41) ((s + k % 7 * t) % 41) (fun z => ⟨i1, nm_r (e' := upd ac k (nI (tb_vl s t (k / 7) (k % 7)))) ?_ (nm_r (nI_1 k) IH)⟩) (fun z => ⟨i1, nm_r (e' := upd ac k (nI (tb_vl s t (k / 7) (k % 7)))) ?_ (nm_r (nI_1 k) IH)⟩) rfl rfl (by omega) (by omega)
    · rw [nI_clamp (by omega), pk_sub z]
      unfold tb_vl
      rw [if_pos z]
    · rw [nI_clamp (by omega), pk_sub (by omega)]
      unfold tb_vl
      rw [if_neg (by omega)]
theorem tb_cgW {post : SY → Prop} {fn : Int32} {ac : Nat → Int32} {a b : Nat} {x : Int32} (ha : a < 7) (hb : b < 7) (K : post (fn, le, lc, ti, fi, ch, upd (upd ac (a * 7 + b) x) (b * 7 + a) x, ah, lf, ro, us, jo)) : wpY_charge post (fn, le, lc, ti, fi, ch, ac, ah, lf, ro, us, jo) (nI a) (nI b) x := by
  have e1 := tb_ix a ha b (by omega)
  have e2 := tb_ix b hb a (by omega)
  have i1 : vp_in (nI a * 7 + nI b) 49 := by
    rw [e1]
    exact vp_in_nI (by omega) (by omega)
  have i2 : vp_in (nI b * 7 + nI a) 49 := by
    rw [e2]
    exact vp_in_nI (by omega) (by omega)
  exact ⟨i1, nm_r (e' := upd ac (a * 7 + b) x) (by rw [e1, nI_clamp (by omega)]) ⟨i2, nm_r (e' := upd (upd ac (a * 7 + b) x) (b * 7 + a) x) (by rw [e2, nI_clamp (by omega)]) K⟩⟩
theorem tb_sy27 {post : Int32 → SY → Prop} {fn : Int32} {s t : Nat} (hs : s < 41) (ht : t < 41) (K : ∀ ac' : Nat → Int32, (∀ a b, a < b → b < 7 → ac' (a * 7 + b) = nI (tb_vs s t a b) ∧ ac' (b * 7 + a) = nI (tb_vs s t a b)) → post 0 (fn, le, lc, ti, fi, ch, ac', ah, lf, ro, us, jo)) : ∀ (m k fuel : Nat) (ac : Nat → Int32), k + m = 49 → m < fuel → (∀ a b, a < b → b < 7 → a * 7 + b < k → ac (a * 7 + b) = nI (tb_vs s t a b) ∧ ac (b * 7 + a) = nI (tb_vs s t a b)) → wY_sow_27 post (nI s) (nI t) fuel (nI k) fn le lc ti fi ch ac ah lf ro us jo := by
  intro m
  induction m with
  | zero =>
    intro k fuel ac hk hf h
    obtain ⟨f, rfl⟩ : ∃ f, fuel = f + 1 := ⟨fuel - 1, by omega⟩
    have e : k = 49 := by omega
    subst e
    exact br_t (nI_le (a := 49) (Nat.le_refl _) (by decide)) (K ac (fun a b h1 h2 => h a b h1 h2 (by omega)))
  | succ m ih =>
    intro k fuel ac hk hf h
    obtain ⟨f, rfl⟩ : ∃ f, fuel = f + 1 := ⟨fuel - 1, by omega⟩
    obtain ⟨k1, k2⟩ := tb_kd k (by omega)
    refine br_f (nI_ge (b := 49) (by omega) (by decide)) ⟨by decide, nm_r k1 ⟨by decide, nm_r k2 ⟨by decide, nm_r (tb_rs hs (by omega) (by omega) ht) ?_⟩⟩⟩
    refine pk_le (k % 7) (k / 7) (fun z => nm_r (nI_1 k) (ih (k + 1) f ac (by omega) (by omega) (fun a b h1 h2 h3 => h a b h1 h2 (by omega)))) (fun z => ?_)
    refine tb_cgW (by omega) (by omega) (nm_r (nI_1 k) (ih (k + 1) f _ (by omega) (by omega) (fun a b h1 h2 h3 => ?_)))
    by_cases w : a = k / 7 ∧ b = k % 7
    · rw [w.1, w.2]
      refine ⟨?_, pk_us⟩
      rw [pk_un (by omega), pk_us]
    · have q1 : a * 7 + b ≠ k % 7 * 7 + k / 7 := by omega
      have q2 : a * 7 + b ≠ k / 7 * 7 + k % 7 := by omega
      have q3 : b * 7 + a ≠ k % 7 * 7 + k / 7 := by omega
      have q4 : b * 7 + a ≠ k / 7 * 7 + k % 7 := by omega
      rw [pk_un q1, pk_un q2, pk_un q3, pk_un q4]
      exact h a b h1 h2 (by omega)
end TBH
