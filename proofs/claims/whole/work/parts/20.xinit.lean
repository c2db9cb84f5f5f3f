section TBI
/-! X's constructor -/
variable {tc rq cl : Int32} {ap : Nat → Int32}
theorem tb_s1 (t : Nat) : nI t - 1 = nI t + (-1) := Int32.sub_eq_add_neg _ _
theorem tb_p7 : ∀ L, L < 8 → 7 ^ L < 2 ^ 31 := by decide +kernel
theorem tb_rbX {post : Int32 → Prop} {u : SX} {a b : Nat} (ha : a < 7) (hb : b < 7) (h : post (nI (tb_tr a b))) : wpX_roadBetween post u (nI a) (nI b) := by
  obtain ⟨fn, tc, rq, cl, ap, ar⟩ := u
  have e1 : b ≤ a → nI a * (nI a - 1) / 2 + nI b = nI (tb_tr a b) := fun z => (tb_rb b hb a ha).trans (by unfold tb_tr; rw [if_neg (by omega)])
  have e2 : a < b → nI b * (nI b - 1) / 2 + nI a = nI (tb_tr a b) := fun z => (tb_rb a ha b hb).trans (by unfold tb_tr; rw [if_pos z])
  refine pk_le b a (fun z => ⟨by decide, ?_⟩) (fun z => ⟨by decide, ?_⟩)
  · rw [e1 z]
    exact h
  · rw [e2 z]
    exact h
theorem tb_hoX {post : Int32 → Prop} {fn : Int32} {ar : Nat → Int32} {t L : Nat} (ht : t < 7) (L7 : L ≤ 7) : ∀ (p : List Nat) (k fuel : Nat), (∀ x, x ∈ p → x < 7) → k + p.length = L → p.length < fuel → (t ∈ p → post 1) → (t ∉ p → post 0) → wX_holds_6 post (nI L) (nI t) fn tc rq cl ap ar fuel (nI (tb_cd p)) (nI k) := by
  intro p
  induction p with
  | nil =>
    intro k fuel _ hk hf _ h0
    obtain ⟨f, rfl⟩ : ∃ f, fuel = f + 1 := ⟨fuel - 1, by omega⟩
    rw [List.length_nil] at hk
    exact br_t (nI_le (by omega) (by omega)) (h0 List.not_mem_nil)
  | cons x p ih =>
    intro k fuel hp hk hf h1 h0
    obtain ⟨f, rfl⟩ : ∃ f, fuel = f + 1 := ⟨fuel - 1, by omega⟩
    rw [List.length_cons] at hk hf
    have hx := hp x List.mem_cons_self
    have hb : tb_cd (x :: p) < 2 ^ 31 := by
      have h1 := tb_cdB (x :: p) hp
      rw [List.length_cons] at h1
      exact Nat.lt_trans h1 (tb_p7 _ (by omega))
    have e := tb_r7 hb
    rw [tb_cdM hx] at e
    refine br_f (nI_ge (by omega) (by omega)) ⟨by decide, ?_⟩
    by_cases z : x = t
    · exact br_t (by rw [e.2, z]) (h1 (z ▸ List.mem_cons_self))
    · have z2 : ¬ nI (tb_cd (x :: p)) - nI (tb_cd (x :: p)) / 7 * 7 = nI t := by
        rw [e.2, nI_eq (by omega) (by omega)]
        exact z
      refine br_f z2 ⟨by decide, nm_r (e := nI (tb_cd (x :: p)) / 7) (e' := nI (tb_cd p)) (by rw [e.1, tb_cdD hx]) (nm_r (nI_1 k) ?_)⟩
      refine ih (k + 1) f (fun y hy => hp y (List.mem_cons_of_mem x hy)) (by omega) (by omega) (fun m => h1 (List.mem_cons_of_mem x m)) (fun m => h0 (fun w => ?_))
      rcases List.mem_cons.mp w with w | w
      · exact z w.symm
      · exact m w
/-- one row lengthened -/
theorem tb_le36 {post : SX → Prop} {J14 : Int32 → Int32 → (Nat → Int32) → (Nat → Int32) → Prop} {n L i c : Nat} (n7 : n ≤ 7) (hL : L < n) (hi : i < c) (hc : c * (n - L) ≤ 5040) (K : ∀ rows' : Nat → Int32, (∀ j, j < i → rows' j = nI (tb_cd (tb_px n L j))) → (∀ j, i * (n - L) ≤ j → j < c * (n - L) → rows' j = nI (tb_cd (tb_px n (L + 1) j))) → J14 (nI (i * (n - L))) (nI i + (-1)) ap rows') : ∀ (t fuel : Nat) (rows : Nat → Int32), t ≤ n → t < fuel → (∀ j, j < i → rows j = nI (tb_cd (tb_px n L j))) → (∀ j, i * (n - L) + tb_lk (tb_px n L i) t ≤ j → j < c * (n - L) → rows j = nI (tb_cd (tb_px n (L + 1) j))) → wX_lengthenRows_36 post J14 (nI L) (nI i) (nI (tb_cd (tb_px n L i))) (nI n) tc rq cl fuel (nI (i * (n - L) + tb_lk (tb_px n L i) t)) (nI t + (-1)) ap rows := by
  obtain ⟨p1, p2, p3, p4⟩ := tb_pxF (n := n) L i (by omega)
  have hik : i * (n - L) + (n - L) ≤ c * (n - L) := by
    rw [← Nat.succ_mul]
    exact Nat.mul_le_mul_right _ hi
  have hii : i ≤ i * (n - L) := Nat.le_mul_of_pos_right i (by omega)
  intro t
  induction t with
  | zero =>
    intro fuel rows _ hf ho hn
    obtain ⟨f, rfl⟩ : ∃ f, fuel = f + 1 := ⟨fuel - 1, by omega⟩
    exact br_t (by decide) (nm_e (K rows ho hn))
  | succ t ih =>
    intro fuel rows ht hf ho hn
    obtain ⟨f, rfl⟩ : ∃ f, fuel = f + 1 := ⟨fuel - 1, by omega⟩
    rw [pk_m1 t]
    refine br_f (nI_pos (by omega)) ⟨L + 1, tb_hoX (by omega) (by omega) (tb_px n L i) 0 (L + 1) (fun x hx => Nat.lt_of_lt_of_le (p3 x hx) n7) (by omega) (by omega) (fun hm => ?_) (fun hm => ?_)⟩
    · refine br_f (by decide) (nm_e ?_)
      rw [tb_lkI hm] at hn ⊢
      exact ih f rows (by omega) (by omega) ho hn
    · have hq : tb_lk (tb_px n L i) t < n - L := by
        have h1 := tb_lkO hm
        have h2 : tb_lk (tb_px n L i) (t + 1) ≤ n - L := by
          rw [← tb_lkE (n := n) (L := L) (i := i) (by omega)]
          have h3 : ∀ m, tb_lk (tb_px n L i) (t + 1) ≤ tb_lk (tb_px n L i) (t + 1 + m) := by
            intro m
            induction m with
            | zero => exact Nat.le_refl _
            | succ m ih =>
              refine Nat.le_trans ih ?_
              show _ ≤ tb_lk (tb_px n L i) (t + 1 + m + 1)
              by_cases hm : t + 1 + m ∈ tb_px n L i
              · rw [tb_lkI hm]
                exact Nat.le_refl _
              · rw [tb_lkO hm]
                omega
          have h4 := h3 (n - (t + 1))
          have h5 : t + 1 + (n - (t + 1)) = n := by omega
          rw [h5] at h4
          exact h4
        omega
      have e1 : nI (i * (n - L) + tb_lk (tb_px n L i) (t + 1)) + (-1) = nI (i * (n - L) + tb_lk (tb_px n L i) t) := by
        rw [tb_lkO hm, ← Nat.add_assoc, pk_m1]
      have e2 : nI (tb_cd (tb_px n L i)) * 7 + nI t = nI (tb_cd (t :: tb_px n L i)) := by
        show nI (tb_cd (tb_px n L i)) * nI 7 + nI t = _
        rw [pk_mul, nI_add]
        rfl
      have e3 := tb_pxN (n := n) (L := L) (i := i) (t := t) hL (by omega) hm hq
      refine br_t rfl (nm_r e1 ⟨vp_in_nI (by omega) (by omega), nm_r (e' := upd rows (i * (n - L) + tb_lk (tb_px n L i) t) (nI (tb_cd (t :: tb_px n L i)))) (by rw [nI_clamp (by omega), e2]) (nm_e ?_)⟩)
      refine ih f _ (by omega) (by omega) (fun j hj => ?_) (fun j hj hj2 => ?_)
      · rw [pk_un (by omega)]
        exact ho j hj
      · by_cases z : j = i * (n - L) + tb_lk (tb_px n L i) t
        · rw [z, pk_us, e3]
        · rw [pk_un z]
          refine hn j ?_ hj2
          rw [tb_lkO hm]
          omega
theorem tb_le14 {post : SX → Prop} {n L c : Nat} (n7 : n ≤ 7) (hL : L < n) (hc : c * (n - L) ≤ 5040) (K : ∀ rows' : Nat → Int32, (∀ j, j < c * (n - L) → rows' j = nI (tb_cd (tb_px n (L + 1) j))) → post (nI n, tc, rq, cl, ap, rows')) : ∀ (i fuel : Nat) (rows : Nat → Int32), i ≤ c → i < fuel → (∀ j, j < i → rows j = nI (tb_cd (tb_px n L j))) → (∀ j, i * (n - L) ≤ j → j < c * (n - L) → rows j = nI (tb_cd (tb_px n (L + 1) j))) → wX_lengthenRows_14 post (nI L) (nI n) tc rq cl fuel (nI (i * (n - L))) (nI i + (-1)) ap rows := by
  have hcc : c ≤ c * (n - L) := Nat.le_mul_of_pos_right c (by omega)
  intro i
  induction i with
  | zero =>
    intro fuel rows _ hf _ hn
    obtain ⟨f, rfl⟩ : ∃ f, fuel = f + 1 := ⟨fuel - 1, by omega⟩
    exact br_t (by decide) (K rows (fun j hj => hn j (by omega) hj))
  | succ i ih =>
    intro fuel rows hi hf ho hn
    obtain ⟨f, rfl⟩ : ∃ f, fuel = f + 1 := ⟨fuel - 1, by omega⟩
    have e : (i + 1) * (n - L) = i * (n - L) + tb_lk (tb_px n L i) n := by rw [tb_lkE (by omega), Nat.succ_mul]
    rw [pk_m1 i]
    refine br_f (nI_pos (by omega)) ⟨vp_in_nI (by omega) (by omega), nm_r (e' := nI (tb_cd (tb_px n L i))) (by rw [nI_clamp (by omega), ho i (by omega)]) (nm_r (tb_s1 n) ⟨n + 1, ?_⟩)⟩
    rw [e] at hn ⊢
    exact tb_le36 n7 hL (by omega) hc (fun rows' h1 h2 => ih f rows' (by omega) (by omega) h1 h2) n (n + 1) rows (Nat.le_refl n) (by omega) (fun j hj => ho j (by omega)) hn
theorem tb_leX {post : SX → Prop} {n L c : Nat} {rows : Nat → Int32} (n7 : n ≤ 7) (hL : L < n) (hc : c * (n - L) ≤ 5040) (ho : ∀ j, j < c → rows j = nI (tb_cd (tb_px n L j))) (K : ∀ rows' : Nat → Int32, (∀ j, j < c * (n - L) → rows' j = nI (tb_cd (tb_px n (L + 1) j))) → post (nI n, tc, rq, cl, ap, rows')) : wpX_lengthenRows post (nI n, tc, rq, cl, ap, rows) (nI c) (nI L) := by
  have e1 : nI c * (nI n - nI L) = nI (c * (n - L)) := by rw [pk_sub (by omega), pk_mul]
  refine nm_r e1 (nm_r (tb_s1 c) ⟨c + 1, ?_⟩)
  exact tb_le14 n7 hL hc K c (c + 1) rows (Nat.le_refl c) (by omega) ho (fun j h1 h2 => absurd h1 (by omega))
theorem tb_in82 {post : SX → Prop} {n : Nat} (hn : 2 ≤ n) (n7 : n ≤ 7) (K : ∀ rows' : Nat → Int32, (∀ j, j < tb_fc n → rows' j = nI (tb_cd (tb_px n n j))) → post (nI n, nI (tb_fc (n - 1)), rq, cl, ap, rows')) : ∀ (m L fuel : Nat) (rows : Nat → Int32), L + m = n → m < fuel → (∀ j, j < tb_ct n L → rows j = nI (tb_cd (tb_px n L j))) → wX_init_82 post fuel (nI (tb_ct n L)) (nI L) (nI n) tc rq cl ap rows := by
  intro m
  induction m with
  | zero =>
    intro L fuel rows hL hf h
    obtain ⟨f, rfl⟩ : ∃ f, fuel = f + 1 := ⟨fuel - 1, by omega⟩
    have hL : L = n := by omega
    subst hL
    obtain ⟨c1, c2⟩ := tb_ctV L (by omega) hn
    have c3 := (tb_ctB L (by omega) L (by omega)).1
    refine br_t (nI_le (Nat.le_refl L) (by omega)) ⟨nI_ne0 (by omega) (by omega), nm_r (e' := nI (tb_fc (L - 1))) (by rw [pk_div (by omega) (by omega) (by omega), c2]) ?_⟩
    exact K rows (fun j hj => h j (by rw [c1]; exact hj))
  | succ m ih =>
    intro L fuel rows hL hf h
    obtain ⟨f, rfl⟩ : ∃ f, fuel = f + 1 := ⟨fuel - 1, by omega⟩
    have c3 := (tb_ctB n (by omega) (L + 1) (by omega)).1
    refine br_f (nI_ge (by omega) (by omega)) ?_
    refine tb_leX n7 (by omega) c3 h (fun rows' h' => ?_)
    refine nm_r (e' := nI (tb_ct n (L + 1))) (by rw [pk_sub (by omega), pk_mul]; rfl) (nm_r (nI_1 L) ?_)
    exact ih (L + 1) f rows' (by omega) (by omega) h'
theorem tb_in58 {post : SX → Prop} {n : Nat} (hn : 2 ≤ n) (n7 : n ≤ 7) (K : ∀ ap' rows' : Nat → Int32, (∀ r, r < 21 → ap' r = nI 10) → (∀ j, j < tb_fc n → rows' j = nI (tb_cd (tb_px n n j))) → post (nI n, nI (tb_fc (n - 1)), 0, 0, ap', rows')) : ∀ (m i fuel : Nat) (ap : Nat → Int32), i + m = 21 → m < fuel → (∀ r, r < i → ap r = nI 10) → wX_init_58 post (nI n) 0 0 0 fuel (nI i) ap (fun _ => 0) := by
  intro m
  induction m with
  | zero =>
    intro i fuel ap hi hf h
    obtain ⟨f, rfl⟩ : ∃ f, fuel = f + 1 := ⟨fuel - 1, by omega⟩
    have hi : i = 21 := by omega
    subst hi
    refine br_t (nI_le (a := 21) (Nat.le_refl _) (by omega)) ⟨n + 1, ?_⟩
    exact tb_in82 hn n7 (fun rows' h' => K ap rows' h h') n 0 (n + 1) (fun _ => 0) (by omega) (by omega) (fun j hj => rfl)
  | succ m ih =>
    intro i fuel ap hi hf h
    obtain ⟨f, rfl⟩ : ∃ f, fuel = f + 1 := ⟨fuel - 1, by omega⟩
    refine br_f (nI_ge (b := 21) (by omega) (by decide)) ⟨vp_in_nI (by omega) (by omega), nm_r (e' := upd ap i (nI 10)) (by rw [nI_clamp (by omega)]; rfl) (nm_r (nI_1 i) ?_)⟩
    refine ih (i + 1) f _ (by omega) (by omega) (fun r hr => ?_)
    by_cases z : r = i
    · rw [z, pk_us]
    · rw [pk_un z]
      exact h r (by omega)
/-- how many towns -/
def tb_nn (x : Int32) : Nat := if 2 ≤ x then (if x ≤ 7 then x.toNatClampNeg else 7) else 2
theorem tb_nnB (x : Int32) : 2 ≤ tb_nn x ∧ tb_nn x ≤ 7 := by
  unfold tb_nn
  by_cases h1 : 2 ≤ x
  · rw [if_pos h1]
    by_cases h2 : x ≤ 7
    · rw [if_pos h2]
      obtain ⟨j, hj, rfl⟩ := nI_of (x := x) (Int32.not_lt.mpr (Int32.le_trans (by decide) h1))
      rw [nI_clamp hj]
      have a := (nI_leI (a := 2) (by decide) hj).mp h1
      have b := (nI_leI (b := 7) hj (by decide)).mp h2
      omega
    · rw [if_neg h2]
      omega
  · rw [if_neg h1]
    omega
theorem tb_nnE {x : Int32} (h1 : 2 ≤ x) (h2 : x ≤ 7) : x = nI (tb_nn x) := by
  unfold tb_nn
  rw [if_pos h1, if_pos h2]
  obtain ⟨j, hj, rfl⟩ := nI_of (x := x) (Int32.not_lt.mpr (Int32.le_trans (by decide) h1))
  rw [nI_clamp hj]
theorem tb_inX {post : SX → Prop} {x : Int32} (K : ∀ ap' rows' : Nat → Int32, (∀ r, r < 21 → ap' r = nI 10) → (∀ j, j < tb_fc (tb_nn x) → rows' j = nI (tb_cd (tb_px (tb_nn x) (tb_nn x) j))) → post (nI (tb_nn x), nI (tb_fc (tb_nn x - 1)), 0, 0, ap', rows')) : wpX_init post x := by
  obtain ⟨b1, b2⟩ := tb_nnB x
  have H := tb_in58 b1 b2 K 21 0 22 (fun _ => 0) (by omega) (by omega) (fun r hr => absurd hr (by omega))
  refine br_c (fun h1 => br_c (fun h2 => ⟨22, ?_⟩) (fun h2 => ⟨22, ?_⟩)) (fun h1 => ⟨22, ?_⟩)
  · rw [← tb_nnE h1 h2] at H
    exact H
  · have e : tb_nn x = 7 := by
      unfold tb_nn
      rw [if_pos h1, if_neg h2]
    rw [e] at H
    exact H
  · have e : tb_nn x = 2 := by
      unfold tb_nn
      rw [if_neg h1]
    rw [e] at H
    exact H
end TBI
