section TBX
/-! digits of a code; lists that Y's arrange works on -/
def tb_dg (n c t : Nat) : Nat := c / 7 ^ (n - 1 - t) % 7
theorem tb_dg7 (n c t : Nat) : tb_dg n c t < 7 := Nat.mod_lt _ (by decide)
theorem tb_dgC {n c : Nat} (hc : c < 7 ^ n) : ∀ m, m ≤ n → tb_co (tb_dg n c) m = c / 7 ^ (n - m)
  | 0, _ => by
    rw [Nat.sub_zero, Nat.div_eq_of_lt hc]
    rfl
  | m + 1, h => by
    rw [tb_coS, tb_dgC hc m (by omega)]
    have e : 7 ^ (n - m) = 7 ^ (n - (m + 1)) * 7 := by
      rw [← Nat.pow_succ]
      congr 1
      omega
    have e2 : n - 1 - m = n - (m + 1) := by omega
    unfold tb_dg
    rw [e, ← Nat.div_div_eq_div_mul, e2]
    omega
theorem tb_dgE {n c : Nat} (hc : c < 7 ^ n) : tb_co (tb_dg n c) n = c := by
  rw [tb_dgC hc n (Nat.le_refl n), Nat.sub_self, Nat.pow_zero, Nat.div_one]
theorem tb_dg0 {n c : Nat} (hc : c < 7 ^ (n - 1)) : tb_dg n c 0 = 0 := by
  unfold tb_dg
  rw [Nat.sub_zero, Nat.div_eq_of_lt hc]
/-- a row that begins with town 0: its code is below 7^(n-1), its digits are the row -/
theorem tb_coZ {d : Nat → Nat} : ∀ m, d 0 = 0 → (∀ t, t < m + 1 → d t < 7) → tb_co d (m + 1) < 7 ^ m
  | 0, h0, _ => by
    rw [tb_coS, h0]
    exact Nat.one_pos
  | m + 1, h0, h => by
    have ih := tb_coZ m h0 (fun t ht => h t (by omega))
    have := h (m + 1) (by omega)
    rw [tb_coS, Nat.pow_succ]
    omega
theorem tb_dgD {n : Nat} (hn : 0 < n) {d : Nat → Nat} (h : ∀ t, t < n → d t < 7) {c : Nat} (e : tb_co d n = c) : ∀ t, t < n → tb_dg n c t = d t := by
  have hc : c < 7 ^ n := by
    rw [← e]
    exact tb_coB n h
  exact tb_coI n (fun t _ => tb_dg7 n c t) h (by rw [tb_dgE hc, e])
/-- X's tours are the codes whose digits are a row -/
theorem tb_isT {n c : Nat} (hn : 2 ≤ n) (n7 : n ≤ 7) : (∃ i, i < tb_fc (n - 1) ∧ tb_co (tb_D n i) n = c) ↔ c < 7 ^ (n - 1) ∧ tb_pm n (tb_dg n c) := by
  constructor
  · rintro ⟨i, hi, e⟩
    have hp := tb_Dp n i
    have h7 : ∀ t, t < n → tb_D n i t < 7 := fun t ht => Nat.lt_of_lt_of_le (hp.1 t ht) n7
    have h0 := (tb_DA (n := n) (a := 0) (by omega) hi).1
    rw [Nat.zero_mul, Nat.zero_add] at h0
    refine ⟨?_, tb_pmG hp (fun t ht => (tb_dgD (by omega) h7 e t ht).symm)⟩
    have := tb_coZ (d := tb_D n i) (n - 1) h0 (fun t ht => h7 t (by omega))
    have e2 : n - 1 + 1 = n := by omega
    rw [e2, e] at this
    exact this
  · rintro ⟨hc, hp⟩
    have h0 := tb_dg0 hc
    obtain ⟨k, hk, e⟩ := tb_DE (by omega) hp
    rw [h0, Nat.zero_mul, Nat.zero_add] at e
    refine ⟨k, hk, ?_⟩
    rw [tb_coG n e]
    exact tb_dgE (Nat.lt_of_lt_of_le hc (Nat.pow_le_pow_right (by decide) (by omega)))
theorem tb_D00 {n i : Nat} (hn : 0 < n) (hi : i < tb_fc (n - 1)) : tb_D n i 0 = 0 := by
  have h0 := (tb_DA (n := n) (a := 0) hn hi).1
  rw [Nat.zero_mul, Nat.zero_add] at h0
  exact h0
theorem tb_D0S {n i t : Nat} (hi : i < tb_fc (n - 1)) (ht : t + 1 < n) : tb_D n i (t + 1) = (tb_ar (n - 1) i (tb_un n [0])).getD t 0 := by
  have h0 := (tb_DA (n := n) (a := 0) (by omega) hi).2 t ht
  rw [Nat.zero_mul, Nat.zero_add] at h0
  exact h0
theorem tb_un0G : ∀ n, n < 8 → ∀ q, q < n - 1 → (tb_un n [0]).getD q 0 = q + 1 := by decide +kernel
/-- how often: once just if there and at no other place -/
theorem tb_cnE {q : Nat → Bool} : ∀ m, tb_cn q m ≠ 0 → ∃ s, s < m ∧ q s = true
  | 0, h => absurd rfl h
  | m + 1, h => by
    cases e : q m with
    | true => exact ⟨m, by omega, e⟩
    | false =>
      rw [tb_cnF e] at h
      obtain ⟨s, hs, z⟩ := tb_cnE m h
      exact ⟨s, by omega, z⟩
theorem tb_cnO {q : Nat → Bool} {s : Nat} : ∀ m, s < m → q s = true → (∀ s', s' < m → q s' = true → s' = s) → tb_cn q m = 1
  | 0, h, _, _ => absurd h (by omega)
  | m + 1, h, hs, hu => by
    rcases Nat.lt_or_ge s m with z | z
    · have e : q m = false := by
        cases e : q m with
        | false => rfl
        | true =>
          have := hu m (by omega) e
          omega
      rw [tb_cnF e]
      exact tb_cnO m z hs (fun s' h' => hu s' (by omega))
    · have e : s = m := by omega
      subst e
      rw [tb_cnT hs, tb_cn0 s (fun i hi => by
        cases e : q i with
        | false => rfl
        | true =>
          have := hu i (by omega) e
          omega)]
/-- Y's check of a row -/
theorem tb_rdE {n : Nat} {d : Nat → Nat} (hn : 2 ≤ n) (h0 : d 0 = 0) : tb_pm n d ↔ ∀ v, 1 ≤ v → v < n → tb_cn (fun s => decide (d (s + 1) = v)) (n - 1) = 1 := by
  constructor
  · intro hp v h1 hv
    -- v stands somewhere: the row is onto
    have hl : (tb_ls d n).Perm (List.range n) := by
      refine (tb_pg (tb_ls d n) (List.range n) (tb_lsN hp.2) (fun x hx => ?_) (by rw [tb_lsL, List.length_range]; exact Nat.le_refl _)).symm
      obtain ⟨t, ht, rfl⟩ := tb_lsM.mp hx
      exact List.mem_range.mpr (hp.1 t ht)
    obtain ⟨t, ht, e⟩ := tb_lsM.mp (hl.mem_iff.mpr (List.mem_range.mpr hv))
    have t0 : t ≠ 0 := fun z => by
      rw [z, h0] at e
      omega
    refine tb_cnO (s := t - 1) (n - 1) (by omega) ?_ (fun s' hs' z => ?_)
    · have : t - 1 + 1 = t := by omega
      rw [decide_eq_true_iff, this]
      exact e
    · rw [decide_eq_true_iff] at z
      have := hp.2 (s' + 1) t (by omega) ht (z.trans e.symm)
      omega
  · intro H
    refine tb_pmS (fun v hv => ?_)
    rcases Nat.eq_zero_or_pos v with z | z
    · exact ⟨0, by omega, by rw [h0, z]⟩
    · obtain ⟨s, hs, e⟩ := tb_cnE (n - 1) (by rw [H v z hv]; decide)
      rw [decide_eq_true_iff] at e
      exact ⟨s + 1, by omega, e⟩
/-- a list with one entry taken out -/
theorem tb_eiL {l : List Nat} {i q : Nat} (h : q < i) : (l.eraseIdx i).getD q 0 = l.getD q 0 := by
  rw [List.getD_eq_getElem?_getD, List.getD_eq_getElem?_getD, List.getElem?_eraseIdx_of_lt h]
theorem tb_eiG {l : List Nat} {i q : Nat} (h : i ≤ q) : (l.eraseIdx i).getD q 0 = l.getD (q + 1) 0 := by
  rw [List.getD_eq_getElem?_getD, List.getD_eq_getElem?_getD, List.getElem?_eraseIdx_of_ge h]
end TBX
