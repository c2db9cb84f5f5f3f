section TBR
/-! the constructor's rows, level by level -/
def tb_ct (n : Nat) : Nat → Nat
  | 0 => 1
  | L + 1 => tb_ct n L * (n - L)
theorem tb_ctV : ∀ n, n < 8 → 2 ≤ n → tb_ct n n = tb_fc n ∧ tb_ct n n / n = tb_fc (n - 1) := by decide +kernel
theorem tb_ctB : ∀ n, n < 8 → ∀ L, L < n + 1 → tb_ct n L ≤ 5040 ∧ 0 < tb_ct n L := by decide +kernel
theorem tb_unS (n : Nat) (p : List Nat) : tb_un (n + 1) p = if n ∈ p then tb_un n p else tb_un n p ++ [n] := by
  unfold tb_un
  rw [List.range_succ, List.filter_append]
  by_cases h : n ∈ p <;> simp [h]
/-- how many towns below t the row p lacks -/
def tb_lk (p : List Nat) (t : Nat) : Nat := tb_cn (fun t => decide (t ∉ p)) t
theorem tb_lk0 (p : List Nat) : tb_lk p 0 = 0 := rfl
theorem tb_lkI {p : List Nat} {t : Nat} (h : t ∈ p) : tb_lk p (t + 1) = tb_lk p t := tb_cnF (by simp [h])
theorem tb_lkO {p : List Nat} {t : Nat} (h : t ∉ p) : tb_lk p (t + 1) = tb_lk p t + 1 := tb_cnT (by simp [h])
theorem tb_lkN (p : List Nat) : ∀ n, (tb_un n p).length = tb_lk p n
  | 0 => rfl
  | n + 1 => by
    rw [tb_unS]
    by_cases h : n ∈ p
    · rw [if_pos h, tb_lkI h, tb_lkN p n]
    · rw [if_neg h, tb_lkO h, List.length_append, tb_lkN p n]
      rfl
theorem tb_lkG (p : List Nat) {t : Nat} (h : t ∉ p) : ∀ n, t < n → (tb_un n p).getD (tb_lk p t) 0 = t
  | 0, z => absurd z (by omega)
  | n + 1, z => by
    rw [tb_unS]
    rcases Nat.lt_or_ge t n with z2 | z2
    · have ih := tb_lkG p h n z2
      by_cases hn : n ∈ p
      · rw [if_pos hn]
        exact ih
      · rw [if_neg hn, List.getD_eq_getElem?_getD, List.getElem?_append_left ?_, ← List.getD_eq_getElem?_getD]
        · exact ih
        · rw [tb_lkN]
          have h1 := tb_lkO h
          have h2 : ∀ m, tb_lk p (t + 1) ≤ tb_lk p (t + 1 + m) := by
            intro m
            induction m with
            | zero => exact Nat.le_refl _
            | succ m ih =>
              refine Nat.le_trans ih ?_
              show _ ≤ tb_lk p (t + 1 + m + 1)
              by_cases hm : t + 1 + m ∈ p
              · rw [tb_lkI hm]
                exact Nat.le_refl _
              · rw [tb_lkO hm]
                omega
          have h3 := h2 (n - (t + 1))
          have h4 : t + 1 + (n - (t + 1)) = n := by omega
          rw [h4] at h3
          omega
    · have e : t = n := by omega
      subst e
      rw [if_neg h, List.getD_eq_getElem?_getD, List.getElem?_append_right (by rw [tb_lkN]; exact Nat.le_refl _), tb_lkN, Nat.sub_self]
      rfl
theorem tb_lkL (p : List Nat) (t : Nat) : tb_lk p t ≤ t := tb_cnL _ t
/-- the new row behind row i, town t -/
theorem tb_pxN {n L i t : Nat} (hL : L < n) (ht : t < n) (h : t ∉ tb_px n L i) (hq : tb_lk (tb_px n L i) t < n - L) : tb_px n (L + 1) (i * (n - L) + tb_lk (tb_px n L i) t) = t :: tb_px n L i := by
  have e1 : (i * (n - L) + tb_lk (tb_px n L i) t) / (n - L) = i := by
    rw [Nat.mul_comm, Nat.mul_add_div (by omega), Nat.div_eq_of_lt hq, Nat.add_zero]
  have e2 : (i * (n - L) + tb_lk (tb_px n L i) t) % (n - L) = tb_lk (tb_px n L i) t := by
    rw [Nat.mul_comm, Nat.mul_add_mod, Nat.mod_eq_of_lt hq]
  rw [tb_pxS, e1, e2, tb_lkG _ h n ht]
theorem tb_lkE {n L i : Nat} (hL : L ≤ n) : tb_lk (tb_px n L i) n = n - L := by
  rw [← tb_lkN]
  exact (tb_pxF (n := n) L i hL).2.2.2
end TBR
