section TBF
/-! Roads by number, sums, codes, rows as functions -/
def tb_tr (a b : Nat) : Nat := if a < b then b * (b - 1) / 2 + a else a * (a - 1) / 2 + b
theorem tb_trC (a b : Nat) : tb_tr a b = tb_tr b a := by
  unfold tb_tr
  rcases Nat.lt_trichotomy a b with h | h | h
  · rw [if_pos h, if_neg (by omega)]
  · rw [h]
  · rw [if_neg (by omega), if_pos h]
theorem tb_trL : ∀ a, a < 7 → ∀ b, b < 7 → a ≠ b → tb_tr a b < 21 := by decide +kernel
def tb_trK (a b c d : Nat) : Bool := decide (a ≠ b ∧ c ≠ d ∧ tb_tr a b = tb_tr c d → (a = c ∧ b = d) ∨ (a = d ∧ b = c))
theorem tb_trI0 : ∀ a, a < 7 → ∀ b, b < 7 → ∀ c, c < 7 → ∀ d, d < 7 → tb_trK a b c d = true := by decide +kernel
theorem tb_trI (a : Nat) (ha : a < 7) (b : Nat) (hb : b < 7) (hab : a ≠ b) (c : Nat) (hc : c < 7) (d : Nat) (hd : d < 7) (hcd : c ≠ d) (e : tb_tr a b = tb_tr c d) : (a = c ∧ b = d) ∨ (a = d ∧ b = c) := of_decide_eq_true (tb_trI0 a ha b hb c hc d hd) ⟨hab, hcd, e⟩
theorem tb_trS : ∀ r, r < 21 → ∃ b, b < 7 ∧ ∃ a, a < b ∧ tb_tr a b = r := by decide +kernel
theorem tb_trN : ∀ n, n < 8 → ∀ b, b < n → ∀ a, a < n → a ≠ b → tb_tr a b < n * (n - 1) / 2 := by decide +kernel
theorem tb_trM : ∀ n, n < 8 → ∀ b, b < 7 → ∀ a, a < 7 → (a ≠ b ∧ (n ≤ a ∨ n ≤ b) → n * (n - 1) / 2 ≤ tb_tr a b) := by decide +kernel
theorem tb_fcV : ∀ n, n < 8 → tb_fc n ≤ 5040 ∧ (0 < n → tb_fc n = n * tb_fc (n - 1)) := by decide +kernel

def tb_sm (f : Nat → Nat) : Nat → Nat
  | 0 => 0
  | m + 1 => tb_sm f m + f m
theorem tb_smS (f : Nat → Nat) (m : Nat) : tb_sm f (m + 1) = tb_sm f m + f m := rfl
theorem tb_smG {f g : Nat → Nat} : ∀ m, (∀ t, t < m → f t = g t) → tb_sm f m = tb_sm g m
  | 0, _ => rfl
  | m + 1, h => by rw [tb_smS, tb_smS, h m (by omega), tb_smG m (fun t ht => h t (by omega))]
theorem tb_smF (f : Nat → Nat) : ∀ m, tb_sm f (m + 1) = f 0 + tb_sm (fun t => f (t + 1)) m
  | 0 => by rw [tb_smS]; exact Nat.add_comm _ _
  | m + 1 => by rw [tb_smS, tb_smF f m, tb_smS, Nat.add_assoc]
theorem tb_smR (f : Nat → Nat) : ∀ m, tb_sm (fun t => f (m - 1 - t)) m = tb_sm f m
  | 0 => rfl
  | m + 1 => by
    rw [tb_smF, tb_smS, ← tb_smR f m, Nat.add_comm]
    congr 1
    exact tb_smG m (fun t ht => by
      show f (m + 1 - 1 - (t + 1)) = f (m - 1 - t)
      congr 1
      omega)
theorem tb_smB {f : Nat → Nat} {c : Nat} : ∀ m, (∀ t, t < m → f t ≤ c) → tb_sm f m ≤ m * c
  | 0, _ => by rw [Nat.zero_mul]; exact Nat.le_refl _
  | m + 1, h => by
    have h1 := h m (by omega)
    have h2 := tb_smB m (fun t ht => h t (by omega))
    rw [tb_smS, Nat.succ_mul]
    omega

/-- the code of the first m digits of d -/
def tb_co (d : Nat → Nat) : Nat → Nat
  | 0 => 0
  | m + 1 => tb_co d m * 7 + d m
theorem tb_coS (d : Nat → Nat) (m : Nat) : tb_co d (m + 1) = tb_co d m * 7 + d m := rfl
theorem tb_coG {f g : Nat → Nat} : ∀ m, (∀ t, t < m → f t = g t) → tb_co f m = tb_co g m
  | 0, _ => rfl
  | m + 1, h => by rw [tb_coS, tb_coS, h m (by omega), tb_coG m (fun t ht => h t (by omega))]
theorem tb_coM {d : Nat → Nat} {m : Nat} (h : d m < 7) : tb_co d (m + 1) % 7 = d m := by
  rw [tb_coS]
  omega
theorem tb_coD {d : Nat → Nat} {m : Nat} (h : d m < 7) : tb_co d (m + 1) / 7 = tb_co d m := by
  rw [tb_coS]
  omega
theorem tb_coB {d : Nat → Nat} : ∀ m, (∀ t, t < m → d t < 7) → tb_co d m < 7 ^ m
  | 0, _ => Nat.one_pos
  | m + 1, h => by
    have h1 := h m (by omega)
    have h2 := tb_coB m (fun t ht => h t (by omega))
    rw [tb_coS, Nat.pow_succ]
    omega
theorem tb_coI {d e : Nat → Nat} : ∀ m, (∀ t, t < m → d t < 7) → (∀ t, t < m → e t < 7) → tb_co d m = tb_co e m → ∀ t, t < m → d t = e t
  | 0, _, _, _, t, ht => absurd ht (by omega)
  | m + 1, hd, he, h, t, ht => by
    have h1 := hd m (by omega)
    have h2 := he m (by omega)
    rw [tb_coS, tb_coS] at h
    have ih := tb_coI m (fun t ht => hd t (by omega)) (fun t ht => he t (by omega)) (by omega)
    rcases Nat.lt_or_ge t m with z | z
    · exact ih t z
    · have : t = m := by omega
      subst this
      omega
theorem tb_coL : ∀ (l : List Nat), tb_cd l = tb_co (fun t => l.getD (l.length - 1 - t) 0) l.length
  | [] => rfl
  | x :: r => by
    show tb_cd r * 7 + x = tb_co _ (r.length + 1)
    rw [tb_coS, tb_coL r]
    have e1 : (x :: r).getD ((x :: r).length - 1 - r.length) 0 = x := by
      have : (x :: r).length - 1 - r.length = 0 := by rw [List.length_cons]; omega
      rw [this]
      rfl
    rw [e1]
    congr 2
    exact tb_coG _ (fun t ht => by
      have : (x :: r).length - 1 - t = (r.length - 1 - t) + 1 := by rw [List.length_cons]; omega
      rw [this]
      rfl)

/-! a row: each of the n towns once -/
def tb_pm (n : Nat) (d : Nat → Nat) : Prop := (∀ t, t < n → d t < n) ∧ ∀ s t, s < n → t < n → d s = d t → s = t
theorem tb_pmR {n : Nat} {d : Nat → Nat} (h : tb_pm n d) : tb_pm n (fun t => d (n - 1 - t)) :=
  ⟨fun t ht => h.1 _ (by omega), fun s t hs ht e => by
    have := h.2 (n - 1 - s) (n - 1 - t) (by omega) (by omega) e
    omega⟩
theorem tb_pmG {n : Nat} {d e : Nat → Nat} (h : tb_pm n d) (g : ∀ t, t < n → d t = e t) : tb_pm n e :=
  ⟨fun t ht => by rw [← g t ht]; exact h.1 t ht, fun s t hs ht z => h.2 s t hs ht (by rw [g s hs, g t ht]; exact z)⟩
/-- as many as there are, and all of them: a row of them -/
theorem tb_pg : ∀ (l e : List Nat), l.Nodup → (∀ x, x ∈ l → x ∈ e) → e.length ≤ l.length → e.Perm l
  | [], e, _, _, h => by
    rw [List.eq_nil_of_length_eq_zero (Nat.le_zero.mp h)]
  | x :: l, e, hn, hs, h => by
    have hx : x ∈ e := hs x List.mem_cons_self
    have hn2 := List.nodup_cons.mp hn
    have p := List.perm_cons_erase hx
    refine p.trans ((tb_pg l (e.erase x) hn2.2 ?_ ?_).cons x)
    · intro y hy
      have hxy : y ≠ x := fun z => hn2.1 (z ▸ hy)
      exact (List.mem_erase_of_ne hxy).mpr (hs y (List.mem_cons_of_mem x hy))
    · rw [List.length_erase_of_mem hx]
      rw [List.length_cons] at h
      omega
theorem tb_gI {l : List Nat} {i : Nat} (h : i < l.length) : l.getD i 0 = l[i] := by
  rw [List.getD_eq_getElem?_getD, List.getElem?_eq_getElem h, Option.getD_some]
/-- the list of a function's first values -/
def tb_ls (d : Nat → Nat) (m : Nat) : List Nat := (List.range m).map d
theorem tb_lsL (d : Nat → Nat) (m : Nat) : (tb_ls d m).length = m := by
  unfold tb_ls
  rw [List.length_map, List.length_range]
theorem tb_lsG (d : Nat → Nat) {m t : Nat} (h : t < m) : (tb_ls d m).getD t 0 = d t := by
  unfold tb_ls
  rw [List.getD_eq_getElem?_getD, List.getElem?_map, List.getElem?_range h]
  rfl
theorem tb_lsM {d : Nat → Nat} {m x : Nat} : x ∈ tb_ls d m ↔ ∃ t, t < m ∧ d t = x := by
  unfold tb_ls
  rw [List.mem_map]
  constructor
  · rintro ⟨t, h1, h2⟩
    exact ⟨t, List.mem_range.mp h1, h2⟩
  · rintro ⟨t, h1, h2⟩
    exact ⟨t, List.mem_range.mpr h1, h2⟩
theorem tb_lsN {d : Nat → Nat} {m : Nat} (h : ∀ s t, s < m → t < m → d s = d t → s = t) : (tb_ls d m).Nodup := by
  rw [List.nodup_iff_pairwise_ne, List.pairwise_iff_getElem]
  intro i j hi hj hij
  rw [tb_lsL] at hi hj
  have e1 := tb_lsG d hi
  have e2 := tb_lsG d hj
  rw [tb_gI (by rw [tb_lsL]; exact hi)] at e1
  rw [tb_gI (by rw [tb_lsL]; exact hj)] at e2
  rw [e1, e2]
  intro z
  have := h i j hi hj z
  omega
/-- all towns are there: a row -/
theorem tb_pmS {n : Nat} {d : Nat → Nat} (h : ∀ v, v < n → ∃ t, t < n ∧ d t = v) : tb_pm n d := by
  have p : (tb_ls d n).Perm (List.range n) := tb_pg (List.range n) (tb_ls d n) List.nodup_range (fun x hx => tb_lsM.mpr (h x (List.mem_range.mp hx))) (by rw [tb_lsL, List.length_range]; exact Nat.le_refl _)
  have hN : (tb_ls d n).Nodup := p.nodup_iff.mpr List.nodup_range
  refine ⟨fun t ht => ?_, fun s t hs ht e => ?_⟩
  · exact List.mem_range.mp (p.mem_iff.mp (tb_lsM.mpr ⟨t, ht, rfl⟩))
  · rw [← tb_lsG d hs, ← tb_lsG d ht] at e
    exact (List.getD_inj (by rw [tb_lsL]; exact hs) (by rw [tb_lsL]; exact ht) hN).mp e
/-- X's row j -/
def tb_D (n j t : Nat) : Nat := (tb_px n n j).getD (n - 1 - t) 0
theorem tb_Dc (n j : Nat) : tb_cd (tb_px n n j) = tb_co (tb_D n j) n := by
  have hl := (tb_pxF (n := n) n j (Nat.le_refl n)).1
  rw [tb_coL, hl]
  rfl
theorem tb_Dp (n j : Nat) : tb_pm n (tb_D n j) := by
  obtain ⟨h1, h2, h3, _⟩ := tb_pxF (n := n) n j (Nat.le_refl n)
  refine ⟨fun t ht => ?_, fun s t hs ht e => ?_⟩
  · exact h3 _ (tb_gM (by rw [h1]; omega))
  · have := (List.getD_inj (by rw [h1]; omega) (by rw [h1]; omega) h2).mp e
    omega
/-- row a (n-1)! + k: town a, then the k-th order of the others -/
theorem tb_px1 {n a : Nat} (h : a < n) : tb_px n 1 a = [a] := by
  rw [tb_pxS]
  have e0 : tb_px n 0 (a / (n - 0)) = [] := rfl
  rw [e0, tb_un0]
  have : a % (n - 0) = a := Nat.mod_eq_of_lt (by omega)
  rw [this, tb_gI (by rw [List.length_range]; exact h), List.getElem_range]
theorem tb_DA {n a k : Nat} (ha : a < n) (hk : k < tb_fc (n - 1)) : tb_D n (a * tb_fc (n - 1) + k) 0 = a ∧ ∀ t, t + 1 < n → tb_D n (a * tb_fc (n - 1) + k) (t + 1) = (tb_ar (n - 1) k (tb_un n [a])).getD t 0 := by
  have h := tb_pxA (n := n) (n - 1) 1 a k (by omega) hk
  rw [tb_px1 ha] at h
  have hl : (tb_ar (n - 1) k (tb_un n [a])).length = n - 1 := tb_arL _ _ _
  have hr : (tb_ar (n - 1) k (tb_un n [a])).reverse.length = n - 1 := by rw [List.length_reverse, hl]
  refine ⟨?_, fun t ht => ?_⟩
  · unfold tb_D
    rw [h, List.getD_eq_getElem?_getD, List.getElem?_append_right (by rw [hr]; omega), hr]
    have : n - 1 - 0 - (n - 1) = 0 := by omega
    rw [this]
    rfl
  · unfold tb_D
    rw [h, List.getD_eq_getElem?_getD, List.getElem?_append_left (by rw [hr]; omega), List.getElem?_reverse (by rw [hl]; omega), hl, List.getD_eq_getElem?_getD]
    congr 2
    omega
theorem tb_unL {n a : Nat} (ha : a < n) : (tb_un n [a]).length = n - 1 := by
  have := (tb_pxF (n := n) 1 a (by omega)).2.2.2
  rw [tb_px1 ha] at this
  exact this
theorem tb_unL2 {n a b : Nat} (ha : a < n) (hb : b < n) (hab : a ≠ b) : (tb_un n [a, b]).length = n - 2 := by
  rw [tb_unE, List.length_erase_of_mem (tb_unM.mpr ⟨ha, by simpa using hab⟩), tb_unL hb]
  omega
/-- every row that begins with a is one of X's rows for a -/
theorem tb_DE {n : Nat} {d : Nat → Nat} (hn : 0 < n) (h : tb_pm n d) : ∃ k, k < tb_fc (n - 1) ∧ ∀ t, t < n → tb_D n (d 0 * tb_fc (n - 1) + k) t = d t := by
  have h0 := h.1 0 hn
  have p : (tb_ls (fun t => d (t + 1)) (n - 1)).Perm (tb_un n [d 0]) := by
    refine (tb_pg _ _ (tb_lsN ?_) ?_ ?_).symm
    · intro s t hs ht e
      have := h.2 (s + 1) (t + 1) (by omega) (by omega) e
      omega
    · intro x hx
      obtain ⟨t, ht, rfl⟩ := tb_lsM.mp hx
      refine tb_unM.mpr ⟨h.1 _ (by omega), ?_⟩
      rw [List.mem_singleton]
      intro z
      have := h.2 (t + 1) 0 (by omega) hn z
      omega
    · rw [tb_lsL, tb_unL h0]
      exact Nat.le_refl _
  obtain ⟨k, hk, e⟩ := tb_arC (n - 1) _ _ (tb_unL h0) p
  refine ⟨k, hk, fun t ht => ?_⟩
  obtain ⟨a1, a2⟩ := tb_DA h0 hk
  cases t with
  | zero => exact a1
  | succ t => rw [a2 t ht, e, tb_lsG _ (by omega)]
/-- Y's rows from a to b -/
def tb_R (n a b k t : Nat) : Nat := if t = 0 then a else if t = n - 1 then b else (tb_ar (n - 2) k (tb_un n [a, b])).getD (t - 1) 0
theorem tb_Rp {n a b k : Nat} (ha : a < n) (hb : b < n) (hab : a ≠ b) (hk : k < tb_fc (n - 2)) : tb_pm n (tb_R n a b k) := by
  have p := tb_arP (n - 2) k (tb_un n [a, b]) (tb_unL2 ha hb hab) hk
  refine tb_pmS (fun v hv => ?_)
  by_cases h1 : v = a
  · exact ⟨0, by omega, by rw [h1]; rfl⟩
  · by_cases h2 : v = b
    · refine ⟨n - 1, by omega, ?_⟩
      unfold tb_R
      rw [if_neg (by omega), if_pos rfl, h2]
    · have hm : v ∈ tb_ar (n - 2) k (tb_un n [a, b]) := p.mem_iff.mpr (tb_unM.mpr ⟨hv, by simp [h1, h2]⟩)
      obtain ⟨i, hi, e⟩ := List.getElem_of_mem hm
      have hi2 : i < n - 2 := by
        have := tb_arL (n - 2) k (tb_un n [a, b])
        omega
      refine ⟨i + 1, by omega, ?_⟩
      unfold tb_R
      rw [if_neg (by omega), if_neg (by omega), Nat.add_sub_cancel, tb_gI hi, e]
theorem tb_RE {n : Nat} {d : Nat → Nat} (hn : 2 ≤ n) (h : tb_pm n d) : ∃ k, k < tb_fc (n - 2) ∧ ∀ t, t < n → tb_R n (d 0) (d (n - 1)) k t = d t := by
  have h0 := h.1 0 (by omega)
  have h1 := h.1 (n - 1) (by omega)
  have hab : d 0 ≠ d (n - 1) := fun z => by
    have := h.2 0 (n - 1) (by omega) (by omega) z
    omega
  have p : (tb_ls (fun t => d (t + 1)) (n - 2)).Perm (tb_un n [d 0, d (n - 1)]) := by
    refine (tb_pg _ _ (tb_lsN ?_) ?_ ?_).symm
    · intro s t hs ht e
      have := h.2 (s + 1) (t + 1) (by omega) (by omega) e
      omega
    · intro x hx
      obtain ⟨t, ht, rfl⟩ := tb_lsM.mp hx
      refine tb_unM.mpr ⟨h.1 _ (by omega), ?_⟩
      intro z
      rcases List.mem_cons.mp z with z | z
      · have := h.2 (t + 1) 0 (by omega) (by omega) z
        omega
      · rw [List.mem_singleton] at z
        have := h.2 (t + 1) (n - 1) (by omega) (by omega) z
        omega
    · rw [tb_lsL, tb_unL2 h0 h1 hab]
      exact Nat.le_refl _
  obtain ⟨k, hk, e⟩ := tb_arC (n - 2) _ _ (tb_unL2 h0 h1 hab) p
  refine ⟨k, hk, fun t ht => ?_⟩
  unfold tb_R
  by_cases z : t = 0
  · rw [if_pos z, z]
  · rw [if_neg z]
    by_cases z2 : t = n - 1
    · rw [if_pos z2, z2]
    · rw [if_neg z2, e, tb_lsG _ (by omega)]
      show d (t - 1 + 1) = d t
      congr 1
      omega
end TBF
