section TBP
/-! The orders of a list by number (tb_ar), and the prefixes that X's constructor builds (tb_px, reversed lists) -/
def tb_fc : Nat → Nat
  | 0 => 1
  | m + 1 => (m + 1) * tb_fc m
theorem tb_fcp : ∀ m, 0 < tb_fc m
  | 0 => Nat.one_pos
  | m + 1 => Nat.mul_pos (Nat.succ_pos m) (tb_fcp m)
def tb_ar : Nat → Nat → List Nat → List Nat
  | 0, _, _ => []
  | m + 1, k, l => l.getD (k / tb_fc m) 0 :: tb_ar m (k % tb_fc m) (l.eraseIdx (k / tb_fc m))
theorem tb_arS (m k : Nat) (l : List Nat) : tb_ar (m + 1) k l = l.getD (k / tb_fc m) 0 :: tb_ar m (k % tb_fc m) (l.eraseIdx (k / tb_fc m)) := rfl
theorem tb_arL : ∀ (m k : Nat) (l : List Nat), (tb_ar m k l).length = m
  | 0, _, _ => rfl
  | m + 1, _, _ => congrArg (· + 1) (tb_arL m _ _)
theorem tb_qlt {m k : Nat} (h : k < tb_fc (m + 1)) : k / tb_fc m < m + 1 := (Nat.div_lt_iff_lt_mul (tb_fcp m)).mpr h
theorem tb_gp : ∀ (l : List Nat) (i : Nat), i < l.length → (l.getD i 0 :: l.eraseIdx i).Perm l
  | [], i, h => absurd h (Nat.not_lt_zero i)
  | _ :: _, 0, _ => List.Perm.refl _
  | x :: t, i + 1, h => (List.Perm.swap x (t.getD i 0) (t.eraseIdx i)).trans ((tb_gp t i (Nat.lt_of_succ_lt_succ h)).cons x)
theorem tb_arP : ∀ (m k : Nat) (l : List Nat), l.length = m → k < tb_fc m → (tb_ar m k l).Perm l := by
  intro m
  induction m with
  | zero =>
    intro k l hl _
    rw [List.eq_nil_of_length_eq_zero hl]
    exact List.Perm.refl _
  | succ m ih =>
    intro k l hl hk
    have hq := tb_qlt hk
    rw [tb_arS]
    refine ((ih _ _ ?_ (Nat.mod_lt _ (tb_fcp m))).cons _).trans (tb_gp l _ (by omega))
    rw [List.length_eraseIdx_of_lt (by omega)]
    omega
theorem tb_arC : ∀ (m : Nat) (e l : List Nat), l.length = m → e.Perm l → ∃ k, k < tb_fc m ∧ tb_ar m k l = e := by
  intro m
  induction m with
  | zero =>
    intro e l hl hp
    rw [List.eq_nil_of_length_eq_zero hl] at hp
    exact ⟨0, Nat.one_pos, hp.eq_nil.symm⟩
  | succ m ih =>
    intro e l hl hp
    cases e with
    | nil =>
      have := hp.length_eq
      rw [hl] at this
      exact absurd this (by simp)
    | cons x e =>
      have hx : x ∈ l := hp.mem_iff.mp List.mem_cons_self
      have hq : l.idxOf x < l.length := List.idxOf_lt_length_of_mem hx
      have hg : l.getD (l.idxOf x) 0 = x := by
        rw [List.getD_eq_getElem?_getD, List.getElem?_eq_getElem hq, Option.getD_some]
        exact List.getElem_idxOf hq
      have he : l.erase x = l.eraseIdx (l.idxOf x) := List.erase_eq_eraseIdx_of_idxOf rfl
      have hp2 : e.Perm (l.eraseIdx (l.idxOf x)) := by
        rw [← he]
        exact List.Perm.cons_inv (hp.trans (List.perm_cons_erase hx))
      obtain ⟨k, hk, ek⟩ := ih e _ (by rw [List.length_eraseIdx_of_lt hq]; omega) hp2
      refine ⟨tb_fc m * l.idxOf x + k, ?_, ?_⟩
      · have h1 : tb_fc m * (l.idxOf x + 1) ≤ tb_fc m * (m + 1) := Nat.mul_le_mul_left _ (by omega)
        have h2 : tb_fc m * (l.idxOf x + 1) = tb_fc m * l.idxOf x + tb_fc m := Nat.mul_succ _ _
        show _ < (m + 1) * tb_fc m
        rw [Nat.mul_comm (m + 1)]
        omega
      · rw [tb_arS, Nat.mul_add_div (tb_fcp m), Nat.div_eq_of_lt hk, Nat.add_zero, Nat.mul_add_mod, Nat.mod_eq_of_lt hk, hg, ek]

/-! the towns that a prefix lacks -/
def tb_un (n : Nat) (p : List Nat) : List Nat := (List.range n).filter (fun t => decide (t ∉ p))
theorem tb_unN (n : Nat) (p : List Nat) : (tb_un n p).Nodup := List.Pairwise.filter _ List.nodup_range
theorem tb_unM {n t : Nat} {p : List Nat} : t ∈ tb_un n p ↔ t < n ∧ t ∉ p := by
  unfold tb_un
  rw [List.mem_filter, List.mem_range, decide_eq_true_iff]
theorem tb_un0 (n : Nat) : tb_un n [] = List.range n := by
  unfold tb_un
  exact List.filter_eq_self.mpr (by simp)
theorem tb_unE {n x : Nat} {p : List Nat} : tb_un n (x :: p) = (tb_un n p).erase x := by
  rw [(tb_unN n p).erase_eq_filter]
  unfold tb_un
  rw [List.filter_filter]
  congr 1
  funext t
  by_cases h1 : t = x <;> by_cases h2 : t ∈ p <;> simp [h1, h2]
theorem tb_gE {l : List Nat} (h : l.Nodup) {q : Nat} (hq : q < l.length) : l.erase (l.getD q 0) = l.eraseIdx q := by
  have e : l.getD q 0 = l[q] := by
    rw [List.getD_eq_getElem?_getD, List.getElem?_eq_getElem hq, Option.getD_some]
  rw [e]
  exact List.erase_eq_eraseIdx_of_idxOf (h.idxOf_getElem q hq)
def tb_px (n : Nat) : Nat → Nat → List Nat
  | 0, _ => []
  | L + 1, j => (tb_un n (tb_px n L (j / (n - L)))).getD (j % (n - L)) 0 :: tb_px n L (j / (n - L))
theorem tb_pxS (n L j : Nat) : tb_px n (L + 1) j = (tb_un n (tb_px n L (j / (n - L)))).getD (j % (n - L)) 0 :: tb_px n L (j / (n - L)) := rfl
theorem tb_gM {l : List Nat} {q : Nat} (hq : q < l.length) : l.getD q 0 ∈ l := by
  rw [List.getD_eq_getElem?_getD, List.getElem?_eq_getElem hq, Option.getD_some]
  exact List.getElem_mem hq
/-- a prefix: L towns, each once; n - L are lacking -/
theorem tb_pxF {n : Nat} : ∀ (L j : Nat), L ≤ n → (tb_px n L j).length = L ∧ (tb_px n L j).Nodup ∧ (∀ t ∈ tb_px n L j, t < n) ∧ (tb_un n (tb_px n L j)).length = n - L := by
  intro L
  induction L with
  | zero =>
    intro j _
    refine ⟨rfl, List.nodup_nil, by simp [tb_px], ?_⟩
    show (tb_un n []).length = n - 0
    rw [tb_un0, List.length_range]
    omega
  | succ L ih =>
    intro j hL
    obtain ⟨h1, h2, h3, h4⟩ := ih (j / (n - L)) (by omega)
    have hq : j % (n - L) < (tb_un n (tb_px n L (j / (n - L)))).length := by
      rw [h4]
      exact Nat.mod_lt _ (by omega)
    have hm := tb_unM.mp (tb_gM hq)
    rw [tb_pxS]
    refine ⟨by rw [List.length_cons, h1], List.nodup_cons.mpr ⟨hm.2, h2⟩, ?_, ?_⟩
    · intro t ht
      rcases List.mem_cons.mp ht with rfl | ht
      · exact hm.1
      · exact h3 t ht
    · rw [tb_unE, tb_gE (tb_unN _ _) hq, List.length_eraseIdx_of_lt hq, h4]
      omega
/-- the rows of full length: the prefix, then the orders of what it lacks -/
theorem tb_pxA {n : Nat} : ∀ (m L i k : Nat), L + m = n → k < tb_fc m → tb_px n n (i * tb_fc m + k) = (tb_ar m k (tb_un n (tb_px n L i))).reverse ++ tb_px n L i := by
  intro m
  induction m with
  | zero =>
    intro L i k h hk
    have hL : L = n := by omega
    subst hL
    have hk0 : k = 0 := by
      have : k < 1 := hk
      omega
    subst hk0
    simp [tb_fc, tb_ar]
  | succ m ih =>
    intro L i k h hk
    have hq := tb_qlt hk
    have hnL : n - L = m + 1 := by omega
    obtain ⟨_, _, _, h4⟩ := tb_pxF (n := n) L i (by omega)
    have e1 : i * tb_fc (m + 1) + k = (i * (m + 1) + k / tb_fc m) * tb_fc m + k % tb_fc m := by
      have := Nat.div_add_mod' k (tb_fc m)
      have h2 : i * tb_fc (m + 1) = i * (m + 1) * tb_fc m := (Nat.mul_assoc i (m + 1) (tb_fc m)).symm
      rw [h2, Nat.add_mul (i * (m + 1)) (k / tb_fc m) (tb_fc m)]
      omega
    have e2 : tb_px n (L + 1) (i * (m + 1) + k / tb_fc m) = (tb_un n (tb_px n L i)).getD (k / tb_fc m) 0 :: tb_px n L i := by
      rw [tb_pxS, hnL, Nat.mul_comm i, Nat.mul_add_div (Nat.succ_pos m), Nat.mul_add_mod, Nat.div_eq_of_lt hq, Nat.mod_eq_of_lt hq, Nat.add_zero]
    rw [e1, ih (L + 1) _ _ (by omega) (Nat.mod_lt _ (tb_fcp m)), e2, tb_unE, tb_gE (tb_unN _ _) (by omega), tb_arS, List.reverse_cons, List.append_assoc]
    rfl
/-- the code of a reversed list -/
def tb_cd : List Nat → Nat
  | [] => 0
  | d :: r => tb_cd r * 7 + d
theorem tb_cdM {d : Nat} {r : List Nat} (h : d < 7) : tb_cd (d :: r) % 7 = d := by
  show (tb_cd r * 7 + d) % 7 = d
  omega
theorem tb_cdD {d : Nat} {r : List Nat} (h : d < 7) : tb_cd (d :: r) / 7 = tb_cd r := by
  show (tb_cd r * 7 + d) / 7 = tb_cd r
  omega
theorem tb_cdB : ∀ (r : List Nat), (∀ t ∈ r, t < 7) → tb_cd r < 7 ^ r.length
  | [], _ => Nat.one_pos
  | d :: r, h => by
    have h1 := h d List.mem_cons_self
    have h2 := tb_cdB r (fun t ht => h t (List.mem_cons_of_mem d ht))
    show tb_cd r * 7 + d < 7 ^ (r.length + 1)
    rw [Nat.pow_succ]
    omega
theorem tb_cdI : ∀ (r s : List Nat), r.length = s.length → (∀ t ∈ r, t < 7) → (∀ t ∈ s, t < 7) → tb_cd r = tb_cd s → r = s
  | [], [], _, _, _, _ => rfl
  | [], _ :: _, h, _, _, _ => absurd h (by simp)
  | _ :: _, [], h, _, _, _ => absurd h (by simp)
  | d :: r, e :: s, h, hr, hs, he => by
    have h1 := hr d List.mem_cons_self
    have h2 := hs e List.mem_cons_self
    have he : tb_cd r * 7 + d = tb_cd s * 7 + e := he
    have e1 : d = e := by omega
    have e2 : tb_cd r = tb_cd s := by omega
    rw [e1, tb_cdI r s (by simpa using h) (fun t ht => hr t (List.mem_cons_of_mem _ ht)) (fun t ht => hs t (List.mem_cons_of_mem _ ht)) e2]
end TBP
