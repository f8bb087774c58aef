-- what two rows have in one order
def lcRow (A B : Nat → Int32) (n m : Nat) (prev : Nat → Nat) (p : Nat) : Nat → Nat
  | 0 => 0
  | q + 1 => if A (n - (p + 1)) = B (m - (q + 1)) then prev q + 1 else max (prev (q + 1)) (lcRow A B n m prev p q)
def lcR (A B : Nat → Int32) (n m : Nat) : Nat → Nat → Nat
  | 0 => fun _ => 0
  | p + 1 => lcRow A B n m (lcR A B n m p) p
section
variable {A B : Nat → Int32} {n m : Nat}
theorem lcR_z1 (q : Nat) : lcR A B n m 0 q = 0 := rfl
theorem lcR_z2 (p : Nat) : lcR A B n m p 0 = 0 := by cases p <;> rfl
theorem lcR_s (p q : Nat) : lcR A B n m (p + 1) (q + 1) = if A (n - (p + 1)) = B (m - (q + 1)) then lcR A B n m p q + 1 else max (lcR A B n m p (q + 1)) (lcR A B n m (p + 1) q) := rfl
theorem lcR_4 : ∀ (s p q : Nat), p + q = s → lcR A B n m p q ≤ lcR A B n m (p + 1) q ∧ lcR A B n m p q ≤ lcR A B n m p (q + 1) ∧ lcR A B n m (p + 1) q ≤ lcR A B n m p q + 1 ∧ lcR A B n m p (q + 1) ≤ lcR A B n m p q + 1 := by
  intro s
  induction s using Nat.strongRecOn with
  | ind s ih =>
    intro p q hs
    refine ⟨?_, ?_, ?_, ?_⟩
    · cases q with
      | zero => rw [lcR_z2]; omega
      | succ q =>
        have h := ih (p + q) (by omega) p q rfl
        rw [lcR_s]
        split <;> omega
    · cases p with
      | zero => rw [lcR_z1]; omega
      | succ p =>
        have h := ih (p + q) (by omega) p q rfl
        rw [lcR_s]
        split <;> omega
    · cases q with
      | zero => rw [lcR_z2]; omega
      | succ q =>
        have h := ih (p + q) (by omega) p q rfl
        rw [lcR_s]
        split <;> omega
    · cases p with
      | zero => rw [lcR_z1]; omega
      | succ p =>
        have h := ih (p + q) (by omega) p q rfl
        rw [lcR_s]
        split <;> omega
theorem lcR_le : ∀ (p q : Nat), lcR A B n m p q ≤ p := by
  intro p
  induction p with
  | zero => intro q; rw [lcR_z1]; omega
  | succ p ih =>
    intro q
    have h := (lcR_4 (A := A) (B := B) (n := n) (m := m) (p + q) p q rfl).2.2.1
    have := ih q
    omega
theorem lcR_m1 (q : Nat) : ∀ k p, lcR A B n m p q ≤ lcR A B n m (p + k) q := by
  intro k
  induction k with
  | zero => intro p; exact Nat.le_refl _
  | succ k ih => intro p; exact Nat.le_trans (ih p) (lcR_4 (p + k + q) (p + k) q rfl).1
theorem lcR_m2 (p : Nat) : ∀ k q, lcR A B n m p q ≤ lcR A B n m p (q + k) := by
  intro k
  induction k with
  | zero => intro q; exact Nat.le_refl _
  | succ k ih => intro q; exact Nat.le_trans (ih q) (lcR_4 (p + (q + k)) p (q + k) rfl).2.1
end
/-- the longest in common from i and from j on -/
def lc (A B : Nat → Int32) (n m i j : Nat) : Nat := lcR A B n m (n - i) (m - j)
section
variable {A B : Nat → Int32} {n m : Nat}
theorem lc_z1 {i : Nat} (h : n ≤ i) (j : Nat) : lc A B n m i j = 0 := by
  unfold lc; rw [show n - i = 0 by omega]; rfl
theorem lc_z2 (i : Nat) {j : Nat} (h : m ≤ j) : lc A B n m i j = 0 := by
  unfold lc; rw [show m - j = 0 by omega, lcR_z2]
theorem lc_s {i j : Nat} (hi : i < n) (hj : j < m) : lc A B n m i j = if A i = B j then lc A B n m (i + 1) (j + 1) + 1 else max (lc A B n m (i + 1) j) (lc A B n m i (j + 1)) := by
  unfold lc
  obtain ⟨p, hp⟩ : ∃ p, n - i = p + 1 := ⟨n - i - 1, by omega⟩
  obtain ⟨q, hq⟩ : ∃ q, m - j = q + 1 := ⟨m - j - 1, by omega⟩
  rw [hp, hq, lcR_s, show n - (i + 1) = p by omega, show m - (j + 1) = q by omega, show n - (p + 1) = i by omega, show m - (q + 1) = j by omega]
theorem lc_le (i j : Nat) : lc A B n m i j ≤ n := Nat.le_trans (lcR_le _ _) (by omega)
theorem lc_mono {i i' j j' : Nat} (hi : i ≤ i') (hj : j ≤ j') : lc A B n m i' j' ≤ lc A B n m i j := by
  unfold lc
  have h1 := lcR_m1 (A := A) (B := B) (n := n) (m := m) (m - j') ((n - i) - (n - i')) (n - i')
  have h2 := lcR_m2 (A := A) (B := B) (n := n) (m := m) (n - i) ((m - j) - (m - j')) (m - j')
  rw [show n - i' + (n - i - (n - i')) = n - i by omega] at h1
  rw [show m - j' + (m - j - (m - j')) = m - j by omega] at h2
  exact Nat.le_trans h1 h2
theorem lc_up1 (i j : Nat) : lc A B n m i j ≤ lc A B n m (i + 1) j + 1 := by
  by_cases h : i < n
  · unfold lc
    have := (lcR_4 (A := A) (B := B) (n := n) (m := m) (n - (i + 1) + (m - j)) (n - (i + 1)) (m - j) rfl).2.2.1
    rw [show n - (i + 1) + 1 = n - i by omega] at this
    exact this
  · rw [lc_z1 (by omega)]; omega
theorem lc_up2 (i j : Nat) : lc A B n m i j ≤ lc A B n m i (j + 1) + 1 := by
  by_cases h : j < m
  · unfold lc
    have := (lcR_4 (A := A) (B := B) (n := n) (m := m) (n - i + (m - (j + 1))) (n - i) (m - (j + 1)) rfl).2.2.2
    rw [show m - (j + 1) + 1 = m - j by omega] at this
    exact this
  · rw [lc_z2 i (by omega)]; omega
theorem lc_max {i j : Nat} (hi : i < n) (hj : j < m) (he : A i = B j) : max (max (lc A B n m (i + 1) j) (lc A B n m i (j + 1))) (1 + lc A B n m (i + 1) (j + 1)) = lc A B n m i j := by
  rw [lc_s hi hj, if_pos he]
  have h1 := lc_up2 (A := A) (B := B) (n := n) (m := m) (i + 1) j
  have h2 := lc_up1 (A := A) (B := B) (n := n) (m := m) i (j + 1)
  omega
end
/-- the next place of a sign -/
def nxt (A : Nat → Int32) (s : Int32) : Nat → Nat → Nat
  | 0, i => i
  | k + 1, i => if A i = s then i else nxt A s k (i + 1)
def nx (A : Nat → Int32) (n : Nat) (s : Int32) (i : Nat) : Nat := nxt A s (n - i) i
theorem nx_n (A : Nat → Int32) (n : Nat) (s : Int32) : nx A n s n = n := by unfold nx; rw [Nat.sub_self]; rfl
theorem nx_s {A : Nat → Int32} {n : Nat} {s : Int32} {i : Nat} (h : i < n) : nx A n s i = if A i = s then i else nx A n s (i + 1) := by
  unfold nx
  obtain ⟨k, hk⟩ : ∃ k, n - i = k + 1 := ⟨n - i - 1, by omega⟩
  rw [hk, show n - (i + 1) = k by omega]
  rfl
theorem nx_p {A : Nat → Int32} {n : Nat} {s : Int32} : ∀ (k i : Nat), n - i = k → i ≤ n → i ≤ nx A n s i ∧ nx A n s i ≤ n ∧ (nx A n s i < n → A (nx A n s i) = s) := by
  intro k
  induction k with
  | zero =>
    intro i hk hi
    have : i = n := by omega
    subst this
    rw [nx_n]
    exact ⟨Nat.le_refl _, Nat.le_refl _, fun h => absurd h (Nat.lt_irrefl _)⟩
  | succ k ih =>
    intro i hk hi
    rw [nx_s (by omega)]
    by_cases h : A i = s
    · rw [if_pos h]; exact ⟨Nat.le_refl _, hi, fun _ => h⟩
    · rw [if_neg h]
      obtain ⟨a, b, c⟩ := ih (i + 1) (by omega) (by omega)
      exact ⟨by omega, b, c⟩
theorem nx_congr {A A' : Nat → Int32} {n : Nat} {s : Int32} (h : ∀ k, k < n → A k = A' k) : ∀ (k i : Nat), n - i = k → i ≤ n → nx A n s i = nx A' n s i := by
  intro k
  induction k with
  | zero =>
    intro i hk hi
    have : i = n := by omega
    subst this
    rw [nx_n, nx_n]
  | succ k ih =>
    intro i hk hi
    rw [nx_s (A := A) (i := i) (by omega), nx_s (A := A') (i := i) (by omega), h i (by omega), ih (i + 1) (by omega) (by omega)]
section
variable {A B : Nat → Int32} {n m : Nat}
/-- a sign with which the whole length is still met -/
def Gd (A B : Nat → Int32) (n m i j : Nat) (s : Int32) : Prop := nx A n s i < n ∧ nx B m s j < m ∧ lc A B n m (nx A n s i + 1) (nx B m s j + 1) + 1 = lc A B n m i j
theorem lc_ub {i j p q : Nat} (hi : i ≤ p) (hj : j ≤ q) (hp : p < n) (hq : q < m) (he : A p = B q) : lc A B n m (p + 1) (q + 1) + 1 ≤ lc A B n m i j := by
  have h1 := lc_s (A := A) (B := B) hp hq
  rw [if_pos he] at h1
  have h2 := lc_mono (A := A) (B := B) (n := n) (m := m) hi hj
  omega
theorem gd_ex : ∀ (k i j : Nat), (n - i) + (m - j) = k → i ≤ n → j ≤ m → 1 ≤ lc A B n m i j → ∃ p, p < n ∧ Gd A B n m i j (A p) := by
  intro k
  induction k using Nat.strongRecOn with
  | ind k ih =>
    intro i j hk hi hj h
    by_cases hin : i < n
    · by_cases hjm : j < m
      · by_cases he : A i = B j
        · refine ⟨i, hin, ?_⟩
          have n1 : nx A n (A i) i = i := by rw [nx_s hin, if_pos rfl]
          have n2 : nx B m (A i) j = j := by rw [nx_s hjm, if_pos he.symm]
          unfold Gd
          rw [n1, n2, lc_s hin hjm, if_pos he]
          exact ⟨hin, hjm, rfl⟩
        · have hs := lc_s (A := A) (B := B) hin hjm
          rw [if_neg he] at hs
          rcases (show lc A B n m i j = lc A B n m (i + 1) j ∨ lc A B n m i j = lc A B n m i (j + 1) by omega) with h1 | h1
          · obtain ⟨p, hp, g1, g2, g3⟩ := ih (n - (i + 1) + (m - j)) (by omega) (i + 1) j rfl (by omega) hj (by omega)
            refine ⟨p, hp, ?_⟩
            obtain ⟨b1, b2', b3⟩ := nx_p (A := A) (n := n) (s := A p) (n - (i + 1)) (i + 1) rfl (by omega)
            obtain ⟨d1, d2, d3⟩ := nx_p (A := B) (n := m) (s := A p) (m - j) j rfl (by omega)
            unfold Gd
            rw [nx_s hin]
            by_cases hq : A i = A p
            · rw [if_pos hq]
              have m1 := lc_mono (A := A) (B := B) (n := n) (m := m) (i := i + 1) (i' := nx A n (A p) (i + 1) + 1) (j := nx B m (A p) j + 1) (j' := nx B m (A p) j + 1) (by omega) (Nat.le_refl _)
              have m2 := lc_ub (A := A) (B := B) (n := n) (m := m) (i := i) (j := j) (p := i) (q := nx B m (A p) j) (Nat.le_refl _) d1 hin g2 (hq.trans (d3 g2).symm)
              exact ⟨hin, g2, by omega⟩
            · rw [if_neg hq]
              exact ⟨g1, g2, by omega⟩
          · obtain ⟨p, hp, g1, g2, g3⟩ := ih (n - i + (m - (j + 1))) (by omega) i (j + 1) rfl hi (by omega) (by omega)
            refine ⟨p, hp, ?_⟩
            obtain ⟨b1, b2', b3⟩ := nx_p (A := A) (n := n) (s := A p) (n - i) i rfl (by omega)
            obtain ⟨d1, d2, d3⟩ := nx_p (A := B) (n := m) (s := A p) (m - (j + 1)) (j + 1) rfl (by omega)
            unfold Gd
            rw [nx_s (A := B) hjm]
            by_cases hq : B j = A p
            · rw [if_pos hq]
              have m1 := lc_mono (A := A) (B := B) (n := n) (m := m) (i := nx A n (A p) i + 1) (i' := nx A n (A p) i + 1) (j := j + 1) (j' := nx B m (A p) (j + 1) + 1) (Nat.le_refl _) (by omega)
              have m2 := lc_ub (A := A) (B := B) (n := n) (m := m) (i := i) (j := j) (p := nx A n (A p) i) (q := j) b1 (Nat.le_refl _) g1 hjm ((b3 g1).trans hq.symm)
              exact ⟨g1, hjm, by omega⟩
            · rw [if_neg hq]
              exact ⟨g1, g2, by omega⟩
      · rw [lc_z2 i (by omega)] at h; omega
    · rw [lc_z1 (by omega)] at h; omega
/-- the least good sign -/
theorem gd_least {i j : Nat} (hi : i ≤ n) (hj : j ≤ m) (hA : ∀ k, k < n → ∃ r : Nat, r ≤ 5 ∧ A k = nI r) (h : 1 ≤ lc A B n m i j) : ∃ r : Nat, r ≤ 5 ∧ Gd A B n m i j (nI r) ∧ ∀ q, q < r → ¬ Gd A B n m i j (nI q) := by
  obtain ⟨p, hp, g⟩ := gd_ex _ i j rfl hi hj h
  obtain ⟨r, hr, e⟩ := hA p hp
  rw [e] at g
  obtain ⟨k, k1, k2⟩ := pk_least (fun k => Gd A B n m i j (nI k)) ⟨r, g⟩
  refine ⟨k, ?_, k1, k2⟩
  by_cases q : k ≤ r
  · omega
  · exact absurd g (k2 r (by omega))
end
