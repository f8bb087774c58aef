-- the tables of what two rows have in one order; inCommon
def dn : Nat → Int32
  | 0 => -1
  | i + 1 => nI i
theorem dn_m1 (i : Nat) : nI i + (-1) = dn i := by
  cases i with
  | zero => decide
  | succ i => exact pk_m1 i
/-- a loop downwards -/
theorem dloop {A R : Type} (L : Nat → Int32 → A → R) (I : Nat → A → Prop) (Q : R → Prop) (n : Nat)
    (hx : ∀ N a, I 0 a → Q (L (N + 1) (-1) a)) (hs : ∀ N i a, i < n → I (i + 1) a → ∃ a', L (N + 1) (nI i) a = L N (dn i) a' ∧ I i a') : ∀ (i N : Nat) (a : A), i ≤ n → i < N → I i a → Q (L N (dn i) a) := by
  intro i
  induction i with
  | zero =>
    intro N a _ h1 hI
    obtain ⟨N, rfl⟩ : ∃ M, N = M + 1 := ⟨N - 1, by omega⟩
    exact hx N a hI
  | succ i ih =>
    intro N a hn h1 hI
    obtain ⟨N, rfl⟩ : ∃ M, N = M + 1 := ⟨N - 1, by omega⟩
    obtain ⟨a', e, h⟩ := hs N i a (by omega) hI
    show Q (L (N + 1) (nI i) a)
    rw [e]
    exact ih N a' (by omega) (by omega) h
def Tb (A B : Nat → Int32) (n m : Nat) (T : Nat → Int32) (i j : Nat) : Prop := ∀ p q, p ≤ n → q ≤ m → (i < p ∨ (p = i ∧ j ≤ q)) → T (61 * p + q) = nI (lc A B n m p q)
/-- the whole table -/
def TbA (A B : Nat → Int32) (n m : Nat) (T : Nat → Int32) : Prop := ∀ p q, p ≤ n → q ≤ m → T (61 * p + q) = nI (lc A B n m p q)
theorem byt : ∀ v, v < 128 → (nI v).toInt8.toInt32 = nI v := by decide +kernel
section
variable {A B : Nat → Int32} {n m : Nat}
theorem Tb.up {T : Nat → Int32} {i j : Nat} (h : Tb A B n m T i (j + 1)) (hm : m ≤ 60) (hj : j ≤ m) : Tb A B n m (upd T (61 * i + j) (nI (lc A B n m i j))) i j := by
  intro p q hp hq hh
  by_cases e : 61 * p + q = 61 * i + j
  · have e1 : p = i := by omega
    have e2 : q = j := by omega
    rw [e1, e2]
    exact upd_s _ _ _
  · rw [upd_ne _ _ e]
    refine h p q hp hq ?_
    by_cases q1 : p = i
    · right; refine ⟨q1, ?_⟩; rw [q1] at e; omega
    · left; omega
theorem C_reck {s : Hp} {i j : Nat} (hn : n ≤ 60) (hm : m ≤ 60) (e1 : s 28 1 = nI n) (f1 : s 30 1 = nI m) (hA : ∀ k, k < n → s (28 + 1) k = A k) (hB : ∀ k, k < m → s (30 + 1) k = B k) (hi : i ≤ n) (hj : j ≤ m) (t : Tb A B n m (s 35) i (j + 1)) : F_X1_reckon 28 30 (nI i) (nI j) s = some (nI (lc A B n m i j), s) := by
  unfold F_X1_reckon
  rw [e1, f1]
  by_cases h1 : n ≤ i
  · rw [if_pos (nI_le h1 (by omega)), lc_z1 h1]; rfl
  rw [if_neg (nI_ge (by omega) (by omega))]
  by_cases h2 : m ≤ j
  · rw [if_neg (nI_nlt h2 (by omega)), lc_z2 i h2]; rfl
  rw [if_pos (nI_lt (by omega) (by omega))]
  simp (disch := omega) only [nl61, inb_nI, gd_tt, nI_clamp, nI_1, nI_add, pk_mul]
  rw [hA i (by omega), hB j (by omega), lc_s (by omega) (by omega)]
  by_cases h3 : A i = B j
  · rw [if_pos h3, if_pos h3, show (i + 1) * 61 + j + 1 = 61 * (i + 1) + (j + 1) by omega, t (i + 1) (j + 1) (by omega) (by omega) (Or.inl (by omega)), nI_1]
  · have l1 := lc_le (A := A) (B := B) (n := n) (m := m) (i + 1) j
    have l2 := lc_le (A := A) (B := B) (n := n) (m := m) i (j + 1)
    rw [if_neg h3, if_neg h3, show (i + 1) * 61 + j = 61 * (i + 1) + j by omega, show i * 61 + j + 1 = 61 * i + (j + 1) by omega, t (i + 1) j (by omega) (by omega) (Or.inl (by omega)), t i (j + 1) (by omega) (by omega) (Or.inr ⟨rfl, by omega⟩), jmax_nI (by omega) (by omega)]
theorem C_tab {σ : Hp} (hn : n ≤ 60) (hm : m ≤ 60) (e1 : σ 28 1 = nI n) (f1 : σ 30 1 = nI m) (hA : ∀ k, k < n → σ (28 + 1) k = A k) (hB : ∀ k, k < m → σ (30 + 1) k = B k) : ∃ s, F_X1_compare 28 30 σ = some s ∧ Ag [35] σ s ∧ TbA A B n m (s 35) := by
  unfold F_X1_compare
  rw [e1]
  have := dloop (fun N x s => L_X1_compare_5 N 28 30 x s) (fun i s => Ag [35] σ s ∧ ∀ p q, p ≤ n → q ≤ m → i ≤ p → s 35 (61 * p + q) = nI (lc A B n m p q)) (fun r => ∃ s, r = some s ∧ Ag [35] σ s ∧ TbA A B n m (s 35)) (n + 1) ?_ ?_ (n + 1) FU σ (Nat.le_refl _) (FU_lt (by omega)) ⟨Ag.rf, fun p q hp _ h => absurd h (by omega)⟩
  · exact this
  · rintro N s ⟨a, b⟩
    show ∃ s', B_X1_compare_5 _ 28 30 (-1) s = _ ∧ _
    unfold B_X1_compare_5
    rw [if_pos (by decide)]
    exact ⟨s, rfl, a, fun p q hp hq => b p q hp hq (by omega)⟩
  · rintro N i s hi ⟨a, b⟩
    have inner := dloop (fun M x s => L_X1_compare_15 (J_X1_compare_47 (fun r1 r2 x3 σ => L_X1_compare_5 N r1 r2 x3 σ)) M 28 30 (nI i) x s) (fun j s => Ag [35] σ s ∧ Tb A B n m (s 35) i j) (fun r => ∃ s, r = L_X1_compare_5 N 28 30 (dn i) s ∧ Ag [35] σ s ∧ ∀ p q, p ≤ n → q ≤ m → i ≤ p → s 35 (61 * p + q) = nI (lc A B n m p q)) (m + 1) ?_ ?_ (m + 1) FU s (Nat.le_refl _) (FU_lt (by omega)) ⟨a, fun p q hp hq h => b p q hp hq (by omega)⟩
    · obtain ⟨s', h1, h2, h3⟩ := inner
      refine ⟨s', ?_, h2, h3⟩
      show B_X1_compare_5 _ 28 30 (nI i) s = _
      unfold B_X1_compare_5
      rw [if_neg (nI_pos (by omega)), a 30 (by decide), f1]
      exact h1
    · rintro M s ⟨a, b⟩
      show ∃ s', B_X1_compare_15 _ _ 28 30 (nI i) (-1) s = _ ∧ _
      unfold B_X1_compare_15
      rw [if_pos (by decide)]
      refine ⟨s, ?_, a, fun p q hp hq h => b p q hp hq (by omega)⟩
      unfold J_X1_compare_47
      rw [dn_m1]
    · rintro M j s hj ⟨a, b⟩
      refine ⟨zu s 35 (61 * i + j) (nI (lc A B n m i j)), ?_, a.zu (by decide), ?_⟩
      · show B_X1_compare_15 _ _ 28 30 (nI i) (nI j) s = _
        unfold B_X1_compare_15
        rw [if_neg (nI_pos (by omega)), C_reck hn hm (by rw [a 28 (by decide)]; exact e1) (by rw [a 30 (by decide)]; exact f1) (fun k hk => by rw [a (28 + 1) (by decide)]; exact hA k hk) (fun k hk => by rw [a (30 + 1) (by decide)]; exact hB k hk) (by omega) (by omega) b, ob]
        dsimp only
        simp (disch := omega) only [nl61, inb_nI, gd_tt, nI_clamp, nI_add, pk_mul, dn_m1]
        rw [show i * 61 + j = 61 * i + j by omega]
      · rw [zu_self]; exact b.up hm (by omega)
theorem M_j136 {t : Hp} {i j v : Nat} (hi : i ≤ 60) (hj : j ≤ 60) (hv : v ≤ 60) (k18 : Int32 → Int32 → Hp → Option Hp) : J_M_laysCommon_136 k18 (nI i) (nI j) (nI v) t = k18 (nI i) (dn j) (zu t 29 (61 * i + j) (nI v)) := by
  unfold J_M_laysCommon_136
  rw [pk_vb, byt v (by omega)]
  simp (disch := omega) only [nl61, inb_nI, gd_tt, nI_clamp, nI_add, pk_mul, dn_m1]
theorem M_layS {t : Hp} {i j : Nat} (hn : n ≤ 60) (hm : m ≤ 60) (e1 : t 21 0 = nI n) (f1 : t 21 1 = nI m) (hA : ∀ k, k < n → t 20 k = A k) (hB : ∀ k, k < m → t 20 (60 + k) = B k) (hi : i ≤ n) (hj : j ≤ m) (T : Tb A B n m (t 29) i (j + 1)) (k155 : Int32 → Hp → Option Hp) (k18 : Int32 → Int32 → Hp → Option Hp) : B_M_laysCommon_18 k155 k18 (nI i) (nI j) t = k18 (nI i) (dn j) (zu t 29 (61 * i + j) (nI (lc A B n m i j))) := by
  have i0 : inb 0 2 = true := rfl
  have i1 : inb 1 2 = true := rfl
  have c0 : Int32.toNatClampNeg 0 = 0 := rfl
  have c1 : Int32.toNatClampNeg 1 = 1 := rfl
  have l1 := lc_le (A := A) (B := B) (n := n) (m := m) (i + 1) j
  have l2 := lc_le (A := A) (B := B) (n := n) (m := m) i (j + 1)
  have l3 := lc_le (A := A) (B := B) (n := n) (m := m) (i + 1) (j + 1)
  have l4 := lc_le (A := A) (B := B) (n := n) (m := m) i j
  unfold B_M_laysCommon_18
  rw [if_neg (nI_pos (by omega)), gd_true i0, c0, e1]
  by_cases h1 : n ≤ i
  · rw [if_pos (nI_le h1 (by omega))]
    unfold J_M_laysCommon_48
    rw [gd_true i1, c1, f1, lc_z1 h1]
    by_cases h2 : m ≤ j
    · rw [if_pos (nI_le h2 (by omega))]
      unfold J_M_laysCommon_76
      rw [gd_true i0, c0, e1, if_pos (nI_le h1 (by omega))]
      exact M_j136 (v := 0) (by omega) (by omega) (by omega) k18
    · rw [if_neg (nI_ge (by omega) (by omega))]
      simp (disch := omega) only [nl61, inb_nI, gd_tt, nI_clamp, nI_add, nI_1, pk_mul]
      rw [show 61 * i + j + 1 = 61 * i + (j + 1) by omega, T i (j + 1) hi (by omega) (Or.inr ⟨rfl, Nat.le_refl _⟩), lc_z1 h1, n0, M_max (by omega) (by omega), ob]
      dsimp only
      unfold J_M_laysCommon_76
      rw [gd_true i0, c0, e1, if_pos (nI_le h1 (by omega))]
      exact M_j136 (v := 0) (by omega) (by omega) (by omega) k18
  · rw [if_neg (nI_ge (by omega) (by omega))]
    simp (disch := omega) only [nl61, inb_nI, gd_tt, nI_clamp, nI_add, nI_1, pk_mul]
    rw [T (i + 1) j (by omega) hj (Or.inl (by omega))]
    unfold J_M_laysCommon_48
    rw [gd_true i1, c1, f1]
    by_cases h2 : m ≤ j
    · rw [if_pos (nI_le h2 (by omega))]
      unfold J_M_laysCommon_76
      rw [gd_true i0, c0, e1, if_neg (nI_ge (by omega) (by omega)), gd_true i1, c1, f1, if_pos (nI_le h2 (by omega)), lc_z2 (i + 1) h2, lc_z2 i h2]
      exact M_j136 (v := 0) (by omega) (by omega) (by omega) k18
    · rw [if_neg (nI_ge (by omega) (by omega))]
      simp (disch := omega) only [nl61, inb_nI, gd_tt, nI_clamp, nI_add, nI_1, pk_mul]
      rw [show 61 * i + j + 1 = 61 * i + (j + 1) by omega, T i (j + 1) hi (by omega) (Or.inr ⟨rfl, Nat.le_refl _⟩), M_max (by omega) (by omega), ob]
      dsimp only
      unfold J_M_laysCommon_76
      rw [gd_true i0, c0, e1, if_neg (nI_ge (by omega) (by omega)), gd_true i1, c1, f1, if_neg (nI_ge (by omega) (by omega))]
      simp (disch := omega) only [nl60, nl61, inb_nI, gd_tt, nI_clamp, nI_add, nI_1, pk_mul]
      rw [hA i (by omega), hB j (by omega)]
      by_cases h3 : A i = B j
      · rw [if_pos h3, show 61 * (i + 1) + j + 1 = 61 * (i + 1) + (j + 1) by omega, T (i + 1) (j + 1) (by omega) (by omega) (Or.inl (by omega)), n1, nI_add, M_max (by omega) (by omega), ob]
        dsimp only
        rw [lc_max (by omega) (by omega) h3]
        exact M_j136 (by omega) (by omega) (by omega) k18
      · rw [if_neg h3, M_j136 (by omega) (by omega) (by omega) k18, lc_s (i := i) (j := j) (by omega) (by omega), if_neg h3]
theorem M_tab {τ : Hp} (hn : n ≤ 60) (hm : m ≤ 60) (e1 : τ 21 0 = nI n) (f1 : τ 21 1 = nI m) (hA : ∀ k, k < n → τ 20 k = A k) (hB : ∀ k, k < m → τ 20 (60 + k) = B k) : ∃ t, F_M_laysCommon τ = some t ∧ Ag [29] τ t ∧ TbA A B n m (t 29) := by
  unfold F_M_laysCommon
  rw [gd_true (show inb 0 2 = true from rfl), show Int32.toNatClampNeg 0 = 0 from rfl, e1]
  have := dloop (fun N x s => L_M_laysCommon_7 N x s) (fun i s => Ag [29] τ s ∧ ∀ p q, p ≤ n → q ≤ m → i ≤ p → s 29 (61 * p + q) = nI (lc A B n m p q)) (fun r => ∃ s, r = some s ∧ Ag [29] τ s ∧ TbA A B n m (s 29)) (n + 1) ?_ ?_ (n + 1) FU τ (Nat.le_refl _) (FU_lt (by omega)) ⟨Ag.rf, fun p q hp _ h => absurd h (by omega)⟩
  · exact this
  · rintro N s ⟨a, b⟩
    show ∃ s', B_M_laysCommon_7 _ (-1) s = _ ∧ _
    unfold B_M_laysCommon_7
    rw [if_pos (by decide)]
    exact ⟨s, rfl, a, fun p q hp hq => b p q hp hq (by omega)⟩
  · rintro N i s hi ⟨a, b⟩
    have inner := dloop (fun M x s => L_M_laysCommon_18 (J_M_laysCommon_155 (fun x1 σ => L_M_laysCommon_7 N x1 σ)) M (nI i) x s) (fun j s => Ag [29] τ s ∧ Tb A B n m (s 29) i j) (fun r => ∃ s, r = L_M_laysCommon_7 N (dn i) s ∧ Ag [29] τ s ∧ ∀ p q, p ≤ n → q ≤ m → i ≤ p → s 29 (61 * p + q) = nI (lc A B n m p q)) (m + 1) ?_ ?_ (m + 1) FU s (Nat.le_refl _) (FU_lt (by omega)) ⟨a, fun p q hp hq h => b p q hp hq (by omega)⟩
    · obtain ⟨s', h1, h2, h3⟩ := inner
      refine ⟨s', ?_, h2, h3⟩
      show B_M_laysCommon_7 _ (nI i) s = _
      unfold B_M_laysCommon_7
      rw [if_neg (nI_pos (by omega)), gd_true (show inb 1 2 = true from rfl), show Int32.toNatClampNeg 1 = 1 from rfl, a 21 (by decide), f1]
      exact h1
    · rintro M s ⟨a, b⟩
      show ∃ s', B_M_laysCommon_18 _ _ (nI i) (-1) s = _ ∧ _
      unfold B_M_laysCommon_18
      rw [if_pos (by decide)]
      refine ⟨s, ?_, a, fun p q hp hq h => b p q hp hq (by omega)⟩
      unfold J_M_laysCommon_155
      rw [dn_m1]
    · rintro M j s hj ⟨a, b⟩
      refine ⟨zu s 29 (61 * i + j) (nI (lc A B n m i j)), ?_, a.zu (by decide), ?_⟩
      · exact M_layS hn hm (by rw [a 21 (by decide)]; exact e1) (by rw [a 21 (by decide)]; exact f1) (fun k hk => by rw [a 20 (by decide)]; exact hA k hk) (fun k hk => by rw [a 20 (by decide)]; exact hB k hk) (by omega) (by omega) b _ _
      · rw [zu_self]; exact b.up hm (by omega)
theorem C_next {s : Hp} {c : Nat} (hn : n ≤ 60) (e1 : s c 1 = nI n) (hA : ∀ k, k < n → s (c + 1) k = A k) (x : Int32) {i : Nat} (hi : i ≤ n) : F_X7_next c x (nI i) s = some (nI (nx A n x i), s) := by
  have key : ∀ (k i N : Nat), n - i = k → i ≤ n → k < N → L_X7_next_2 N c x (nI i) s = some (nI (nx A n x i), s) := by
    intro k
    induction k with
    | zero =>
      intro i N hk hi h
      obtain ⟨N, rfl⟩ : ∃ M, N = M + 1 := ⟨N - 1, by omega⟩
      have hin : i = n := by omega
      show B_X7_next_2 _ c x (nI i) s = _
      unfold B_X7_next_2
      rw [hin, e1, if_pos (nI_le (Nat.le_refl _) (by omega)), nx_n]
    | succ k ih =>
      intro i N hk hi h
      obtain ⟨N, rfl⟩ : ∃ M, N = M + 1 := ⟨N - 1, by omega⟩
      show B_X7_next_2 (fun r0 x1 x3 σ => L_X7_next_2 N r0 x1 x3 σ) c x (nI i) s = _
      unfold B_X7_next_2
      rw [e1, if_neg (nI_ge (by omega) (by omega)), gd_true (inbT (show i < 60 by omega) (by omega)), nI_clamp (by omega), hA i (by omega), nx_s (by omega)]
      by_cases q : A i = x
      · rw [if_pos q, if_pos q]
      · rw [if_neg q, if_neg q, nI_1]; exact ih (i + 1) N (by omega) (by omega) (by omega)
  exact key (n - i) i FU rfl hi (FU_lt (by omega))
theorem M_next {t : Hp} {s : Nat} {a : Int32} (ha : a = nI s) (hs : s < 2) (hn : n ≤ 60) (e1 : t 21 s = nI n) (hA : ∀ k, k < n → t 20 (60 * s + k) = A k) (x : Int32) {i : Nat} (hi : i ≤ n) : F_M_nextOf a (nI i) x t = some (if nx A n x i < n then nI (nx A n x i) else -1, t) := by
  subst ha
  have key : ∀ (k i N : Nat), n - i = k → i ≤ n → k < N → L_M_nextOf_3 N (nI s) x (nI i) t = some (if nx A n x i < n then nI (nx A n x i) else -1, t) := by
    intro k
    induction k with
    | zero =>
      intro i N hk hi h
      obtain ⟨N, rfl⟩ : ∃ M, N = M + 1 := ⟨N - 1, by omega⟩
      have hin : i = n := by omega
      show B_M_nextOf_3 _ (nI s) x (nI i) t = _
      unfold B_M_nextOf_3
      rw [gd_true (inbT hs (by omega)), nI_clamp (by omega), hin, e1, if_pos (nI_le (Nat.le_refl _) (by omega)), nx_n, if_neg (Nat.lt_irrefl _)]
    | succ k ih =>
      intro i N hk hi h
      obtain ⟨N, rfl⟩ : ∃ M, N = M + 1 := ⟨N - 1, by omega⟩
      show B_M_nextOf_3 (fun x1 x3 x4 σ => L_M_nextOf_3 N x1 x3 x4 σ) (nI s) x (nI i) t = _
      unfold B_M_nextOf_3
      rw [gd_true (inbT hs (by omega)), nI_clamp (by omega), e1, if_neg (nI_ge (by omega) (by omega)), nl60, pk_mul, nI_add, gd_true (inbT (show 60 * s + i < 120 by omega) (by omega)), nI_clamp (by omega), hA i (by omega), nx_s (by omega)]
      by_cases q : A i = x
      · rw [if_pos q, if_pos q, if_pos (by omega)]
      · rw [if_neg q, if_neg q, nI_1]; exact ih (i + 1) N (by omega) (by omega) (by omega)
  exact key (n - i) i FU rfl hi (FU_lt (by omega))
theorem ls_step {s : Hp} (hn : n ≤ 60) (hm : m ≤ 60) (e1 : s 28 1 = nI n) (f1 : s 30 1 = nI m) (hA : ∀ k, k < n → s (28 + 1) k = A k) (hB : ∀ k, k < m → s (30 + 1) k = B k) (T : TbA A B n m (s 35)) {i j q : Nat} (hi : i ≤ n) (hj : j ≤ m) (hq : q < 5) (k3 : Nat → Nat → Int32 → Int32 → Int32 → Hp → Option (Int32 × Hp)) : (Gd A B n m i j (nI q) → B_X1_leastSign_3 k3 28 30 (nI i) (nI j) (nI q) s = some (nI q, s)) ∧ (¬ Gd A B n m i j (nI q) → B_X1_leastSign_3 k3 28 30 (nI i) (nI j) (nI q) s = k3 28 30 (nI i) (nI j) (nI (q + 1)) s) := by
  unfold B_X1_leastSign_3
  rw [if_neg (show ¬ (5 : Int32) ≤ nI q from nI_ge (b := 5) (by omega) (by omega)), C_next hn e1 hA (nI q) hi, ob]
  dsimp only
  rw [C_next hm f1 hB (nI q) hj, ob]
  dsimp only
  simp only [e1, f1, nI_1]
  obtain ⟨-, b2', -⟩ := nx_p (A := A) (n := n) (s := nI q) (n - i) i rfl hi
  obtain ⟨-, d2, -⟩ := nx_p (A := B) (n := m) (s := nI q) (m - j) j rfl hj
  unfold Gd
  by_cases g1 : nx A n (nI q) i < n
  rotate_left
  · rw [if_pos (nI_le (by omega) (by omega))]
    exact ⟨fun g => absurd g.1 g1, fun _ => rfl⟩
  rw [if_neg (nI_ge g1 (by omega))]
  by_cases g2 : nx B m (nI q) j < m
  rotate_left
  · rw [if_pos (nI_le (by omega) (by omega))]
    exact ⟨fun g => absurd g.2.1 g2, fun _ => rfl⟩
  rw [if_neg (nI_ge g2 (by omega))]
  simp (disch := omega) only [nl61, inb_nI, gd_tt, nI_clamp, nI_1, nI_add, pk_mul]
  have l1 := lc_le (A := A) (B := B) (n := n) (m := m) i j
  have l2 := lc_le (A := A) (B := B) (n := n) (m := m) (nx A n (nI q) i + 1) (nx B m (nI q) j + 1)
  rw [show (nx A n (nI q) i + 1) * 61 + nx B m (nI q) j + 1 = 61 * (nx A n (nI q) i + 1) + (nx B m (nI q) j + 1) by omega, show i * 61 + j = 61 * i + j by omega, T _ _ (by omega) (by omega), T i j hi hj, nI_1]
  by_cases g3 : lc A B n m (nx A n (nI q) i + 1) (nx B m (nI q) j + 1) + 1 = lc A B n m i j
  · rw [if_pos (by rw [g3])]
    exact ⟨fun _ => rfl, fun g => absurd ⟨g1, g2, g3⟩ g⟩
  · rw [if_neg (nI_lit (by omega) (by omega) g3)]
    exact ⟨fun g => absurd g.2.2 g3, fun _ => rfl⟩
theorem C_least {s : Hp} (hn : n ≤ 60) (hm : m ≤ 60) (e1 : s 28 1 = nI n) (f1 : s 30 1 = nI m) (hA : ∀ k, k < n → s (28 + 1) k = A k) (hB : ∀ k, k < m → s (30 + 1) k = B k) (T : TbA A B n m (s 35)) {i j r : Nat} (hi : i ≤ n) (hj : j ≤ m) (hr : r ≤ 5) (g : Gd A B n m i j (nI r)) (g' : ∀ q, q < r → ¬ Gd A B n m i j (nI q)) : F_X1_leastSign 28 30 (nI i) (nI j) s = some (nI r, s) := by
  unfold F_X1_leastSign
  refine lone (fun N q (_ : Unit) => L_X1_leastSign_3 N 28 30 (nI i) (nI j) (nI q) s) (fun _ _ => True) (fun x => x = some (nI r, s)) r ?_ ?_ r 0 FU () (by omega) (by omega) (FU_lt (by omega)) trivial
  · rintro N _ -
    by_cases h5 : r = 5
    · show B_X1_leastSign_3 _ 28 30 (nI i) (nI j) (nI r) s = _
      unfold B_X1_leastSign_3
      rw [h5, if_pos (by decide)]; rfl
    · exact (ls_step hn hm e1 f1 hA hB T hi hj (show r < 5 by omega) _).1 g
  · rintro N q _ hq -
    right
    refine ⟨(), ?_, trivial⟩
    exact (ls_step hn hm e1 f1 hA hB T hi hj (show q < 5 by omega) _).2 (g' q hq)
theorem ms_step {t : Hp} (hn : n ≤ 60) (hm : m ≤ 60) (e1 : t 21 0 = nI n) (f1 : t 21 1 = nI m) (hA : ∀ k, k < n → t 20 k = A k) (hB : ∀ k, k < m → t 20 (60 + k) = B k) (T : TbA A B n m (t 29)) {i j q : Nat} (hi : i ≤ n) (hj : j ≤ m) (hq : q < 6) (x1 x5 : Int32) (k173 : Int32 → Int32 → Int32 → Int32 → Int32 → Hp → Option (Int32 × Hp)) (k81 : Int32 → Int32 → Int32 → Int32 → Int32 → Int32 → Int32 → Hp → Option (Int32 × Hp)) : (Gd A B n m i j (nI q) → B_M_inCommon_81 k173 k81 x1 (nI i) (nI j) (-1) x5 (nI (lc A B n m i j)) (nI q) t = k81 x1 (nI (nx A n (nI q) i + 1)) (nI (nx B m (nI q) j + 1)) (nI q) x5 (nI (lc A B n m i j)) (nI (q + 1)) t) ∧ (¬ Gd A B n m i j (nI q) → B_M_inCommon_81 k173 k81 x1 (nI i) (nI j) (-1) x5 (nI (lc A B n m i j)) (nI q) t = k81 x1 (nI i) (nI j) (-1) x5 (nI (lc A B n m i j)) (nI (q + 1)) t) := by
  unfold B_M_inCommon_81
  rw [if_neg (show ¬ (6 : Int32) ≤ nI q from nI_ge (b := 6) (by omega) (by omega)), if_pos rfl, M_next (A := A) (a := 0) (s := 0) rfl (by omega) hn e1 (fun k hk => by rw [show 60 * 0 + k = k by omega]; exact hA k hk) (nI q) hi, ob]
  dsimp only
  rw [M_next (A := B) (a := 1) (s := 1) rfl (by omega) hm f1 (fun k hk => by rw [show 60 * 1 + k = 60 + k by omega]; exact hB k hk) (nI q) hj, ob]
  dsimp only
  rw [nI_1]
  obtain ⟨-, b2', -⟩ := nx_p (A := A) (n := n) (s := nI q) (n - i) i rfl hi
  obtain ⟨-, d2, -⟩ := nx_p (A := B) (n := m) (s := nI q) (m - j) j rfl hj
  unfold Gd
  by_cases g1 : nx A n (nI q) i < n
  rotate_left
  · rw [if_neg g1, if_pos rfl]
    exact ⟨fun g => absurd g.1 g1, fun _ => rfl⟩
  rw [if_pos g1, if_neg (nI_m1 (by omega))]
  by_cases g2 : nx B m (nI q) j < m
  rotate_left
  · rw [if_neg g2, if_pos rfl]
    exact ⟨fun g => absurd g.2.1 g2, fun _ => rfl⟩
  rw [if_pos g2, if_neg (nI_m1 (by omega))]
  simp (disch := omega) only [nl61, inb_nI, gd_tt, nI_clamp, nI_1, nI_add, pk_mul]
  have l1 := lc_le (A := A) (B := B) (n := n) (m := m) i j
  have l2 := lc_le (A := A) (B := B) (n := n) (m := m) (nx A n (nI q) i + 1) (nx B m (nI q) j + 1)
  rw [show 61 * (nx A n (nI q) i + 1) + nx B m (nI q) j + 1 = 61 * (nx A n (nI q) i + 1) + (nx B m (nI q) j + 1) by omega, T _ _ (by omega) (by omega), n1, nI_add]
  by_cases g3 : lc A B n m (nx A n (nI q) i + 1) (nx B m (nI q) j + 1) + 1 = lc A B n m i j
  · rw [if_pos (by rw [← g3, Nat.add_comm])]
    exact ⟨fun _ => rfl, fun g => absurd ⟨g1, g2, g3⟩ g⟩
  · rw [if_neg (nI_lit (by omega) (by omega) (by omega))]
    exact ⟨fun g => absurd g.2.2 g3, fun _ => rfl⟩
theorem M_least {t : Hp} (hn : n ≤ 60) (hm : m ≤ 60) (e1 : t 21 0 = nI n) (f1 : t 21 1 = nI m) (hA : ∀ k, k < n → t 20 k = A k) (hB : ∀ k, k < m → t 20 (60 + k) = B k) (T : TbA A B n m (t 29)) {i j r : Nat} (hi : i ≤ n) (hj : j ≤ m) (hr : r ≤ 5) (g : Gd A B n m i j (nI r)) (g' : ∀ q, q < r → ¬ Gd A B n m i j (nI q)) (x1 x5 : Int32) (k173 : Int32 → Int32 → Int32 → Int32 → Int32 → Hp → Option (Int32 × Hp)) : L_M_inCommon_81 k173 FU x1 (nI i) (nI j) (-1) x5 (nI (lc A B n m i j)) 0 t = k173 x1 (nI (nx A n (nI r) i + 1)) (nI (nx B m (nI r) j + 1)) (nI r) x5 t := by
  have st : ∀ N q, q < 6 → L_M_inCommon_81 k173 (N + 1) x1 (nI i) (nI j) (-1) x5 (nI (lc A B n m i j)) (nI q) t = B_M_inCommon_81 k173 (fun x1 x2 x3 x4 x5 x6 x7 σ => L_M_inCommon_81 k173 N x1 x2 x3 x4 x5 x6 x7 σ) x1 (nI i) (nI j) (-1) x5 (nI (lc A B n m i j)) (nI q) t := fun N q _ => rfl
  obtain ⟨F, hF⟩ : ∃ F, FU = F + 20 := ⟨FU - 20, rfl⟩
  have key : ∀ d N, d ≤ r → 2 + d < N → L_M_inCommon_81 k173 N x1 (nI i) (nI j) (-1) x5 (nI (lc A B n m i j)) (nI (r - d)) t = k173 x1 (nI (nx A n (nI r) i + 1)) (nI (nx B m (nI r) j + 1)) (nI r) x5 t := by
    intro d
    induction d with
    | zero =>
      intro N _ hN
      obtain ⟨N, rfl⟩ : ∃ M, N = M + 2 := ⟨N - 2, by omega⟩
      rw [Nat.sub_zero, st _ _ (by omega), (ms_step hn hm e1 f1 hA hB T hi hj (show r < 6 by omega) x1 x5 _ _).1 g]
      show B_M_inCommon_81 _ _ x1 _ _ (nI r) x5 _ (nI (r + 1)) t = _
      unfold B_M_inCommon_81
      rw [if_neg (nI_m1 (show r < 2 ^ 31 by omega)), ite_self]
    | succ d ih =>
      intro N hd hN
      obtain ⟨N, rfl⟩ : ∃ M, N = M + 1 := ⟨N - 1, by omega⟩
      rw [st _ _ (by omega), (ms_step hn hm e1 f1 hA hB T hi hj (show r - (d + 1) < 6 by omega) x1 x5 _ _).2 (g' _ (by omega)), show r - (d + 1) + 1 = r - d by omega]
      exact ih N (by omega) (by omega)
  have := key r FU (Nat.le_refl _) (FU_lt (by omega))
  rw [Nat.sub_self] at this
  exact this
end
theorem sim_inCommon {σ τ : Hp} (h : Rl σ τ) (a1 : Int32) : ∃ r σ' τ', F_V_inCommon a1 σ = some (r, σ') ∧ F_M_inCommon a1 τ = some (r, τ') ∧ Rl σ' τ' := by
  have core : (a1 = 100 ∨ wi a1 0 59 = true) → ∃ r σ' τ', J_V_inCommon_18 a1 σ = some (r, σ') ∧ J_M_inCommon_18 a1 τ = some (r, τ') ∧ Rl σ' τ' := by
    intro ha
    obtain ⟨n, hn, e1, e2, e3⟩ := h.sig (show 0 < 2 by omega)
    obtain ⟨m, hm, f1, f2, f3⟩ := h.sig (show 1 < 2 by omega)
    obtain ⟨A, hAd⟩ : ∃ A : Nat → Int32, A = fun k => τ 20 k := ⟨_, rfl⟩
    obtain ⟨B, hBd⟩ : ∃ B : Nat → Int32, B = fun k => τ 20 (60 + k) := ⟨_, rfl⟩
    have mA : ∀ k, k < n → τ 20 k = A k := fun k _ => by rw [hAd]
    have mB : ∀ k, k < m → τ 20 (60 + k) = B k := fun k _ => by rw [hBd]
    have cA : ∀ k, k < n → σ (28 + 1) k = A k := fun k hk => by rw [hAd, show σ (28 + 1) k = τ 20 (60 * 0 + k) from (e3 k hk).1, show 60 * 0 + k = k by omega]
    have cB : ∀ k, k < m → σ (30 + 1) k = B k := fun k hk => by rw [hBd, show σ (30 + 1) k = τ 20 (60 * 1 + k) from (f3 k hk).1, show 60 * 1 + k = 60 + k by omega]
    have rA : ∀ k, k < n → ∃ r : Nat, r ≤ 5 ∧ A k = nI r := fun k hk => by
      obtain ⟨r, hr, er⟩ := (e3 k hk).2
      exact ⟨r, hr, by rw [← cA k hk]; exact er⟩
    have e1 : σ 28 1 = nI n := e1
    have f1 : σ 30 1 = nI m := f1
    obtain ⟨s, s1, s2, s3⟩ := C_tab hn hm e1 f1 cA cB
    obtain ⟨t, t1, t2, t3⟩ := M_tab hn hm e2 f2 mA mB
    have hR : Rl s t := h.sc (S := [35]) (T := [29]) s2 t2 (by decide) (by decide)
    unfold J_V_inCommon_18 J_M_inCommon_18
    rw [s1, t1, ob, ob]
    unfold F_X1_length F_X1_lampAt F_X1_length
    have l0 := lc_le (A := A) (B := B) (n := n) (m := m) 0 0
    have sc : s 35 (Int32.toNatClampNeg 0) = nI (lc A B n m 0 0) := s3 0 0 (by omega) (by omega)
    have tc : t 29 (Int32.toNatClampNeg 0) = nI (lc A B n m 0 0) := t3 0 0 (by omega) (by omega)
    rw [gd_true (show inb 0 3721 = true from rfl), gd_true (show inb 0 3721 = true from rfl), ob, ob]
    dsimp only
    rw [sc, tc]
    by_cases q : a1 = 100
    · rw [if_pos q, if_pos q]
      exact ⟨_, s, t, rfl, rfl, hR⟩
    rw [if_neg q, if_neg q]
    obtain ⟨w, hw, rfl⟩ := wi_nat (M := 59) (n := 59) (by decide) (ha.resolve_left q)
    by_cases p : w < lc A B n m 0 0
    rotate_left
    · rw [if_neg (nI_nlt (by omega) (by omega)), if_neg (nI_nlt (by omega) (by omega)), ob]
      exact ⟨_, s, t, rfl, rfl, hR⟩
    rw [if_pos (nI_lt p (by omega)), if_pos (nI_lt p (by omega))]
    have E1 : s 28 1 = nI n := by rw [s2 28 (by decide)]; exact e1
    have F1 : s 30 1 = nI m := by rw [s2 30 (by decide)]; exact f1
    have CA : ∀ k, k < n → s (28 + 1) k = A k := fun k hk => by rw [s2 (28 + 1) (by decide)]; exact cA k hk
    have CB : ∀ k, k < m → s (30 + 1) k = B k := fun k hk => by rw [s2 (30 + 1) (by decide)]; exact cB k hk
    have E2 : t 21 0 = nI n := by rw [t2 21 (by decide)]; exact e2
    have F2 : t 21 1 = nI m := by rw [t2 21 (by decide)]; exact f2
    have MA : ∀ k, k < n → t 20 k = A k := fun k hk => by rw [t2 20 (by decide)]; exact mA k hk
    have MB : ∀ k, k < m → t 20 (60 + k) = B k := fun k hk => by rw [t2 20 (by decide)]; exact mB k hk
    have key : ∃ v, L_X1_lampAt_23 FU 28 30 (nI w) 0 0 0 0 s = some (v, s) ∧ L_M_inCommon_58 FU (nI w) 0 0 (-1) 0 t = some (v, t) := by
      refine lock (fun N k (a : Nat × Nat × Int32) => L_X1_lampAt_23 N 28 30 (nI w) (nI a.1) (nI a.2.1) a.2.2 (nI k) s) (fun N k (b : Nat × Nat × Int32) => L_M_inCommon_58 N (nI w) (nI b.1) (nI b.2.1) b.2.2 (nI k) t) (fun k a b => a.1 = b.1 ∧ a.2.1 = b.2.1 ∧ (0 < k → a.2.2 = b.2.2) ∧ a.1 ≤ n ∧ a.2.1 ≤ m ∧ lc A B n m a.1 a.2.1 + k = lc A B n m 0 0) (fun r r' => ∃ v, r = some (v, s) ∧ r' = some (v, t)) (w + 1) ?_ ?_ (w + 1) 0 FU FU (0, 0, 0) (0, 0, -1) (by omega) (by omega) (FU_lt (by omega)) (FU_lt (by omega)) ⟨rfl, rfl, fun z => absurd z (by omega), Nat.zero_le _, Nat.zero_le _, rfl⟩
      · rintro N1 N2 ⟨i, j, x⟩ ⟨i', j', x'⟩ ⟨h1, h2, h3, h4, h5, h6⟩
        dsimp only at h1 h2 h3 h4 h5 h6
        show ∃ v, B_X1_lampAt_23 _ 28 30 (nI w) (nI i) (nI j) x (nI (w + 1)) s = _ ∧ B_M_inCommon_58 _ (nI w) (nI i') (nI j') x' (nI (w + 1)) t = _
        unfold B_X1_lampAt_23 B_M_inCommon_58
        rw [if_pos (nI_lt (by omega) (by omega)), if_pos (nI_lt (by omega) (by omega)), h3 (by omega)]
        exact ⟨x', rfl, rfl⟩
      · rintro N1 N2 k ⟨i, j, x⟩ ⟨i', j', x'⟩ hk ⟨h1, h2, h3, h4, h5, h6⟩
        dsimp only at h1 h2 h3 h4 h5 h6
        subst h1 h2
        right
        obtain ⟨r, hr, g, g'⟩ := gd_least (A := A) (B := B) (n := n) (m := m) h4 h5 rA (by omega)
        have G := id g
        obtain ⟨g1, g2, g3⟩ := g
        refine ⟨(nx A n (nI r) i + 1, nx B m (nI r) j + 1, nI r), (nx A n (nI r) i + 1, nx B m (nI r) j + 1, nI r), ?_, ?_, rfl, rfl, fun _ => rfl, by show nx A n (nI r) i + 1 ≤ n; omega, by show nx B m (nI r) j + 1 ≤ m; omega, by show lc A B n m (nx A n (nI r) i + 1) (nx B m (nI r) j + 1) + (k + 1) = _; omega⟩
        · show B_X1_lampAt_23 _ 28 30 (nI w) (nI i) (nI j) x (nI k) s = _
          unfold B_X1_lampAt_23
          rw [if_neg (nI_nlt (by omega) (by omega)), C_least hn hm E1 F1 CA CB s3 h4 h5 hr G g', ob]
          dsimp only
          rw [C_next hn E1 CA (nI r) h4, ob]
          dsimp only
          rw [C_next hm F1 CB (nI r) h5, ob]
          dsimp only
          rw [E1, F1, nI_1, nI_1, nI_1, jmin_nI (by omega) (by omega), jmin_nI (by omega) (by omega), Nat.min_eq_right (by omega), Nat.min_eq_right (by omega)]
        · show B_M_inCommon_58 _ (nI w) (nI i) (nI j) x' (nI k) t = _
          unfold B_M_inCommon_58
          rw [if_neg (nI_nlt (by omega) (by omega)), gd_true (show inb 0 3721 = true from rfl), tc, pk_sub (by omega), show lc A B n m 0 0 - k = lc A B n m i j by omega, M_least hn hm E2 F2 MA MB t3 h4 h5 hr G g']
          unfold J_M_inCommon_173
          rw [nI_1]
    obtain ⟨v, k1, k2⟩ := key
    rw [k1, k2, ob]
    exact ⟨v, s, t, rfl, rfl, hR⟩
  unfold F_V_inCommon F_M_inCommon
  by_cases q : a1 = 100
  · rw [if_pos q, if_pos q]
    exact core (Or.inl q)
  · rw [if_neg q, if_neg q]
    simp only [V_within, M_in, ob, b2_ite]
    by_cases h1 : wi a1 0 59 = true
    · rw [if_pos h1, if_pos h1]
      exact core (Or.inr h1)
    · rw [if_neg h1, if_neg h1]
      exact ⟨-1, σ, τ, rfl, rfl, h⟩
