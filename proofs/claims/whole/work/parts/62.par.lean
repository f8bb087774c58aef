-- parrots
/-- in how many cases so many arrive, of the first i -/
def pw (t : Nat → Nat) : Nat → Nat → Nat
  | 0, k => if k = 0 then 1 else 0
  | i + 1, k => pw t i k * (10 - t i) + (if k = 0 then 0 else pw t i (k - 1) * t i)
theorem pw_0 (t : Nat → Nat) : ∀ i k, i < k → pw t i k = 0 := by
  intro i
  induction i with
  | zero => intro k h; simp only [pw]; rw [if_neg (by omega)]
  | succ i ih =>
    intro k h
    simp only [pw]
    rw [ih k (by omega), ih (k - 1) (by omega)]
    simp
def pq (t : Nat → Nat) (n : Nat) : Nat → Nat
  | 0 => 0
  | m + 1 => pq t n m + pw t n m
theorem pq_mono (t : Nat → Nat) (n m : Nat) : ∀ k, pq t n m ≤ pq t n (m + k) := by
  intro k
  induction k with
  | zero => exact Nat.le_refl _
  | succ k ih => rw [show m + (k + 1) = (m + k) + 1 by omega]; simp only [pq]; omega
theorem pq_st (t : Nat → Nat) (i : Nat) (ht : t i ≤ 10) : ∀ m, pq t (i + 1) m + (if m = 0 then 0 else pw t i (m - 1) * t i) = 10 * pq t i m := by
  intro m
  induction m with
  | zero => rfl
  | succ m ih =>
    have sp : pw t i m * (10 - t i) + pw t i m * t i = 10 * pw t i m := by
      rw [← Nat.mul_add, show 10 - t i + t i = 10 by omega, Nat.mul_comm]
    have e : pw t (i + 1) m = pw t i m * (10 - t i) + (if m = 0 then 0 else pw t i (m - 1) * t i) := rfl
    rw [if_neg (by omega), show m + 1 - 1 = m by omega]
    simp only [pq]
    rw [e]
    generalize (if m = 0 then 0 else pw t i (m - 1) * t i) = z at *
    generalize pw t i m * (10 - t i) = a at *
    generalize pw t i m * t i = b at *
    omega
theorem pq_9 (t : Nat → Nat) : ∀ i, (∀ j, j < i → t j ≤ 10) → pq t i 9 ≤ 10 ^ i := by
  intro i
  induction i with
  | zero => intro _; simp [pq, pw]
  | succ i ih =>
    intro h
    have h0 := ih (fun j hj => h j (by omega))
    have h1 := pq_st t i (h i (by omega)) 9
    rw [Nat.pow_succ]
    omega
theorem pw_ge (t : Nat → Nat) (n k : Nat) (hk : k < 9) : pw t n k ≤ pq t n 9 := by
  have h1 : pq t n (k + 1) = pq t n k + pw t n k := rfl
  have h2 := pq_mono t n (k + 1) (8 - k)
  rw [show k + 1 + (8 - k) = 9 by omega] at h2
  omega
theorem p10_le {n : Nat} (h : n ≤ 8) : 10 ^ n ≤ 100000000 := by
  rcases (show n = 0 ∨ n = 1 ∨ n = 2 ∨ n = 3 ∨ n = 4 ∨ n = 5 ∨ n = 6 ∨ n = 7 ∨ n = 8 by omega) with rfl | rfl | rfl | rfl | rfl | rfl | rfl | rfl | rfl <;> decide
theorem pq_end (t : Nat → Nat) (n : Nat) : ∀ k, pq t n (n + 1 + k) = pq t n (n + 1) := by
  intro k
  induction k with
  | zero => rfl
  | succ k ih =>
    rw [show n + 1 + (k + 1) = (n + 1 + k) + 1 by omega]
    simp only [pq]
    rw [pw_0 t n (n + 1 + k) (by omega), ih]
    simp only [pq]
    omega
/-- the class's row, one parrot more -/
theorem par_in {t : Nat → Nat} {i : Nat} (hi : i < 8) (ht : t i ≤ 10) (x1 : Int32) (K : Int32 → Int32 → Int32 → Hp → Option (Int32 × Hp)) (σ s : Hp) (hs : Ag [41] σ s) (h : ∀ q, q < 9 → s 41 q = nI (pw t i q)) :
    ∃ s', L_V_reckonArrivals_48 K FU x1 (nI i) (nI (t i)) (nI (i + 1)) s = K x1 (nI i) (nI (t i)) s' ∧ Ag [41] σ s' ∧ (∀ q, q < 9 → 0 < q → s' 41 q = nI (pw t (i + 1) q)) ∧ s' 41 0 = nI (pw t i 0) := by
  refine lone (fun N j s => L_V_reckonArrivals_48 K N x1 (nI i) (nI (t i)) (nI (i + 1 - j)) s) (fun j s => Ag [41] σ s ∧ (∀ q, q < 9 → q ≤ i + 1 - j → s 41 q = nI (pw t i q)) ∧ (∀ q, q < 9 → i + 1 - j < q → s 41 q = nI (pw t (i + 1) q))) (fun r => ∃ s', r = K x1 (nI i) (nI (t i)) s' ∧ Ag [41] σ s' ∧ (∀ q, q < 9 → 0 < q → s' 41 q = nI (pw t (i + 1) q)) ∧ s' 41 0 = nI (pw t i 0)) (i + 1) ?_ ?_ (i + 1) 0 FU s (by omega) (by omega) (FU_lt (by omega)) ⟨hs, fun q hq _ => h q hq, fun q hq hq2 => ?_⟩
  · rintro N s ⟨g1, g2, g3⟩
    simp only [L_V_reckonArrivals_48, B_V_reckonArrivals_48]
    rw [show i + 1 - (i + 1) = 0 by omega, if_pos (show nI 0 < (1 : Int32) by decide)]
    exact ⟨s, rfl, g1, fun q hq hq2 => g3 q hq (by omega), g2 0 (by omega) (by omega)⟩
  · rintro N j s hj ⟨g1, g2, g3⟩
    right
    simp only [L_V_reckonArrivals_48, B_V_reckonArrivals_48]
    obtain ⟨k, hk⟩ : ∃ k, i + 1 - j = k + 1 := ⟨i - j, by omega⟩
    have hk2 : i + 1 - (j + 1) = k := by omega
    have e10 : (10 : Int32) - nI (t i) = nI (10 - t i) := pk_sub (a := 10) ht
    rw [hk, hk2, if_neg (show ¬ nI (k + 1) < (1 : Int32) from nI_nlt (b := 1) (by omega) (by omega)), pk_m1, nI_pred, e10]
    simp (disch := omega) only [inb_nI, gd_tt, nI_clamp, g2 (k + 1) (by omega) (by omega), g2 k (by omega) (by omega), pk_mul, nI_add]
    refine ⟨_, rfl, g1.zu (by decide), fun q hq hq2 => ?_, fun q hq hq2 => ?_⟩
    · rw [zu_self, upd_ap, if_neg (by omega)]; exact g2 q hq (by omega)
    · rw [zu_self, upd_ap]
      by_cases e : q = k + 1
      · rw [if_pos e, e]
        simp only [pw]
        rw [if_neg (by omega), show k + 1 - 1 = k by omega]
      · rw [if_neg e]; exact g3 q hq (by omega)
  · rw [h q hq, pw_0 t i q (by omega), pw_0 t (i + 1) q (by omega)]
theorem par_C {t : Nat → Nat} {n : Nat} (hn : n ≤ 8) {σ : Hp} (hb : ∀ i, i < 8 → σ 24 i = nI (t i)) (hb2 : ∀ i, i < 8 → t i < 256) :
    ∃ s, Ag [41] σ s ∧ (((∀ i, i < n → t i ≤ 10) ∧ F_V_reckonArrivals (nI n) σ = some (1, s) ∧ ∀ q, q < 9 → s 41 q = nI (pw t n q)) ∨ ((¬ ∀ i, i < n → t i ≤ 10) ∧ F_V_reckonArrivals (nI n) σ = some (0, s))) := by
  unfold F_V_reckonArrivals
  rw [fill_eq 41 24 (by omega), ob, gd_true (by decide), show Int32.toNatClampNeg 0 = 0 from rfl]
  refine lone (fun N i s => L_V_reckonArrivals_17 N (nI n) (nI i) s) (fun i s => Ag [41] σ s ∧ (∀ j, j < i → t j ≤ 10) ∧ ∀ q, q < 9 → s 41 q = nI (pw t i q)) (fun r => ∃ s, Ag [41] σ s ∧ (((∀ i, i < n → t i ≤ 10) ∧ r = some (1, s) ∧ ∀ q, q < 9 → s 41 q = nI (pw t n q)) ∨ ((¬ ∀ i, i < n → t i ≤ 10) ∧ r = some (0, s)))) n ?_ ?_ n 0 FU (zu (zr σ 41 (fun j => if j < 24 then 0 else σ 41 j)) 41 0 1) (by omega) (by omega) (FU_lt (by omega)) ⟨(Ag.rf.zr (by decide)).zu (by decide), fun j hj => absurd hj (by omega), fun q hq => ?_⟩
  · rintro N s ⟨g1, g2, g3⟩
    simp only [L_V_reckonArrivals_17, B_V_reckonArrivals_17]
    rw [if_pos (nI_le (Nat.le_refl n) (by omega))]
    exact ⟨s, g1, Or.inl ⟨g2, rfl, g3⟩⟩
  · rintro N i s hi ⟨g1, g2, g3⟩
    have eb : s 24 i = nI (t i) := by rw [g1 24 (by decide), hb i (by omega)]
    have hlt := hb2 i (by omega)
    simp only [L_V_reckonArrivals_17, B_V_reckonArrivals_17, C_byteAt (show i < 260 by omega), ob, eb, V_within, b2_ite]
    rw [if_neg (nI_ge hi (by omega)), nI_1]
    by_cases p : t i ≤ 10
    · have w : wi (nI (t i)) 0 10 = true := by
        simp only [wi, Bool.and_eq_true, decide_eq_true_eq]
        exact ⟨nI_pos' (by omega), nI_le (b := 10) p (by omega)⟩
      rw [if_pos w]
      obtain ⟨s', k1, k2, k3, k4⟩ := par_in (show i < 8 by omega) p (nI n) (J_V_reckonArrivals_91 (fun x1 x2 σ => L_V_reckonArrivals_17 N x1 x2 σ)) σ s g1 g3
      rw [k1]
      have e10 : (10 : Int32) - nI (t i) = nI (10 - t i) := pk_sub (a := 10) p
      simp only [J_V_reckonArrivals_91, nI_1, show Int32.toNatClampNeg 0 = 0 from rfl, e10, k4, pk_mul]
      rw [gd_true (by decide), gd_true (by decide)]
      refine Or.inr ⟨_, rfl, k2.zu (by decide), fun j hj => ?_, fun q hq => ?_⟩
      · by_cases e : j = i
        · rw [e]; exact p
        · exact g2 j (by omega)
      · rw [zu_self, upd_ap]
        by_cases e : q = 0
        · rw [if_pos e, e]; simp [pw]
        · rw [if_neg e]; exact k3 q hq (by omega)
    · have w : ¬ wi (nI (t i)) 0 10 = true := by
        simp only [wi, Bool.and_eq_true, decide_eq_true_eq, not_and]
        intro _
        exact nI_ge (a := 10) (by omega) (by omega)
      rw [if_neg w]
      exact Or.inl ⟨s, g1, Or.inr ⟨fun hh => p (hh i hi), rfl⟩⟩
  · rw [zu_self, upd_ap, zr_self]
    by_cases e : q = 0
    · rw [if_pos e, e]; rfl
    · rw [if_neg e, if_pos (by omega)]; simp only [pw]; rw [if_neg e]; rfl
theorem parM_in {t : Nat → Nat} {i : Nat} (hi : i < 8) (ht : t i ≤ 10) (x1 x2 x3 x4 : Int32) (K : Int32 → Int32 → Int32 → Int32 → Int32 → Hp → Option (Int32 × Hp)) (τ s : Hp) (hs : Ag [36] τ s) (h : ∀ q, q < 9 → s 36 q = nI (pw t i q)) :
    ∃ s', L_M_parrots_118 K FU x1 x2 x3 x4 (nI i) (nI (t i)) 8 s = K x1 x2 x3 x4 (nI i) s' ∧ Ag [36] τ s' ∧ (∀ q, q < 9 → s' 36 q = nI (pw t (i + 1) q)) := by
  refine lone (fun N j s => L_M_parrots_118 K N x1 x2 x3 x4 (nI i) (nI (t i)) (nI (9 - j) + -1) s) (fun j s => Ag [36] τ s ∧ (∀ q, q < 9 - j → s 36 q = nI (pw t i q)) ∧ (∀ q, q < 9 → 9 - j ≤ q → s 36 q = nI (pw t (i + 1) q))) (fun r => ∃ s', r = K x1 x2 x3 x4 (nI i) s' ∧ Ag [36] τ s' ∧ (∀ q, q < 9 → s' 36 q = nI (pw t (i + 1) q))) 9 ?_ ?_ 9 0 FU s (by omega) (by omega) (FU_lt (by omega)) ⟨hs, fun q hq => h q (by omega), fun q hq hq2 => absurd hq2 (by omega)⟩
  · rintro N s ⟨g1, g2, g3⟩
    simp only [L_M_parrots_118, B_M_parrots_118]
    rw [show (9 : Nat) - 9 = 0 from rfl, if_pos (show nI 0 + -1 < 0 by decide)]
    exact ⟨s, rfl, g1, fun q hq => g3 q hq (by omega)⟩
  · rintro N j s hj ⟨g1, g2, g3⟩
    right
    simp only [L_M_parrots_118, B_M_parrots_118]
    obtain ⟨k, hk⟩ : ∃ k, 9 - j = k + 1 := ⟨8 - j, by omega⟩
    have hk2 : 9 - (j + 1) = k := by omega
    have e10 : (10 : Int32) - nI (t i) = nI (10 - t i) := pk_sub (a := 10) ht
    rw [hk, hk2, pk_m1, if_neg (nI_pos (by omega)), e10]
    simp (disch := omega) only [inb_nI, gd_tt, nI_clamp, g2 k (by omega), pk_mul, nI_eq0]
    by_cases p : k = 0
    · subst p
      rw [if_pos rfl]
      refine ⟨_, rfl, g1.zu (by decide), fun q hq => absurd hq (by omega), fun q hq hq2 => ?_⟩
      rw [zu_self, upd_ap]
      by_cases e : q = 0
      · rw [if_pos e, e]
        simp only [pw]
        rw [if_pos trivial, n0, nI_add]
      · rw [if_neg e]; exact g3 q hq (by omega)
    · rw [if_neg p]
      obtain ⟨m, rfl⟩ : ∃ m, k = m + 1 := ⟨k - 1, by omega⟩
      rw [nI_pred]
      simp (disch := omega) only [inb_nI, gd_tt, nI_clamp, g2 m (by omega), pk_mul, nI_add]
      refine ⟨_, rfl, g1.zu (by decide), fun q hq => ?_, fun q hq hq2 => ?_⟩
      · rw [zu_self, upd_ap, if_neg (by omega)]; exact g2 q (by omega)
      · rw [zu_self, upd_ap]
        by_cases e : q = m + 1
        · rw [if_pos e, e]
          simp only [pw]
          rw [if_neg (by omega), show m + 1 - 1 = m by omega]
        · rw [if_neg e]; exact g3 q hq (by omega)
theorem par_M {t : Nat → Nat} {n : Nat} (hn : n ≤ 8) {τ : Hp} (hb : ∀ i, i < 8 → τ 6 i &&& 255 = nI (t i)) (hb2 : ∀ i, i < 8 → t i < 256) (x2 x3 : Int32) :
    ∃ s, Ag [36] τ s ∧ (((∀ i, i < n → t i ≤ 10) ∧ L_M_parrots_50 J_M_parrots_80 FU (nI n) x2 x3 1 0 τ = J_M_parrots_177 x2 x3 (nI (10 ^ n)) s ∧ ∀ q, q < 9 → s 36 q = nI (pw t n q)) ∨ ((¬ ∀ i, i < n → t i ≤ 10) ∧ L_M_parrots_50 J_M_parrots_80 FU (nI n) x2 x3 1 0 τ = some (-2, s))) := by
  have h0 : ∃ s, Ag [36] τ s ∧ (∀ q, q < 9 → s 36 q = nI (pw t 0 q)) ∧ L_M_parrots_50 J_M_parrots_80 FU (nI n) x2 x3 1 0 τ = J_M_parrots_80 (nI n) x2 x3 1 s := by
    refine lone (fun N k s => L_M_parrots_50 J_M_parrots_80 N (nI n) x2 x3 1 (nI k) s) (fun k s => Ag [36] τ s ∧ ∀ q, q < k → s 36 q = nI (pw t 0 q)) (fun r => ∃ s, Ag [36] τ s ∧ (∀ q, q < 9 → s 36 q = nI (pw t 0 q)) ∧ r = J_M_parrots_80 (nI n) x2 x3 1 s) 10 ?_ ?_ 10 0 FU τ (by omega) (by omega) (FU_lt (by omega)) ⟨Ag.rf, fun q hq => absurd hq (by omega)⟩
    · rintro N s ⟨g1, g2⟩
      simp only [L_M_parrots_50, B_M_parrots_50]
      rw [if_pos (show (10 : Int32) ≤ nI 10 by decide)]
      exact ⟨s, g1, fun q hq => g2 q (by omega), rfl⟩
    · rintro N k s hk ⟨g1, g2⟩
      right
      simp only [L_M_parrots_50, B_M_parrots_50]
      rw [if_neg (show ¬ (10 : Int32) ≤ nI k from nI_ge (b := 10) (by omega) (by omega))]
      simp (disch := omega) only [inb_nI, gd_tt, nI_clamp, nI_1, nI_eq0]
      by_cases p : k = 0
      · rw [if_pos p]
        refine ⟨_, rfl, g1.zu (by decide), fun q hq => ?_⟩
        rw [zu_self, upd_ap, if_pos (by omega), show q = 0 by omega]; rfl
      · rw [if_neg p]
        refine ⟨_, rfl, g1.zu (by decide), fun q hq => ?_⟩
        rw [zu_self, upd_ap]
        by_cases e : q = k
        · rw [if_pos e, e]; simp only [pw]; rw [if_neg p]; rfl
        · rw [if_neg e]; exact g2 q (by omega)
  obtain ⟨s0, a1, a2, a3⟩ := h0
  rw [a3]
  unfold J_M_parrots_80
  refine lone (fun N i s => L_M_parrots_83 J_M_parrots_177 N (nI n) x2 x3 (nI (10 ^ i)) (nI i) s) (fun i s => Ag [36] τ s ∧ (∀ j, j < i → t j ≤ 10) ∧ ∀ q, q < 9 → s 36 q = nI (pw t i q)) (fun r => ∃ s, Ag [36] τ s ∧ (((∀ i, i < n → t i ≤ 10) ∧ r = J_M_parrots_177 x2 x3 (nI (10 ^ n)) s ∧ ∀ q, q < 9 → s 36 q = nI (pw t n q)) ∨ ((¬ ∀ i, i < n → t i ≤ 10) ∧ r = some (-2, s)))) n ?_ ?_ n 0 FU s0 (by omega) (by omega) (FU_lt (by omega)) ⟨a1, fun j hj => absurd hj (by omega), a2⟩
  · rintro N s ⟨g1, g2, g3⟩
    simp only [L_M_parrots_83, B_M_parrots_83]
    rw [if_pos (nI_le (Nat.le_refl n) (by omega))]
    exact ⟨s, g1, Or.inl ⟨g2, rfl, g3⟩⟩
  · rintro N i s hi ⟨g1, g2, g3⟩
    have eb : s 6 i &&& 255 = nI (t i) := by rw [g1 6 (by decide), hb i (by omega)]
    have hlt := hb2 i (by omega)
    have e10 : nI (10 ^ i) * 10 = nI (10 ^ (i + 1)) := by rw [nl10, pk_mul, Nat.pow_succ]
    simp only [L_M_parrots_83, B_M_parrots_83, M_octet (show i < 260 by omega), ob, eb, e10]
    rw [if_neg (nI_ge hi (by omega))]
    by_cases p : t i ≤ 10
    · rw [if_pos (show nI (t i) ≤ (10 : Int32) from nI_le (b := 10) p (by omega))]
      obtain ⟨s', k1, k2, k3⟩ := parM_in (show i < 8 by omega) p (nI n) x2 x3 (nI (10 ^ (i + 1))) (J_M_parrots_171 (fun x1 x2 x3 x4 x5 σ => L_M_parrots_83 J_M_parrots_177 N x1 x2 x3 x4 x5 σ)) τ s g1 g3
      rw [k1]
      simp only [J_M_parrots_171, nI_1]
      refine Or.inr ⟨s', rfl, k2, fun j hj => ?_, k3⟩
      by_cases e : j = i
      · rw [e]; exact p
      · exact g2 j (by omega)
    · rw [if_neg (show ¬ nI (t i) ≤ (10 : Int32) from nI_ge (a := 10) (by omega) (by omega))]
      exact Or.inl ⟨s, g1, Or.inr ⟨fun hh => p (hh i hi), rfl⟩⟩
-- the common divisor
theorem gcd_st (x y : Nat) : Nat.gcd x y = Nat.gcd y (x % y) := by
  rw [Nat.gcd_comm x y, Nat.gcd_rec y x, Nat.gcd_comm]
theorem half_mod {x y : Nat} (hy : 0 < y) (hr : 0 < x % y) : 2 * (y % (x % y)) < y := by
  have h1 := Nat.mod_lt x hy
  have h2 := Nat.mod_lt y hr
  by_cases h : 2 * (x % y) ≤ y
  · omega
  · have : y % (x % y) = y - x % y := by
      rw [Nat.mod_eq_sub_mod (by omega), Nat.mod_eq_of_lt (by omega)]
    omega
theorem nz_nI {y : Nat} (h : 0 < y) (h2 : y < 2 ^ 31) : nz (nI y) = true := by
  unfold nz
  simp [nI_ne0 h h2]
theorem gcd_C : ∀ (k N i x y : Nat) (σ : Hp), x < 2 ^ 31 → y < 2 ^ k → k ≤ 31 → 2 * k + i < 100 → 2 * k < N → L_V_commonDivisor_7 N (nI x) (nI y) (nI i) σ = some (nI (Nat.gcd x y), σ) := by
  intro k
  induction k with
  | zero =>
    intro N i x y σ hx hy _ hi hN
    obtain ⟨N, rfl⟩ : ∃ M, N = M + 1 := ⟨N - 1, by omega⟩
    have : y = 0 := by simpa using hy
    subst this
    simp only [L_V_commonDivisor_7, B_V_commonDivisor_7]
    rw [if_neg (show ¬ (100 : Int32) ≤ nI i from nI_ge (b := 100) (by omega) (by omega)), if_pos (show nI 0 = (0 : Int32) from rfl), Nat.gcd_zero_right]
  | succ k ih =>
    intro N i x y σ hx hy hk hi hN
    have hp : 2 ^ (k + 1) ≤ 2 ^ 31 := Nat.pow_le_pow_right (by omega) hk
    rw [Nat.pow_succ] at hy
    obtain ⟨N, rfl⟩ : ∃ M, N = M + 1 + 1 := ⟨N - 2, by omega⟩
    simp only [L_V_commonDivisor_7, B_V_commonDivisor_7]
    rw [if_neg (show ¬ (100 : Int32) ≤ nI i from nI_ge (b := 100) (by omega) (by omega))]
    by_cases h0 : y = 0
    · subst h0
      rw [if_pos (show nI 0 = (0 : Int32) from rfl), Nat.gcd_zero_right]
    · have hy31 : y < 2 ^ 31 := by rw [Nat.pow_succ] at hp; omega
      have hm := Nat.mod_lt x (show 0 < y by omega)
      rw [if_neg (nI_ne0 (by omega) hy31), gd_true (nz_nI (by omega) hy31), jrem_nI hx (by omega) hy31, nI_1, gcd_st x y, if_neg (show ¬ (100 : Int32) ≤ nI (i + 1) from nI_ge (b := 100) (by omega) (by omega))]
      by_cases h1 : x % y = 0
      · rw [h1, if_pos (show nI 0 = (0 : Int32) from rfl), Nat.gcd_zero_right]
      · rw [if_neg (nI_ne0 (by omega) (by omega)), gd_true (nz_nI (by omega) (by omega)), jrem_nI hy31 (by omega) (by omega), nI_1, gcd_st y (x % y)]
        have := half_mod (x := x) (y := y) (by omega) (by omega)
        exact ih N (i + 1 + 1) (x % y) (y % (x % y)) σ (by omega) (by omega) (by omega) (by omega) (by omega)
theorem gcd_M : ∀ (k N x y : Nat) (σ : Hp), x < 2 ^ 31 → y < 2 ^ k → k ≤ 31 → 2 * k < N → L_M_gcd_4 N (nI x) (nI y) σ = some (nI (Nat.gcd x y), σ) := by
  intro k
  induction k with
  | zero =>
    intro N x y σ hx hy _ hN
    obtain ⟨N, rfl⟩ : ∃ M, N = M + 1 := ⟨N - 1, by omega⟩
    have : y = 0 := by simpa using hy
    subst this
    simp only [L_M_gcd_4, B_M_gcd_4]
    rw [if_pos (show nI 0 = (0 : Int32) from rfl), Nat.gcd_zero_right]
  | succ k ih =>
    intro N x y σ hx hy hk hN
    have hp : 2 ^ (k + 1) ≤ 2 ^ 31 := Nat.pow_le_pow_right (by omega) hk
    rw [Nat.pow_succ] at hy
    obtain ⟨N, rfl⟩ : ∃ M, N = M + 1 + 1 := ⟨N - 2, by omega⟩
    simp only [L_M_gcd_4, B_M_gcd_4]
    by_cases h0 : y = 0
    · subst h0
      rw [if_pos (show nI 0 = (0 : Int32) from rfl), Nat.gcd_zero_right]
    · have hy31 : y < 2 ^ 31 := by rw [Nat.pow_succ] at hp; omega
      have hm := Nat.mod_lt x (show 0 < y by omega)
      rw [if_neg (nI_ne0 (by omega) hy31), gd_true (nz_nI (by omega) hy31), jrem_nI hx (by omega) hy31, gcd_st x y]
      by_cases h1 : x % y = 0
      · rw [h1, if_pos (show nI 0 = (0 : Int32) from rfl), Nat.gcd_zero_right]
      · rw [if_neg (nI_ne0 (by omega) (by omega)), gd_true (nz_nI (by omega) (by omega)), jrem_nI hy31 (by omega) (by omega), gcd_st y (x % y)]
        have := half_mod (x := x) (y := y) (by omega) (by omega)
        exact ih N (x % y) (y % (x % y)) σ (by omega) (by omega) (by omega) (by omega)
/-- what both answer in the end -/
theorem par_end {n : Nat} (hn : n ≤ 8) {A : Nat} (hA : A ≤ 10 ^ n) (w : Nat) (σ τ : Hp) : Sm σ τ (J_V_parrots_130 (nI w) (nI A) (nI (10 ^ n)) σ) (J_M_parrots_220 (nI w) (nI (10 ^ n)) (nI A) τ) := by
  have h10 := p10_le hn
  have hpos : 0 < 10 ^ n := Nat.pow_pos (by omega)
  have c1 : F_V_commonDivisor (nI A) (nI (10 ^ n)) σ = some (nI (Nat.gcd A (10 ^ n)), σ) := gcd_C 27 FU 0 A (10 ^ n) σ (by omega) (by omega) (by omega) (by omega) (FU_lt (by omega))
  have c2 : F_M_gcd (nI (10 ^ n)) (nI A) τ = some (nI (Nat.gcd (10 ^ n) A), τ) := gcd_M 27 FU (10 ^ n) A τ (by omega) (by omega) (by omega) (FU_lt (by omega))
  rw [Nat.gcd_comm] at c2
  have g1 : 0 < Nat.gcd A (10 ^ n) := Nat.gcd_pos_of_pos_right _ hpos
  have g2 : Nat.gcd A (10 ^ n) ≤ 10 ^ n := Nat.le_of_dvd hpos (Nat.gcd_dvd_right _ _)
  simp only [J_V_parrots_130, J_M_parrots_220, c1, c2, ob]
  rw [if_pos (show (1 : Int32) ≤ nI (Nat.gcd A (10 ^ n)) from nI_le (a := 1) (by omega) (by omega)), gd_true (nz_nI (by omega) (by omega)), gd_true (nz_nI (by omega) (by omega)), gd_true (nz_nI (by omega) (by omega)), gd_true (nz_nI (by omega) (by omega))]
  by_cases p : jrem (nI w) 2 = 0
  · rw [if_pos p, if_pos p]; exact ⟨_, rfl, rfl⟩
  · rw [if_neg p, if_neg p]; exact ⟨_, rfl, rfl⟩
theorem par95_un (k) (N : Nat) (a b c d e f : Int32) (σ : Hp) : L_V_parrots_95 k (N + 1) a b c d e f σ = B_V_parrots_95 k (fun x1 x2 x3 x5 x6 x7 σ => L_V_parrots_95 k N x1 x2 x3 x5 x6 x7 σ) a b c d e f σ := rfl
theorem par190_un (k) (N : Nat) (a b c d : Int32) (σ : Hp) : L_M_parrots_190 k (N + 1) a b c d σ = B_M_parrots_190 k (fun x3 x4 x5 x6 σ => L_M_parrots_190 k N x3 x4 x5 x6 σ) a b c d σ := rfl
theorem FU_s : FU = 999999 + 1 := rfl
theorem sim_parrots {σ τ : Hp} (h : Rl σ τ) (a1 a2 a3 : Int32) : ∃ r σ' τ', F_V_parrots a1 a2 a3 σ = some (r, σ') ∧ F_M_parrots a1 a2 a3 τ = some (r, τ') ∧ Rl σ' τ' := by
  obtain ⟨⟨n0, hn0, e1, e2⟩, hb⟩ := id h.2.2.1
  simp only [F_V_parrots, F_M_parrots, V_within, M_in, ob, b2_ite, e2]
  by_cases h1 : wi a1 1 8 = true
  · by_cases h2 : wi a2 0 8 = true
    · by_cases h3 : wi a3 0 3 = true
      · simp only [if_pos h1, if_pos h2, if_pos h3]
        obtain ⟨n, hn1, hn, rfl⟩ := wi_from (a := 1) (M := 8) (m := 1) (n := 8) (by decide) (by decide) h1
        obtain ⟨m, hm, rfl⟩ := wi_nat (M := 8) (n := 8) (by decide) h2
        obtain ⟨w, hw, rfl⟩ := wi_nat (M := 3) (n := 3) (by decide) h3
        simp only [C_has (k := n) e1 hn0 (show n ≤ 260 by omega), ob, b2_ite, decide_eq_true_eq]
        by_cases h4 : n ≤ n0
        · rw [if_pos h4, if_pos (nI_le h4 (by omega))]
          obtain ⟨t, ht⟩ : ∃ t : Nat → Nat, t = fun i => (σ 24 i).toNatClampNeg := ⟨_, rfl⟩
          have tb : ∀ i, i < 8 → σ 24 i = nI (t i) ∧ t i < 256 := fun i hi => by
            obtain ⟨r, hr, er⟩ := (hb i (by omega)).2
            have : t i = r := by rw [ht]; show (σ 24 i).toNatClampNeg = r; rw [er, nI_clamp (by omega)]
            rw [this]; exact ⟨er, hr⟩
          obtain ⟨s, s1, s2⟩ := par_C (t := t) hn (fun i hi => (tb i hi).1) (fun i hi => (tb i hi).2)
          obtain ⟨u, u1, u2⟩ := par_M (t := t) (τ := zu τ 0 6 0) hn (fun i hi => by rw [zu_ne _ _ _ (by decide), ← (hb i (by omega)).1]; exact (tb i hi).1) (fun i hi => (tb i hi).2) (nI m) (nI w)
          have hr : Rl (zu s 23 1 0) u := by
            refine (h.clear).sc (S := [41]) (T := [36]) (fun k hk => ?_) u1 (by decide) (by decide)
            by_cases e : k = 23
            · subst e; rw [zu_self, zu_self, s1 23 (by decide)]
            · rw [zu_ne _ _ _ e, zu_ne _ _ _ e, s1 k hk]
          rcases s2 with ⟨g, k1, k2⟩ | ⟨g, k1⟩
          · rcases u2 with ⟨-, j1, j2⟩ | ⟨g', -⟩
            · rw [k1, j1]
              simp only [ob, F_X8_clear, if_neg (show ¬ (1 : Int32) = 0 by decide)]
              have z1 : L_V_parrots_73 J_V_parrots_92 FU (nI n) (nI m) (nI w) 0 1 0 (zu s 23 1 0) = J_V_parrots_92 (nI n) (nI m) (nI w) 0 (nI (10 ^ n)) (zu s 23 1 0) := by
                refine lone (fun N i (_ : Unit) => L_V_parrots_73 J_V_parrots_92 N (nI n) (nI m) (nI w) 0 (nI (10 ^ i)) (nI i) (zu s 23 1 0)) (fun _ _ => True) (fun r => r = J_V_parrots_92 (nI n) (nI m) (nI w) 0 (nI (10 ^ n)) (zu s 23 1 0)) n ?_ ?_ n 0 FU () (by omega) (by omega) (FU_lt (by omega)) trivial
                · rintro N _ -
                  simp only [L_V_parrots_73, B_V_parrots_73]
                  rw [if_pos (nI_le (Nat.le_refl n) (by omega))]
                · rintro N i _ hi -
                  right
                  simp only [L_V_parrots_73, B_V_parrots_73]
                  rw [if_neg (nI_ge hi (by omega)), nI_1, nl10, pk_mul, ← Nat.pow_succ]
                  exact ⟨(), rfl, trivial⟩
              rw [z1]
              have hq9 := pq_9 t n g
              have h10 := p10_le hn
              have pqn : pq t n 9 = pq t n (n + 1) := by
                have := pq_end t n (8 - n)
                rwa [show n + 1 + (8 - n) = 9 by omega] at this
              -- the class's sum
              have key : ∃ A : Nat, A ≤ 10 ^ n ∧ J_V_parrots_92 (nI n) (nI m) (nI w) 0 (nI (10 ^ n)) (zu s 23 1 0) = J_V_parrots_130 (nI w) (nI A) (nI (10 ^ n)) (zu s 23 1 0) ∧ J_M_parrots_177 (nI m) (nI w) (nI (10 ^ n)) u = J_M_parrots_220 (nI w) (nI (10 ^ n)) (nI A) u := by
                have kz : ∀ q, q < 9 → zu s 23 1 0 41 q = nI (pw t n q) := fun q hq => by rw [zu_ne _ _ _ (by decide)]; exact k2 q hq
                by_cases p : w < 2
                · refine ⟨pq t n 9 - pq t n m, by omega, ?_, ?_⟩
                  · unfold J_V_parrots_92
                    by_cases pm : m ≤ n
                    · have q := lone (fun N j (_ : Unit) => L_V_parrots_95 J_V_parrots_130 N (nI n) (nI m) (nI w) (nI (pq t n (m + j) - pq t n m)) (nI (10 ^ n)) (nI (m + j)) (zu s 23 1 0)) (fun _ _ => True) (fun r => r = J_V_parrots_130 (nI w) (nI (pq t n 9 - pq t n m)) (nI (10 ^ n)) (zu s 23 1 0)) (n + 1 - m) ?_ ?_ (n + 1 - m) 0 FU () (by omega) (by omega) (FU_lt (by omega)) trivial
                      · rw [← q]
                        show _ = L_V_parrots_95 J_V_parrots_130 FU (nI n) (nI m) (nI w) (nI (pq t n m - pq t n m)) (nI (10 ^ n)) (nI m) (zu s 23 1 0)
                        rw [Nat.sub_self]
                        rfl
                      · rintro N _ -
                        simp only [L_V_parrots_95, B_V_parrots_95]
                        rw [show m + (n + 1 - m) = n + 1 by omega, if_pos (nI_lt (by omega) (by omega)), pqn]
                      · rintro N j _ hj -
                        right
                        simp only [L_V_parrots_95, B_V_parrots_95, J_V_parrots_112]
                        have m1 := pq_mono t n m j
                        rw [if_neg (nI_nlt (by omega) (by omega)), if_pos (show nI w < (2 : Int32) from nI_lt (b := 2) p (by omega)), gd_true (inbT (by omega) (by omega)), nI_clamp (by omega), kz (m + j) (by omega), nI_add, nI_1]
                        refine ⟨(), ?_, trivial⟩
                        have e : pq t n (m + j) - pq t n m + pw t n (m + j) = pq t n (m + (j + 1)) - pq t n m := by
                          rw [show m + (j + 1) = (m + j) + 1 by omega]; simp only [pq]; omega
                        rw [e, show m + j + 1 = m + (j + 1) by omega]
                    · rw [FU_s, par95_un]
                      unfold B_V_parrots_95
                      rw [if_pos (nI_lt (by omega) (by omega))]
                      have := pq_mono t n (n + 1) (m - (n + 1))
                      have := pq_mono t n m (9 - m)
                      rw [show n + 1 + (m - (n + 1)) = m by omega] at *
                      rw [show m + (9 - m) = 9 by omega] at this
                      rw [show pq t n 9 - pq t n m = 0 by omega]
                      rfl
                  · unfold J_M_parrots_177
                    rw [gd_true (inbT (by omega) (by omega)), nI_clamp (by omega), j2 m (by omega), nI_1]
                    have q := lone (fun N j (_ : Unit) => L_M_parrots_190 J_M_parrots_220 N (nI w) (nI (10 ^ n)) (nI (pq t n (m + 1 + j) - pq t n m)) (nI (m + 1 + j)) u) (fun _ _ => True) (fun r => r = J_M_parrots_220 (nI w) (nI (10 ^ n)) (nI (pq t n 9 - pq t n m)) u) (8 - m) ?_ ?_ (8 - m) 0 FU () (by omega) (by omega) (FU_lt (by omega)) trivial
                    · rw [← q]
                      show _ = L_M_parrots_190 J_M_parrots_220 FU (nI w) (nI (10 ^ n)) (nI (pq t n (m + 1) - pq t n m)) (nI (m + 1)) u
                      rw [show pq t n (m + 1) - pq t n m = pw t n m by simp only [pq]; omega]
                    · rintro N _ -
                      simp only [L_M_parrots_190, B_M_parrots_190]
                      rw [show m + 1 + (8 - m) = 9 by omega, if_pos (show (8 : Int32) < nI 9 by decide)]
                    · rintro N j _ hj -
                      right
                      simp only [L_M_parrots_190, B_M_parrots_190]
                      have m1 := pq_mono t n m (1 + j)
                      rw [if_neg (show ¬ (8 : Int32) < nI (m + 1 + j) from nI_nlt (a := 8) (by omega) (by omega)), if_neg (show ¬ (2 : Int32) ≤ nI w from nI_ge (b := 2) p (by omega)), gd_true (inbT (by omega) (by omega)), nI_clamp (by omega), j2 (m + 1 + j) (by omega), nI_add, nI_1]
                      refine ⟨(), ?_, trivial⟩
                      have e : pq t n (m + 1 + j) - pq t n m + pw t n (m + 1 + j) = pq t n (m + 1 + (j + 1)) - pq t n m := by
                        rw [show m + 1 + (j + 1) = (m + 1 + j) + 1 by omega]
                        rw [show m + (1 + j) = m + 1 + j by omega] at m1
                        simp only [pq]
                        omega
                      rw [e, show m + 1 + j + 1 = m + 1 + (j + 1) by omega]
                · have hpm := pw_ge t n m (by omega)
                  refine ⟨pw t n m, by omega, ?_, ?_⟩
                  · unfold J_V_parrots_92
                    by_cases pm : m ≤ n
                    · have q := lone (fun N j (a : Nat) => L_V_parrots_95 J_V_parrots_130 N (nI n) (nI m) (nI w) (nI a) (nI (10 ^ n)) (nI (m + j)) (zu s 23 1 0)) (fun j a => (j = 0 ∧ a = 0) ∨ (0 < j ∧ a = pw t n m)) (fun r => r = J_V_parrots_130 (nI w) (nI (pw t n m)) (nI (10 ^ n)) (zu s 23 1 0)) (n + 1 - m) ?_ ?_ (n + 1 - m) 0 FU 0 (by omega) (by omega) (FU_lt (by omega)) (Or.inl ⟨rfl, rfl⟩)
                      · exact q
                      · rintro N a ha
                        simp only [L_V_parrots_95, B_V_parrots_95]
                        rw [show m + (n + 1 - m) = n + 1 by omega, if_pos (nI_lt (by omega) (by omega)), show a = pw t n m by omega]
                      · rintro N j a hj ha
                        right
                        simp only [L_V_parrots_95, B_V_parrots_95, J_V_parrots_112]
                        rw [if_neg (nI_nlt (by omega) (by omega)), if_neg (show ¬ nI w < (2 : Int32) from nI_nlt (b := 2) (by omega) (by omega)), gd_true (inbT (by omega) (by omega)), nI_clamp (by omega), kz (m + j) (by omega), nI_add, nI_1]
                        rcases ha with ⟨rfl, rfl⟩ | ⟨ha, rfl⟩
                        · rw [if_pos (by rw [Nat.add_zero])]
                          exact ⟨pw t n m, by rw [Nat.zero_add]; rfl, Or.inr ⟨by omega, rfl⟩⟩
                        · rw [if_neg (fun e => by have := (nI_eq (by omega) (by omega)).mp e; omega)]
                          exact ⟨pw t n m, rfl, Or.inr ⟨by omega, rfl⟩⟩
                    · rw [FU_s, par95_un]
                      unfold B_V_parrots_95
                      rw [if_pos (nI_lt (by omega) (by omega)), pw_0 t n m (by omega)]
                      rfl
                  · unfold J_M_parrots_177
                    rw [gd_true (inbT (by omega) (by omega)), nI_clamp (by omega), j2 m (by omega), nI_1]
                    rw [FU_s, par190_un]
                    unfold B_M_parrots_190
                    rw [if_pos (show (2 : Int32) ≤ nI w from nI_le (a := 2) (by omega) (by omega)), ite_self]
              obtain ⟨A, hA, y1, y2⟩ := key
              rw [y1, y2]
              exact Ok.of hr (par_end hn hA w _ _)
            · exact absurd g g'
          · rcases u2 with ⟨g', -⟩ | ⟨-, j1⟩
            · exact absurd g' g
            · rw [k1, j1]
              simp only [ob, F_X8_clear, if_pos (show (0 : Int32) = 0 from rfl)]
              exact ⟨-2, _, _, rfl, rfl, hr⟩
        · rw [if_neg h4, if_neg (nI_ge (by omega) (by omega))]
          exact ⟨-1, σ, τ, rfl, rfl, h⟩
      · simp only [if_pos h1, if_pos h2, if_neg h3]
        exact ⟨-1, σ, τ, rfl, rfl, h⟩
    · simp only [if_pos h1, if_neg h2]
      exact ⟨-1, σ, τ, rfl, rfl, h⟩
  · simp only [if_neg h1]
    exact ⟨-1, σ, τ, rfl, rfl, h⟩
