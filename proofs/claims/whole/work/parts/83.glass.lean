-- glasses: both tables
theorem pop_cnt : ∀ n, n < 256 → popn (nI n) = nI (cnt (bt (nI n)) 0) := by decide +kernel
theorem cnt_le8 (P : Nat → Bool) : ∀ k, cn P k ≤ k := by
  intro k
  induction k with
  | zero => exact Nat.le_refl _
  | succ k ih =>
    show cn P k + (if P (7 - k) = true then 1 else 0) ≤ k + 1
    split <;> omega
theorem cnt_le (P : Nat → Bool) (c : Nat) : cnt P c ≤ 8 := Nat.le_trans (cnt_le8 P (8 - c)) (by omega)
theorem X3_sits (x : Int32) {c : Nat} (hc : c < 32) (σ : Hp) : F_X3_sits x (nI c) σ = some (b2 (bt x c), σ) := by
  unfold F_X3_sits
  by_cases h : bt x c = true
  · rw [if_pos ((has_bt x hc).mpr h), h]; rfl
  · rw [if_neg (fun e => h ((has_bt x hc).mp e))]
    simp only [Bool.not_eq_true] at h
    rw [h]; rfl
def gph (m n : Nat) : Bool := decide (cnt (bt (nI n)) 0 < cnt (bt (nI m)) 0)
theorem X3_may {n m c : Nat} (hn : n < 256) (hm : m < 256) (hc : c < 32) (σ : Hp) : F_X3_mayPass (nI n) (nI m) (nI c) σ = some (b2 (decide (¬ bt (nI n) c = true ∨ gph n m = true)), σ) := by
  unfold F_X3_mayPass
  rw [X3_sits _ hc, ob]
  dsimp only
  rw [b2_ite]
  have l1 := cnt_le (bt (nI n)) 0
  have l2 := cnt_le (bt (nI m)) 0
  by_cases h : bt (nI n) c = true
  · rw [if_pos h, C_bitCount hn, ob]
    dsimp only
    rw [C_bitCount hm, ob]
    dsimp only
    rw [pop_cnt n hn, pop_cnt m hm]
    unfold gph
    by_cases q : cnt (bt (nI m)) 0 < cnt (bt (nI n)) 0
    · rw [if_neg (nI_ge q (by omega)), decide_eq_true (Or.inr (decide_eq_true q))]; rfl
    · rw [if_pos (nI_le (by omega) (by omega)), decide_eq_false (by simp [h, q])]; rfl
  · rw [if_neg h, decide_eq_true (Or.inl h)]; rfl
theorem jabs_ab : ∀ c, c < 9 → ∀ e, e < 9 → jabs (nI c - nI e) = nI (ab c e) := by decide +kernel
theorem M_size {c e : Nat} (hc : c < 9) (he : e < 9) (τ : Hp) : F_M_size (nI c - nI e) τ = some (nI (ab c e), τ) := by
  rw [← jabs_ab c hc e he]
  unfold F_M_size jabs
  split <;> rfl
theorem ab_le {c e : Nat} (hc : c ≤ 8) (he : e ≤ 8) : ab c e ≤ 8 := by unfold ab; omega
section
variable {H A : Nat → Bool} {ph pa : Bool}
theorem W_le (c e : Nat) (hc : c ≤ 8) (he : e ≤ 8) : Wg H A ph pa c e ≤ 1000 := by
  have g1 : ∀ c x, gl1 H ph c x ≤ 1000 := fun c x => by unfold gl1; split <;> omega
  have g2 : ∀ e l x, gl2 A pa e l x ≤ l := fun e l x => by unfold gl2; split <;> omega
  have g3 : ∀ c e l x, gl3 H A c e l x ≤ l := fun c e l x => by unfold gl3; split <;> omega
  by_cases h1 : c = 8
  · by_cases h2 : e = 8
    · rw [h1, h2, W_88]; omega
    · rw [h1, W_8e (by omega)]; exact g2 _ _ _
  · by_cases h2 : e = 8
    · rw [h2, W_c8 (by omega)]; exact g1 _ _
    · rw [W_ce (by omega) (by omega)]
      exact Nat.le_trans (g3 _ _ _ _) (Nat.le_trans (g2 _ _ _) (g1 _ _))
theorem Ug_le : ∀ (k c : Nat) (F : Nat → Bool), 8 - c = k → Ug H c F ≤ 1000 * k := by
  intro k
  induction k with
  | zero => intro c F hk; rw [U_8 (by omega)]; omega
  | succ k ih =>
    intro c F hk
    have := U_le0 (H := H) (show c < 8 by omega) F
    have := ih (c + 1) F (by omega)
    have : pen H c ≤ 1000 := by unfold pen; split <;> omega
    omega
theorem Ug_le8 (c : Nat) (F : Nat → Bool) : Ug H c F ≤ 8000 := Nat.le_trans (Ug_le (8 - c) c F rfl) (by omega)
end
/-- the class's table of ways -/
def TbW (H A : Nat → Bool) (ph pa : Bool) (T : Nat → Int32) (c e : Nat) : Prop := ∀ p q, p ≤ 8 → q ≤ 8 → (c < p ∨ (p = c ∧ e ≤ q)) → T (9 * p + q) = nI (Wg H A ph pa p q)
def TbWA (H A : Nat → Bool) (ph pa : Bool) (T : Nat → Int32) : Prop := ∀ p q, p ≤ 8 → q ≤ 8 → T (9 * p + q) = nI (Wg H A ph pa p q)
theorem TbW.up {H A : Nat → Bool} {ph pa : Bool} {T : Nat → Int32} {i j : Nat} (h : TbW H A ph pa T i (j + 1)) (hj : j ≤ 8) : TbW H A ph pa (upd T (9 * i + j) (nI (Wg H A ph pa i j))) i j := by
  intro p q hp hq hh
  by_cases e : 9 * p + q = 9 * i + j
  · have e1 : p = i := by omega
    have e2 : q = j := by omega
    rw [e1, e2]
    exact upd_s _ _ _
  · rw [upd_ne _ _ e]
    refine h p q hp hq ?_
    by_cases q1 : p = i
    · right; refine ⟨q1, ?_⟩; rw [q1] at e; omega
    · left; omega
theorem C_lw {s : Hp} {n m c e : Nat} (hn : n < 256) (hm : m < 256) (e2 : s 36 2 = nI n) (e3 : s 36 3 = nI m) (hc : c ≤ 8) (he : e ≤ 8) (t : TbW (bt (nI n)) (bt (nI m)) (gph n m) (gph m n) (s 37) c (e + 1)) : F_X3_leastWay (nI c) (nI e) s = some (nI (Wg (bt (nI n)) (bt (nI m)) (gph n m) (gph m n) c e), s) := by
  obtain ⟨H, hH⟩ : ∃ H, H = bt (nI n) := ⟨_, rfl⟩
  obtain ⟨A, hA⟩ : ∃ A, A = bt (nI m) := ⟨_, rfl⟩
  obtain ⟨ph, hph⟩ : ∃ ph, ph = gph n m := ⟨_, rfl⟩
  obtain ⟨pa, hpa⟩ : ∃ pa, pa = gph m n := ⟨_, rfl⟩
  rw [← hH, ← hA, ← hph, ← hpa] at t ⊢
  have wl := fun c e h1 h2 => W_le (H := H) (A := A) (ph := ph) (pa := pa) c e h1 h2
  have j96 : ∀ l, l ≤ 1000 → J_X3_leastWay_96 (nI c) (nI e) (nI l) s = some (nI (if c < 8 ∧ e < 8 then gl3 H A c e l (Wg H A ph pa (c + 1) (e + 1)) else l), s) := by
    intro l hl
    unfold J_X3_leastWay_96
    by_cases h1 : c < 8
    rotate_left
    · rw [if_pos (show (8 : Int32) ≤ nI c from nI_le (a := 8) (by omega) (by omega)), if_neg (by omega)]
    rw [if_neg (show ¬ (8 : Int32) ≤ nI c from nI_ge (b := 8) (by omega) (by omega))]
    by_cases h2 : e < 8
    rotate_left
    · rw [if_pos (show (8 : Int32) ≤ nI e from nI_le (a := 8) (by omega) (by omega)), if_neg (by omega)]
    rw [if_neg (show ¬ (8 : Int32) ≤ nI e from nI_ge (b := 8) (by omega) (by omega)), if_pos ⟨h1, h2⟩, e2, X3_sits _ (by omega), ob]
    dsimp only
    rw [b2_ite, ← hH]
    unfold gl3
    by_cases h3 : H c = true
    rotate_left
    · rw [if_neg h3, if_neg (fun z => h3 z.1)]
    rw [if_pos h3, e3, X3_sits _ (by omega), ob]
    dsimp only
    rw [b2_ite, ← hA]
    by_cases h4 : A e = true
    rotate_left
    · rw [if_neg h4, if_neg (fun z => h4 z.2)]
    rw [if_pos h4, if_pos ⟨h3, h4⟩]
    simp (disch := omega) only [nl9, inb_nI, gd_tt, nI_clamp, nI_1, nI_add, pk_mul]
    have w1 := wl (c + 1) (e + 1) (by omega) (by omega)
    have a1 := ab_le (show c ≤ 8 by omega) (show e ≤ 8 by omega)
    rw [show (c + 1) * 9 + e + 1 = 9 * (c + 1) + (e + 1) by omega, t (c + 1) (e + 1) (by omega) (by omega) (Or.inl (by omega)), jabs_ab c (by omega) e (by omega), nI_add, jmin_nI (by omega) (by omega)]
  have j57 : ∀ l, l ≤ 1000 → J_X3_leastWay_57 (nI c) (nI e) (nI l) s = J_X3_leastWay_96 (nI c) (nI e) (nI (if e < 8 then gl2 A pa e l (Wg H A ph pa c (e + 1)) else l)) s := by
    intro l hl
    unfold J_X3_leastWay_57
    by_cases h2 : e < 8
    rotate_left
    · rw [if_pos (show (8 : Int32) ≤ nI e from nI_le (a := 8) (by omega) (by omega)), if_neg h2]
    rw [if_neg (show ¬ (8 : Int32) ≤ nI e from nI_ge (b := 8) (by omega) (by omega)), if_pos h2, e2, e3, X3_may hm hn (by omega), ob]
    dsimp only
    rw [b2_ite, ← hA, ← hpa]
    unfold gl2
    by_cases h3 : ¬ A e = true ∨ pa = true
    · rw [if_pos (decide_eq_true h3), if_pos h3]
      simp (disch := omega) only [nl9, inb_nI, gd_tt, nI_clamp, nI_1, nI_add, pk_mul]
      have w1 := wl c (e + 1) (by omega) (by omega)
      rw [show c * 9 + e + 1 = 9 * c + (e + 1) by omega, t c (e + 1) (by omega) (by omega) (Or.inr ⟨rfl, Nat.le_refl _⟩), jmin_nI (by omega) (by omega)]
    · rw [if_neg (by simpa using h3), if_neg h3]
  have j14 : J_X3_leastWay_14 (nI c) (nI e) s = J_X3_leastWay_57 (nI c) (nI e) (nI (if c < 8 then gl1 H ph c (Wg H A ph pa (c + 1) e) else 1000)) s := by
    unfold J_X3_leastWay_14
    by_cases h2 : c < 8
    rotate_left
    · rw [if_pos (show (8 : Int32) ≤ nI c from nI_le (a := 8) (by omega) (by omega)), if_neg h2]; rfl
    rw [if_neg (show ¬ (8 : Int32) ≤ nI c from nI_ge (b := 8) (by omega) (by omega)), if_pos h2, e2, e3, X3_may hn hm (by omega), ob]
    dsimp only
    rw [b2_ite, ← hH, ← hph]
    unfold gl1
    by_cases h3 : ¬ H c = true ∨ ph = true
    · rw [if_pos (decide_eq_true h3), if_pos h3]
      simp (disch := omega) only [nl9, nl1000, inb_nI, gd_tt, nI_clamp, nI_1, nI_add, pk_mul]
      have w1 := wl (c + 1) e (by omega) (by omega)
      rw [show (c + 1) * 9 + e = 9 * (c + 1) + e by omega, t (c + 1) e (by omega) (by omega) (Or.inl (by omega)), jmin_nI (by omega) (by omega)]
    · rw [if_neg (by simpa using h3), if_neg h3]; rfl
  have l1 : (if c < 8 then gl1 H ph c (Wg H A ph pa (c + 1) e) else 1000) ≤ 1000 := by
    unfold gl1; split
    · split <;> omega
    · omega
  have l2 : ∀ l, l ≤ 1000 → (if e < 8 then gl2 A pa e l (Wg H A ph pa c (e + 1)) else l) ≤ 1000 := by
    intro l hl
    unfold gl2; split
    · split <;> omega
    · omega
  unfold F_X3_leastWay
  by_cases h1 : c = 8
  · by_cases h2 : e = 8
    · rw [if_neg (show ¬ nI c < (8 : Int32) from nI_nlt (b := 8) (by omega) (by omega)), if_neg (show ¬ nI e < (8 : Int32) from nI_nlt (b := 8) (by omega) (by omega)), h1, h2, W_88]; rfl
    · rw [if_neg (show ¬ nI c < (8 : Int32) from nI_nlt (b := 8) (by omega) (by omega)), if_pos (show nI e < (8 : Int32) from nI_lt (b := 8) (by omega) (by omega)), j14, j57 _ l1, j96 _ (l2 _ l1), if_neg (by omega), if_pos (by omega), if_neg (by omega), h1, W_8e (e := e) (by omega)]
  · rw [if_pos (show nI c < (8 : Int32) from nI_lt (b := 8) (by omega) (by omega)), j14, j57 _ l1, j96 _ (l2 _ l1), if_pos (show c < 8 by omega)]
    by_cases h2 : e = 8
    · rw [if_neg (by omega), if_neg (by omega), h2, W_c8 (c := c) (by omega)]
    · rw [if_pos (by omega), if_pos (by omega), W_ce (c := c) (e := e) (by omega) (by omega)]
theorem C_carry {σ : Hp} {n m : Nat} (hn : n < 256) (hm : m < 256) (e2 : σ 36 2 = nI n) (e3 : σ 36 3 = nI m) (k57 : Hp → Option Hp) : ∃ s, L_X3_carry_13 k57 FU 8 σ = k57 s ∧ Ag [37] σ s ∧ TbWA (bt (nI n)) (bt (nI m)) (gph n m) (gph m n) (s 37) := by
  obtain ⟨H, hH⟩ : ∃ H, H = bt (nI n) := ⟨_, rfl⟩
  obtain ⟨A, hA⟩ : ∃ A, A = bt (nI m) := ⟨_, rfl⟩
  obtain ⟨ph, hph⟩ : ∃ ph, ph = gph n m := ⟨_, rfl⟩
  obtain ⟨pa, hpa⟩ : ∃ pa, pa = gph m n := ⟨_, rfl⟩
  rw [← hH, ← hA, ← hph, ← hpa]
  have := dloop (fun N x s => L_X3_carry_13 k57 N x s) (fun i s => Ag [37] σ s ∧ ∀ p q, p ≤ 8 → q ≤ 8 → i ≤ p → s 37 (9 * p + q) = nI (Wg H A ph pa p q)) (fun r => ∃ s, r = k57 s ∧ Ag [37] σ s ∧ TbWA H A ph pa (s 37)) 9 ?_ ?_ 9 FU σ (Nat.le_refl _) (FU_lt (by omega)) ⟨Ag.rf, fun p q hp _ h => absurd h (by omega)⟩
  · exact this
  · rintro N s ⟨a, b⟩
    show ∃ s', B_X3_carry_13 _ _ (-1) s = _ ∧ _
    unfold B_X3_carry_13
    rw [if_pos (by decide)]
    exact ⟨s, rfl, a, fun p q hp hq => b p q hp hq (by omega)⟩
  · rintro N i s hi ⟨a, b⟩
    have inner := dloop (fun M x s => L_X3_carry_21 (J_X3_carry_51 (fun x3 σ => L_X3_carry_13 k57 N x3 σ)) M (nI i) x s) (fun j s => Ag [37] σ s ∧ TbW H A ph pa (s 37) i j) (fun r => ∃ s, r = L_X3_carry_13 k57 N (dn i) s ∧ Ag [37] σ s ∧ ∀ p q, p ≤ 8 → q ≤ 8 → i ≤ p → s 37 (9 * p + q) = nI (Wg H A ph pa p q)) 9 ?_ ?_ 9 FU s (Nat.le_refl _) (FU_lt (by omega)) ⟨a, fun p q hp hq h => b p q hp hq (by omega)⟩
    · obtain ⟨s', h1, h2, h3⟩ := inner
      refine ⟨s', ?_, h2, h3⟩
      show B_X3_carry_13 _ _ (nI i) s = _
      unfold B_X3_carry_13
      rw [if_neg (nI_pos (by omega))]
      exact h1
    · rintro M s ⟨a, b⟩
      show ∃ s', B_X3_carry_21 _ _ (nI i) (-1) s = _ ∧ _
      unfold B_X3_carry_21
      rw [if_pos (by decide)]
      refine ⟨s, ?_, a, fun p q hp hq h => b p q hp hq (by omega)⟩
      unfold J_X3_carry_51
      rw [dn_m1]
    · rintro M j s hj ⟨a, b⟩
      refine ⟨zu s 37 (9 * i + j) (nI (Wg H A ph pa i j)), ?_, a.zu (by decide), ?_⟩
      · show B_X3_carry_21 _ _ (nI i) (nI j) s = _
        unfold B_X3_carry_21
        rw [hH, hA, hph, hpa] at b
        rw [if_neg (nI_pos (by omega)), C_lw hn hm (by rw [a 36 (by decide)]; exact e2) (by rw [a 36 (by decide)]; exact e3) (by omega) (by omega) b, ob]
        dsimp only
        simp (disch := omega) only [nl9, inb_nI, gd_tt, nI_clamp, nI_add, pk_mul, dn_m1]
        rw [show i * 9 + j = 9 * i + j by omega, hH, hA, hph, hpa]
      · rw [zu_self]; exact b.up (by omega)
