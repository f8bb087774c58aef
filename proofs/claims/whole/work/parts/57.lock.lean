-- two loops side by side
theorem nl2 : (2 : Int32) = nI 2 := rfl
theorem nl3 : (3 : Int32) = nI 3 := rfl
theorem nl4 : (4 : Int32) = nI 4 := rfl
theorem nl5 : (5 : Int32) = nI 5 := rfl
theorem nl6 : (6 : Int32) = nI 6 := rfl
theorem nl7 : (7 : Int32) = nI 7 := rfl
theorem nl8 : (8 : Int32) = nI 8 := rfl
theorem nl9 : (9 : Int32) = nI 9 := rfl
theorem nl10 : (10 : Int32) = nI 10 := rfl
theorem nl11 : (11 : Int32) = nI 11 := rfl
theorem nl13 : (13 : Int32) = nI 13 := rfl
theorem nl14 : (14 : Int32) = nI 14 := rfl
theorem nl16 : (16 : Int32) = nI 16 := rfl
theorem nl20 : (20 : Int32) = nI 20 := rfl
theorem nl24 : (24 : Int32) = nI 24 := rfl
theorem nl25 : (25 : Int32) = nI 25 := rfl
theorem nl26 : (26 : Int32) = nI 26 := rfl
theorem nl32 : (32 : Int32) = nI 32 := rfl
theorem nl39 : (39 : Int32) = nI 39 := rfl
theorem nl40 : (40 : Int32) = nI 40 := rfl
theorem nl48 : (48 : Int32) = nI 48 := rfl
theorem nl50 : (50 : Int32) = nI 50 := rfl
theorem nl51 : (51 : Int32) = nI 51 := rfl
theorem nl52 : (52 : Int32) = nI 52 := rfl
theorem nl58 : (58 : Int32) = nI 58 := rfl
theorem nl59 : (59 : Int32) = nI 59 := rfl
theorem nl60 : (60 : Int32) = nI 60 := rfl
theorem nl61 : (61 : Int32) = nI 61 := rfl
theorem nl62 : (62 : Int32) = nI 62 := rfl
theorem nl64 : (64 : Int32) = nI 64 := rfl
theorem nl80 : (80 : Int32) = nI 80 := rfl
theorem nl99 : (99 : Int32) = nI 99 := rfl
theorem nl100 : (100 : Int32) = nI 100 := rfl
theorem nl120 : (120 : Int32) = nI 120 := rfl
theorem nl240 : (240 : Int32) = nI 240 := rfl
theorem nl256 : (256 : Int32) = nI 256 := rfl
theorem nl1000 : (1000 : Int32) = nI 1000 := rfl
theorem gd_tt {α : Type} (x : Option α) : gd true x = x := Eq.trans rfl rfl
theorem ob {α β : Type} (a : α) (f : α → Option β) : (some a).bind f = f a := Eq.trans rfl rfl
theorem nI_eq0 {a : Nat} (h : a < 2 ^ 31) : nI a = 0 ↔ a = 0 := nI_eq (b := 0) h (by omega)
theorem nI_eq1 {a : Nat} (h : a < 2 ^ 31) : nI a = 1 ↔ a = 1 := nI_eq (b := 1) h (by omega)
theorem lock {A B R R' : Type} (L1 : Nat → Nat → A → R) (L2 : Nat → Nat → B → R') (I : Nat → A → B → Prop) (Q : R → R' → Prop) (n : Nat)
    (hx : ∀ N1 N2 a b, I n a b → Q (L1 (N1 + 1) n a) (L2 (N2 + 1) n b))
    (hs : ∀ N1 N2 i a b, i < n → I i a b → Q (L1 (N1 + 1) i a) (L2 (N2 + 1) i b) ∨ ∃ a' b', L1 (N1 + 1) i a = L1 N1 (i + 1) a' ∧ L2 (N2 + 1) i b = L2 N2 (i + 1) b' ∧ I (i + 1) a' b') :
    ∀ (k i N1 N2 : Nat) (a : A) (b : B), n - i = k → i ≤ n → k < N1 → k < N2 → I i a b → Q (L1 N1 i a) (L2 N2 i b) := by
  intro k
  induction k with
  | zero =>
    intro i N1 N2 a b hk hi h1 h2 hI
    obtain ⟨N1, rfl⟩ : ∃ M, N1 = M + 1 := ⟨N1 - 1, by omega⟩
    obtain ⟨N2, rfl⟩ : ∃ M, N2 = M + 1 := ⟨N2 - 1, by omega⟩
    obtain rfl : i = n := by omega
    exact hx N1 N2 a b hI
  | succ k ih =>
    intro i N1 N2 a b hk hi h1 h2 hI
    obtain ⟨N1, rfl⟩ : ∃ M, N1 = M + 1 := ⟨N1 - 1, by omega⟩
    obtain ⟨N2, rfl⟩ : ∃ M, N2 = M + 1 := ⟨N2 - 1, by omega⟩
    rcases hs N1 N2 i a b (by omega) hI with h | ⟨a', b', e1, e2, h⟩
    · exact h
    · rw [e1, e2]
      exact ih (i + 1) N1 N2 a' b' (by omega) (by omega) (by omega) (by omega) h
/-- one loop with what it keeps -/
theorem lone {A R : Type} (L1 : Nat → Nat → A → R) (I : Nat → A → Prop) (Q : R → Prop) (n : Nat)
    (hx : ∀ N1 a, I n a → Q (L1 (N1 + 1) n a))
    (hs : ∀ N1 i a, i < n → I i a → Q (L1 (N1 + 1) i a) ∨ ∃ a', L1 (N1 + 1) i a = L1 N1 (i + 1) a' ∧ I (i + 1) a') :
    ∀ (k i N1 : Nat) (a : A), n - i = k → i ≤ n → k < N1 → I i a → Q (L1 N1 i a) := by
  intro k i N1 a hk hi h1 hI
  refine lock L1 (fun (N : Nat) (j : Nat) (_ : Unit) => ()) (fun i a _ => I i a) (fun r _ => Q r) n (fun N1 _ a _ h => hx N1 a h) (fun N1 _ i a _ hi h => ?_) k i N1 N1 a () hk hi h1 h1 hI
  rcases hs N1 i a hi h with h | ⟨a', e, h⟩
  · exact Or.inl h
  · exact Or.inr ⟨a', (), e, rfl, h⟩
/-- both answers, and what lasts -/
def Ok (r r' : Option (Int32 × Hp)) : Prop := ∃ v σ' τ', r = some (v, σ') ∧ r' = some (v, τ') ∧ Rl σ' τ'
/-- both answers, nothing changed -/
def Sm (σ τ : Hp) (r r' : Option (Int32 × Hp)) : Prop := ∃ v, r = some (v, σ) ∧ r' = some (v, τ)
theorem Ok.of {σ τ : Hp} {r r' : Option (Int32 × Hp)} (h : Rl σ τ) (q : Sm σ τ r r') : Ok r r' := by
  obtain ⟨v, e1, e2⟩ := q
  exact ⟨v, σ, τ, e1, e2, h⟩
theorem sigOf {s : Nat} (hs : s < 2) (σ : Hp) : F_V_signalsOf (nI s) σ = some (28 + 2 * s, σ) := by
  rcases (show s = 0 ∨ s = 1 by omega) with rfl | rfl <;> rfl
theorem isS_of {s : Nat} (hs : s < 2) : isS (28 + 2 * s) = true := by
  rcases (show s = 0 ∨ s = 1 by omega) with rfl | rfl <;> rfl
theorem Rl.sig {σ τ : Hp} (h : Rl σ τ) {s : Nat} (hs : s < 2) : RSig1 (28 + 2 * s) s σ τ := by
  obtain ⟨r1, r2, r3, ⟨r4, r5⟩, r6, r7⟩ := h
  rcases (show s = 0 ∨ s = 1 by omega) with rfl | rfl
  · exact r4
  · exact r5
theorem sim_lamps {σ τ : Hp} (h : Rl σ τ) (a1 a2 : Int32) : ∃ r σ' τ', F_V_lamps a1 a2 σ = some (r, σ') ∧ F_M_lamps a1 a2 τ = some (r, τ') ∧ Rl σ' τ' := by
  simp only [F_V_lamps, F_M_lamps, V_isSide, V_within, M_in, ob, b2_ite]
  by_cases h1 : wi a1 0 1 = true
  · by_cases h2 : wi a2 0 5 = true
    · obtain ⟨s, hs, rfl⟩ := wi_nat (M := 1) (n := 1) (by decide) h1
      simp only [h1, h2, if_true, sigOf (show s < 2 by omega), ob]
      obtain ⟨n, hn, e1, e2, e3⟩ := h.sig (show s < 2 by omega)
      have key : Sm σ τ (F_X7_howOften (28 + 2 * s) a2 σ) (L_M_lamps_25 FU (nI s) a2 0 0 τ) := by
        unfold F_X7_howOften
        refine lock (fun N i acc => L_X7_howOften_4 N (28 + 2 * s) a2 acc (nI i) σ) (fun N i acc => L_M_lamps_25 N (nI s) a2 acc (nI i) τ) (fun i a b => a = b) (Sm σ τ) n ?_ ?_ n 0 FU FU 0 0 (by omega) (by omega) (FU_lt (by omega)) (FU_lt (by omega)) rfl
        · rintro N1 N2 a _ rfl
          simp only [L_X7_howOften_4, B_X7_howOften_4, L_M_lamps_25, B_M_lamps_25]
          simp (disch := omega) only [inb_nI, gd_tt, ob, nI_clamp, nI_add, nI_1, pk_mul, nI_leI, nI_ltI, nI_eq, nl2, nl3, nl4, nl5, nl6, nl7, nl8, nl9, nl10, nl11, nl13, nl14, nl16, nl20, nl24, nl25, nl26, nl32, nl39, nl40, nl48, nl50, nl51, nl52, nl58, nl59, nl60, nl61, nl62, nl64, nl80, nl99, nl100, nl120, nl240, nl256, nl1000, e1, e2]
          rw [if_pos (Nat.le_refl n), if_pos (Nat.le_refl n)]
          exact ⟨a, rfl, rfl⟩
        · rintro N1 N2 i a _ hi rfl
          right
          simp only [L_X7_howOften_4, B_X7_howOften_4, L_M_lamps_25, B_M_lamps_25]
          simp (disch := omega) only [inb_nI, gd_tt, ob, nI_clamp, nI_add, nI_1, pk_mul, nI_leI, nI_ltI, nI_eq, nl2, nl3, nl4, nl5, nl6, nl7, nl8, nl9, nl10, nl11, nl13, nl14, nl16, nl20, nl24, nl25, nl26, nl32, nl39, nl40, nl48, nl50, nl51, nl52, nl58, nl59, nl60, nl61, nl62, nl64, nl80, nl99, nl100, nl120, nl240, nl256, nl1000, e1, e2]
          rw [if_neg (show ¬ n ≤ i by omega), if_neg (show ¬ n ≤ i by omega), (e3 i hi).1]
          by_cases hc : τ 20 (60 * s + i) = a2
          · rw [if_pos hc, if_pos hc]
            exact ⟨a + 1, a + 1, rfl, rfl, rfl⟩
          · rw [if_neg hc, if_neg hc]
            exact ⟨a + 0, a + 0, rfl, rfl, rfl⟩
      obtain ⟨v, k1, k2⟩ := key
      rw [k1, k2, ob, gd_true (isS_of (by omega))]
      exact ⟨v, σ, τ, rfl, rfl, h⟩
    · simp only [h1, h2, if_true, if_false]
      exact ⟨-1, σ, τ, rfl, rfl, h⟩
  · simp only [h1, if_false]
    exact ⟨-1, σ, τ, rfl, rfl, h⟩
theorem beat_eq {σ τ : Hp} (h : Rl σ τ) {s : Nat} (hs : s < 2) {p : Nat} (hp : p ≤ 60) : Sm σ τ (F_X7_repeatsAfter (28 + 2 * s) (nI p) σ) (F_M_isBeat (nI s) (nI p) τ) := by
  obtain ⟨n, hn, e1, e2, e3⟩ := h.sig hs
  unfold F_X7_repeatsAfter F_M_isBeat
  have key := lock (fun N i (_ : Unit) => L_X7_repeatsAfter_2 N (28 + 2 * s) (nI p) (nI i) σ) (fun N i (_ : Unit) => L_M_isBeat_2 N (nI s) (nI p) (nI (p + i)) τ) (fun i a b => True) (Sm σ τ) (n - p) ?_ ?_ (n - p) 0 FU FU () () (by omega) (by omega) (FU_lt (by omega)) (FU_lt (by omega)) trivial
  · exact key
  · rintro N1 N2 _ _ -
    simp only [L_X7_repeatsAfter_2, B_X7_repeatsAfter_2, L_M_isBeat_2, B_M_isBeat_2]
    simp (disch := omega) only [inb_nI, gd_tt, ob, nI_clamp, nI_add, nI_1, pk_mul, nI_leI, nI_ltI, nI_eq, nl2, nl3, nl4, nl5, nl6, nl7, nl8, nl9, nl10, nl11, nl13, nl14, nl16, nl20, nl24, nl25, nl26, nl32, nl39, nl40, nl48, nl50, nl51, nl52, nl58, nl59, nl60, nl61, nl62, nl64, nl80, nl99, nl100, nl120, nl240, nl256, nl1000, e1, e2]
    rw [if_pos (show n ≤ n - p + p by omega), if_pos (show n ≤ p + (n - p) by omega)]
    exact ⟨1, rfl, rfl⟩
  · rintro N1 N2 i _ _ hi -
    simp only [L_X7_repeatsAfter_2, B_X7_repeatsAfter_2, L_M_isBeat_2, B_M_isBeat_2]
    simp (disch := omega) only [inb_nI, gd_tt, ob, nI_clamp, nI_add, nI_1, pk_mul, nI_leI, nI_ltI, nI_eq, nl2, nl3, nl4, nl5, nl6, nl7, nl8, nl9, nl10, nl11, nl13, nl14, nl16, nl20, nl24, nl25, nl26, nl32, nl39, nl40, nl48, nl50, nl51, nl52, nl58, nl59, nl60, nl61, nl62, nl64, nl80, nl99, nl100, nl120, nl240, nl256, nl1000, e1, e2]
    have e4 : nI (60 * s + (p + i)) - nI p = nI (60 * s + i) := by rw [pk_sub (by omega)]; congr 1; omega
    simp only [e4]
    simp (disch := omega) only [inb_nI, gd_tt, ob, nI_clamp, nI_add, nI_1, pk_mul, nI_leI, nI_ltI, nI_eq, nl2, nl3, nl4, nl5, nl6, nl7, nl8, nl9, nl10, nl11, nl13, nl14, nl16, nl20, nl24, nl25, nl26, nl32, nl39, nl40, nl48, nl50, nl51, nl52, nl58, nl59, nl60, nl61, nl62, nl64, nl80, nl99, nl100, nl120, nl240, nl256, nl1000]
    rw [if_neg (show ¬ n ≤ i + p by omega), if_neg (show ¬ n ≤ p + i by omega), (e3 i (by omega)).1, (e3 (i + p) (by omega)).1, show i + p = p + i by omega]
    by_cases hc : τ 20 (60 * s + i) = τ 20 (60 * s + (p + i))
    · rw [if_pos hc, if_pos hc.symm]
      exact Or.inr ⟨(), (), rfl, rfl, trivial⟩
    · rw [if_neg hc, if_neg (fun e => hc e.symm)]
      exact Or.inl ⟨0, rfl, rfl⟩
theorem sim_beat {σ τ : Hp} (h : Rl σ τ) (a1 : Int32) : ∃ r σ' τ', F_V_beat a1 σ = some (r, σ') ∧ F_M_beat a1 τ = some (r, τ') ∧ Rl σ' τ' := by
  simp only [F_V_beat, F_M_beat, V_isSide, M_in, ob, b2_ite]
  by_cases h1 : wi a1 0 1 = true
  · obtain ⟨s, hs, rfl⟩ := wi_nat (M := 1) (n := 1) (by decide) h1
    simp only [h1, if_true, sigOf (show s < 2 by omega), ob]
    rw [gd_true (isS_of (by omega))]
    obtain ⟨n, hn, e1, e2, e3⟩ := h.sig (show s < 2 by omega)
    refine Ok.of h ?_
    refine lock (fun N i (_ : Unit) => L_V_beat_17 N (28 + 2 * s) (nI (1 + i)) σ) (fun N i (_ : Unit) => L_M_beat_13 N (nI s) (nI (1 + i)) τ) (fun i a b => True) (Sm σ τ) n ?_ ?_ n 0 FU FU () () (by omega) (by omega) (FU_lt (by omega)) (FU_lt (by omega)) trivial
    · rintro N1 N2 _ _ -
      simp only [L_V_beat_17, B_V_beat_17, L_M_beat_13, B_M_beat_13]
      simp (disch := omega) only [inb_nI, gd_tt, ob, nI_clamp, nI_add, nI_1, pk_mul, nI_leI, nI_ltI, nI_eq, nl2, nl3, nl4, nl5, nl6, nl7, nl8, nl9, nl10, nl11, nl13, nl14, nl16, nl20, nl24, nl25, nl26, nl32, nl39, nl40, nl48, nl50, nl51, nl52, nl58, nl59, nl60, nl61, nl62, nl64, nl80, nl99, nl100, nl120, nl240, nl256, nl1000, e1, e2]
      rw [if_pos (show n < 1 + n by omega), if_pos (show n < 1 + n by omega)]
      exact ⟨-2, rfl, rfl⟩
    · rintro N1 N2 i _ _ hi -
      simp only [L_V_beat_17, B_V_beat_17, L_M_beat_13, B_M_beat_13]
      obtain ⟨v, k1, k2⟩ := beat_eq h (show s < 2 by omega) (show 1 + i ≤ 60 by omega)
      simp (disch := omega) only [inb_nI, gd_tt, ob, nI_clamp, nI_add, nI_1, pk_mul, nI_leI, nI_ltI, nI_eq, nl2, nl3, nl4, nl5, nl6, nl7, nl8, nl9, nl10, nl11, nl13, nl14, nl16, nl20, nl24, nl25, nl26, nl32, nl39, nl40, nl48, nl50, nl51, nl52, nl58, nl59, nl60, nl61, nl62, nl64, nl80, nl99, nl100, nl120, nl240, nl256, nl1000, e1, e2]
      rw [k1, k2]
      simp (disch := omega) only [inb_nI, gd_tt, ob, nI_clamp, nI_add, nI_1, pk_mul, nI_leI, nI_ltI, nI_eq, nl2, nl3, nl4, nl5, nl6, nl7, nl8, nl9, nl10, nl11, nl13, nl14, nl16, nl20, nl24, nl25, nl26, nl32, nl39, nl40, nl48, nl50, nl51, nl52, nl58, nl59, nl60, nl61, nl62, nl64, nl80, nl99, nl100, nl120, nl240, nl256, nl1000]
      rw [if_neg (show ¬ n < 1 + i by omega), if_neg (show ¬ n < 1 + i by omega)]
      by_cases hc : v = 0
      · rw [if_pos hc, if_pos hc]
        exact Or.inr ⟨(), (), rfl, rfl, trivial⟩
      · rw [if_neg hc, if_neg hc]
        exact Or.inl ⟨_, rfl, rfl⟩
  · simp only [h1, if_false]
    exact ⟨-1, σ, τ, rfl, rfl, h⟩
theorem jmin_nI {a b : Nat} (ha : a < 2 ^ 31) (hb : b < 2 ^ 31) : jmin (nI a) (nI b) = nI (min a b) := by
  unfold jmin
  rw [Nat.min_def]
  by_cases h : b < a
  · rw [if_pos (nI_lt h ha), if_neg (by omega)]
  · rw [if_neg (nI_nlt (by omega) hb), if_pos (by omega)]
theorem jmax_nI {a b : Nat} (ha : a < 2 ^ 31) (hb : b < 2 ^ 31) : jmax (nI a) (nI b) = nI (max a b) := by
  unfold jmax
  rw [Nat.max_def]
  by_cases h : a < b
  · rw [if_pos (nI_lt h hb), if_pos (by omega)]
  · rw [if_neg (nI_nlt (by omega) ha)]
    by_cases h2 : a ≤ b
    · rw [if_pos h2, show a = b by omega]
    · rw [if_neg h2]
theorem M_min {a b : Nat} (ha : a < 2 ^ 31) (hb : b < 2 ^ 31) (τ : Hp) : F_M_min (nI a) (nI b) τ = some (nI (min a b), τ) := by
  unfold F_M_min
  rw [Nat.min_def]
  by_cases h : b ≤ a
  · rw [if_pos (nI_le h ha)]
    by_cases h2 : a ≤ b
    · rw [if_pos h2, show a = b by omega]
    · rw [if_neg h2]
  · rw [if_neg (nI_ge (by omega) hb), if_pos (by omega)]
theorem M_max {a b : Nat} (ha : a < 2 ^ 31) (hb : b < 2 ^ 31) (τ : Hp) : F_M_max (nI a) (nI b) τ = some (nI (max a b), τ) := by
  unfold F_M_max
  rw [Nat.max_def]
  by_cases h : a ≤ b
  · rw [if_pos (nI_le h hb), if_pos h]
  · rw [if_neg (nI_ge (by omega) ha), if_neg h]
theorem sim_answered {σ τ : Hp} (h : Rl σ τ) : ∃ r σ' τ', F_V_answered σ = some (r, σ') ∧ F_M_answered τ = some (r, τ') ∧ Rl σ' τ' := by
  obtain ⟨n, hn, e1, e2, e3⟩ := h.sig (show 0 < 2 by omega)
  obtain ⟨m, hm, f1, f2, f3⟩ := h.sig (show 1 < 2 by omega)
  unfold F_V_answered F_M_answered
  have i0 : inb 0 2 = true := rfl
  have i1 : inb 1 2 = true := rfl
  have c0 : Int32.toNatClampNeg 0 = 0 := rfl
  have c1 : Int32.toNatClampNeg 1 = 1 := rfl
  simp only [i0, i1, c0, c1, gd_tt, show σ 28 1 = nI n from e1, show σ 30 1 = nI m from f1, e2, f2, M_min (show n < 2 ^ 31 by omega) (show m < 2 ^ 31 by omega), jmin_nI (show n < 2 ^ 31 by omega) (show m < 2 ^ 31 by omega), ob]
  refine Ok.of h ?_
  refine lock (fun N i (_ : Unit) => L_V_answered_20 J_V_answered_54 N (nI (min n m)) (nI i) σ) (fun N i (_ : Unit) => L_M_answered_18 J_M_answered_49 N (nI (min n m)) (nI i) τ) (fun i a b => True) (Sm σ τ) (min n m) ?_ ?_ (min n m) 0 FU FU () () (by omega) (by omega) (FU_lt (by omega)) (FU_lt (by omega)) trivial
  · rintro N1 N2 _ _ -
    simp only [L_V_answered_20, B_V_answered_20, L_M_answered_18, B_M_answered_18, J_V_answered_54, J_M_answered_49]
    simp (disch := omega) only [inb_nI, gd_tt, ob, nI_clamp, nI_add, nI_1, pk_mul, nI_leI, nI_ltI, nI_eq, nl2, nl3, nl4, nl5, nl6, nl7, nl8, nl9, nl10, nl11, nl13, nl14, nl16, nl20, nl24, nl25, nl26, nl32, nl39, nl40, nl48, nl50, nl51, nl52, nl58, nl59, nl60, nl61, nl62, nl64, nl80, nl99, nl100, nl120, nl240, nl256, nl1000, i0, i1, c0, c1, show σ 28 1 = nI n from e1, show σ 30 1 = nI m from f1, e2, f2]
    rw [if_pos (Nat.le_refl _), if_pos (Nat.le_refl _)]
    by_cases hc : n = m
    · rw [if_pos hc, if_pos hc]; exact ⟨_, rfl, rfl⟩
    · rw [if_neg hc, if_neg hc]; exact ⟨_, rfl, rfl⟩
  · rintro N1 N2 i _ _ hi -
    simp only [L_V_answered_20, B_V_answered_20, L_M_answered_18, B_M_answered_18]
    simp (disch := omega) only [inb_nI, gd_tt, ob, nI_clamp, nI_add, nI_1, pk_mul, nI_leI, nI_ltI, nI_eq, nl2, nl3, nl4, nl5, nl6, nl7, nl8, nl9, nl10, nl11, nl13, nl14, nl16, nl20, nl24, nl25, nl26, nl32, nl39, nl40, nl48, nl50, nl51, nl52, nl58, nl59, nl60, nl61, nl62, nl64, nl80, nl99, nl100, nl120, nl240, nl256, nl1000]
    rw [if_neg (show ¬ min n m ≤ i by omega), if_neg (show ¬ min n m ≤ i by omega), (show σ 29 i = τ 20 (60 * 0 + i) from (e3 i (by omega)).1), (show σ 31 i = τ 20 (60 * 1 + i) from (f3 i (by omega)).1), show 60 * 0 + i = i by omega, show 60 * 1 + i = 60 + i by omega]
    by_cases hc : τ 20 i = τ 20 (60 + i)
    · rw [if_pos hc, if_pos hc]
      exact Or.inr ⟨(), (), rfl, rfl, trivial⟩
    · rw [if_neg hc, if_neg hc]
      exact Or.inl ⟨_, rfl, rfl⟩
