-- loops that count up
def itU {S : Type} (f : Nat → S → S) : Nat → Nat → S → S
  | 0, _, s => s
  | k + 1, i, s => itU f k (i + 1) (f i s)
theorem itU_congr {S : Type} {f f' : Nat → S → S} : ∀ (k i : Nat) (s : S), (∀ j s, i ≤ j → j < i + k → f j s = f' j s) → itU f k i s = itU f' k i s := by
  intro k
  induction k with
  | zero => intro i s _; rfl
  | succ k ih =>
    intro i s h
    simp only [itU]
    rw [h i s (by omega) (by omega)]
    exact ih (i + 1) _ (fun j s h1 h2 => h j s (by omega) (by omega))
theorem itU_inv {S : Type} {f : Nat → S → S} (I : Nat → S → Prop) : ∀ (k i : Nat) (s : S), I i s → (∀ j s, i ≤ j → j < i + k → I j s → I (j + 1) (f j s)) → I (i + k) (itU f k i s) := by
  intro k
  induction k with
  | zero => intro i s h _; exact h
  | succ k ih =>
    intro i s h hs
    simp only [itU]
    have := ih (i + 1) (f i s) (hs i s (by omega) (by omega) h) (fun j s h1 h2 => hs j s (by omega) (by omega))
    rw [show i + (k + 1) = i + 1 + k by omega]
    exact this
theorem itU_rel {S S' : Type} {f : Nat → S → S} {f' : Nat → S' → S'} (I : Nat → S → S' → Prop) : ∀ (k i : Nat) (s : S) (s' : S'), I i s s' → (∀ j s s', i ≤ j → j < i + k → I j s s' → I (j + 1) (f j s) (f' j s')) → I (i + k) (itU f k i s) (itU f' k i s') := by
  intro k
  induction k with
  | zero => intro i s s' h _; exact h
  | succ k ih =>
    intro i s s' h hs
    simp only [itU]
    have := ih (i + 1) (f i s) (f' i s') (hs i s s' (by omega) (by omega) h) (fun j s s' h1 h2 => hs j s s' (by omega) (by omega))
    rw [show i + (k + 1) = i + 1 + k by omega]
    exact this
theorem loopU {S R : Type} (L : Nat → Nat → S → Option R) (f : Nat → S → S) (fin : S → Option R) (n : Nat) (hx : ∀ N s, L (N + 1) n s = fin s) (hs : ∀ N i s, i < n → L (N + 1) i s = L N (i + 1) (f i s)) : ∀ (k i N : Nat) (s : S), n - i = k → i ≤ n → k < N → L N i s = fin (itU f k i s) := by
  intro k
  induction k with
  | zero =>
    intro i N s hk hi hN
    obtain ⟨N, rfl⟩ : ∃ M, N = M + 1 := ⟨N - 1, by omega⟩
    rw [show i = n by omega, hx]
    rfl
  | succ k ih =>
    intro i N s hk hi hN
    obtain ⟨N, rfl⟩ : ∃ M, N = M + 1 := ⟨N - 1, by omega⟩
    rw [hs N i s (by omega), ih (i + 1) N _ (by omega) (by omega) (by omega)]
    rfl
/-- loops that may be left on the way -/
def erU {S R : Type} (g : Nat → S → R ⊕ S) (fin : S → R) : Nat → Nat → S → R
  | 0, _, s => fin s
  | k + 1, i, s => match g i s with
    | .inl r => r
    | .inr s' => erU g fin k (i + 1) s'
theorem loopE {S R : Type} (L : Nat → Nat → S → R) (g : Nat → S → R ⊕ S) (fin : S → R) (n : Nat) (hx : ∀ N s, L (N + 1) n s = fin s) (hs : ∀ N i s, i < n → L (N + 1) i s = match g i s with | .inl r => r | .inr s' => L N (i + 1) s') : ∀ (k i N : Nat) (s : S), n - i = k → i ≤ n → k < N → L N i s = erU g fin k i s := by
  intro k
  induction k with
  | zero =>
    intro i N s hk hi hN
    obtain ⟨N, rfl⟩ : ∃ M, N = M + 1 := ⟨N - 1, by omega⟩
    rw [show i = n by omega, hx]
    rfl
  | succ k ih =>
    intro i N s hk hi hN
    obtain ⟨N, rfl⟩ : ∃ M, N = M + 1 := ⟨N - 1, by omega⟩
    rw [hs N i s (by omega), erU]
    cases g i s with
    | inl r => rfl
    | inr s' => exact ih (i + 1) N s' (by omega) (by omega) (by omega)
theorem FU_lt {k : Nat} (h : k < 1000000) : k < FU := h
-- sets of chairs as bits
def bset (P : Nat → Bool) : Int32 := itU (fun c acc => if P c = true then acc ||| ((1 : Int32) <<< (nI c &&& 31)) else acc) 8 0 0
theorem bset_congr {P P' : Nat → Bool} (h : ∀ c, c < 8 → P c = P' c) : bset P = bset P' := itU_congr 8 0 0 (fun j s _ h2 => by rw [h j (by omega)])
theorem C_bits (t s : Nat) (hs : s < 2) (w : Int32) (σ : Hp) : F_X10_bits t (nI s) w σ = some (bset (fun c => decide (σ (t + 5) (8 * s + c) = w)), σ) := by
  unfold F_X10_bits
  have := loopU (fun N i acc => L_X10_bits_5 N t (nI s) w acc (nI i) σ) (fun c acc => if decide (σ (t + 5) (8 * s + c) = w) = true then acc ||| ((1 : Int32) <<< (nI c &&& 31)) else acc) (fun acc => some (acc, σ)) 8
    (fun N acc => by simp only [L_X10_bits_5, B_X10_bits_5]; rw [if_pos (by decide)])
    (fun N i acc hi => by
      simp only [L_X10_bits_5, B_X10_bits_5]
      rw [if_neg (show ¬ (8 : Int32) ≤ nI i from nI_ge (b := 8) (by omega) (by omega)), idxC]
      simp only [inbT (show 8 * s + i < 16 by omega) (by omega), gd_t, nI_clamp (show 8 * s + i < 2 ^ 31 by omega), nI_1, decide_eq_true_eq]
      split <;> rfl) 8 0 FU 0 (by omega) (by omega) (FU_lt (by omega))
  exact this
theorem M_setOf (s : Nat) (hs : s < 2) (w : Int32) (τ : Hp) : F_M_setOf (nI s) w τ = some (bset (fun c => decide (τ 1 (8 * s + c) = 1) && decide (τ 1 (80 + (8 * s + c)) = w)), τ) := by
  unfold F_M_setOf
  have := loopU (fun N i acc => L_M_setOf_5 N (nI s) w acc (nI i) τ) (fun c acc => if (decide (τ 1 (8 * s + c) = 1) && decide (τ 1 (80 + (8 * s + c)) = w)) = true then acc ||| ((1 : Int32) <<< (nI c &&& 31)) else acc) (fun acc => some (acc, τ)) 8
    (fun N acc => by simp only [L_M_setOf_5, B_M_setOf_5]; rw [if_pos (by decide)])
    (fun N i acc hi => by
      simp only [L_M_setOf_5, B_M_setOf_5]
      rw [if_neg (show ¬ (8 : Int32) ≤ nI i from nI_ge (b := 8) (by omega) (by omega)), idxM, idx0, idx80]
      simp only [inbT (show 8 * s + i < 100 by omega) (by omega), inbT (show 80 + (8 * s + i) < 100 by omega) (by omega), gd_t, nI_clamp (show 8 * s + i < 2 ^ 31 by omega), nI_clamp (show 80 + (8 * s + i) < 2 ^ 31 by omega), nI_1, Bool.and_eq_true, decide_eq_true_eq]
      by_cases h1 : τ 1 (8 * s + i) = 1
      · by_cases h2 : τ 1 (80 + (8 * s + i)) = w
        · simp [h1, h2]
        · simp [h1, h2]
      · simp [h1]) 8 0 FU 0 (by omega) (by omega) (FU_lt (by omega))
  exact this
theorem RG.st {o k : Nat} {σ τ : Hp} {g : Nat} (h : RG o k σ τ g) (w : Int32) (hw : w ≠ 3) : decide (σ (o + 5) g = w) = (decide (τ k g = 1) && decide (τ k (80 + g) = w)) := by
  obtain ⟨-, -, -, -, h5, -⟩ := h
  rcases h5 with ⟨a, b, -⟩ | ⟨a, b⟩
  · rw [a, b]; simp
  · rw [a, b]
    have : ¬ (3 : Int32) = w := fun e => hw e.symm
    simp [this]
theorem set_eq {o : Nat} {σ τ : Hp} (h : RWar o 1 σ τ) (s : Nat) (hs : s < 2) (w : Int32) (hw : w ≠ 3) : bset (fun c => decide (σ (o + 5) (8 * s + c) = w)) = bset (fun c => decide (τ 1 (8 * s + c) = 1) && decide (τ 1 (80 + (8 * s + c)) = w)) :=
  bset_congr (fun c hc => (h.1 (8 * s + c) (by omega)).st w hw)
theorem bset_8 (P : Nat → Bool) (Q : Int32 → Prop) (h : ∀ b0 b1 b2 b3 b4 b5 b6 b7 : Bool, Q (bset (fun c => [b0, b1, b2, b3, b4, b5, b6, b7].getD c false))) : Q (bset P) := by
  have e : bset P = bset (fun c => [P 0, P 1, P 2, P 3, P 4, P 5, P 6, P 7].getD c false) := bset_congr (fun c hc => by
    rcases (show c = 0 ∨ c = 1 ∨ c = 2 ∨ c = 3 ∨ c = 4 ∨ c = 5 ∨ c = 6 ∨ c = 7 by omega) with rfl | rfl | rfl | rfl | rfl | rfl | rfl | rfl <;> rfl)
  rw [e]
  exact h _ _ _ _ _ _ _ _
theorem bset_nat (P : Nat → Bool) : ∃ n : Nat, n < 256 ∧ bset P = nI n := by
  refine bset_8 P (fun x => ∃ n : Nat, n < 256 ∧ x = nI n) ?_
  have key : ∀ b0 b1 b2 b3 b4 b5 b6 b7 : Bool, bset (fun c => [b0, b1, b2, b3, b4, b5, b6, b7].getD c false) = nI (b0.toNat + 2 * b1.toNat + 4 * b2.toNat + 8 * b3.toNat + 16 * b4.toNat + 32 * b5.toNat + 64 * b6.toNat + 128 * b7.toNat) ∧ b0.toNat + 2 * b1.toNat + 4 * b2.toNat + 8 * b3.toNat + 16 * b4.toNat + 32 * b5.toNat + 64 * b6.toNat + 128 * b7.toNat < 256 := by decide +kernel
  intro b0 b1 b2 b3 b4 b5 b6 b7
  exact ⟨_, (key b0 b1 b2 b3 b4 b5 b6 b7).2, (key b0 b1 b2 b3 b4 b5 b6 b7).1⟩
theorem bset_has (P : Nat → Bool) : ∀ c, c < 8 → decide (bset P >>> (nI c &&& 31) &&& 1 = 1) = P c := by
  have key : ∀ b0 b1 b2 b3 b4 b5 b6 b7 : Bool, ∀ c, c < 8 → decide (bset (fun c => [b0, b1, b2, b3, b4, b5, b6, b7].getD c false) >>> (nI c &&& 31) &&& 1 = 1) = [b0, b1, b2, b3, b4, b5, b6, b7].getD c false := by decide +kernel
  intro c hc
  have e : bset P = bset (fun c => [P 0, P 1, P 2, P 3, P 4, P 5, P 6, P 7].getD c false) := bset_congr (fun c hc => by
    rcases (show c = 0 ∨ c = 1 ∨ c = 2 ∨ c = 3 ∨ c = 4 ∨ c = 5 ∨ c = 6 ∨ c = 7 by omega) with rfl | rfl | rfl | rfl | rfl | rfl | rfl | rfl <;> rfl)
  rw [e, key _ _ _ _ _ _ _ _ c hc]
  rcases (show c = 0 ∨ c = 1 ∨ c = 2 ∨ c = 3 ∨ c = 4 ∨ c = 5 ∨ c = 6 ∨ c = 7 by omega) with rfl | rfl | rfl | rfl | rfl | rfl | rfl | rfl <;> rfl
/-- a set of chairs is known by its members -/
theorem nat_set : ∀ n, n < 256 → bset (fun c => decide (nI n >>> (nI c &&& 31) &&& 1 = 1)) = nI n := by decide +kernel
theorem set_ext {n m : Nat} (hn : n < 256) (hm : m < 256) (h : ∀ c, c < 8 → decide (nI n >>> (nI c &&& 31) &&& 1 = 1) = decide (nI m >>> (nI c &&& 31) &&& 1 = 1)) : nI n = nI m := by
  rw [← nat_set n hn, ← nat_set m hm]
  exact bset_congr h
/-- how many a set has -/
def popn (x : Int32) : Int32 := itU (fun c acc => acc + (x >>> (nI c &&& 31) &&& 1)) 8 0 0
theorem M_bits (x : Int32) (τ : Hp) : F_M_bits x τ = some (popn x, τ) := by
  unfold F_M_bits
  exact loopU (fun N i acc => L_M_bits_4 N x acc (nI i) τ) (fun c acc => acc + (x >>> (nI c &&& 31) &&& 1)) (fun acc => some (acc, τ)) 8
    (fun N acc => by simp only [L_M_bits_4, B_M_bits_4]; rw [if_pos (by decide)])
    (fun N i acc hi => by
      simp only [L_M_bits_4, B_M_bits_4]
      rw [if_neg (show ¬ (8 : Int32) ≤ nI i from nI_ge (b := 8) (by omega) (by omega)), nI_1]) 8 0 FU 0 (by omega) (by omega) (FU_lt (by omega))
def jbc (x : Int32) : Int32 := match F_J6_bitCount x (fun _ _ => 0) with
  | some q => q.1
  | none => 0
theorem C_bitCount0 (x : Int32) (σ : Hp) : F_J6_bitCount x σ = some (jbc x, σ) := rfl
theorem jbc_pop : ∀ n, n < 256 → jbc (nI n) = popn (nI n) := by decide +kernel
theorem C_bitCount {n : Nat} (h : n < 256) (σ : Hp) : F_J6_bitCount (nI n) σ = some (popn (nI n), σ) := by rw [C_bitCount0, jbc_pop n h]
theorem popn_nat : ∀ n, n < 256 → ∃ m : Nat, m ≤ 8 ∧ popn (nI n) = nI m := by
  have key : ∀ n, n < 256 → (popn (nI n)).toNatClampNeg ≤ 8 ∧ popn (nI n) = nI (popn (nI n)).toNatClampNeg := by decide +kernel
  exact fun n h => ⟨_, key n h⟩
