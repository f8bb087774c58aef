-- bridge: the deal
def bq (x : Int64) (i : Nat) : Bool := x.toBitVec.getLsbD i
theorem q_ext {x y : Int64} (h : ∀ i, i < 64 → bq x i = bq y i) : x = y := Int64.toBitVec_inj.mp (BitVec.eq_of_getLsbD_eq (fun i hi => h i hi))
theorem q_or (x y : Int64) (i : Nat) : bq (x ||| y) i = (bq x i || bq y i) := by unfold bq; rw [Int64.toBitVec_or, BitVec.getLsbD_or]
theorem q_and (x y : Int64) (i : Nat) : bq (x &&& y) i = (bq x i && bq y i) := by unfold bq; rw [Int64.toBitVec_and, BitVec.getLsbD_and]
theorem q_l : ∀ n, n < 52 → ((Int32.toInt64 (nI n) &&& 63).toBitVec.smod 64).toNat = n := by decide +kernel
theorem q_1 : ∀ i, i < 64 → bq (Int64.ofNat 1) i = decide (i = 0) := by decide +kernel
theorem q_0 : ∀ i, i < 64 → bq (Int64.ofNat 0) i = false := by decide +kernel
theorem q_shl (n : Nat) (hn : n < 52) (x : Int64) {i : Nat} (hi : i < 64) : bq (x <<< (Int32.toInt64 (nI n) &&& 63)) i = (decide (n ≤ i) && bq x (i - n)) := by
  unfold bq
  rw [Int64.toBitVec_shiftLeft]
  show (x.toBitVec <<< ((Int32.toInt64 (nI n) &&& 63).toBitVec.smod 64).toNat).getLsbD i = _
  rw [q_l n hn, BitVec.getLsbD_shiftLeft]
  rcases Nat.lt_or_ge i n with h | h
  · simp [h, Nat.not_le.mpr h]
  · simp [hi, h, Nat.not_lt.mpr h]
theorem q_sshr (n : Nat) (hn : n < 52) (x : Int64) {i : Nat} (hi : i < 64) : bq (x >>> (Int32.toInt64 (nI n) &&& 63)) i = if n + i < 64 then bq x (n + i) else bq x 63 := by
  unfold bq
  rw [Int64.toBitVec_shiftRight]
  show (x.toBitVec.sshiftRight ((Int32.toInt64 (nI n) &&& 63).toBitVec.smod 64).toNat).getLsbD i = _
  rw [q_l n hn, BitVec.getLsbD_sshiftRight, BitVec.msb_eq_getLsbD_last]
  simp [hi]
theorem bq_bit {c i : Nat} (hc : c < 52) (hi : i < 64) : bq (Int64.ofNat 1 <<< (Int32.toInt64 (nI c) &&& 63)) i = decide (i = c) := by
  rw [q_shl c hc _ hi]
  by_cases h : c ≤ i
  · rw [q_1 (i - c) (by omega)]
    by_cases h2 : i = c
    · subst h2; simp
    · simp [h, h2, show ¬ i - c = 0 by omega]
  · simp [h, show ¬ i = c by omega]
theorem lg_eq (x y : Int64) : lg_cmp x y = 0 ↔ x = y := by
  unfold lg_cmp
  by_cases h : x = y
  · subst h
    rw [if_neg (show ¬ x > x from Int64.lt_irrefl), if_pos rfl]; simp
  · rw [if_neg (c := x = y) h]
    constructor
    · intro e
      exfalso
      split at e
      · exact absurd e (by decide)
      · exact absurd e (by decide)
    · intro e; exact absurd e h
theorem has_bq (x : Int64) {c : Nat} (hc : c < 52) : lg_cmp ((x >>> (Int32.toInt64 (nI c) &&& 63)) &&& Int64.ofNat 1) (Int64.ofNat 1) = 0 ↔ bq x c = true := by
  rw [lg_eq]
  have key : ∀ i, i < 64 → bq (x >>> (Int32.toInt64 (nI c) &&& 63) &&& Int64.ofNat 1) i = (decide (i = 0) && bq x c) := fun i hi => by
    rw [q_and, q_1 i hi, q_sshr c hc x hi]
    by_cases h0 : i = 0
    · subst h0; simp [show c < 64 by omega]
    · simp [h0]
  constructor
  · intro h
    have := key 0 (by omega)
    rw [h, q_1 0 (by omega)] at this
    simpa using this.symm
  · intro h
    apply q_ext
    intro i hi
    rw [key i hi, h, q_1 i hi]
    simp
/-- a card that may not be dealt -/
def bad (w : Nat → Nat) (t : Nat) : Prop := 52 ≤ w t ∨ ∃ j, j < t ∧ w j = w t
def DI (n tr : Nat) (w : Nat → Nat) (i : Nat) (σ : Hp) : Prop := σ 39 1 = nI tr ∧ (∀ s, s < 12 → s % 3 < n → n * (s / 3) + s % 3 < i → σ 40 s = nI (w (n * (s / 3) + s % 3))) ∧ ∀ s, s < 32 → bt (σ 39 2) s = decide (s < 12 ∧ s % 3 < n ∧ n * (s / 3) + s % 3 < i)
theorem dl_un (N : Nat) (a : Int32) (y : Int64) (b : Int32) (σ : Hp) : L_X0_deal_16 (N + 1) a y b σ = B_X0_deal_16 (fun x2 y4 x6 σ => L_X0_deal_16 N x2 y4 x6 σ) a y b σ := rfl
theorem sl_ok {n i : Nat} (h1 : 1 ≤ n) (h3 : n ≤ 3) (hi : i < 4 * n) : i / n * 3 + i % n < 12 ∧ (i / n * 3 + i % n) % 3 < n ∧ n * ((i / n * 3 + i % n) / 3) + (i / n * 3 + i % n) % 3 = i ∧ ∀ s, s < 12 → s % 3 < n → n * (s / 3) + s % 3 = i → s = i / n * 3 + i % n := by
  rcases (show n = 1 ∨ n = 2 ∨ n = 3 by omega) with z | z | z <;> subst z <;> refine ⟨by omega, by omega, by omega, fun s h1 h2 h3 => by omega⟩
section
variable {n tr : Nat} {w : Nat → Nat}
theorem dl_loop (h1 : 1 ≤ n) (h3 : n ≤ 3) (hw : ∀ t, t < 12 → w t < 256) : ∀ (j i N : Nat) (y : Int64) (σ : Hp), i + j = 4 * n → j < N → (∀ t, t < 12 → σ 24 t = nI (w t)) → (∀ t, t < i → ¬ bad w t) → (∀ x, x < 52 → (bq y x = true ↔ ∃ t, t < i ∧ w t = x)) → DI n tr w i σ → (∃ σ', L_X0_deal_16 N (nI n) y (nI i) σ = some (1, σ') ∧ Ag [39, 40] σ σ' ∧ DI n tr w (4 * n) σ' ∧ ∀ t, t < 4 * n → ¬ bad w t) ∨ (∃ σ', L_X0_deal_16 N (nI n) y (nI i) σ = some (0, σ') ∧ Ag [39, 40] σ σ' ∧ ∃ t, t < 4 * n ∧ bad w t) := by
  intro j
  induction j with
  | zero =>
    intro i N y σ hi hN hσ hg hy hD
    obtain ⟨N, rfl⟩ : ∃ N', N = N' + 1 := ⟨N - 1, by omega⟩
    have e : i = 4 * n := by omega
    refine Or.inl ⟨σ, ?_, Ag.rf, by rw [← e]; exact hD, fun t ht => hg t (by omega)⟩
    rw [dl_un]
    unfold B_X0_deal_16
    rw [nl4, pk_mul, if_pos (nI_le (by omega) (by omega))]
  | succ j ih =>
    intro i N y σ hi hN hσ hg hy hD
    obtain ⟨N, rfl⟩ : ∃ N', N = N' + 1 := ⟨N - 1, by omega⟩
    have wi' := hw i (by omega)
    rw [dl_un]
    unfold B_X0_deal_16
    rw [nl4, pk_mul, if_neg (nI_ge (by omega) (by omega)), if_neg (show ¬ nI n < 1 from nI_nlt (b := 1) (by omega) (by omega)), if_neg (show ¬ (3 : Int32) < nI n from nI_nlt (a := 3) (by omega) (by omega)), C_byteAt (by omega), ob]
    dsimp only
    rw [hσ i (by omega), if_neg (show ¬ nI (w i) < 0 from nI_nlt (b := 0) (by omega) (by omega))]
    by_cases q1 : 52 ≤ w i
    · rw [if_pos (show (51 : Int32) < nI (w i) from nI_lt (a := 51) (by omega) (by omega))]
      exact Or.inr ⟨σ, rfl, Ag.rf, i, by omega, Or.inl q1⟩
    rw [if_neg (show ¬ (51 : Int32) < nI (w i) from nI_nlt (a := 51) (by omega) (by omega))]
    by_cases q2 : ∃ t, t < i ∧ w t = w i
    · rw [if_pos ((has_bq y (by omega)).mpr ((hy (w i) (by omega)).mpr q2))]
      exact Or.inr ⟨σ, rfl, Ag.rf, i, by omega, Or.inr q2⟩
    rw [if_neg (fun z => q2 ((hy (w i) (by omega)).mp ((has_bq y (by omega)).mp z)))]
    obtain ⟨k1, k2, k3, k4⟩ := sl_ok h1 h3 (show i < 4 * n by omega)
    have nzn : nz (nI n) = true := by rcases (show n = 1 ∨ n = 2 ∨ n = 3 by omega) with z | z | z <;> subst z <;> decide
    rw [gd_true nzn, gd_true nzn, nl3, pk_div (by omega) (by omega) (by omega), pk_mul, jrem_nI (by omega) (by omega) (by omega), nI_add]
    generalize i / n * 3 + i % n = s0 at k1 k2 k3 k4 ⊢
    rw [gd_true (inbT k1 (by omega)), nI_clamp (by omega), nI_1]
    obtain ⟨d1, d2, d3⟩ := hD
    have step := ih (i + 1) N (y ||| (Int64.ofNat 1 <<< (Int32.toInt64 (nI (w i)) &&& 63))) (zu (zu σ 40 s0 (nI (w i))) 39 2 ((zu σ 40 s0 (nI (w i))) 39 2 ||| ((1 : Int32) <<< (nI s0 &&& 31)))) (by omega) (by omega) (fun t ht => by rw [zu_ne _ _ _ (show 24 ≠ 39 by decide), zu_ne _ _ _ (show 24 ≠ 40 by decide)]; exact hσ t ht) (fun t ht => by
      by_cases z : t = i
      · rw [z]
        rintro (z | z)
        · exact q1 z
        · exact q2 z
      · exact hg t (by omega)) (fun x hx => by
      rw [q_or, bq_bit (by omega) (by omega), Bool.or_eq_true, hy x hx, decide_eq_true_eq]
      constructor
      · rintro (⟨t, t1, t2⟩ | z)
        · exact ⟨t, by omega, t2⟩
        · exact ⟨i, by omega, z.symm⟩
      · rintro ⟨t, t1, t2⟩
        by_cases z : t = i
        · right; rw [← t2, z]
        · left; exact ⟨t, by omega, t2⟩) ⟨by simp (disch := omega) only [zu_ne, zu_self, upd_ne, upd_s]; exact d1, fun s s1 s2 s3 => by
      rw [zu_ne _ _ _ (show 40 ≠ 39 by decide), zu_self]
      by_cases z : s = s0
      · rw [z, upd_s, k3]
      · rw [upd_ne _ _ z]
        exact d2 s s1 s2 (by
          have : ¬ n * (s / 3) + s % 3 = i := fun y => z (k4 s s1 s2 y)
          omega), fun s s1 => by
      rw [zu_self, upd_s, b_or, zu_ne _ _ _ (show 39 ≠ 40 by decide), d3 s s1, bt_bit (by omega) s1]
      by_cases z : s = s0
      · rw [decide_eq_true z, Bool.or_true, decide_eq_true (show s < 12 ∧ s % 3 < n ∧ n * (s / 3) + s % 3 < i + 1 by rw [z, k3]; exact ⟨k1, k2, by omega⟩)]
      · rw [decide_eq_false z, Bool.or_false]
        by_cases y : s < 12 ∧ s % 3 < n ∧ n * (s / 3) + s % 3 < i
        · rw [decide_eq_true y, decide_eq_true (show s < 12 ∧ s % 3 < n ∧ n * (s / 3) + s % 3 < i + 1 from ⟨y.1, y.2.1, by omega⟩)]
        · rw [decide_eq_false y, decide_eq_false (show ¬ (s < 12 ∧ s % 3 < n ∧ n * (s / 3) + s % 3 < i + 1) from fun v => y ⟨v.1, v.2.1, by
            have : ¬ n * (s / 3) + s % 3 = i := fun u => z (k4 s v.1 v.2.1 u)
            omega⟩)]⟩
    have ag : Ag [39, 40] σ (zu (zu σ 40 s0 (nI (w i))) 39 2 ((zu σ 40 s0 (nI (w i))) 39 2 ||| ((1 : Int32) <<< (nI s0 &&& 31)))) := (Ag.rf.zu (by decide)).zu (by decide)
    rcases step with ⟨σ', e1, e2, e3⟩ | ⟨σ', e1, e2, e3⟩
    · exact Or.inl ⟨σ', e1, ag.tr e2 _ (fun _ z => z) (fun _ z => z), e3⟩
    · exact Or.inr ⟨σ', e1, ag.tr e2 _ (fun _ z => z) (fun _ z => z), e3⟩
end
