-- bridge: the other one's whole play
def dlN (n s : Nat) : Bool := decide (s < 12 ∧ s % 3 < n)
theorem dlN_at {n q k : Nat} (hq : q < 4) (hk : k < 3) : dlN n (3 * q + k) = decide (k < n) := by
  unfold dlN
  by_cases h : k < n
  · rw [decide_eq_true h, decide_eq_true (show 3 * q + k < 12 ∧ (3 * q + k) % 3 < n by omega)]
  · rw [decide_eq_false h, decide_eq_false (show ¬ (3 * q + k < 12 ∧ (3 * q + k) % 3 < n) by omega)]
theorem dlN_c12 {n : Nat} (h1 : 1 ≤ n) (h3 : n ≤ 3) : c12 (dlN n) 12 = 4 * n := by
  rcases (show n = 1 ∨ n = 2 ∨ n = 3 by omega) with z | z | z <;> subst z <;> decide
theorem Dm_lt {n : Nat} (h1 : 1 ≤ n) (h3 : n ≤ 3) : Dm (4 * n) < 900000 := by
  rcases (show n = 1 ∨ n = 2 ∨ n = 3 by omega) with z | z | z <;> subst z <;> decide
section
variable {n tr : Nat} {cd : Nat → Nat} {τ : Hp}
theorem M_playsOut {st : Nat} (hst : st < 4) (hB : Bx n tr cd τ) : ∃ (τ' : Hp) (y : Nat × Nat), F_M_playsOut (nI st) τ = some τ' ∧ Ag [0, 30, 31, 32, 33, 34, 35] τ τ' ∧ (∀ i, i ≠ 58 → τ' 0 i = τ 0 i) ∧ bv cd tr (4 * n) (dlN n) st 0 0 0 = some y ∧ τ' 32 0 = nI y.1 ∧ τ' 34 0 = nI y.2 := by
  obtain ⟨hn1, hn3, htr⟩ := hB.2.2.1
  obtain ⟨g1, g2, g3, g4, g5⟩ := beg_at (τ := zu τ 0 58 0) (j := 0) (x := nI st) (y := nI 0)
  have z0 : ∀ i, i ≠ 58 → beg (zu τ 0 58 0) 0 (nI st) (nI 0) 0 i = τ 0 i := fun i hi => by rw [beg_0 (by omega), zu_self, upd_ne _ _ hi]
  have z58 : beg (zu τ 0 58 0) 0 (nI st) (nI 0) 0 58 = 0 := by rw [beg_0 (by omega), zu_self, upd_s]
  have zA : Ag [0, 30, 31, 32, 33, 34, 35] τ (beg (zu τ 0 58 0) 0 (nI st) (nI 0)) := (Ag.rf.zu (by decide)).tr beg_ag _ (fun _ z => z) (fun _ z => z)
  have b0 : ∀ i, i < 32 → bt 0 i = false := by decide
  have N0 : Nd n tr cd 0 st 0 (fun _ => 0) (dlN n) (beg (zu τ 0 58 0) 0 (nI st) (nI 0)) := by
    refine ⟨⟨hB.mono z0 (zA 6 (by decide)), fun q k hq hk => ?_, fun q k hq hk h3 => ?_⟩, ⟨by omega, hst, by omega⟩, ⟨?_, g2, ?_⟩, fun i _ h => by omega, fun q hq => ?_⟩
    · rw [z58, b0 _ (by have := nq_lt hn3 hq hk; omega), dlN_at hq (by omega), decide_eq_true hk]; rfl
    · rw [dlN_at hq h3, decide_eq_false (by omega)]
    · rw [g1, show (st + 0 % 4) % 4 = st by omega]
    · rw [show 0 - 0 % 4 = 0 from rfl, g1]
    · rw [if_neg (by omega)]
      unfold hk hk hk hk
      rw [dlN_at hq (by omega), dlN_at hq (by omega), dlN_at hq (by omega)]
      rcases (show n = 1 ∨ n = 2 ∨ n = 3 by omega) with z | z | z <;> subst z <;> decide
  obtain ⟨c, τ', y, c1, c2, c3, c4, c5, c6, c7⟩ := ref_node (4 * n) 0 st 0 (fun _ => 0) (dlN n) _ (by omega) (by omega) N0 g3 g4 g5
  have hD := Dm_lt hn1 hn3
  have hFU : FU = 1000000 := rfl
  obtain ⟨K, hK⟩ : ∃ K, FU = (K + 1) + c := ⟨FU - c - 1, by omega⟩
  refine ⟨τ', y, ?_, zA.tr c4.1 _ (fun _ z => z) (fun _ z => z), fun i hi => by rw [c4.2.1, z0 i hi], ?_, ?_, c6⟩
  · unfold F_M_playsOut
    rw [show F_M_begins 0 (nI st) 0 (zu τ 0 58 0) = _ from M_begins (i := 0) (by omega) (nI st) (nI 0) (zu τ 0 58 0), ob]
    rw [nl4, hB.1, pk_mul, hK]
    have := c7 (K + 1)
    unfold Fn at this
    rw [if_pos rfl] at this
    rw [show L_M_playsOut_21 (K + 1 + c) (nI (4 * n)) 0 (beg (zu τ 0 58 0) 0 (nI st) (nI 0)) = _ from this, po21_un]
    unfold B_M_playsOut_21
    rw [if_pos (by decide)]
  · have : (st + 0 % 4) % 4 = st := by omega
    rw [this] at c2
    exact c2
  · rw [Nat.zero_add] at c5; exact c5
end
