-- sets by their bits (the family 'bt' is kit/laws/BITS.to-paste)
def bt (x : Int32) (i : Nat) : Bool := x.toBitVec.getLsbD i
theorem b_ext {x y : Int32} (h : ∀ i, i < 32 → bt x i = bt y i) : x = y := Int32.toBitVec_inj.mp (BitVec.eq_of_getLsbD_eq (fun i hi => h i hi))
theorem b_or (x y : Int32) (i : Nat) : bt (x ||| y) i = (bt x i || bt y i) := by unfold bt; rw [Int32.toBitVec_or, BitVec.getLsbD_or]
theorem b_and (x y : Int32) (i : Nat) : bt (x &&& y) i = (bt x i && bt y i) := by unfold bt; rw [Int32.toBitVec_and, BitVec.getLsbD_and]
theorem b_xor (x y : Int32) (i : Nat) : bt (x ^^^ y) i = (bt x i ^^ bt y i) := by unfold bt; rw [Int32.toBitVec_xor, BitVec.getLsbD_xor]
theorem b_big {x : Int32} {i : Nat} (h : 32 ≤ i) : bt x i = false := BitVec.getLsbD_of_ge _ _ h
theorem b_255 (i : Nat) : bt 255 i = decide (i < 8) := by
  rcases Nat.lt_or_ge i 32 with h | h
  · exact (by decide +kernel : ∀ i, i < 32 → bt 255 i = decide (i < 8)) i h
  · rw [b_big h, decide_eq_false (by omega)]
theorem b_65535 (i : Nat) : bt 65535 i = decide (i < 16) := by
  rcases Nat.lt_or_ge i 32 with h | h
  · exact (by decide +kernel : ∀ i, i < 32 → bt 65535 i = decide (i < 16)) i h
  · rw [b_big h, decide_eq_false (by omega)]
theorem b_m1 : ∀ i, i < 32 → bt (-1) i = true := by decide +kernel
theorem b_0 (i : Nat) : bt 0 i = false := BitVec.getLsbD_zero
theorem s_l : ∀ n, n < 32 → ((nI n &&& 31).toBitVec.smod 32).toNat = n := by decide +kernel
theorem s_u : ∀ n, n < 32 → (((nI n).toUInt32 &&& Int32.toUInt32 31).toBitVec % 32).toNat = n := by decide +kernel
theorem b_shl (n : Nat) (hn : n < 32) (x : Int32) {i : Nat} (hi : i < 32) : bt (x <<< (nI n &&& 31)) i = (decide (n ≤ i) && bt x (i - n)) := by
  unfold bt
  rw [Int32.toBitVec_shiftLeft]
  show (x.toBitVec <<< ((nI n &&& 31).toBitVec.smod 32).toNat).getLsbD i = _
  rw [s_l n hn, BitVec.getLsbD_shiftLeft]
  rcases Nat.lt_or_ge i n with h | h
  · simp [h, Nat.not_le.mpr h]
  · simp [hi, h, Nat.not_lt.mpr h]
theorem b_ushr (n : Nat) (hn : n < 32) (x : Int32) (i : Nat) : bt ((x.toUInt32 >>> ((nI n).toUInt32 &&& Int32.toUInt32 31)).toInt32) i = bt x (n + i) := by
  show (x.toUInt32 >>> ((nI n).toUInt32 &&& Int32.toUInt32 31)).toBitVec.getLsbD i = x.toUInt32.toBitVec.getLsbD (n + i)
  rw [UInt32.toBitVec_shiftRight]
  show (x.toUInt32.toBitVec >>> (((nI n).toUInt32 &&& Int32.toUInt32 31).toBitVec % 32).toNat).getLsbD i = _
  rw [s_u n hn, BitVec.getLsbD_ushiftRight]
theorem b_sshr (n : Nat) (hn : n < 32) (x : Int32) {i : Nat} (hi : i < 32) : bt (x >>> (nI n &&& 31)) i = if n + i < 32 then bt x (n + i) else bt x 31 := by
  unfold bt
  rw [Int32.toBitVec_shiftRight]
  show (x.toBitVec.sshiftRight ((nI n &&& 31).toBitVec.smod 32).toNat).getLsbD i = _
  rw [s_l n hn, BitVec.getLsbD_sshiftRight, BitVec.msb_eq_getLsbD_last]
  simp [hi]
theorem bt_1 : ∀ i, i < 32 → bt 1 i = decide (i = 0) := by decide +kernel
theorem bt_bset (P : Nat → Bool) {i : Nat} (hi : i < 32) : bt (bset P) i = (decide (i < 8) && P i) := by
  have h := itU_inv (f := fun c acc => if P c = true then acc ||| ((1 : Int32) <<< (nI c &&& 31)) else acc) (fun c acc => ∀ i, i < 32 → bt acc i = (decide (i < c) && P i)) 8 0 0 (fun i _ => by rw [b_0]; simp) (fun c acc h1 h2 hI i hi => by
    by_cases hp : P c = true
    · rw [if_pos hp, b_or, hI i hi, b_shl c (by omega) 1 hi]
      by_cases hc : c ≤ i
      · rw [bt_1 (i - c) (by omega)]
        by_cases he : i = c
        · subst he; simp [hp]
        · simp [hc, show ¬ i < c by omega, show ¬ i < c + 1 by omega, show ¬ i - c = 0 by omega]
      · simp [hc, show i < c by omega, show i < c + 1 by omega]
    · rw [if_neg hp, hI i hi]
      by_cases he : i = c
      · subst he; simp [hp]
      · by_cases hc : i < c
        · simp [hc, show i < c + 1 by omega]
        · simp [hc, show ¬ i < c + 1 by omega])
  exact h i hi
theorem bset_or (P Q : Nat → Bool) : bset P ||| bset Q = bset (fun c => P c || Q c) := b_ext (fun i hi => by
  rw [b_or, bt_bset _ hi, bt_bset _ hi, bt_bset _ hi]
  cases decide (i < 8) <;> simp)
theorem bset_and (P Q : Nat → Bool) : bset P &&& bset Q = bset (fun c => P c && Q c) := b_ext (fun i hi => by
  rw [b_and, bt_bset _ hi, bt_bset _ hi, bt_bset _ hi]
  cases decide (i < 8) <;> simp)
theorem bset_not (P : Nat → Bool) : 255 &&& (bset P ^^^ -1) = bset (fun c => !P c) := b_ext (fun i hi => by
  rw [b_and, b_255, b_xor, bt_bset _ hi, bt_bset _ hi, b_m1 i hi]
  cases decide (i < 8) <;> simp)
/-- the members of a set, tested as both programs do -/
theorem has_bt (x : Int32) {c : Nat} (hc : c < 32) : (x >>> (nI c &&& 31) &&& 1 = 1) ↔ bt x c = true := by
  have key : ∀ i, i < 32 → bt (x >>> (nI c &&& 31) &&& 1) i = (decide (i = 0) && bt x c) := fun i hi => by
    rw [b_and, bt_1 i hi, b_sshr c hc x hi]
    by_cases h0 : i = 0
    · subst h0; simp [hc]
    · simp [h0]
  constructor
  · intro h
    have := key 0 (by omega)
    rw [h] at this
    simpa [show bt 1 0 = true by decide] using this.symm
  · intro h
    apply b_ext
    intro i hi
    rw [key i hi, h, bt_1 i hi]
    simp
theorem has_bset (P : Nat → Bool) {c : Nat} (hc : c < 8) : (bset P >>> (nI c &&& 31) &&& 1 = 1) ↔ P c = true := by
  rw [has_bt _ (by omega), bt_bset _ (by omega)]
  simp [hc]
theorem M_has (x : Int32) {c : Nat} (hc : c < 32) (τ : Hp) : F_M_has x (nI c) τ = some (b2 (bt x c), τ) := by
  unfold F_M_has
  by_cases h : bt x c = true
  · rw [if_pos ((has_bt x hc).mpr h), h]; rfl
  · rw [if_neg (fun e => h ((has_bt x hc).mp e))]
    simp only [Bool.not_eq_true] at h
    rw [h]; rfl
-- count
theorem jrem_nI {a d : Nat} (ha : a < 2 ^ 31) (h0 : 0 < d) (hd : d < 2 ^ 31) : jrem (nI a) (nI d) = nI (a % d) := pk_rem ha h0 hd
theorem C_gent (t s : Nat) (hs : s < 2) (σ : Hp) : F_X10_gentlemen t (nI s) σ = some (bset (fun c => !decide (σ (t + 5) (8 * s + c) = 3)), σ) := by
  simp only [F_X10_gentlemen, C_bits t s hs, Option.bind_some, bset_not]
theorem RG.there {o k : Nat} {σ τ : Hp} {g : Nat} (h : RG o k σ τ g) : (!decide (σ (o + 5) g = 3)) = decide (τ k g = 1) := by
  obtain ⟨-, -, -, -, h5, -⟩ := h
  rcases h5 with ⟨a, b, c⟩ | ⟨a, b⟩
  · rw [a, b]
    rcases c with c | c | c <;> rw [c] <;> decide
  · rw [a, b]; decide
theorem cos_eq {σ τ : Hp} (h : Rl σ τ) (s k : Nat) (hs : s < 2) (hk : k < 6) : ∃ r, F_V_countOfSide (nI s) (nI k) σ = some (r, σ) ∧ J_M_count_127 (nI (10 * (s + 1) + k)) τ = some (r, τ) := by
  have e1 : nI (10 * (s + 1) + k) / 10 - 1 = nI s := by
    rw [show (10 : Int32) = nI 10 from rfl, pk_div (by omega) (by omega) (by omega), show (1 : Int32) = nI 1 from rfl, pk_sub (by omega)]
    congr 1; omega
  have e2 : jrem (nI (10 * (s + 1) + k)) 10 = nI k := by
    rw [show (10 : Int32) = nI 10 from rfl, jrem_nI (by omega) (by omega) (by omega)]
    congr 1; omega
  simp only [J_M_count_127, e1, e2, F_V_countOfSide]
  obtain ⟨r1, r2, r3, ⟨r4, r5⟩, r6, r7⟩ := h
  rcases (show k = 0 ∨ k = 1 ∨ k = 2 ∨ k = 3 ∨ k = 4 ∨ k = 5 by omega) with rfl | rfl | rfl | rfl | rfl | rfl
  · rw [if_pos (by decide), if_pos (by decide), C_gent 1 s hs, M_outside s hs]
    simp only [Option.bind_some, M_setOf s hs, bset_or]
    refine ⟨_, rfl, ?_⟩
    congr 2
    refine bset_congr (fun c hc => ?_)
    have hg := r1.1 (8 * s + c) (by omega)
    rw [hg.there]
    obtain ⟨-, -, -, -, h5, -⟩ := hg
    rcases h5 with ⟨a, b, c⟩ | ⟨a, b⟩
    · rcases c with c | c | c <;> simp [a, c]
    · simp [a]
  · rw [if_neg (by decide), if_pos (by decide), if_neg (by decide), if_pos (by decide), C_bits 1 s hs]
    simp only [Option.bind_some, M_setOf s hs]
    exact ⟨_, rfl, by rw [set_eq r1 s hs 0 (by decide)]⟩
  · rw [if_neg (by decide), if_neg (by decide), if_pos (by decide), if_neg (by decide), if_neg (by decide), if_pos (by decide), C_bits 1 s hs]
    simp only [Option.bind_some, M_setOf s hs]
    exact ⟨_, rfl, by rw [set_eq r1 s hs 1 (by decide)]⟩
  · rw [if_neg (by decide), if_neg (by decide), if_neg (by decide), if_pos (by decide), if_neg (by decide), if_neg (by decide), if_neg (by decide), if_pos (by decide), C_bits 1 s hs]
    simp only [Option.bind_some, M_setOf s hs]
    exact ⟨_, rfl, by rw [set_eq r1 s hs 2 (by decide)]⟩
  · rw [if_neg (by decide), if_neg (by decide), if_neg (by decide), if_neg (by decide), if_pos (by decide), if_neg (by decide), if_neg (by decide), if_neg (by decide), if_neg (by decide), if_pos (by decide)]
    simp only [inbT hs (by omega), gd_t, nI_clamp (show s < 2 ^ 31 by omega)]
    exact ⟨_, rfl, by rw [(r2.2 s hs).1]⟩
  · rw [if_neg (by decide), if_neg (by decide), if_neg (by decide), if_neg (by decide), if_neg (by decide), if_neg (by decide), if_neg (by decide), if_neg (by decide), if_neg (by decide), if_neg (by decide)]
    simp only [inbT hs (by omega), gd_t, nI_clamp (show s < 2 ^ 31 by omega), F_V_signalsOf]
    rcases (show s = 0 ∨ s = 1 by omega) with rfl | rfl
    · rw [if_pos (by decide)]
      obtain ⟨n, hn, a, b, -⟩ := r4
      exact ⟨nI n, by simp only [Option.bind_some]; rw [gd_true (by decide), a], by rw [b]⟩
    · rw [if_neg (by decide)]
      obtain ⟨n, hn, a, b, -⟩ := r5
      exact ⟨nI n, by simp only [Option.bind_some]; rw [gd_true (by decide), a], by rw [b]⟩
theorem nI_lit {j k : Nat} (hj : j < 2 ^ 31) (hk : k < 2 ^ 31) (h : j ≠ k) : ¬ nI j = nI k := fun e => h ((nI_eq hj hk).mp e)
theorem sim_count {σ τ : Hp} (h : Rl σ τ) (a1 : Int32) : ∃ r σ' τ', F_V_count a1 σ = some (r, σ') ∧ F_M_count a1 τ = some (r, τ') ∧ Rl σ' τ' := by
  simp only [F_V_count, F_M_count, V_within, M_in, Option.bind_some, b2_ite, i96, i97, i98, i99, gd_t, c96, c97, c98, c99]
  obtain ⟨r1, r2, r3, ⟨r4, r5⟩, r6, r7⟩ := id h
  by_cases w1 : wi a1 100 123 = true
  · obtain ⟨j, h1, h2, rfl⟩ := wi_from (a := 100) (M := 123) (m := 100) (n := 123) (by decide) (by decide) w1
    rw [if_pos w1, if_neg (show ¬ nI j = (0 : Int32) from nI_lit (k := 0) (by omega) (by omega) (by omega)), if_neg (show ¬ nI j = (1 : Int32) from nI_lit (k := 1) (by omega) (by omega) (by omega)), if_neg (show ¬ nI j = (2 : Int32) from nI_lit (k := 2) (by omega) (by omega) (by omega)), if_neg (show ¬ nI j = (3 : Int32) from nI_lit (k := 3) (by omega) (by omega) (by omega)), if_neg (show ¬ nI j = (4 : Int32) from nI_lit (k := 4) (by omega) (by omega) (by omega)), if_neg (show ¬ nI j = (5 : Int32) from nI_lit (k := 5) (by omega) (by omega) (by omega)), if_pos w1]
    have e : nI j - 100 = nI (j - 100) := pk_sub (b := 100) h1
    simp only [e, inbT (show j - 100 < 24 by omega) (by omega), gd_t, nI_clamp (show j - 100 < 2 ^ 31 by omega)]
    exact ⟨_, _, _, rfl, by rw [(r2.1 (j - 100) (by omega)).1], h⟩
  · rw [if_neg w1]
    by_cases w2 : wi a1 10 15 = true
    · obtain ⟨j, h1, h2, rfl⟩ := wi_from (a := 10) (M := 15) (m := 10) (n := 15) (by decide) (by decide) w2
      rw [if_pos w2, if_neg (show ¬ nI j = (0 : Int32) from nI_lit (k := 0) (by omega) (by omega) (by omega)), if_neg (show ¬ nI j = (1 : Int32) from nI_lit (k := 1) (by omega) (by omega) (by omega)), if_neg (show ¬ nI j = (2 : Int32) from nI_lit (k := 2) (by omega) (by omega) (by omega)), if_neg (show ¬ nI j = (3 : Int32) from nI_lit (k := 3) (by omega) (by omega) (by omega)), if_neg (show ¬ nI j = (4 : Int32) from nI_lit (k := 4) (by omega) (by omega) (by omega)), if_neg (show ¬ nI j = (5 : Int32) from nI_lit (k := 5) (by omega) (by omega) (by omega)), if_neg w1, if_pos w2]
      obtain ⟨r, q1, q2⟩ := cos_eq h 0 (j - 10) (by omega) (by omega)
      have e : nI j - 10 = nI (j - 10) := pk_sub (b := 10) h1
      rw [show 10 * (0 + 1) + (j - 10) = j by omega] at q2
      rw [e, show (0 : Int32) = nI 0 from rfl, q1, q2]
      exact ⟨_, _, _, rfl, rfl, h⟩
    · rw [if_neg w2]
      by_cases w3 : wi a1 20 25 = true
      · obtain ⟨j, h1, h2, rfl⟩ := wi_from (a := 20) (M := 25) (m := 20) (n := 25) (by decide) (by decide) w3
        rw [if_pos w3, if_neg (show ¬ nI j = (0 : Int32) from nI_lit (k := 0) (by omega) (by omega) (by omega)), if_neg (show ¬ nI j = (1 : Int32) from nI_lit (k := 1) (by omega) (by omega) (by omega)), if_neg (show ¬ nI j = (2 : Int32) from nI_lit (k := 2) (by omega) (by omega) (by omega)), if_neg (show ¬ nI j = (3 : Int32) from nI_lit (k := 3) (by omega) (by omega) (by omega)), if_neg (show ¬ nI j = (4 : Int32) from nI_lit (k := 4) (by omega) (by omega) (by omega)), if_neg (show ¬ nI j = (5 : Int32) from nI_lit (k := 5) (by omega) (by omega) (by omega)), if_neg w1, if_neg w2, if_pos w3]
        obtain ⟨r, q1, q2⟩ := cos_eq h 1 (j - 20) (by omega) (by omega)
        have e : nI j - 20 = nI (j - 20) := pk_sub (b := 20) h1
        rw [show 10 * (1 + 1) + (j - 20) = j by omega] at q2
        rw [e, show (1 : Int32) = nI 1 from rfl, q1, q2]
        exact ⟨_, _, _, rfl, rfl, h⟩
      · rw [if_neg w3, if_neg w1, if_neg w2, if_neg w3]
        obtain ⟨t1, t2, t3, t4⟩ := r1.2
        by_cases k0 : a1 = 0
        · rw [if_pos k0, if_pos k0]; exact ⟨_, _, _, rfl, by rw [t2.1], h⟩
        · rw [if_neg k0, if_neg k0]
          by_cases k1 : a1 = 1
          · rw [if_pos k1, if_pos k1]; exact ⟨_, _, _, rfl, by rw [t1.1], h⟩
          · rw [if_neg k1, if_neg k1]
            by_cases k2 : a1 = 2
            · rw [if_pos k2, if_pos k2]; exact ⟨_, _, _, rfl, by rw [t4.1], h⟩
            · rw [if_neg k2, if_neg k2]
              by_cases k3 : a1 = 3
              · rw [if_pos k3, if_pos k3]
                obtain ⟨L, hL, he, n, hn, e1, e2, -⟩ := r7.cases
                rw [he, gd_true (by rcases hL with rfl | rfl <;> decide), e1, e2]
                exact ⟨_, _, _, rfl, rfl, h⟩
              · rw [if_neg k3, if_neg k3]
                by_cases k4 : a1 = 4
                · rw [if_pos k4, if_pos k4]
                  obtain ⟨⟨n, hn, e1, e2⟩, -⟩ := r3
                  rw [e1, e2]
                  exact ⟨_, _, _, rfl, rfl, h⟩
                · rw [if_neg k4, if_neg k4]
                  by_cases k5 : a1 = 5
                  · rw [if_pos k5, if_pos k5]; exact ⟨_, _, _, rfl, by rw [t3.1], h⟩
                  · rw [if_neg k5, if_neg k5]; exact ⟨_, _, _, rfl, rfl, h⟩
