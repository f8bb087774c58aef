-- the tape: feed
/-! ===== a byte read unsigned (kit/laws/BITS.to-paste) ===== -/
theorem bp_b (x : Int32) : x.toInt8.toInt32 &&& 255 = x &&& 255 := by
  apply Int32.toBitVec_inj.mp
  rw [Int32.toBitVec_and, Int32.toBitVec_and, Int8.toBitVec_toInt32, Int32.toBitVec_toInt8]
  apply BitVec.eq_of_getLsbD_eq
  intro i hi
  rw [BitVec.getLsbD_and, BitVec.getLsbD_and]
  have hm : ∀ i < 32, 8 ≤ i → (255 : Int32).toBitVec.getLsbD i = false := by decide
  rcases Nat.lt_or_ge i 8 with z | z
  · rw [BitVec.getLsbD_signExtend, BitVec.getLsbD_signExtend, if_pos z, if_pos hi]
    simp only [z, hi, decide_true, Bool.true_and]
  · rw [hm i hi z]; simp
def RTn (n : Nat) (σ τ : Hp) : Prop := σ 23 1 = nI n ∧ τ 0 6 = nI n ∧ ∀ i, i < 260 → σ 24 i = τ 6 i &&& 255 ∧ ∃ r : Nat, r < 256 ∧ σ 24 i = nI r
def pC (σ : Hp) (n : Nat) (y : Int32) : Hp := zu (zu σ 24 n (y &&& 255)) 23 1 (nI (n + 1))
def pM (τ : Hp) (n : Nat) (y : Int32) : Hp := zu (zu τ 6 n y.toInt8.toInt32) 0 6 (nI (n + 1))
theorem push_rel {n : Nat} {σ τ : Hp} (h : RTn n σ τ) (y : Int32) : RTn (n + 1) (pC σ n y) (pM τ n y) := by
  obtain ⟨h1, h2, h3⟩ := h
  refine ⟨rfl, rfl, fun i hi => ?_⟩
  have e1 : pC σ n y 24 i = if i = n then y &&& 255 else σ 24 i := rfl
  have e2 : pM τ n y 6 i = if i = n then y.toInt8.toInt32 else τ 6 i := rfl
  rw [e1, e2]
  by_cases hin : i = n
  · rw [if_pos hin, if_pos hin, bp_b]
    obtain ⟨j, hj, e⟩ := pk_andE y (m := 255) 8 (by decide)
    exact ⟨rfl, j, hj, e⟩
  · rw [if_neg hin, if_neg hin]
    exact h3 i hi
theorem add_step {N n : Nat} {x sh : Int32} {σ : Hp} (hn : σ 23 1 = nI n) (h : n < 260) (hs : ¬ sh < 0) : L_X8_add_3 (N + 1) x sh σ = L_X8_add_3 N x (sh + -8) (pC σ n (x >>> (sh &&& 31))) := by
  simp only [L_X8_add_3, B_X8_add_3]
  rw [if_neg hs, hn, if_neg (show ¬ Int32.ofNat 260 ≤ nI n from nI_ge (b := 260) h (by omega)), gd_true (inbT h (by omega)), nI_clamp (by omega)]
  have e : zu σ 24 n (x >>> (sh &&& 31) &&& 255) 23 1 + 1 = nI (n + 1) := by
    rw [zu_ne _ _ _ (by decide), hn, nI_1]
  rw [e]
  rfl
theorem types_step {N n : Nat} {x sh : Int32} {τ : Hp} (hn : τ 0 6 = nI n) (h : n < 260) (hs : ¬ sh < 0) : L_M_types_2 (N + 1) x sh τ = L_M_types_2 N x (sh + -1) (pM τ n (x >>> ((8 * sh) &&& 31))) := by
  simp only [L_M_types_2, B_M_types_2]
  rw [if_neg hs, hn, gd_true (inbT h (by omega)), nI_clamp (by omega), pk_vb]
  have e : zu τ 6 n (x >>> ((8 * sh) &&& 31)).toInt8.toInt32 0 6 + 1 = nI (n + 1) := by
    rw [zu_ne _ _ _ (by decide), hn, nI_1]
  rw [e]
  rfl
theorem add_end {N : Nat} {x sh : Int32} {σ : Hp} (hs : sh < 0) : L_X8_add_3 (N + 1) x sh σ = some σ := by
  simp only [L_X8_add_3, B_X8_add_3]
  rw [if_pos hs]
theorem types_end {N : Nat} {x sh : Int32} {τ : Hp} (hs : sh < 0) : L_M_types_2 (N + 1) x sh τ = some τ := by
  simp only [L_M_types_2, B_M_types_2]
  rw [if_pos hs]
/-- what a word that is typed leaves alone -/
def KpC (σ σ' : Hp) : Prop := (∀ k, k ≠ 23 → k ≠ 24 → σ' k = σ k)
def KpM (τ τ' : Hp) : Prop := (∀ k, k ≠ 0 → k ≠ 6 → τ' k = τ k) ∧ ∀ j, j ≠ 6 → τ' 0 j = τ 0 j
theorem pC_kp {σ σ' : Hp} (h : KpC σ σ') (n : Nat) (y : Int32) : KpC σ (pC σ' n y) := fun k h1 h2 => by
  rw [pC, zu_ne _ _ _ h1, zu_ne _ _ _ h2]
  exact h k h1 h2
theorem pM_kp {τ τ' : Hp} (h : KpM τ τ') (n : Nat) (y : Int32) : KpM τ (pM τ' n y) := by
  refine ⟨fun k h1 h2 => ?_, fun j hj => ?_⟩
  · rw [pM, zu_ne _ _ _ h1, zu_ne _ _ _ h2]
    exact h.1 k h1 h2
  · have e : pM τ' n y 0 j = if j = 6 then nI (n + 1) else τ' 0 j := rfl
    rw [e, if_neg hj]
    exact h.2 j hj
theorem add_word {n : Nat} {σ τ : Hp} (h : RTn n σ τ) (hn : n + 4 ≤ 260) (x : Int32) : ∃ σ' τ', F_X8_add x σ = some σ' ∧ F_M_types x τ = some τ' ∧ RTn (n + 4) σ' τ' ∧ KpC σ σ' ∧ KpM τ τ' := by
  have r1 := push_rel h (x >>> (24 &&& 31))
  have r2 := push_rel r1 (x >>> (16 &&& 31))
  have r3 := push_rel r2 (x >>> (8 &&& 31))
  have r4 := push_rel r3 (x >>> (0 &&& 31))
  refine ⟨_, _, ?_, ?_, r4, ?_, ?_⟩
  · show L_X8_add_3 (999995 + 1 + 1 + 1 + 1 + 1) x 24 σ = _
    rw [add_step h.1 (by omega) (by decide), show (24 : Int32) + -8 = 16 by decide, add_step r1.1 (by omega) (by decide), show (16 : Int32) + -8 = 8 by decide, add_step r2.1 (by omega) (by decide), show (8 : Int32) + -8 = 0 by decide, add_step r3.1 (by omega) (by decide), show (0 : Int32) + -8 = -8 by decide, add_end (by decide)]
  · show L_M_types_2 (999995 + 1 + 1 + 1 + 1 + 1) x 3 τ = _
    rw [types_step h.2.1 (by omega) (by decide), show (3 : Int32) + -1 = 2 by decide, show ((8 : Int32) * 3) &&& 31 = 24 &&& 31 by decide, types_step r1.2.1 (by omega) (by decide), show (2 : Int32) + -1 = 1 by decide, show ((8 : Int32) * 2) &&& 31 = 16 &&& 31 by decide, types_step r2.2.1 (by omega) (by decide), show (1 : Int32) + -1 = 0 by decide, show ((8 : Int32) * 1) &&& 31 = 8 &&& 31 by decide, types_step r3.2.1 (by omega) (by decide), show (0 : Int32) + -1 = -1 by decide, show ((8 : Int32) * 0) &&& 31 = 0 &&& 31 by decide, types_end (by decide)]
  · exact pC_kp (pC_kp (pC_kp (pC_kp (fun _ _ _ => rfl) _ _) _ _) _ _) _ _
  · exact pM_kp (pM_kp (pM_kp (pM_kp ⟨fun _ _ _ => rfl, fun _ _ => rfl⟩ _ _) _ _) _ _) _ _
theorem KpC.tr {a b c : Hp} (h1 : KpC a b) (h2 : KpC b c) : KpC a c := fun k x y => (h2 k x y).trans (h1 k x y)
theorem KpM.tr {a b c : Hp} (h1 : KpM a b) (h2 : KpM b c) : KpM a c := ⟨fun k x y => (h2.1 k x y).trans (h1.1 k x y), fun j x => (h2.2 j x).trans (h1.2 j x)⟩
/-- only the tape has changed -/
theorem Rl.tape {σ σ' τ τ' : Hp} (h : Rl σ τ) (hc : KpC σ σ') (hm : KpM τ τ') (ht : RTape σ' τ') : Rl σ' τ' := by
  obtain ⟨r1, r2, r3, ⟨r4, r5⟩, r6, r7⟩ := h
  have c : ∀ k, k ≠ 23 → k ≠ 24 → σ' k = σ k := hc
  refine ⟨r1.congr (fun j hj => c _ (by omega) (by omega)) (hm.1 _ (by decide) (by decide)), r2.congr (c _ (by decide) (by decide)) (c _ (by decide) (by decide)) (hm.1 _ (by decide) (by decide)) (hm.1 _ (by decide) (by decide)), ht, ⟨r4.congr (c _ (by decide) (by decide)) (c _ (by decide) (by decide)) (hm.1 _ (by decide) (by decide)) (hm.1 _ (by decide) (by decide)), r5.congr (c _ (by decide) (by decide)) (c _ (by decide) (by decide)) (hm.1 _ (by decide) (by decide)) (hm.1 _ (by decide) (by decide))⟩, r6.congr (by rw [c 0 (by decide) (by decide)]) (fun j hj => c _ (by omega) (by omega)) (hm.2 _ (by decide)) (hm.1 _ (by decide) (by decide)), r7.eq (S := [23, 24]) (T := [0, 6]) ?_ ?_ ⟨by rw [c 0 (by decide) (by decide)], by rw [c 0 (by decide) (by decide)]⟩ (by decide) (by decide)⟩
  · refine ⟨fun k hk _ => ?_, fun h0 => absurd (by decide) h0, fun _ => c 0 (by decide) (by decide), by rw [c 60 (by decide) (by decide)], by rw [c 42 (by decide) (by decide)], by rw [c 51 (by decide) (by decide)]⟩
    simp at hk
    exact c k hk.1 hk.2
  · refine ⟨fun k hk _ => ?_, fun h0 => absurd (by decide) h0, hm.2 _ (by decide)⟩
    simp at hk
    exact hm.1 k (by omega) hk.2
theorem sim_feed {σ τ : Hp} (h : Rl σ τ) (a1 a2 a3 a4 a5 : Int32) : ∃ r σ' τ', F_V_feed a1 a2 a3 a4 a5 σ = some (r, σ') ∧ F_M_feed a1 a2 a3 a4 a5 τ = some (r, τ') ∧ Rl σ' τ' := by
  obtain ⟨⟨n, hn, e1, e2⟩, hb⟩ := id h.2.2.1
  have hr : RTn n σ τ := ⟨e1, e2, hb⟩
  have q1 : F_X8_hasRoom 20 σ = some (b2 (decide (n + 20 ≤ 260)), σ) := by
    unfold F_X8_hasRoom
    rw [e1, show (20 : Int32) = nI 20 from rfl, nI_add]
    by_cases hh : n + 20 ≤ 260
    · rw [if_neg (show ¬ Int32.ofNat 260 < nI (n + 20) from nI_nlt (a := 260) (by omega) (by omega))]; simp [hh, b2]
    · rw [if_pos (show Int32.ofNat 260 < nI (n + 20) from nI_lt (a := 260) (by omega) (by omega))]; simp [hh, b2]
  simp only [F_V_feed, F_M_feed, q1, Option.bind_some, b2_ite, decide_eq_true_eq]
  by_cases hh : n + 20 ≤ 260
  · rw [if_pos hh, e2, show (20 : Int32) = nI 20 from rfl, nI_add, if_pos (show nI (n + 20) ≤ 260 from nI_le (b := 260) hh (by omega))]
    obtain ⟨s1, t1, p1, m1, R1, c1, k1⟩ := add_word hr (by omega) a1
    obtain ⟨s2, t2, p2, m2, R2, c2, k2⟩ := add_word R1 (by omega) a2
    obtain ⟨s3, t3, p3, m3, R3, c3, k3⟩ := add_word R2 (by omega) a3
    obtain ⟨s4, t4, p4, m4, R4, c4, k4⟩ := add_word R3 (by omega) a4
    obtain ⟨s5, t5, p5, m5, R5, c5, k5⟩ := add_word R4 (by omega) a5
    simp only [p1, p2, p3, p4, p5, m1, m2, m3, m4, m5, Option.bind_some]
    refine ⟨_, _, _, rfl, by rw [R5.2.1, R5.1], h.tape (c1.tr (c2.tr (c3.tr (c4.tr c5)))) (k1.tr (k2.tr (k3.tr (k4.tr k5)))) ⟨⟨_, by omega, R5.1, R5.2.1⟩, R5.2.2⟩⟩
  · rw [if_neg hh, e2, show (20 : Int32) = nI 20 from rfl, nI_add, if_neg (show ¬ nI (n + 20) ≤ 260 from nI_ge (a := 260) (by omega) (by omega))]
    exact ⟨_, _, _, rfl, rfl, h⟩
-- count
theorem M_outside (s : Nat) (hs : s < 2) (τ : Hp) : F_M_outside (nI s) τ = some (bset (fun c => decide (τ 1 (8 * s + c) = 1) && decide (τ 1 (80 + (8 * s + c)) = 0)) ||| bset (fun c => decide (τ 1 (8 * s + c) = 1) && decide (τ 1 (80 + (8 * s + c)) = 1)), τ) := by
  simp only [F_M_outside, M_setOf s hs, Option.bind_some]
theorem or8 : ∀ n, n < 256 → ∀ c, c < 8 → ∀ b : Bool, decide ((nI n ||| (if b = true then (1 : Int32) <<< (nI c &&& 31) else 0)) >>> (nI c &&& 31) &&& 1 = 1) = (decide (nI n >>> (nI c &&& 31) &&& 1 = 1) || b) := by decide +kernel
