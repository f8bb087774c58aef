-- march, ridge, overTrees
theorem has_ite {α : Type} (x : Int32) {c : Nat} (hc : c < 32) (A B : α) : (if x >>> (nI c &&& 31) &&& 1 = 1 then A else B) = if bt x c = true then A else B := by
  by_cases h : bt x c = true
  · rw [if_pos h, if_pos ((has_bt x hc).mpr h)]
  · rw [if_neg h, if_neg (fun e => h ((has_bt x hc).mp e))]
theorem march_in {σ τ : Hp} (h : RWar 1 1 σ τ) {s c : Nat} (hs : s < 2) (hc : c < 8) (x : Int32) (K1 K2 : Int32 → Int32 → Int32 → Int32 → Hp → Option (Int32 × Hp)) (acc : Int32) :
    ∃ acc', L_V_march_47 K1 FU (nI s) x acc (nI c) (nI (c + 1)) σ = K1 (nI s) x acc' (nI c) σ ∧ L_M_march_35 K2 FU (nI s) x acc (nI c) (nI (c + 1)) τ = K2 (nI s) x acc' (nI c) τ := by
  refine lock (fun N j acc => L_V_march_47 K1 N (nI s) x acc (nI c) (nI (c + 1 + j)) σ) (fun N j acc => L_M_march_35 K2 N (nI s) x acc (nI c) (nI (c + 1 + j)) τ) (fun i a b => a = b) (fun r r' => ∃ acc', r = K1 (nI s) x acc' (nI c) σ ∧ r' = K2 (nI s) x acc' (nI c) τ) (7 - c) ?_ ?_ (7 - c) 0 FU FU acc acc (by omega) (by omega) (FU_lt (by omega)) (FU_lt (by omega)) rfl
  · rintro N1 N2 a _ rfl
    simp only [L_V_march_47, B_V_march_47, L_M_march_35, B_M_march_35]
    rw [if_pos (show (8 : Int32) ≤ nI (c + 1 + (7 - c)) from nI_le (a := 8) (by omega) (by omega)), if_pos (show (8 : Int32) ≤ nI (c + 1 + (7 - c)) from nI_le (a := 8) (by omega) (by omega))]
    exact ⟨a, rfl, rfl⟩
  · rintro N1 N2 j a _ hj rfl
    right
    have e16 : ∀ k : Nat, (16 : Int32) + 8 * nI s + nI k = nI (16 + (8 * s + k)) := fun k => by rw [n16, n8, pk_mul, nI_add, nI_add, Nat.add_assoc]
    have h1 : σ 2 (8 * s + c) = τ 1 (16 + (8 * s + c)) := (h.1 (8 * s + c) (by omega)).1
    have h2 : σ 2 (8 * s + (c + 1 + j)) = τ 1 (16 + (8 * s + (c + 1 + j))) := (h.1 (8 * s + (c + 1 + j)) (by omega)).1
    simp only [L_V_march_47, B_V_march_47, J_V_march_79, J_V_march_78, L_M_march_35, B_M_march_35, M_has x (show c < 32 by omega), M_has x (show c + 1 + j < 32 by omega), has_ite x (show c < 32 by omega), has_ite x (show c + 1 + j < 32 by omega), ob, b2_ite, e16, idxC]
    rw [if_neg (show ¬ (8 : Int32) ≤ nI (c + 1 + j) from nI_ge (b := 8) (by omega) (by omega)), if_neg (show ¬ (8 : Int32) ≤ nI (c + 1 + j) from nI_ge (b := 8) (by omega) (by omega))]
    simp (disch := omega) only [inb_nI, gd_tt, nI_clamp, h1, h2, nI_1, if_neg (show ¬ (1 : Int32) = 0 by decide), if_pos (show (0 : Int32) = 0 from rfl)]
    by_cases p1 : bt x c = true
    · by_cases p2 : bt x (c + 1 + j) = true
      · simp only [if_pos p1, if_pos p2]
        by_cases p3 : τ 1 (16 + (8 * s + c)) ≤ τ 1 (16 + (8 * s + (c + 1 + j)))
        · simp only [if_pos p3]
          exact ⟨a, a, rfl, rfl, rfl⟩
        · simp only [if_neg p3]
          exact ⟨a + 1, a + 1, rfl, rfl, rfl⟩
      · simp only [if_pos p1, if_neg p2]
        exact ⟨a, a, rfl, rfl, rfl⟩
    · simp only [if_neg p1]
      exact ⟨a, a, rfl, rfl, rfl⟩
theorem sim_march {σ τ : Hp} (h : Rl σ τ) (a1 : Int32) : ∃ r σ' τ', F_V_march a1 σ = some (r, σ') ∧ F_M_march a1 τ = some (r, τ') ∧ Rl σ' τ' := by
  simp only [F_V_march, F_M_march, V_isSide, M_in, ob, b2_ite]
  by_cases h1 : wi a1 0 1 = true
  · obtain ⟨s, hs, rfl⟩ := wi_nat (M := 1) (n := 1) (by decide) h1
    simp only [h1, if_true, C_bits 1 s (show s < 2 by omega), M_outside s (show s < 2 by omega), ob]
    rw [set_eq h.1 s (by omega) 0 (by decide), set_eq h.1 s (by omega) 1 (by decide)]
    obtain ⟨x, hx⟩ : ∃ x, x = bset (fun c => decide (τ 1 (8 * s + c) = 1) && decide (τ 1 (80 + (8 * s + c)) = 0)) ||| bset (fun c => decide (τ 1 (8 * s + c) = 1) && decide (τ 1 (80 + (8 * s + c)) = 1)) := ⟨_, rfl⟩
    rw [← hx]
    refine Ok.of h ?_
    refine lock (fun N j acc => L_V_march_34 N (nI s) x acc (nI j) σ) (fun N j acc => L_M_march_22 N (nI s) x acc (nI j) τ) (fun i a b => a = b) (Sm σ τ) 8 ?_ ?_ 8 0 FU FU 0 0 (by omega) (by omega) (FU_lt (by omega)) (FU_lt (by omega)) rfl
    · rintro N1 N2 a _ rfl
      simp only [L_V_march_34, B_V_march_34, L_M_march_22, B_M_march_22]
      rw [if_pos (by decide), if_pos (by decide)]
      exact ⟨a, rfl, rfl⟩
    · rintro N1 N2 j a _ hj rfl
      right
      simp only [L_V_march_34, B_V_march_34, L_M_march_22, B_M_march_22]
      rw [if_neg (show ¬ (8 : Int32) ≤ nI j from nI_ge (b := 8) (by omega) (by omega)), if_neg (show ¬ (8 : Int32) ≤ nI j from nI_ge (b := 8) (by omega) (by omega)), nI_1]
      obtain ⟨acc', k1, k2⟩ := march_in h.1 (show s < 2 by omega) hj x (J_V_march_128 (fun x1 x2 x3 x4 σ => L_V_march_34 N1 x1 x2 x3 x4 σ)) (J_M_march_103 (fun x1 x2 x3 x4 σ => L_M_march_22 N2 x1 x2 x3 x4 σ)) a
      rw [k1, k2]
      simp only [J_V_march_128, J_M_march_103, nI_1]
      exact ⟨acc', acc', rfl, rfl, rfl⟩
  · simp only [h1, if_false]
    exact ⟨-1, σ, τ, rfl, rfl, h⟩
-- ridge
theorem ridge_in0 {i : Nat} (hi : i < 24) (K : Int32 → Int32 → Int32 → Int32 → Int32 → Hp → Option (Int32 × Hp)) (x1 x2 x3 x4 : Int32) (τ : Hp) :
    ∃ τ', L_M_ridge_39 K FU x1 x2 x3 x4 (nI i) 0 τ = K x1 x2 x3 x4 (nI i) τ' ∧ Ag [28] τ τ' := by
  refine lone (fun N j t => L_M_ridge_39 K N x1 x2 x3 x4 (nI i) (nI j) t) (fun _ t => Ag [28] τ t) (fun r => ∃ τ', r = K x1 x2 x3 x4 (nI i) τ' ∧ Ag [28] τ τ') i ?_ ?_ i 0 FU τ (by omega) (by omega) (FU_lt (by omega)) Ag.rf
  · intro N t ht
    simp only [L_M_ridge_39, B_M_ridge_39]
    rw [if_pos (nI_le (Nat.le_refl _) (by omega))]
    exact ⟨t, rfl, ht⟩
  · intro N j t hj ht
    right
    simp only [L_M_ridge_39, B_M_ridge_39]
    rw [if_neg (nI_ge hj (by omega))]
    simp (disch := omega) only [inb_nI, gd_tt, nI_clamp, nI_1]
    by_cases p : t 5 i ≤ t 5 j
    · rw [if_pos p]
      exact ⟨t, rfl, ht⟩
    · rw [if_neg p]
      unfold F_M_max
      by_cases q : t 28 i ≤ t 28 j + 1
      · rw [if_pos q, ob]
        exact ⟨_, rfl, ht.zu (by decide)⟩
      · rw [if_neg q, ob]
        exact ⟨_, rfl, ht.zu (by decide)⟩
/-- rises so far: cells up to i agree -/
def RiR (i : Nat) (σs τs : Hp) : Prop := ∀ k, k ≤ i → ∃ r : Nat, r ≤ 24 ∧ (k < i → r ≤ k + 1) ∧ σs 41 k = nI r ∧ τs 28 k = nI r
theorem ridge_in1 {σ τ : Hp} (hv : RVal σ τ) {i : Nat} (hi : i < 24) (K1 : Int32 → Int32 → Hp → Option (Int32 × Hp)) (K2 : Int32 → Int32 → Int32 → Int32 → Int32 → Hp → Option (Int32 × Hp)) (y1 x1 x2 x3 x4 : Int32) (σs τs : Hp) (hs : Ag [41] σ σs) (ht : Ag [28] τ τs) (hr : ∀ k, k < i → ∃ r : Nat, r ≤ k + 1 ∧ σs 41 k = nI r ∧ τs 28 k = nI r) :
    ∃ σ' τ', L_V_longestRise_19 K1 FU y1 (nI i) 0 (zu σs 41 i 1) = K1 y1 (nI i) σ' ∧ L_M_ridge_39 K2 FU x1 x2 x3 x4 (nI i) 0 (zu τs 28 i 1) = K2 x1 x2 x3 x4 (nI i) τ' ∧ Ag [41] σ σ' ∧ Ag [28] τ τ' ∧ ∀ k, k < i + 1 → ∃ r : Nat, r ≤ k + 1 ∧ σ' 41 k = nI r ∧ τ' 28 k = nI r := by
  refine lock (fun N j s => L_V_longestRise_19 K1 N y1 (nI i) (nI j) s) (fun N j t => L_M_ridge_39 K2 N x1 x2 x3 x4 (nI i) (nI j) t) (fun j s t => Ag [41] σ s ∧ Ag [28] τ t ∧ (∀ k, k < i → ∃ r : Nat, r ≤ k + 1 ∧ s 41 k = nI r ∧ t 28 k = nI r) ∧ ∃ r : Nat, r ≤ j + 1 ∧ s 41 i = nI r ∧ t 28 i = nI r) (fun r r' => ∃ σ' τ', r = K1 y1 (nI i) σ' ∧ r' = K2 x1 x2 x3 x4 (nI i) τ' ∧ Ag [41] σ σ' ∧ Ag [28] τ τ' ∧ ∀ k, k < i + 1 → ∃ r : Nat, r ≤ k + 1 ∧ σ' 41 k = nI r ∧ τ' 28 k = nI r) i ?_ ?_ i 0 FU FU (zu σs 41 i 1) (zu τs 28 i 1) (by omega) (by omega) (FU_lt (by omega)) (FU_lt (by omega)) ?_
  · rintro N1 N2 s t ⟨h1, h2, h3, r, h4, h5, h6⟩
    simp only [L_V_longestRise_19, B_V_longestRise_19, L_M_ridge_39, B_M_ridge_39]
    rw [if_pos (nI_le (Nat.le_refl _) (by omega)), if_pos (nI_le (Nat.le_refl _) (by omega))]
    refine ⟨s, t, rfl, rfl, h1, h2, fun k hk => ?_⟩
    by_cases hki : k < i
    · exact h3 k hki
    · rw [show k = i by omega]; exact ⟨r, by omega, h5, h6⟩
  · rintro N1 N2 j s t hj ⟨h1, h2, h3, r, h4, h5, h6⟩
    right
    obtain ⟨q, hq, q1, q2⟩ := h3 j hj
    have c1 : s 20 = τ 5 ∨ True := Or.inr trivial
    have ci : s 20 i = t 5 i := by rw [h1 20 (by decide), h2 5 (by decide), (hv.1 i hi).1]
    have cj : s 20 j = t 5 j := by rw [h1 20 (by decide), h2 5 (by decide), (hv.1 j (by omega)).1]
    simp only [L_V_longestRise_19, B_V_longestRise_19, L_M_ridge_39, B_M_ridge_39]
    rw [if_neg (nI_ge hj (by omega)), if_neg (nI_ge hj (by omega))]
    simp (disch := omega) only [inb_nI, gd_tt, nI_clamp, nI_1, ci, cj, h5, h6, q1, q2, M_max, ob, nI_ltI]
    by_cases p : t 5 i ≤ t 5 j
    · rw [if_pos p, if_pos p]
      exact ⟨s, t, rfl, rfl, h1, h2, h3, r, by omega, h5, h6⟩
    · rw [if_neg p, if_neg p]
      have u : ∀ x, ∀ k, k < i → zu s 41 i x 41 k = s 41 k := fun x k hk => by rw [zu_self, upd_ap, if_neg (by omega)]
      have u2 : ∀ x, ∀ k, k < i → zu t 28 i x 28 k = t 28 k := fun x k hk => by rw [zu_self, upd_ap, if_neg (by omega)]
      by_cases p2 : q < r
      · rw [if_pos p2]
        refine ⟨s, _, rfl, rfl, h1, h2.zu (by decide), fun k hk => ?_, r, by omega, h5, ?_⟩
        · rw [u2 _ k hk]; exact h3 k hk
        · rw [zu_self, upd_ap, if_pos rfl]; congr 1; omega
      · rw [if_neg p2]
        refine ⟨_, _, rfl, rfl, h1.zu (by decide), h2.zu (by decide), fun k hk => ?_, q + 1, by omega, ?_, ?_⟩
        · rw [u _ k hk, u2 _ k hk]; exact h3 k hk
        · rw [zu_self, upd_ap, if_pos rfl]
        · rw [zu_self, upd_ap, if_pos rfl]; congr 1; omega
  · refine ⟨hs.zu (by decide), ht.zu (by decide), fun k hk => ?_, 1, by omega, ?_, ?_⟩
    · rw [zu_self, upd_ap, if_neg (by omega), zu_self, upd_ap, if_neg (by omega)]
      exact hr k hk
    · rw [zu_self, upd_ap, if_pos rfl]; rfl
    · rw [zu_self, upd_ap, if_pos rfl]; rfl
theorem Rl.sc {σ σ' τ τ' : Hp} {S T : List Nat} (h : Rl σ τ) (hs : Ag S σ σ') (ht : Ag T τ τ') (hS : ∀ k ∈ S, k ∈ scC) (hT : ∀ k ∈ T, k ∈ scM) : Rl σ' τ' :=
  h.eq (EqC.of (fun k hk => hs k (fun hk2 => hk (hS k hk2)))) (EqM.of (fun k hk => ht k (fun hk2 => hk (hT k hk2))))
theorem sim_ridge {σ τ : Hp} (h : Rl σ τ) (a1 : Int32) : ∃ r σ' τ', F_V_ridge a1 σ = some (r, σ') ∧ F_M_ridge a1 τ = some (r, τ') ∧ Rl σ' τ' := by
  have hv := h.2.1
  simp only [F_V_ridge, F_M_ridge, V_within, M_in, ob, b2_ite]
  by_cases h1 : wi a1 0 1 = true
  · simp only [if_pos h1]
    by_cases h0 : a1 = 0
    · subst h0
      rw [if_pos rfl]
      have key : ∃ v τ', F_V_crests σ = some (v, σ) ∧ L_M_ridge_21 J_M_ridge_141 FU 0 0 (-1) 0 0 τ = some (v, τ') ∧ Ag [28] τ τ' := by
        unfold F_V_crests
        refine lock (fun N i (a : Int32 × Int32) => L_V_crests_6 N a.1 a.2 (nI i) σ) (fun N i (b : (Int32 × Int32) × Int32 × Hp) => L_M_ridge_21 J_M_ridge_141 N 0 b.1.2 b.1.1 b.2.1 (nI i) b.2.2) (fun i a b => a = b.1 ∧ Ag [28] τ b.2.2) (fun r r' => ∃ v τ', r = some (v, σ) ∧ r' = some (v, τ') ∧ Ag [28] τ τ') 24 ?_ ?_ 24 0 FU FU (-1, 0) ((-1, 0), 0, τ) (by omega) (by omega) (FU_lt (by omega)) (FU_lt (by omega)) ⟨rfl, Ag.rf⟩
        · rintro N1 N2 a ⟨_, y, t⟩ ⟨rfl, ht⟩
          simp only [L_V_crests_6, B_V_crests_6, L_M_ridge_21, B_M_ridge_21, J_M_ridge_141]
          rw [if_pos (by decide), if_pos (by decide), if_pos trivial]
          exact ⟨a.2, t, rfl, rfl, ht⟩
        · rintro N1 N2 i a ⟨_, y, t⟩ hi ⟨rfl, ht⟩
          right
          simp only [L_V_crests_6, B_V_crests_6, L_M_ridge_21, B_M_ridge_21]
          rw [if_neg (show ¬ (24 : Int32) ≤ nI i from nI_ge (b := 24) (by omega) (by omega)), if_neg (show ¬ (24 : Int32) ≤ nI i from nI_ge (b := 24) (by omega) (by omega))]
          simp (disch := omega) only [inb_nI, gd_tt, nI_clamp, nI_1]
          obtain ⟨t2, k1, k2⟩ := ridge_in0 hi (J_M_ridge_95 (fun x1 x2 x3 x4 x5 σ => L_M_ridge_21 J_M_ridge_141 N2 x1 x2 x3 x4 x5 σ)) 0 a.2 a.1 y (zu t 28 i 1)
          rw [k1]
          have ht2 : Ag [28] τ t2 := (ht.zu (k := 28) (i := i) (x := 1) (by decide)).tr k2 [28] (by simp) (by simp)
          have ci : t2 5 i = σ 20 i := by rw [ht2 5 (by decide), (hv.1 i hi).1]
          unfold J_M_ridge_95
          simp (disch := omega) only [inb_nI, gd_tt, nI_clamp, nI_1]
          have hmax : ∀ u w : Int32, ∃ z, F_M_max u w t2 = some (z, t2) := fun u w => by
            unfold F_M_max
            by_cases q : u ≤ w
            · rw [if_pos q]; exact ⟨_, rfl⟩
            · rw [if_neg q]; exact ⟨_, rfl⟩
          obtain ⟨z, hz⟩ := hmax y (t2 28 i)
          simp only [hz, ob, ci]
          by_cases p : σ 20 i ≤ a.1
          · rw [if_pos p, if_neg (Int32.not_lt.mpr p)]
            exact ⟨a, (a, z, t2), rfl, rfl, rfl, ht2⟩
          · rw [if_neg p, if_pos (Int32.not_le.mp p)]
            exact ⟨(σ 20 i, a.2 + 1), ((σ 20 i, a.2 + 1), z, t2), rfl, rfl, rfl, ht2⟩
      obtain ⟨v, τ', k1, k2, k3⟩ := key
      rw [k1, k2, ob]
      exact ⟨v, σ, τ', rfl, rfl, h.sc (S := []) (T := [28]) Ag.rf k3 (by simp) (by decide)⟩
    · rw [if_neg h0]
      have key : ∃ v σ' τ', F_V_longestRise σ = some (v, σ') ∧ L_M_ridge_21 J_M_ridge_141 FU a1 0 (-1) 0 0 τ = some (v, τ') ∧ Ag [41] σ σ' ∧ Ag [28] τ τ' := by
        unfold F_V_longestRise
        refine lock (fun N i (a : Int32 × Hp) => L_V_longestRise_4 N a.1 (nI i) a.2) (fun N i (b : Int32 × Int32 × Int32 × Hp) => L_M_ridge_21 J_M_ridge_141 N a1 b.1 b.2.1 b.2.2.1 (nI i) b.2.2.2) (fun i a b => (∃ l : Nat, l ≤ 24 ∧ a.1 = nI l ∧ b.2.2.1 = nI l) ∧ Ag [41] σ a.2 ∧ Ag [28] τ b.2.2.2 ∧ ∀ k, k < i → ∃ r : Nat, r ≤ k + 1 ∧ a.2 41 k = nI r ∧ b.2.2.2 28 k = nI r) (fun r r' => ∃ v σ' τ', r = some (v, σ') ∧ r' = some (v, τ') ∧ Ag [41] σ σ' ∧ Ag [28] τ τ') 24 ?_ ?_ 24 0 FU FU (0, σ) (0, -1, 0, τ) (by omega) (by omega) (FU_lt (by omega)) (FU_lt (by omega)) ⟨⟨0, by omega, rfl, rfl⟩, Ag.rf, Ag.rf, fun k hk => absurd hk (by omega)⟩
        · rintro N1 N2 ⟨a, s⟩ ⟨b1, b2, b3, t⟩ ⟨⟨l, hl, rfl, rfl⟩, hs, ht, -⟩
          simp only [L_V_longestRise_4, B_V_longestRise_4, L_M_ridge_21, B_M_ridge_21, J_M_ridge_141]
          rw [if_pos (by decide), if_pos (by decide), if_neg h0]
          exact ⟨nI l, s, t, rfl, rfl, hs, ht⟩
        · rintro N1 N2 i ⟨a, s⟩ ⟨b1, b2, b3, t⟩ hi ⟨⟨l, hl, rfl, rfl⟩, hs, ht, hr⟩
          right
          simp only [L_V_longestRise_4, B_V_longestRise_4, L_M_ridge_21, B_M_ridge_21]
          rw [if_neg (show ¬ (24 : Int32) ≤ nI i from nI_ge (b := 24) (by omega) (by omega)), if_neg (show ¬ (24 : Int32) ≤ nI i from nI_ge (b := 24) (by omega) (by omega))]
          simp (disch := omega) only [inb_nI, gd_tt, nI_clamp, nI_1]
          obtain ⟨s2, t2, k1, k2, k3, k4, k5⟩ := ridge_in1 hv hi (J_V_longestRise_80 (fun x1 x2 σ => L_V_longestRise_4 N1 x1 x2 σ)) (J_M_ridge_95 (fun x1 x2 x3 x4 x5 σ => L_M_ridge_21 J_M_ridge_141 N2 x1 x2 x3 x4 x5 σ)) (nI l) a1 b1 b2 (nI l) s t hs ht hr
          rw [k1, k2]
          obtain ⟨r, q1, q2, q3⟩ := k5 i (by omega)
          unfold J_M_ridge_95 J_V_longestRise_80
          simp (disch := omega) only [inb_nI, gd_tt, nI_clamp, nI_1, q2, q3, jmax_nI, M_max, ob]
          by_cases p : b2 < t2 5 i
          · rw [if_pos p]
            exact ⟨(nI (max l r), s2), (_, _, nI (max l r), t2), rfl, rfl, ⟨max l r, by omega, rfl, rfl⟩, k3, k4, k5⟩
          · rw [if_neg p]
            exact ⟨(nI (max l r), s2), (_, _, nI (max l r), t2), rfl, rfl, ⟨max l r, by omega, rfl, rfl⟩, k3, k4, k5⟩
      obtain ⟨v, σ', τ', k1, k2, k3, k4⟩ := key
      rw [k1, k2, ob]
      exact ⟨v, σ', τ', rfl, rfl, h.sc (S := [41]) (T := [28]) k3 k4 (by decide) (by decide)⟩
  · simp only [if_neg h1]
    exact ⟨-1, σ, τ, rfl, rfl, h⟩
-- overTrees
theorem zu_back (σ : Hp) (k i : Nat) (x : Int32) : zu (zu σ k i x) k i (σ k i) = σ := by
  funext j
  rw [zu_ap]
  by_cases h : j = k
  · subst h
    rw [if_pos rfl, zu_self]
    funext q
    rw [upd_ap]
    by_cases hq : q = i
    · rw [if_pos hq, hq]
    · rw [if_neg hq, upd_ap, if_neg hq]
  · rw [if_neg h, zu_ne _ _ _ h]
theorem sits_ite {o : Nat} {σ τ : Hp} (h : RWar o 1 σ τ) {g : Nat} (hg : g < 16) : (decide (τ 1 g = 1) && decide (τ 1 (80 + g) = 0)) = decide (σ (o + 5) g = 0) := ((h.1 g hg).st 0 (by decide)).symm
theorem twos_in {σ τ τ2 : Hp} (h : RWar 1 1 σ τ) (hv : RVal σ τ) (cut : Int32) (hcut : ∀ k, k < 24 → (if nI k = cut then 0 else σ 20 k) = τ2 5 k) (h1 : τ2 1 = τ 1) (h4 : τ2 4 = τ 4) {c : Nat} (hc : c < 8) (K1 : Nat → Int32 → Int32 → Int32 → Hp → Option (Int32 × Hp)) (K2 : Int32 → Int32 → Int32 → Hp → Option (Int32 × Hp)) (v : Nat) :
    ∃ v', v' ≤ v + 8 ∧ L_X9_twos_15 K1 FU 1 cut (nI v) (nI c) 0 σ = K1 1 cut (nI v') (nI c) σ ∧ L_M_twosWithout_13 K2 FU (-1) (nI v) (nI c) 0 τ2 = K2 (-1) (nI v') (nI c) τ2 := by
  refine lock (fun N e (a : Nat) => L_X9_twos_15 K1 N 1 cut (nI a) (nI c) (nI e) σ) (fun N e (a : Nat) => L_M_twosWithout_13 K2 N (-1) (nI a) (nI c) (nI e) τ2) (fun e a b => a = b ∧ a ≤ v + e) (fun r r' => ∃ v', v' ≤ v + 8 ∧ r = K1 1 cut (nI v') (nI c) σ ∧ r' = K2 (-1) (nI v') (nI c) τ2) 8 ?_ ?_ 8 0 FU FU v v (by omega) (by omega) (FU_lt (by omega)) (FU_lt (by omega)) ⟨rfl, by omega⟩
  · rintro N1 N2 a _ ⟨rfl, ha⟩
    simp only [L_X9_twos_15, B_X9_twos_15, L_M_twosWithout_13, B_M_twosWithout_13]
    rw [if_pos (by decide), if_pos (by decide)]
    exact ⟨a, ha, rfl, rfl⟩
  · rintro N1 N2 e a _ he ⟨rfl, ha⟩
    right
    have s1 : (decide (τ2 1 c = 1) && decide (τ2 1 (80 + c) = 0)) = decide (σ 6 c = 0) := by rw [h1]; exact sits_ite h (by omega)
    have s2 : (decide (τ2 1 (8 + e) = 1) && decide (τ2 1 (80 + (8 + e)) = 0)) = decide (σ 6 (8 + e) = 0) := by rw [h1]; exact sits_ite h (by omega)
    have e0 : ∀ x, F_X9_eye 0 x σ = some (σ 21 0 + 5 * x, σ) := fun x => C_eye 0 (by omega) x σ
    have e1 : ∀ x, F_X9_eye 1 x σ = some (σ 21 1 + 5 * x, σ) := fun x => C_eye 1 (by omega) x σ
    have y1 : σ 21 0 + 5 * σ (1 + 4) c = eyM τ2 c := by
      unfold eyM
      rw [h1, h4, (hv.2 0 (by omega)).1, (h.1 c (by omega)).2.2.2.1, show c / 8 = 0 by omega]
    have y2 : σ 21 1 + 5 * σ (1 + 4) (8 + e) = eyM τ2 (8 + e) := by
      unfold eyM
      rw [h1, h4, (hv.2 1 (by omega)).1, (h.1 (8 + e) (by omega)).2.2.2.1, show (8 + e) / 8 = 1 by omega]
    have e8 : (8 : Int32) + nI e = nI (8 + e) := by rw [n8, nI_add]
    simp only [L_X9_twos_15, B_X9_twos_15, J_X9_twos_50, J_X9_twos_49, L_M_twosWithout_13, B_M_twosWithout_13, e8, M_sitsIn (show c < 16 by omega), M_sitsIn (show 8 + e < 16 by omega), M_eyeOf c (show c < 16 by omega), M_eyeOf (8 + e) (show 8 + e < 16 by omega), ob, b2_ite, s1, s2, e0, e1, C_isFree, M_seesOver, decide_eq_true_eq]
    rw [if_neg (show ¬ (8 : Int32) ≤ nI e from nI_ge (b := 8) (by omega) (by omega)), if_neg (show ¬ (8 : Int32) ≤ nI e from nI_ge (b := 8) (by omega) (by omega))]
    simp (disch := omega) only [inb_nI, gd_tt, nI_clamp, nI_1, y1, y2, fre_congr (c := fun i => if nI i = cut then 0 else σ 20 i) (c' := τ2 5) hcut, if_neg (show ¬ (1 : Int32) = 0 by decide), if_pos (show (0 : Int32) = 0 from rfl), show (1 + 5 : Nat) = 6 from rfl]
    by_cases p1 : σ 6 c = 0
    · by_cases p2 : σ 6 (8 + e) = 0
      · simp only [if_pos p1, if_pos p2]
        by_cases p3 : fre (τ2 5) (eyM τ2 c) (eyM τ2 (8 + e)) = true
        · simp only [if_pos p3]
          exact ⟨a + 1, a + 1, rfl, rfl, rfl, by omega⟩
        · simp only [if_neg p3]
          exact ⟨a, a, rfl, rfl, rfl, by omega⟩
      · simp only [if_pos p1, if_neg p2]
        exact ⟨a, a, rfl, rfl, rfl, by omega⟩
    · simp only [if_neg p1]
      exact ⟨a, a, rfl, rfl, rfl, by omega⟩
theorem twos_eq {σ τ τ2 : Hp} (h : RWar 1 1 σ τ) (hv : RVal σ τ) (cut : Int32) (hcut : ∀ k, k < 24 → (if nI k = cut then 0 else σ 20 k) = τ2 5 k) (h1 : τ2 1 = τ 1) (h4 : τ2 4 = τ 4) : ∃ v : Nat, v ≤ 64 ∧ F_X9_twos 1 cut σ = some (nI v, σ) ∧ F_M_twosWithout (-1) τ2 = some (nI v, τ2) := by
  unfold F_X9_twos F_M_twosWithout
  refine lock (fun N c (a : Nat) => L_X9_twos_5 N 1 cut (nI a) (nI c) σ) (fun N c (a : Nat) => L_M_twosWithout_4 N (-1) (nI a) (nI c) τ2) (fun c a b => a = b ∧ a ≤ 8 * c) (fun r r' => ∃ v : Nat, v ≤ 64 ∧ r = some (nI v, σ) ∧ r' = some (nI v, τ2)) 8 ?_ ?_ 8 0 FU FU 0 0 (by omega) (by omega) (FU_lt (by omega)) (FU_lt (by omega)) ⟨rfl, by omega⟩
  · rintro N1 N2 a _ ⟨rfl, ha⟩
    simp only [L_X9_twos_5, B_X9_twos_5, L_M_twosWithout_4, B_M_twosWithout_4]
    rw [if_pos (by decide), if_pos (by decide)]
    exact ⟨a, by omega, rfl, rfl⟩
  · rintro N1 N2 c a _ hc ⟨rfl, ha⟩
    right
    simp only [L_X9_twos_5, B_X9_twos_5, L_M_twosWithout_4, B_M_twosWithout_4]
    rw [if_neg (show ¬ (8 : Int32) ≤ nI c from nI_ge (b := 8) (by omega) (by omega)), if_neg (show ¬ (8 : Int32) ≤ nI c from nI_ge (b := 8) (by omega) (by omega))]
    obtain ⟨v', hv', k1, k2⟩ := twos_in h hv cut hcut h1 h4 hc (J_X9_twos_101 (fun r1 x2 x3 x4 σ => L_X9_twos_5 N1 r1 x2 x3 x4 σ)) (J_M_twosWithout_72 (fun x1 x2 x3 σ => L_M_twosWithout_4 N2 x1 x2 x3 σ)) a
    rw [k1, k2]
    simp only [J_X9_twos_101, J_M_twosWithout_72, nI_1]
    exact ⟨v', v', rfl, rfl, rfl, by omega⟩
theorem trees_loop {σ τ : Hp} (h : RWar 1 1 σ τ) (hv : RVal σ τ) {t : Nat} (ht : t ≤ 64) (hb : F_M_twosWithout (-1) τ = some (nI t, τ)) (a1 : Int32) :
    ∃ (m : Nat) (best : Int32), L_V_overTrees_39 J_V_overTrees_100 FU a1 (nI t) (-2) 0 0 σ = J_V_overTrees_100 a1 best (nI m) σ ∧ L_M_overTrees_26 J_M_overTrees_64 FU a1 (nI t) (-2) (nI t) 0 τ = J_M_overTrees_64 a1 (nI t) best (nI (t + m)) τ := by
  refine lock (fun N i (a : Int32 × Nat) => L_V_overTrees_39 J_V_overTrees_100 N a1 (nI t) a.1 (nI a.2) (nI i) σ) (fun N i (a : Int32 × Nat) => L_M_overTrees_26 J_M_overTrees_64 N a1 (nI t) a.1 (nI (t + a.2)) (nI i) τ) (fun i a b => a = b ∧ a.2 ≤ 64) (fun r r' => ∃ (m : Nat) (best : Int32), r = J_V_overTrees_100 a1 best (nI m) σ ∧ r' = J_M_overTrees_64 a1 (nI t) best (nI (t + m)) τ) 24 ?_ ?_ 24 0 FU FU (-2, 0) (-2, 0) (by omega) (by omega) (FU_lt (by omega)) (FU_lt (by omega)) ⟨rfl, by omega⟩
  · rintro N1 N2 a _ ⟨rfl, ha⟩
    simp only [L_V_overTrees_39, B_V_overTrees_39, L_M_overTrees_26, B_M_overTrees_26]
    rw [if_pos (by decide), if_pos (by decide)]
    exact ⟨a.2, a.1, rfl, rfl⟩
  · rintro N1 N2 i ⟨best, m⟩ _ hi ⟨rfl, ha⟩
    right
    have ha : m ≤ 64 := ha
    obtain ⟨w, hw, k1, k2⟩ := twos_eq (τ2 := zu τ 5 i 0) h hv (nI i) (fun k hk => by
      rw [zu_self, upd_ap]
      by_cases q : k = i
      · rw [if_pos q, if_pos (by rw [q])]
      · rw [if_neg q, if_neg (fun e => q ((nI_eq (by omega) (by omega)).mp e)), (hv.1 k hk).1]) rfl rfl
    have kM : F_M_twosOver (nI i) τ = some (nI w, τ) := by
      unfold F_M_twosOver
      rw [gd_true (inbT (by omega) (by omega)), gd_true (inbT (by omega) (by omega)), nI_clamp (by omega), k2, ob, gd_true (inbT (by omega) (by omega))]
      dsimp only
      rw [zu_back]
    simp only [L_V_overTrees_39, B_V_overTrees_39, J_V_overTrees_78, L_M_overTrees_26, B_M_overTrees_26, kM, k1, ob]
    rw [if_neg (show ¬ (24 : Int32) ≤ nI i from nI_ge (b := 24) (by omega) (by omega)), if_neg (show ¬ (24 : Int32) ≤ nI i from nI_ge (b := 24) (by omega) (by omega))]
    simp (disch := omega) only [inb_nI, gd_tt, nI_clamp, nI_1, nI_ltI]
    by_cases p0 : σ 20 i = 0
    · have hwt : w = t := by
        have e : zu τ 5 i 0 = τ := by
          have := zu_back τ 5 i 0
          have e2 : τ 5 i = 0 := by rw [← (hv.1 i hi).1, p0]
          funext j
          by_cases q : j = 5
          · subst q
            rw [zu_self]
            funext z
            rw [upd_ap]
            by_cases q2 : z = i
            · rw [if_pos q2, q2, e2]
            · rw [if_neg q2]
          · rw [zu_ne _ _ _ q]
        rw [e, hb] at k2
        have := congrArg Prod.fst (Option.some.inj k2)
        exact ((nI_eq (by omega) (by omega)).mp this).symm
      rw [if_pos p0, if_pos (show (0 : Int32) ≤ nI m from nI_pos' (by omega)), if_neg (by omega)]
      exact ⟨(best, m), (best, m), rfl, rfl, rfl, ha⟩
    · rw [if_neg p0]
      by_cases p1 : t + m < w
      · have e3 : nI w - nI t = nI (w - t) := pk_sub (by omega)
        rw [if_pos p1, e3, if_neg (nI_ge (by omega) (by omega))]
        refine ⟨(nI i, w - t), (nI i, w - t), rfl, ?_, rfl, show w - t ≤ 64 by omega⟩
        show L_M_overTrees_26 J_M_overTrees_64 N2 a1 (nI t) (nI i) (nI w) (nI (i + 1)) τ = L_M_overTrees_26 J_M_overTrees_64 N2 a1 (nI t) (nI i) (nI (t + (w - t))) (nI (i + 1)) τ
        rw [show t + (w - t) = w by omega]
      · rw [if_neg p1]
        have : nI w - nI t ≤ nI m := by
          by_cases p2 : t ≤ w
          · rw [pk_sub p2]; exact nI_le (by omega) (by omega)
          · have := pk_sneg (a := w) (b := t) (by omega) (by omega)
            exact Int32.le_of_lt (Int32.lt_of_lt_of_le this (nI_pos' (by omega)))
        rw [if_pos this]
        exact ⟨(best, m), (best, m), rfl, rfl, rfl, ha⟩
theorem sim_overTrees {σ τ : Hp} (h : Rl σ τ) (a1 : Int32) : ∃ r σ' τ', F_V_overTrees a1 σ = some (r, σ') ∧ F_M_overTrees a1 τ = some (r, τ') ∧ Rl σ' τ' := by
  obtain ⟨r1, r2, -⟩ := id h
  obtain ⟨t, ht, k1, k2⟩ := twos_eq (τ2 := τ) r1 r2 (-1) (fun k hk => by rw [if_neg (nI_m1 (by omega)), (r2.1 k hk).1]) rfl rfl
  simp only [F_V_overTrees, F_M_overTrees, V_within, M_in, ob, b2_ite, k1, k2]
  by_cases h1 : wi a1 0 2 = true
  · simp only [if_pos h1]
    obtain ⟨m, best, q1, q2⟩ := trees_loop r1 r2 ht k2 a1
    rw [q1, q2]
    unfold J_V_overTrees_100 J_M_overTrees_64
    by_cases h0 : a1 = 0
    · rw [if_pos h0, if_pos h0]; exact ⟨_, σ, τ, rfl, rfl, h⟩
    · rw [if_neg h0, if_neg h0]
      by_cases h3 : a1 = 1
      · rw [if_pos h3, if_pos h3]; exact ⟨_, σ, τ, rfl, rfl, h⟩
      · rw [if_neg h3, if_neg h3, pk_sub (by omega), show t + m - t = m by omega]; exact ⟨_, σ, τ, rfl, rfl, h⟩
  · simp only [if_neg h1]
    exact ⟨-1, σ, τ, rfl, rfl, h⟩
