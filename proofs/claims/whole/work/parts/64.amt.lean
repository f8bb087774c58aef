-- amounts and who is sent in
theorem RLaw1.fr {L : Nat} {σ σ' τ τ' : Hp} (h : RLaw1 L σ τ) (hs : FrC L σ σ') (ht : Ag [18] τ τ') : RLaw1 L σ' τ' :=
  h.congr (hs.2 8 (by decide)) (fun j h1 h2 => hs.1 _ (by omega) (by omega)) (by rw [ht 0 (by decide)]) (fun j h1 h2 => ht j (by simp; omega))
theorem byL_un (k) (N : Nat) (a b c : Int32) (σ : Hp) : L_M_byLaw_2 k (N + 1) a b c σ = B_M_byLaw_2 (fun x1 x2 x3 σ => L_M_byLaw_2 k N x1 x2 x3 σ) k a b c σ := rfl
theorem amt_un (k) (N r0 : Nat) (a b c : Int32) (σ : Hp) : L_X4_amount_2 k (N + 1) r0 a b c σ = B_X4_amount_2 (fun r0 x1 x2 x3 σ => L_X4_amount_2 k N r0 x1 x2 x3 σ) k r0 a b c σ := rfl
theorem clamp_eq (B : Nat) (hB : B < 2 ^ 31) (v : Int32) : ∃ w : Nat, w ≤ B ∧ jmax 0 (jmin (nI B) v) = nI w ∧ (if 0 ≤ v then (if v ≤ nI B then v else nI B) else 0) = nI w := by
  by_cases h : 0 ≤ v
  · obtain ⟨u, hu, rfl⟩ := nI_of (Int32.not_lt.mpr h)
    refine ⟨min B u, by omega, ?_, ?_⟩
    · rw [jmin_nI hB hu, show (0 : Int32) = nI 0 from rfl, jmax_nI (by omega) (by omega), Nat.zero_max]
    · rw [if_pos h]
      by_cases h2 : u ≤ B
      · rw [if_pos (nI_le h2 hB)]; congr 1; omega
      · rw [if_neg (nI_ge (by omega) hu)]; congr 1; omega
  · have h' := Int32.not_le.mp h
    have hlt : v < nI B := Int32.lt_of_lt_of_le h' (nI_pos' hB)
    refine ⟨0, by omega, ?_, by rw [if_neg h]; rfl⟩
    unfold jmin jmax
    rw [if_pos hlt, if_neg (Int32.not_lt.mpr (Int32.le_of_lt h'))]; rfl
theorem amt_eq {L : Nat} {σ τ : Hp} (hl : RLaw1 L σ τ) (hval : ∀ i, i < 11 → σ (L + 7) i = τ 19 i) {ch : Int32} (hch : ¬ ch = 120) {B : Nat} (hB : B < 2 ^ 31) :
    ∃ (w : Nat) (σ' τ' : Hp), w ≤ B ∧ F_X4_amount L ch (nI B) σ = some (nI w, σ') ∧ F_M_byLaw ch (nI B) τ = some (nI w, τ') ∧ FrC L σ σ' ∧ Ag [18] τ τ' := by
  obtain ⟨n, hn, e1, e2, hr⟩ := id hl
  unfold F_X4_amount F_M_byLaw
  refine lock (fun N i s => L_X4_amount_2 J_X4_amount_46 N L ch (nI B) (nI i) s) (fun N i t => L_M_byLaw_2 J_M_byLaw_43 N ch (nI B) (nI i) t) (fun _ s t => FrC L σ s ∧ Ag [18] τ t) (fun r r' => ∃ (w : Nat) (σ' τ' : Hp), w ≤ B ∧ r = some (nI w, σ') ∧ r' = some (nI w, τ') ∧ FrC L σ σ' ∧ Ag [18] τ τ') n ?_ ?_ n 0 FU FU σ τ (by omega) (by omega) (FU_lt (by omega)) (FU_lt (by omega)) ⟨FrC.rf, Ag.rf⟩
  · rintro N1 N2 s t ⟨h1, h2⟩
    rw [amt_un, byL_un]
    unfold B_X4_amount_2 B_M_byLaw_2
    rw [h1.2 8 (by decide), e1, h2 0 (by decide), e2, if_pos (nI_le (Nat.le_refl n) (by omega)), if_pos (nI_le (Nat.le_refl n) (by omega))]
    exact ⟨0, s, t, by omega, rfl, rfl, h1, h2⟩
  · rintro N1 N2 i s t hi ⟨h1, h2⟩
    obtain ⟨l1, -, a, h, e, ah, hhe, he, a1, a2, b1, b2, c1, c2, hcode, hamt, htest⟩ := hr i hi
    have q1 : ∀ j, 1 ≤ j → j ≤ 7 → s (L + j) = σ (L + j) := fun j h3 h4 => h1.1 _ (by omega) (by omega)
    have q2 : ∀ j, j ≠ 18 → t j = τ j := fun j hj => h2 j (by simpa using hj)
    have hval' : ∀ i, i < 11 → s (L + 7) i = t 19 i := by rw [q1 7 (by omega) (by omega), q2 19 (by decide)]; exact hval
    have rq := reck_eq (σ := s) (τ := t) (L := L) (b := true) he (by rw [q1 1 (by omega) (by omega), q1 2 (by omega) (by omega)]; exact htest) (by rw [q1 1 (by omega) (by omega), q1 2 (by omega) (by omega), q2 13 (by decide)]; exact fun k hk1 hk2 => hcode k (by omega) hk2) hval'
    rw [amt_un, byL_un]
    unfold B_X4_amount_2 B_M_byLaw_2
    rw [h1.2 8 (by decide), e1, q2 0 (by decide), e2, if_neg (nI_ge hi (by omega)), if_neg (nI_ge hi (by omega))]
    simp (disch := omega) only [inb_nI, gd_tt, nI_clamp]
    rw [q1 3 (by omega) (by omega), q1 5 (by omega) (by omega), q1 6 (by omega) (by omega), q2 14 (by decide), q2 16 (by decide), q2 17 (by decide), b1, b2, c1, c2, ← l1, nI_1]
    by_cases hc : σ (L + 3) i = ch
    · rw [if_pos hc, if_pos hc]
      obtain ⟨v, s1, t1, k1, k2, k3, k4, k5⟩ := rq
      rw [k1, k2, ob, ob]
      dsimp only
      have g1 : FrC L σ s1 := h1.tr k3
      have g2 : Ag [18] τ t1 := h2.tr k4 [18] (by simp) (by simp)
      have go : v = 0 ∨ (v = 1 ∧ s1 L 10 = 0) := by
        rcases k5 with ⟨k5, k6⟩ | ⟨-, k6⟩
        · rcases k6 rfl with k6 | k6
          · exact Or.inl k6
          · exact Or.inr ⟨k6, k5⟩
        · exact Or.inl k6
      rcases go with rfl | ⟨rfl, kz⟩
      · rw [if_pos rfl, if_neg (show ¬ (0 : Int32) = 1 by decide)]
        exact Or.inr ⟨s1, t1, rfl, rfl, g1, g2⟩
      · rw [if_neg (show ¬ (1 : Int32) = 0 by decide), if_pos kz, if_pos rfl]
        left
        have r1 : ∀ j, 1 ≤ j → j ≤ 7 → s1 (L + j) = σ (L + j) := fun j h3 h4 => g1.1 _ (by omega) (by omega)
        have r2 : ∀ j, j ≠ 18 → t1 j = τ j := fun j hj => g2 j (by simpa using hj)
        have hseg : Seg (σ (L + 1)) (σ (L + 2)) a h [] [false] := by
          rcases hamt with q | q
          · rw [hc] at q; exact absurd q hch
          · exact q
        have rq2 := reck_eq (σ := s1) (τ := t1) (L := L) (b := false) (show h ≤ 240 by omega) (by rw [r1 1 (by omega) (by omega), r1 2 (by omega) (by omega)]; exact hseg) (by rw [r1 1 (by omega) (by omega), r1 2 (by omega) (by omega), r2 13 (by decide)]; exact fun k hk1 hk2 => hcode k (by omega) (by omega)) (by rw [r1 7 (by omega) (by omega), r2 19 (by decide)]; exact hval)
        unfold J_X4_amount_46 J_M_byLaw_43
        simp (disch := omega) only [inb_nI, gd_tt, nI_clamp]
        rw [r1 4 (by omega) (by omega), r1 5 (by omega) (by omega), r2 15 (by decide), r2 16 (by decide), a1, a2, b1, b2]
        obtain ⟨v, s2, t2, m1, m2, m3, m4, m5⟩ := rq2
        rw [m1, m2, ob, ob]
        dsimp only
        have u1 : FrC L σ s2 := g1.tr m3
        have u2 : Ag [18] τ t2 := g2.tr m4 [18] (by simp) (by simp)
        rcases m5 with ⟨m5, -⟩ | ⟨m5, rfl⟩
        · rw [if_pos m5]
          obtain ⟨w, hw, w1, w2⟩ := clamp_eq B hB v
          refine ⟨w, s2, t2, hw, by rw [w1], ?_, u1, u2⟩
          by_cases p : 0 ≤ v
          · rw [if_pos p] at w2 ⊢
            by_cases p2 : v ≤ nI B
            · rw [if_pos p2] at w2 ⊢; rw [w2]
            · rw [if_neg p2] at w2 ⊢; rw [w2]
          · rw [if_neg p] at w2 ⊢; rw [w2]
        · rw [if_neg (show ¬ s2 L 10 = 0 by rw [m5]; decide), if_pos (show (0 : Int32) ≤ 0 by decide), if_pos (show (0 : Int32) ≤ nI B from nI_pos' hB)]
          exact ⟨0, s2, t2, by omega, rfl, rfl, u1, u2⟩
    · rw [if_neg hc, if_neg hc]
      exact Or.inr ⟨s, t, rfl, rfl, h1, h2⟩
theorem hol_un (N : Nat) (a b : Int32) (σ : Hp) : L_M_holdsAny_2 (N + 1) a b σ = B_M_holdsAny_2 (fun x1 x2 σ => L_M_holdsAny_2 N x1 x2 σ) a b σ := rfl
theorem sen_un (N r0 : Nat) (a : Int32) (σ : Hp) : L_X4_sendsIn_2 (N + 1) r0 a σ = B_X4_sendsIn_2 (fun r0 x1 σ => L_X4_sendsIn_2 N r0 x1 σ) r0 a σ := rfl
theorem send_eq {L : Nat} {σ τ : Hp} (hl : RLaw1 L σ τ) (hval : ∀ i, i < 11 → σ (L + 7) i = τ 19 i) :
    ∃ (w : Bool) (σ' τ' : Hp), F_X4_sendsIn L σ = some (b2 w, σ') ∧ F_M_holdsAny 120 τ = some (b2 w, τ') ∧ FrC L σ σ' ∧ Ag [18] τ τ' := by
  obtain ⟨n, hn, e1, e2, hr⟩ := id hl
  unfold F_X4_sendsIn F_M_holdsAny
  refine lock (fun N i s => L_X4_sendsIn_2 N L (nI i) s) (fun N i t => L_M_holdsAny_2 N 120 (nI i) t) (fun _ s t => FrC L σ s ∧ Ag [18] τ t) (fun r r' => ∃ (w : Bool) (σ' τ' : Hp), r = some (b2 w, σ') ∧ r' = some (b2 w, τ') ∧ FrC L σ σ' ∧ Ag [18] τ τ') n ?_ ?_ n 0 FU FU σ τ (by omega) (by omega) (FU_lt (by omega)) (FU_lt (by omega)) ⟨FrC.rf, Ag.rf⟩
  · rintro N1 N2 s t ⟨h1, h2⟩
    rw [sen_un, hol_un]
    unfold B_X4_sendsIn_2 B_M_holdsAny_2
    rw [h1.2 8 (by decide), e1, h2 0 (by decide), e2, if_pos (nI_le (Nat.le_refl n) (by omega)), if_pos (nI_le (Nat.le_refl n) (by omega))]
    exact ⟨false, s, t, rfl, rfl, h1, h2⟩
  · rintro N1 N2 i s t hi ⟨h1, h2⟩
    obtain ⟨l1, -, a, h, e, ah, hhe, he, a1, a2, b1, b2, c1, c2, hcode, hamt, htest⟩ := hr i hi
    have q1 : ∀ j, 1 ≤ j → j ≤ 7 → s (L + j) = σ (L + j) := fun j h3 h4 => h1.1 _ (by omega) (by omega)
    have q2 : ∀ j, j ≠ 18 → t j = τ j := fun j hj => h2 j (by simpa using hj)
    have hval' : ∀ i, i < 11 → s (L + 7) i = t 19 i := by rw [q1 7 (by omega) (by omega), q2 19 (by decide)]; exact hval
    have rq := reck_eq (σ := s) (τ := t) (L := L) (b := true) he (by rw [q1 1 (by omega) (by omega), q1 2 (by omega) (by omega)]; exact htest) (by rw [q1 1 (by omega) (by omega), q1 2 (by omega) (by omega), q2 13 (by decide)]; exact fun k hk1 hk2 => hcode k (by omega) hk2) hval'
    rw [sen_un, hol_un]
    unfold B_X4_sendsIn_2 B_M_holdsAny_2
    rw [h1.2 8 (by decide), e1, q2 0 (by decide), e2, if_neg (nI_ge hi (by omega)), if_neg (nI_ge hi (by omega))]
    simp (disch := omega) only [inb_nI, gd_tt, nI_clamp]
    rw [q1 3 (by omega) (by omega), q1 5 (by omega) (by omega), q1 6 (by omega) (by omega), q2 14 (by decide), q2 16 (by decide), q2 17 (by decide), b1, b2, c1, c2, ← l1, nI_1]
    by_cases hc : σ (L + 3) i = 120
    · rw [if_pos hc, if_pos hc]
      obtain ⟨v, s1, t1, k1, k2, k3, k4, k5⟩ := rq
      rw [k1, k2, ob, ob]
      dsimp only
      have g1 : FrC L σ s1 := h1.tr k3
      have g2 : Ag [18] τ t1 := h2.tr k4 [18] (by simp) (by simp)
      have go : v = 0 ∨ (v = 1 ∧ s1 L 10 = 0) := by
        rcases k5 with ⟨k5, k6⟩ | ⟨-, k6⟩
        · rcases k6 rfl with k6 | k6
          · exact Or.inl k6
          · exact Or.inr ⟨k6, k5⟩
        · exact Or.inl k6
      rcases go with rfl | ⟨rfl, kz⟩
      · rw [if_pos rfl, if_neg (show ¬ (0 : Int32) = 1 by decide)]
        exact Or.inr ⟨s1, t1, rfl, rfl, g1, g2⟩
      · rw [if_neg (show ¬ (1 : Int32) = 0 by decide), if_pos kz, if_pos rfl]
        exact Or.inl ⟨true, s1, t1, rfl, rfl, g1, g2⟩
    · rw [if_neg hc, if_neg hc]
      exact Or.inr ⟨s, t, rfl, rfl, h1, h2⟩
-- what the letters stand for
theorem and_bset (x : Int32) (P : Nat → Bool) : x &&& bset P = bset (fun c => bt x c && P c) := b_ext (fun i hi => by
  rw [b_and, bt_bset _ hi, bt_bset _ hi]
  cases decide (i < 8) <;> simp)
theorem C_bitB (P : Nat → Bool) (σ : Hp) : F_J6_bitCount (bset P) σ = some (popn (bset P), σ) := by
  obtain ⟨n, hn, e⟩ := bset_nat P
  rw [e, C_bitCount hn]
theorem sn_congr {τ τ' : Hp} (h1 : τ' 1 = τ 1) (h4 : τ' 4 = τ 4) (h5 : τ' 5 = τ 5) (g : Nat) : sn τ' g = sn τ g := by
  unfold sn snC snE vis eyM
  rw [h1, h4, h5]
theorem k_0 : Int32.toNatClampNeg 0 = 0 := rfl
theorem k_1 : Int32.toNatClampNeg 1 = 1 := rfl
theorem k_2 : Int32.toNatClampNeg 2 = 2 := rfl
theorem k_3 : Int32.toNatClampNeg 3 = 3 := rfl
theorem k_4 : Int32.toNatClampNeg 4 = 4 := rfl
theorem k_5 : Int32.toNatClampNeg 5 = 5 := rfl
theorem k_6 : Int32.toNatClampNeg 6 = 6 := rfl
theorem k_7 : Int32.toNatClampNeg 7 = 7 := rfl
theorem k_8 : Int32.toNatClampNeg 8 = 8 := rfl
theorem k_9 : Int32.toNatClampNeg 9 = 9 := rfl
theorem k_10 : Int32.toNatClampNeg 10 = 10 := rfl
theorem v_0 : inb 0 11 = true := rfl
theorem v_1 : inb 1 11 = true := rfl
theorem v_2 : inb 2 11 = true := rfl
theorem v_3 : inb 3 11 = true := rfl
theorem v_4 : inb 4 11 = true := rfl
theorem v_5 : inb 5 11 = true := rfl
theorem v_6 : inb 6 11 = true := rfl
theorem v_7 : inb 7 11 = true := rfl
theorem v_8 : inb 8 11 = true := rfl
theorem v_9 : inb 9 11 = true := rfl
theorem v_10 : inb 10 11 = true := rfl
/-- what the letters stand for, to the class -/
def lvC (o : Nat) (σ : Hp) (g : Nat) (i : Nat) : Int32 := match i with
  | 0 => nI (g / 8)
  | 1 => nI (g % 8)
  | 2 => σ (o + 1) g
  | 3 => σ (o + 2) g
  | 4 => σ (o + 3) g
  | 5 => σ (o + 4) g
  | 6 => popn (bset (fun c => decide (σ (o + 5) (8 * (g / 8) + c) = 0)))
  | 7 => popn (bset (fun c => decide (σ (o + 5) (8 * (1 - g / 8) + c) = 0)))
  | 8 => popn (σ 22 g &&& bset (fun c => decide (σ (o + 5) (8 * (1 - g / 8) + c) = 0)))
  | 9 => σ o 5
  | _ => jrem (σ o 6) 100
def lvM (τ : Hp) (g : Nat) (i : Nat) : Int32 := match i with
  | 0 => nI (g / 8)
  | 1 => nI (g % 8)
  | 2 => τ 1 (16 + g)
  | 3 => τ 1 (32 + g)
  | 4 => τ 1 (48 + g)
  | 5 => τ 1 (64 + g)
  | 6 => popn (bset (fun c => decide (τ 1 (8 * (g / 8) + c) = 1) && decide (τ 1 (80 + (8 * (g / 8) + c)) = 0)))
  | 7 => popn (bset (fun c => decide (τ 1 (8 * (1 - g / 8) + c) = 1) && decide (τ 1 (80 + (8 * (1 - g / 8) + c)) = 0)))
  | 8 => popn (sn τ g)
  | 9 => τ 1 96
  | _ => jrem (τ 1 97) 100
theorem upd_ne (f : Nat → Int32) {k j : Nat} (x : Int32) (h : j ≠ k) : upd f k x j = f j := by rw [upd_ap, if_neg h]
theorem upd_s (f : Nat → Int32) (k : Nat) (x : Int32) : upd f k x k = x := by rw [upd_ap, if_pos rfl]
theorem C_look {o L g : Nat} (ho : o + 5 < 22) (hL : L = 42 ∨ L = 51) (hg : g < 16) (σ : Hp) : ∃ σ', F_X2_look o L (nI g) σ = some σ' ∧ Ag [L + 7] σ σ' ∧ ∀ i, i < 11 → σ' (L + 7) i = lvC o σ g i := by
  have e0 : nI g / 8 = nI (g / 8) := pk_div (d := 8) (by omega) (by omega) (by omega)
  have e1 : jrem (nI g) 8 = nI (g % 8) := jrem_nI (d := 8) (by omega) (by omega) (by omega)
  unfold F_X2_look
  simp (disch := omega) only [e0, e1, one_sub, C_bits, ob, v_0, v_1, v_2, v_3, v_4, v_5, v_6, v_7, v_8, v_9, v_10, k_0, k_1, k_2, k_3, k_4, k_5, k_6, k_7, k_8, k_9, k_10, gd_tt, inb_nI, nI_clamp, zu_ne, C_bitB, and_bset]
  refine ⟨_, rfl, ?_, fun i hi => ?_⟩
  · have m : L + 7 ∈ [L + 7] := by simp
    exact ((((((((((Ag.rf.zu m).zu m).zu m).zu m).zu m).zu m).zu m).zu m).zu m).zu m).zu m
  · simp only [zu_self]
    rcases (show i = 0 ∨ i = 1 ∨ i = 2 ∨ i = 3 ∨ i = 4 ∨ i = 5 ∨ i = 6 ∨ i = 7 ∨ i = 8 ∨ i = 9 ∨ i = 10 by omega) with rfl | rfl | rfl | rfl | rfl | rfl | rfl | rfl | rfl | rfl | rfl <;> simp (disch := decide) only [upd_s, upd_ne, lvC, and_bset]
theorem M_feels {g : Nat} (hg : g < 16) (τ : Hp) : ∃ τ', F_M_feels (nI g) τ = some τ' ∧ Ag [19] τ τ' ∧ ∀ i, i < 11 → τ' 19 i = lvM τ g i := by
  have e0 : nI g / 8 = nI (g / 8) := pk_div (d := 8) (by omega) (by omega) (by omega)
  have e1 : jrem (nI g) 8 = nI (g % 8) := jrem_nI (d := 8) (by omega) (by omega) (by omega)
  have sn19 : ∀ (t : Hp) (i : Nat) (x : Int32), sn (zu t 19 i x) g = sn t g := fun t i x => sn_congr (zu_ne _ _ _ (by decide)) (zu_ne _ _ _ (by decide)) (zu_ne _ _ _ (by decide)) g
  unfold F_M_feels
  simp (disch := omega) only [e0, e1, one_sub, M_setOf, M_seenBy, M_bits, ob, v_0, v_1, v_2, v_3, v_4, v_5, v_6, v_7, v_8, v_9, v_10, k_0, k_1, k_2, k_3, k_4, k_5, k_6, k_7, k_8, k_9, k_10, gd_tt, idx16, idx32, idx48, idx64, inb_nI, nI_clamp, zu_ne, i96, i97, c96, c97, sn19]
  refine ⟨_, rfl, ?_, fun i hi => ?_⟩
  · have m : 19 ∈ [19] := by simp
    exact ((((((((((Ag.rf.zu m).zu m).zu m).zu m).zu m).zu m).zu m).zu m).zu m).zu m).zu m
  · simp only [zu_self]
    rcases (show i = 0 ∨ i = 1 ∨ i = 2 ∨ i = 3 ∨ i = 4 ∨ i = 5 ∨ i = 6 ∨ i = 7 ∨ i = 8 ∨ i = 9 ∨ i = 10 by omega) with rfl | rfl | rfl | rfl | rfl | rfl | rfl | rfl | rfl | rfl | rfl <;> simp (disch := decide) only [upd_s, upd_ne, lvM]
/-- the sights are those of the war as it is -/
def SgI (o : Nat) (σ : Hp) : Prop := (∀ c, c < 8 → σ 22 c = bset (fun e => bothV o σ c e)) ∧ ∀ e, e < 8 → σ 22 (8 + e) = bset (fun c => bothV o σ c e)
theorem lv_eq {o : Nat} (ho : o + 5 < 22) {σ τ : Hp} (hw : RWar o 1 σ τ) (hv : RVal σ τ) (hs : SgI o σ) {g : Nat} (hg : g < 16) (ht : τ 1 g = 1) (i : Nat) (hi : i < 11) : lvC o σ g i = lvM τ g i := by
  have hsg := look_rel (o := o) (by omega) (by omega) hw hv hs.1 hs.2 g hg ht
  obtain ⟨g1, g2, g3, g4, -⟩ := hw.1 g hg
  obtain ⟨t1, t2, -, -⟩ := hw.2
  rcases (show i = 0 ∨ i = 1 ∨ i = 2 ∨ i = 3 ∨ i = 4 ∨ i = 5 ∨ i = 6 ∨ i = 7 ∨ i = 8 ∨ i = 9 ∨ i = 10 by omega) with rfl | rfl | rfl | rfl | rfl | rfl | rfl | rfl | rfl | rfl | rfl <;> simp only [lvC, lvM]
  · exact g1
  · exact g2
  · exact g3
  · exact g4
  · rw [set_eq hw (g / 8) (by omega) 0 (by decide)]
  · rw [set_eq hw (1 - g / 8) (by omega) 0 (by decide)]
  · rw [set_eq hw (1 - g / 8) (by omega) 0 (by decide), hsg]
  · exact t1.1
  · rw [t2.1]
