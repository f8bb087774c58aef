-- check, toSee, capture
theorem C_byteAt {i : Nat} (hi : i < 260) (σ : Hp) : F_X8_byteAt (nI i) σ = some (σ 24 i, σ) := by
  unfold F_X8_byteAt
  rw [if_neg (nI_pos (by omega)), if_neg (show ¬ Int32.ofNat 260 ≤ nI i from nI_ge (b := 260) hi (by omega)), gd_true (inbT hi (by omega)), nI_clamp (by omega)]
theorem M_octet {i : Nat} (hi : i < 260) (τ : Hp) : F_M_octet (nI i) τ = some (τ 6 i &&& 255, τ) := by
  unfold F_M_octet
  rw [gd_true (inbT hi (by omega)), nI_clamp (by omega)]
theorem C_has {n k : Nat} {σ : Hp} (e : σ 23 1 = nI n) (hn : n ≤ 260) (hk : k ≤ 260) : F_X8_has (nI k) σ = some (b2 (decide (k ≤ n)), σ) := by
  unfold F_X8_has
  rw [e]
  by_cases h : k ≤ n
  · rw [if_neg (nI_nlt h (by omega))]; simp [h, b2]
  · rw [if_pos (nI_lt (by omega) (by omega))]; simp [h, b2]
theorem Rl.clear {σ τ : Hp} (h : Rl σ τ) : Rl (zu σ 23 1 0) (zu τ 0 6 0) := by
  refine h.tape (fun k h1 h2 => zu_ne _ _ _ h1) ⟨fun k h1 h2 => zu_ne _ _ _ h1, fun j hj => ?_⟩ ⟨⟨0, by omega, rfl, rfl⟩, h.2.2.1.2⟩
  rw [zu_self, upd_ap, if_neg hj]
theorem Ok.clear {σ τ : Hp} {v : Int32} (h : Rl σ τ) : Ok (some (v, zu σ 23 1 0)) (some (v, zu τ 0 6 0)) := ⟨v, _, _, rfl, rfl, h.clear⟩
theorem chk_un (k) (N : Nat) (a b c d : Int32) (σ : Hp) : L_V_check_36 k (N + 1) a b c d σ = B_V_check_36 k (fun x1 x2 x3 x4 σ => L_V_check_36 k N x1 x2 x3 x4 σ) a b c d σ := rfl
theorem chkM_un (N : Nat) (a b c : Int32) (τ : Hp) : L_M_check_37 (N + 1) a b c τ = B_M_check_37 (fun x1 x2 x3 σ => L_M_check_37 N x1 x2 x3 σ) a b c τ := rfl
theorem nI_nm1 {i : Nat} (h : i < 2 ^ 31) : ¬ nI i = -1 := nI_m1 h
theorem sim_check {σ τ : Hp} (h : Rl σ τ) (a1 a2 : Int32) : ∃ r σ' τ', F_V_check a1 a2 σ = some (r, σ') ∧ F_M_check a1 a2 τ = some (r, τ') ∧ Rl σ' τ' := by
  obtain ⟨⟨n, hn, e1, e2⟩, hb⟩ := id h.2.2.1
  simp only [F_V_check, F_M_check, V_isSide, V_within, M_in, ob, b2_ite]
  by_cases h1 : wi a1 0 1 = true
  · by_cases h2 : wi a2 0 8 = true
    · obtain ⟨s, hs, rfl⟩ := wi_nat (M := 1) (n := 1) (by decide) h1
      obtain ⟨k, hk, rfl⟩ := wi_nat (M := 8) (n := 8) (by decide) h2
      simp only [h1, h2, if_true, C_has e1 hn (show k ≤ 260 by omega), ob, b2_ite, e2, decide_eq_true_eq]
      by_cases h3 : k ≤ n
      · rw [if_pos h3, if_pos (nI_le h3 (by omega))]
        refine lock (fun N i (_ : Unit) => L_V_check_36 J_V_check_109 (N + 1) (nI s) (nI k) (-1) (nI i) σ) (fun N i (_ : Unit) => L_M_check_37 N (nI s) (nI k) (nI i) (zu τ 0 6 0)) (fun i a b => True) Ok k ?_ ?_ k 0 999999 FU () () (by omega) (by omega) (by omega) (FU_lt (by omega)) trivial
        · rintro N1 N2 _ _ -
          rw [chk_un, chkM_un]
          unfold B_V_check_36 B_M_check_37
          rw [if_pos (nI_le (Nat.le_refl _) (by omega)), if_pos (nI_le (Nat.le_refl _) (by omega))]
          exact Ok.clear h
        · rintro N1 N2 i _ _ hi -
          have hg := h.1.1 (8 * s + i) (by omega)
          have hth := hg.there
          have hb1 := (hg).2.1
          have e5 : (32 : Int32) + nI (8 * s) + nI i = nI (32 + (8 * s + i)) := by rw [n32, nI_add, nI_add, Nat.add_assoc]
          have e6 : zu τ 0 6 0 6 i &&& 255 = σ 24 i := by rw [zu_ne _ _ _ (by decide), (hb i (by omega)).1]
          have e7 : (8 : Int32) * nI s = nI (8 * s) := by rw [n8, pk_mul]
          have ht : thr (zu τ 0 6 0) (nI s) (nI i) = decide (τ 1 (8 * s + i) = 1) := by
            unfold thr
            rw [isCh_of (by omega) (by omega), idxM, nI_clamp (by omega), zu_ne _ _ _ (by decide), Bool.true_and]
          rw [chk_un, chkM_un]
          unfold B_V_check_36 B_M_check_37 J_V_check_84 J_M_check_74
          simp only [idxC, M_octet (show i < 260 by omega), C_byteAt (show i < 260 by omega), M_isThere, ob, b2_ite, e6, e7, e5, ht, decide_eq_true_eq]
          rw [if_neg (nI_ge hi (by omega)), if_neg (nI_ge hi (by omega)), if_pos trivial]
          simp (disch := omega) only [inb_nI, gd_tt, ob, nI_clamp, nI_add, nI_1, pk_mul, nI_leI, nI_ltI, nI_eq, nl2, nl3, nl4, nl5, nl6, nl7, nl8, nl9, nl10, nl11, nl13, nl14, nl16, nl20, nl24, nl25, nl26, nl32, nl39, nl40, nl48, nl50, nl51, nl52, nl58, nl59, nl60, nl61, nl62, nl64, nl80, nl99, nl100, nl120, nl240, nl256, nl1000]
          have fin : ∀ due : Int32, (Ok (if σ 24 i = due then L_V_check_36 J_V_check_109 (N1 + 1) (nI s) (nI k) (-1) (nI (i + 1)) σ else L_V_check_36 J_V_check_109 (N1 + 1) (nI s) (nI k) (nI i) (nI (i + 1)) σ) (if σ 24 i = due then L_M_check_37 N2 (nI s) (nI k) (nI (i + 1)) (zu τ 0 6 0) else some (nI i, zu τ 0 6 0)) ∨ ∃ a' b' : Unit, (if σ 24 i = due then L_V_check_36 J_V_check_109 (N1 + 1) (nI s) (nI k) (-1) (nI (i + 1)) σ else L_V_check_36 J_V_check_109 (N1 + 1) (nI s) (nI k) (nI i) (nI (i + 1)) σ) = L_V_check_36 J_V_check_109 (N1 + 1) (nI s) (nI k) (-1) (nI (i + 1)) σ ∧ (if σ 24 i = due then L_M_check_37 N2 (nI s) (nI k) (nI (i + 1)) (zu τ 0 6 0) else some (nI i, zu τ 0 6 0)) = L_M_check_37 N2 (nI s) (nI k) (nI (i + 1)) (zu τ 0 6 0) ∧ True) := by
            intro due
            by_cases hd : σ 24 i = due
            · rw [if_pos hd, if_pos hd]
              exact Or.inr ⟨(), (), rfl, rfl, trivial⟩
            · rw [if_neg hd, if_neg hd, chk_un]
              unfold B_V_check_36
              rw [if_neg (nI_nm1 (by omega)), ite_self]
              exact Or.inl (Ok.clear h)
          by_cases hc : σ 6 (8 * s + i) = 3
          · have : ¬ τ 1 (8 * s + i) = 1 := by
              intro hh
              rw [show σ 6 (8 * s + i) = σ (1 + 5) (8 * s + i) from rfl] at hc
              rw [hc, hh] at hth
              exact absurd hth (by decide)
            rw [if_pos (show σ 6 (8 * s + i) = nI 3 from hc), if_neg this]
            exact fin 0
          · have : τ 1 (8 * s + i) = 1 := by
              have hc' : ¬ σ (1 + 5) (8 * s + i) = 3 := hc
              simp only [hc', decide_false, Bool.not_false] at hth
              simpa using hth.symm
            rw [if_neg (show ¬ σ 6 (8 * s + i) = nI 3 from hc), if_pos this, zu_ne τ (k := 0) (j := 1) 6 0 (by decide), ← hb1]
            exact fin _
      · rw [if_neg h3, if_neg (nI_ge (by omega) (by omega))]
        exact ⟨-2, σ, τ, rfl, rfl, h⟩
    · simp only [h1, h2, if_true, if_false]
      exact ⟨-2, σ, τ, rfl, rfl, h⟩
  · simp only [h1, if_false]
    exact ⟨-2, σ, τ, rfl, rfl, h⟩
theorem one_sub {i : Nat} (hi : i < 2) : (1 : Int32) - nI i = nI (1 - i) := pk_sub (a := 1) (by omega)
theorem sim_toSee {σ τ : Hp} (h : Rl σ τ) (a1 a2 a3 : Int32) : ∃ r σ' τ', F_V_toSee a1 a2 a3 σ = some (r, σ') ∧ F_M_toSee a1 a2 a3 τ = some (r, τ') ∧ Rl σ' τ' := by
  obtain ⟨r1, r2, -⟩ := id h
  simp only [F_V_toSee, F_M_toSee, C_isGent r1, M_isThere, ob, b2_ite]
  by_cases h1 : thr τ a1 a2 = true
  · by_cases h2 : thr τ (1 - a1) a3 = true
    · obtain ⟨i, c, hi, hc, rfl, rfl, -⟩ := thr_nat h1
      rw [one_sub hi] at h2 ⊢
      obtain ⟨-, e, -, he, -, rfl, -⟩ := thr_nat h2
      simp only [h1, h2, if_true, idxC, idxM, M_eyeOf (8 * i + c) (by omega), M_eyeOf (8 * (1 - i) + e) (by omega), C_eye (1 - i) (show 1 - i < 2 by omega), ob]
      simp (disch := omega) only [inb_nI, gd_tt, ob, nI_clamp, nI_add, nI_1, pk_mul, nI_leI, nI_ltI, nI_eq, nl2, nl3, nl4, nl5, nl6, nl7, nl8, nl9, nl10, nl11, nl13, nl14, nl16, nl20, nl24, nl25, nl26, nl32, nl39, nl40, nl48, nl50, nl51, nl52, nl58, nl59, nl60, nl61, nl62, nl64, nl80, nl99, nl100, nl120, nl240, nl256, nl1000]
      obtain ⟨u, hu, eu⟩ := (r1.1 (8 * i + c) (by omega)).2.2.2.2.2.2.2.2
      have eu' : σ 5 (8 * i + c) = nI u := (r1.1 (8 * i + c) (by omega)).2.2.2.1.trans eu
      have ev' : σ 5 (8 * (1 - i) + e) = τ 1 (64 + (8 * (1 - i) + e)) := (r1.1 (8 * (1 - i) + e) (by omega)).2.2.2.1
      obtain ⟨f, hf, ef⟩ := (r2.2 i hi).2
      have ef' : σ 21 i = nI f := (r2.2 i hi).1.trans ef
      have eo : σ 21 (1 - i) + nI 5 * σ 5 (8 * (1 - i) + e) = eyM τ (8 * (1 - i) + e) := by
        unfold eyM
        rw [ev', (r2.2 (1 - i) (by omega)).1, show (8 * (1 - i) + e) / 8 = 1 - i by omega]
        rfl
      have em : eyM τ (8 * i + c) = nI (f + 5 * u) := by
        unfold eyM
        rw [show (8 * i + c) / 8 = i by omega, ef, eu, n5, pk_mul, nI_add]
      rw [eu', eo, em]
      refine Ok.of h ?_
      refine lock (fun N j (_ : Unit) => L_V_toSee_69 N (nI i) (nI u) (eyM τ (8 * (1 - i) + e)) (nI j) σ) (fun N j (_ : Unit) => L_M_toSee_51 N (nI i) (nI c) (nI (f + 5 * u)) (eyM τ (8 * (1 - i) + e)) (nI j) τ) (fun i a b => True) (Sm σ τ) (10 - u) ?_ ?_ (10 - u) 0 FU FU () () (by omega) (by omega) (FU_lt (by omega)) (FU_lt (by omega)) trivial
      · rintro N1 N2 _ _ -
        have e64 : (64 : Int32) + 8 * nI i + nI c = nI (64 + (8 * i + c)) := by rw [n64, n8, pk_mul, nI_add, nI_add, Nat.add_assoc]
        simp only [L_V_toSee_69, B_V_toSee_69, L_M_toSee_51, B_M_toSee_51, e64]
        rw [gd_true (inbT (by omega) (by omega)), nI_clamp (by omega), eu, nI_add, nI_add, if_pos (show (9 : Int32) < nI (u + (10 - u)) from nI_lt (a := 9) (by omega) (by omega)), if_pos (show (9 : Int32) < nI (10 - u + u) from nI_lt (a := 9) (by omega) (by omega))]
        exact ⟨_, rfl, rfl⟩
      · rintro N1 N2 j _ _ hj -
        have e64 : (64 : Int32) + 8 * nI i + nI c = nI (64 + (8 * i + c)) := by rw [n64, n8, pk_mul, nI_add, nI_add, Nat.add_assoc]
        have e5 : σ 21 i + 5 * (nI (u + j)) = nI (f + 5 * u + 5 * j) := by rw [ef', n5, pk_mul, nI_add]; congr 1; omega
        have e6 : nI (f + 5 * u) + 5 * nI j = nI (f + 5 * u + 5 * j) := by rw [n5, pk_mul, nI_add]
        simp only [L_V_toSee_69, B_V_toSee_69, J_V_toSee_125, L_M_toSee_51, B_M_toSee_51, e64]
        rw [gd_true (inbT (by omega) (by omega)), nI_clamp (by omega), eu, nI_add, nI_add, if_neg (show ¬ (9 : Int32) < nI (u + j) from nI_nlt (a := 9) (by omega) (by omega)), if_neg (show ¬ (9 : Int32) < nI (j + u) from nI_nlt (a := 9) (by omega) (by omega))]
        simp only [C_eye i hi, ob, e5, e6, C_isFree1, M_seesOver, b2_ite, nI_1]
        rw [fre_congr (c := σ 20) (c' := τ 5) (fun k hk => (r2.1 k hk).1), fre_congr (c := σ 20) (c' := τ 5) (fun k hk => (r2.1 k hk).1)]
        rcases (show i = 0 ∨ i = 1 by omega) with rfl | rfl
        · simp only [if_pos (show nI 0 = (0 : Int32) from rfl)]
          by_cases hf : fre (τ 5) (nI (f + 5 * u + 5 * j)) (eyM τ (8 * (1 - 0) + e)) = true
          · rw [if_pos hf, if_pos hf]; exact Or.inl ⟨_, rfl, rfl⟩
          · rw [if_neg hf, if_neg hf]; exact Or.inr ⟨(), (), rfl, rfl, trivial⟩
        · simp only [if_neg (show ¬ nI 1 = (0 : Int32) by decide)]
          by_cases hf : fre (τ 5) (eyM τ (8 * (1 - 1) + e)) (nI (f + 5 * u + 5 * j)) = true
          · rw [if_pos hf, if_pos hf]; exact Or.inl ⟨_, rfl, rfl⟩
          · rw [if_neg hf, if_neg hf]; exact Or.inr ⟨(), (), rfl, rfl, trivial⟩
    · simp only [h1, h2, if_true, if_false]
      exact ⟨_, _, _, rfl, rfl, h⟩
  · simp only [h1, if_false]
    exact ⟨_, _, _, rfl, rfl, h⟩
theorem M_sitsIn {g : Nat} (hg : g < 16) (τ : Hp) : F_M_sitsIn (nI g) τ = some (b2 (decide (τ 1 g = 1) && decide (τ 1 (80 + g) = 0)), τ) := by
  unfold F_M_sitsIn
  rw [idx0, idx80, gd_true (inbT (show g < 100 by omega) (by omega)), nI_clamp (by omega), gd_true (inbT (show 80 + g < 100 by omega) (by omega)), nI_clamp (by omega)]
  by_cases h1 : τ 1 g = 1
  · by_cases h2 : τ 1 (80 + g) = 0
    · simp [h1, h2, b2]
    · simp [h1, h2, b2]
  · simp [h1, b2]
theorem cushions_eq {σ τ : Hp} (h : Rl σ τ) {g j : Nat} (hg : g < 16) (hj : j < 16) (hgj : g ≠ j) {x y : Nat} (hx : x ≤ 9) (hy : y ≤ 9) : Rl (zu (zu σ 5 g (nI x)) 5 j (nI y)) (zu (zu τ 1 (64 + g) (nI x)) 1 (64 + j) (nI y)) := by
  obtain ⟨r1, r2, r3, ⟨r4, r5⟩, r6, r7⟩ := h
  refine ⟨⟨fun k hk => ?_, ?_⟩, r2.congr rfl rfl rfl rfl, r3.congr rfl rfl rfl rfl, ⟨r4.congr rfl rfl rfl rfl, r5.congr rfl rfl rfl rfl⟩, r6.congr rfl (fun j hj => ?_) rfl rfl, r7.eq (S := [5]) (T := [1]) ?_ ?_ ⟨rfl, rfl⟩ (by decide) (by decide)⟩
  · obtain ⟨g1, g2, g3, g4, g5, g6, g7, g8, g9⟩ := r1.1 k hk
    unfold RG
    have t : ∀ q, q < 64 ∨ 80 ≤ q → zu (zu τ 1 (64 + g) (nI x)) 1 (64 + j) (nI y) 1 q = τ 1 q := fun q hq => by
      rw [zu_self, upd_ap, if_neg (by omega), zu_self, upd_ap, if_neg (by omega)]
    rw [t (16 + k) (by omega), t (32 + k) (by omega), t (48 + k) (by omega), t k (by omega), t (80 + k) (by omega)]
    have s5 : zu (zu σ 5 g (nI x)) 5 j (nI y) (1 + 4) k = if k = j then nI y else if k = g then nI x else σ 5 k := rfl
    have t5 : zu (zu τ 1 (64 + g) (nI x)) 1 (64 + j) (nI y) 1 (64 + k) = if 64 + k = 64 + j then nI y else if 64 + k = 64 + g then nI x else τ 1 (64 + k) := rfl
    rw [s5, t5]
    refine ⟨g1, g2, g3, ?_, g5, g6, g7, g8, ?_⟩
    · by_cases q1 : k = j
      · simp [q1]
      · by_cases q2 : k = g
        · simp [q1, q2]
        · rw [if_neg q1, if_neg q2, if_neg (by omega), if_neg (by omega)]; exact g4
    · by_cases q1 : k = j
      · exact ⟨y, hy, by simp [q1]⟩
      · by_cases q2 : k = g
        · exact ⟨x, hx, by rw [if_neg (by omega), if_pos (by omega)]⟩
        · rw [if_neg (by omega), if_neg (by omega)]; exact g9
  · obtain ⟨t1, t2, t3, t4⟩ := r1.2
    unfold RT
    have t : ∀ q, q < 64 ∨ 80 ≤ q → zu (zu τ 1 (64 + g) (nI x)) 1 (64 + j) (nI y) 1 q = τ 1 q := fun q hq => by
      rw [zu_self, upd_ap, if_neg (by omega), zu_self, upd_ap, if_neg (by omega)]
    rw [t 96 (by omega), t 97 (by omega), t 98 (by omega), t 99 (by omega)]
    exact ⟨t1, t2, t3, t4⟩
  · rw [zu_ne _ _ _ (by omega), zu_ne _ _ _ (by omega)]
  · exact ⟨fun k hk _ => by simp at hk; rw [zu_ne _ _ _ hk, zu_ne _ _ _ hk], fun _ => rfl, fun _ => rfl, rfl, rfl, rfl⟩
  · exact ⟨fun k hk _ => by simp at hk; rw [zu_ne _ _ _ hk, zu_ne _ _ _ hk], fun _ => ⟨rfl, rfl⟩, rfl⟩
theorem cap_end {σ τ : Hp} (h : Rl σ τ) {g j : Nat} (hg : g < 16) (hj : j < 16) (hgj : g ≠ j) (b : Bool) : Ok (if σ 6 g = 0 then (if σ 6 j = 0 then some (0, σ) else if (9 : Int32) ≤ σ 5 g then some (0, σ) else if (1 : Int32) ≤ σ 5 j then J_V_capture_143 (nI g) (nI j) (b2 b) σ else some (0, σ)) else some (0, σ)) (J_M_capture_70 (nI g) (nI j) (b2 b) τ) := by
  obtain ⟨r1, -⟩ := id h
  have s1 : decide (σ 6 g = 0) = (decide (τ 1 g = 1) && decide (τ 1 (80 + g) = 0)) := (r1.1 g hg).st 0 (by decide)
  have s2 : decide (σ 6 j = 0) = (decide (τ 1 j = 1) && decide (τ 1 (80 + j) = 0)) := (r1.1 j hj).st 0 (by decide)
  obtain ⟨u, hu, eu⟩ := (r1.1 g hg).2.2.2.2.2.2.2.2
  obtain ⟨w, hw, ew⟩ := (r1.1 j hj).2.2.2.2.2.2.2.2
  have eu' : σ 5 g = nI u := (r1.1 g hg).2.2.2.1.trans eu
  have ew' : σ 5 j = nI w := (r1.1 j hj).2.2.2.1.trans ew
  simp only [J_M_capture_70, J_V_capture_143, M_sitsIn hg, M_sitsIn hj, ob, b2_ite, ← s1, ← s2, idx64]
  simp (disch := omega) only [inb_nI, gd_tt, ob, nI_clamp, nI_add, nI_1, pk_mul, nI_leI, nI_ltI, nI_eq, nl2, nl3, nl4, nl5, nl6, nl7, nl8, nl9, nl10, nl11, nl13, nl14, nl16, nl20, nl24, nl25, nl26, nl32, nl39, nl40, nl48, nl50, nl51, nl52, nl58, nl59, nl60, nl61, nl62, nl64, nl80, nl99, nl100, nl120, nl240, nl256, nl1000, eu, ew, eu', ew', decide_eq_true_eq]
  by_cases p1 : σ 6 g = 0
  · rw [if_pos p1, if_pos p1]
    by_cases p2 : σ 6 j = 0
    · rw [if_pos p2, if_pos p2]
      exact ⟨0, _, _, rfl, rfl, h⟩
    · rw [if_neg p2, if_neg p2]
      by_cases p3 : 9 ≤ u
      · rw [if_pos p3]
        refine ⟨0, σ, τ, rfl, ?_, h⟩
        rw [if_pos (show u = 9 by omega)]
        simp only [ite_self]
      · rw [if_neg p3, if_neg (show ¬ u = 9 by omega)]
        by_cases p4 : 1 ≤ w
        · rw [if_pos (show (1 : Int32) ≤ nI w from nI_le (a := 1) p4 (by omega)), if_neg (show ¬ nI w = 0 from nI_ne0 (by omega) (by omega))]
          cases b
          · exact ⟨0, _, _, rfl, rfl, h⟩
          · simp only [if_true]
            rw [show zu σ 5 g (nI (u + 1)) 5 j = nI w by rw [zu_self, upd_ap, if_neg (fun e => hgj e.symm), ew'], show zu τ 1 (64 + g) (nI (u + 1)) 1 (64 + j) = nI w by rw [zu_self, upd_ap, if_neg (by omega), ew], show nI w - 1 = nI (w - 1) from pk_sub (b := 1) p4]
            exact ⟨1, _, _, rfl, rfl, cushions_eq h hg hj hgj (by omega) (by omega)⟩
        · rw [if_neg (show ¬ (1 : Int32) ≤ nI w from nI_ge (b := 1) (by omega) (by omega)), if_pos (show nI w = 0 by rw [show w = 0 by omega]; rfl)]
          simp only [ite_self]
          exact ⟨0, _, _, rfl, rfl, h⟩
  · rw [if_neg p1, if_neg p1]
    exact ⟨0, _, _, rfl, rfl, h⟩
theorem sim_capture {σ τ : Hp} (h : Rl σ τ) (a1 a2 a3 : Int32) : ∃ r σ' τ', F_V_capture a1 a2 a3 σ = some (r, σ') ∧ F_M_capture a1 a2 a3 τ = some (r, τ') ∧ Rl σ' τ' := by
  obtain ⟨r1, r2, -⟩ := id h
  have e5 := r1.2.1.1
  simp only [F_V_capture, F_M_capture, C_isGent r1, M_isThere, ob, b2_ite, i96, gd_tt, c96, e5]
  by_cases h1 : thr τ a1 a2 = true
  · by_cases h2 : thr τ (1 - a1) a3 = true
    · by_cases h3 : τ 1 96 = 5
      · obtain ⟨i, c, hi, hc, rfl, rfl, -⟩ := thr_nat h1
        rw [one_sub hi] at h2 ⊢
        obtain ⟨-, e, -, he, -, rfl, -⟩ := thr_nat h2
        simp only [h1, h2, h3, if_true, idxC, idxM]
        rcases (show i = 0 ∨ i = 1 by omega) with rfl | rfl
        · simp only [if_pos (show nI 0 = (0 : Int32) from rfl), C_sighted 1 c e hc he, M_seesOne c e hc he, ob, vis_eq r1 r2 hc he]
          have := cap_end h (g := 8 * 0 + c) (j := 8 * (1 - 0) + e) (by omega) (by omega) (by omega) (vis τ c e)
          simp (disch := omega) only [inb_nI, gd_tt, nI_clamp]
          exact this
        · simp only [if_neg (show ¬ nI 1 = (0 : Int32) by decide), C_sighted 1 e c he hc, M_seesOne e c he hc, ob, vis_eq r1 r2 he hc]
          have := cap_end h (g := 8 * 1 + c) (j := 8 * (1 - 1) + e) (by omega) (by omega) (by omega) (vis τ e c)
          simp (disch := omega) only [inb_nI, gd_tt, nI_clamp]
          exact this
      · simp only [h1, h2, h3, if_true, if_false]
        exact ⟨0, _, _, rfl, rfl, h⟩
    · simp only [if_pos h1, if_neg h2, ite_self]
      exact ⟨0, _, _, rfl, rfl, h⟩
  · simp only [if_neg h1, ite_self]
    exact ⟨0, _, _, rfl, rfl, h⟩
