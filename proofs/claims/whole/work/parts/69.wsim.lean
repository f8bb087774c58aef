-- watches, tried, whenIn, first, loses
theorem fw22 {o L k : Nat} (h : k ≠ 22 ∧ k ≠ o ∧ k ≠ o + 2 ∧ k ≠ o + 3 ∧ k ≠ o + 5 ∧ k ≠ 26 ∧ k ≠ 27 ∧ k ≠ L ∧ k ≠ L + 7 ∧ k ≠ L + 8) : k ∉ 22 :: fwL o L := by
  simp only [fwL, List.mem_cons, List.not_mem_nil, or_false]
  omega
theorem ls_lt {k : Nat} (h : k ∈ [1, 2, 3, 4, 5, 6, 7, 8, 9, 10, 11, 12, 20, 21, 24, 28, 29, 30, 31, 43, 44, 45, 46, 47, 48, 52, 53, 54, 55, 56, 57]) : k ≠ 22 ∧ k ≠ 26 ∧ k ≠ 27 ∧ k ≠ 42 ∧ k ≠ 49 ∧ k ≠ 50 ∧ k ≠ 51 ∧ k ≠ 58 ∧ k ≠ 59 ∧ (k < 13 ∨ 18 < k) := by
  simp only [List.mem_cons, List.not_mem_nil, or_false] at h
  omega
theorem EqM.run {τ τ' : Hp} (hm : FrM τ τ') : EqM [1] τ τ' :=
  ⟨fun k hk hk2 => hm.1 k (by simp only [List.mem_cons, List.not_mem_nil, or_false] at *; omega), fun _ => ⟨hm.2.1 6 (by omega), hm.2.1 61 (by omega)⟩, hm.2.1 15 (by omega)⟩
theorem EqC.run1 {σ σ' : Hp} {L : Nat} (hL : L = 42 ∨ L = 51) (ha : Ag (22 :: fwL 1 L) σ σ') (hj : ∀ j, j ≠ 10 → σ' L j = σ L j) : EqC [1, 3, 4, 6] σ σ' := by
  refine ⟨fun k hk hk2 => ?_, fun _ => ?_, fun _ => ?_, ?_, ?_, ?_⟩
  · have := ls_lt hk2
    simp only [List.mem_cons, List.not_mem_nil, or_false, not_or] at hk
    exact ha k (fw22 (by omega))
  · rw [ha 23 (fw22 (by omega))]
  · exact ha 0 (fw22 (by omega))
  · rw [ha 60 (fw22 (by omega))]
  · rcases hL with rfl | rfl
    · exact hj 8 (by decide)
    · rw [ha 42 (fw22 (by omega))]
  · rcases hL with rfl | rfl
    · rw [ha 51 (fw22 (by omega))]
    · exact hj 8 (by decide)
theorem Rl.run1 {σ τ σ' τ' : Hp} {L : Nat} (h : Rl σ τ) (hL : L = 42 ∨ L = 51) (ha : Ag (22 :: fwL 1 L) σ σ') (hj : ∀ j, j ≠ 10 → σ' L j = σ L j) (hm : FrM τ τ') (hw : RWar 1 1 σ' τ') : Rl σ' τ' := by
  obtain ⟨r1, r2, r3, ⟨r4, r5⟩, r6, r7⟩ := h
  have c := EqC.run1 hL ha hj
  have m := EqM.run hm
  have e0 := c.2.2.1 (by decide)
  exact ⟨hw, r2.congr (c.1 20 (by decide) (by decide)) (c.1 21 (by decide) (by decide)) (m.1 5 (by decide) (by decide)) (m.1 4 (by decide) (by decide)), r3.congr (c.2.1 (by decide)) (c.1 24 (by decide) (by decide)) (m.2.1 (by decide)).1 (m.1 6 (by decide) (by decide)), ⟨r4.congr (c.1 28 (by decide) (by decide)) (c.1 29 (by decide) (by decide)) (m.1 21 (by decide) (by decide)) (m.1 20 (by decide) (by decide)), r5.congr (c.1 30 (by decide) (by decide)) (c.1 31 (by decide) (by decide)) (m.1 21 (by decide) (by decide)) (m.1 20 (by decide) (by decide))⟩, r6.congr (by rw [e0]) (fun j hj => c.1 _ (by simp; omega) (by simp; omega)) (m.2.1 (by decide)).2 (m.1 3 (by decide) (by decide)), r7.eq c m ⟨by rw [e0], by rw [e0]⟩ (by decide) (by decide)⟩
theorem isL_of {L : Nat} (hL : L = 42 ∨ L = 51) : isL L = true := by rcases hL with rfl | rfl <;> rfl
theorem wi_n {x : Int32} (h : wi x 1 120 = true) : ∃ n : Nat, 1 ≤ n ∧ n ≤ 120 ∧ x = nI n := wi_from (a := 1) (M := 120) (m := 1) (n := 120) (by decide) (by decide) h
theorem sim_watches {σ τ : Hp} (h : Rl σ τ) (a1 : Int32) : ∃ r σ' τ', F_V_watches a1 σ = some (r, σ') ∧ F_M_watches a1 τ = some (r, τ') ∧ Rl σ' τ' := by
  simp only [F_V_watches, F_M_watches, V_within, M_in, ob, b2_ite]
  by_cases h1 : wi a1 1 120 = true
  · obtain ⟨n, hn1, hn, rfl⟩ := wi_n h1
    rw [if_pos h1, if_pos h1]
    obtain ⟨r1, r2, r3, -, r6, r7⟩ := id h
    obtain ⟨L, hL, he, hl⟩ := r7.cases
    rw [he, gd_true (isL_of hL)]
    obtain ⟨σ', τ', p1, p2, p3, p4, p5, p6, p7, -⟩ := run_eq (Or.inl rfl) hL r1 r2 hl hn
    rw [p1, p2, ob, ob]
    exact ⟨_, _, _, rfl, by rw [p7.1], h.run1 hL p3 p4 p5 p6⟩
  · rw [if_neg h1, if_neg h1]
    exact ⟨_, _, _, rfl, rfl, h⟩
theorem wgo_lost {τ : Hp} (n : Int32) (h : ¬ τ 1 98 = 0) : ∃ τ', F_M_watchesGo n τ = some τ' ∧ τ' 1 = τ 1 ∧ τ' 0 45 = 0 := by
  unfold F_M_watchesGo
  rw [wgo_fill]
  unfold J_M_watchesGo_53
  rw [FU_s, wgo55_un]
  unfold B_M_watchesGo_55
  simp only [i98, c98, gd_tt, i97, c97]
  rw [zr_ne _ _ (show 1 ≠ 26 by decide)]
  simp (disch := decide) only [zu_ne]
  rw [if_neg h]
  simp only [ite_self]
  refine ⟨_, rfl, ?_, ?_⟩
  · rw [zr_ne _ _ (by decide)]; simp (disch := decide) only [zu_ne]
  · rw [zr_ne _ _ (by decide), zu_self, upd_s]
theorem try_eq {σ τ : Hp} (h : Rl σ τ) {n : Nat} (hn : n ≤ 120) : ∃ σ' τ1 τ', F_V_tryWatches (nI n) σ = some σ' ∧ F_M_triesWatches (nI n) τ = some τ1 ∧ F_M_copies 2 100 1 100 τ1 = some τ' ∧ EqC [] σ σ' ∧ EqM [] τ τ' ∧ RWar 13 1 σ' τ1 ∧ RunR 13 σ' τ1 ∧ (∃ i : Nat, i ≤ 120 ∧ τ1 0 45 = nI i ∧ (¬ τ1 1 98 = 0 → σ' 26 6 = nI i)) ∧ (∀ k, k ≠ 1 → τ' k = τ1 k) ∧ (∀ j, j < 16 → τ1 1 j = τ 1 j) ∧ (¬ τ 1 98 = 0 → τ1 1 98 = τ 1 98 ∧ τ1 0 45 = 0) := by
  obtain ⟨r1, r2, r3, -, r6, r7⟩ := id h
  obtain ⟨L, hL, he, hl⟩ := r7.cases
  obtain ⟨σ1, e1, cp⟩ := copy_eq 13 1 (by omega) σ
  have cc := cp.2.2
  obtain ⟨τa, hτa⟩ : ∃ t, t = zr τ 2 (fun j => if j < 100 then τ 1 j else τ 2 j) := ⟨_, rfl⟩
  have ka : ∀ k, k ≠ 2 → τa k = τ k := fun k hk => by rw [hτa, zr_ne _ _ hk]
  have hw : RWar 13 1 σ1 τa := (r1.cp cp).congr (fun _ _ => rfl) (ka 1 (by decide))
  have hv : RVal σ1 τa := r2.congr (cc 20 (by omega)) (cc 21 (by omega)) (ka 5 (by decide)) (ka 4 (by decide))
  have hl1 : RLaw1 L σ1 τa := hl.congr (by rw [cc L (by omega)]) (fun j h1 h2 => cc _ (by omega)) (by rw [ka 0 (by decide)]) (fun j h1 h2 => ka j (by omega))
  obtain ⟨σ', τ1, p1, p2, p3, p4, p5, p6, p7, p8⟩ := run_eq (Or.inr rfl) hL hw hv hl1 hn
  have c1 : F_M_copies 1 100 2 100 τ = some τa := by rw [hτa]; exact M_copies 1 2 (by decide) τ
  refine ⟨σ', τ1, zr τ1 1 (fun j => if j < 100 then τ1 2 j else τ1 1 j), ?_, ?_, M_copies 2 1 (by decide) τ1, ?_, ?_, p6, p7, p8, fun k hk => zr_ne _ _ hk, fun j hj => ?_, fun hn0 => ?_⟩
  · unfold F_V_tryWatches
    rw [e1, ob, cc 0 (by omega), he, gd_true (isL_of hL), p1, ob]
  · unfold F_M_triesWatches
    rw [c1, ob, p2, ob]
  · refine ⟨fun k _ hk2 => ?_, fun _ => ?_, fun _ => ?_, ?_, ?_, ?_⟩
    · have := ls_lt hk2
      rw [p3 k (fw22 (by omega)), cc k (by omega)]
    · rw [p3 23 (fw22 (by omega)), cc 23 (by omega)]
    · rw [p3 0 (fw22 (by omega)), cc 0 (by omega)]
    · rw [p3 60 (fw22 (by omega)), cc 60 (by omega)]
    · have : σ' 42 8 = σ1 42 8 := by
        rcases hL with rfl | rfl
        · exact p4 8 (by decide)
        · rw [p3 42 (fw22 (by omega))]
      rw [this, cc 42 (by omega)]
    · have : σ' 51 8 = σ1 51 8 := by
        rcases hL with rfl | rfl
        · rw [p3 51 (fw22 (by omega))]
        · exact p4 8 (by decide)
      rw [this, cc 51 (by omega)]
  · refine ⟨fun k _ hk2 => ?_, fun _ => ⟨?_, ?_⟩, ?_⟩
    · by_cases k1 : k = 1
      · subst k1
        rw [zr_self]
        funext j
        by_cases hj : j < 100
        · rw [if_pos hj, p5.1 2 (by decide), hτa, zr_self, if_pos hj]
        · rw [if_neg hj, p5.2.2 j (by omega), ka 1 (by decide)]
      · rw [zr_ne _ _ k1, p5.1 k (by simp only [List.mem_cons, List.not_mem_nil, or_false] at *; omega), ka k (by simp only [List.mem_cons, List.not_mem_nil, or_false] at hk2; omega)]
    · rw [zr_ne _ _ (by decide), p5.2.1 6 (by omega), ka 0 (by decide)]
    · rw [zr_ne _ _ (by decide), p5.2.1 61 (by omega), ka 0 (by decide)]
    · rw [zr_ne _ _ (by decide), p5.2.1 15 (by omega), ka 0 (by decide)]
  · rw [p5.2.2 j (by omega), ka 1 (by decide)]
  · have ka1 := ka 1 (by decide)
    obtain ⟨t2, q1, q2, q3⟩ := wgo_lost (τ := τa) (nI n) (by rw [ka1]; exact hn0)
    rw [p2] at q1
    obtain rfl : τ1 = t2 := Option.some.inj q1
    exact ⟨by rw [q2, ka1], q3⟩
theorem sim_first {σ τ : Hp} (h : Rl σ τ) (a1 a2 : Int32) : ∃ r σ' τ', F_V_first a1 a2 σ = some (r, σ') ∧ F_M_first a1 a2 τ = some (r, τ') ∧ Rl σ' τ' := by
  simp only [F_V_first, F_M_first, V_within, M_in, ob, b2_ite]
  by_cases h1 : wi a1 1 120 = true
  · by_cases h2 : wi a2 0 2 = true
    · obtain ⟨n, hn1, hn, rfl⟩ := wi_n h1
      rw [if_pos h1, if_pos h1, if_pos h2, if_pos h2]
      obtain ⟨σ', τ1, τ', p1, p2, p3, p4, p5, p6, p7, p8, p9, -⟩ := try_eq h hn
      have hR : Rl σ' τ' := h.eq p4 p5
      rw [p1, p2, ob, ob]
      try dsimp only
      rw [p3, ob, p9 0 (by decide)]
      obtain ⟨-, -, -, q4, -⟩ := p7
      rcases q4 with ⟨u1, u2⟩ | ⟨g, m, g1, g2, g3, g4, g5, g6, g7, -⟩
      · rw [u1, u2, if_pos (by decide), if_pos rfl]
        exact ⟨_, _, _, rfl, rfl, hR⟩
      · rw [g4, g5, g7, if_neg (nI_pos (by omega)), if_pos (show nI g < (16 : Int32) from nI_lt (b := 16) (by omega) (by omega)), if_neg (nI_m1 (by omega)), gd_true (inbT g1 (by omega)), nI_clamp (by omega), g6]
        by_cases q0 : a2 = 0
        · rw [if_pos q0, if_pos q0]; exact ⟨_, _, _, rfl, rfl, hR⟩
        · rw [if_neg q0, if_neg q0]
          by_cases q1 : a2 = 1
          · rw [if_pos q1, if_pos q1]; exact ⟨_, _, _, rfl, rfl, hR⟩
          · rw [if_neg q1, if_neg q1]; exact ⟨_, _, _, rfl, rfl, hR⟩
    · rw [if_pos h1, if_pos h1, if_neg h2, if_neg h2]
      exact ⟨_, _, _, rfl, rfl, h⟩
  · rw [if_neg h1, if_neg h1]
    exact ⟨_, _, _, rfl, rfl, h⟩
theorem sim_loses {σ τ : Hp} (h : Rl σ τ) (a1 a2 : Int32) : ∃ r σ' τ', F_V_loses a1 a2 σ = some (r, σ') ∧ F_M_loses a1 a2 τ = some (r, τ') ∧ Rl σ' τ' := by
  simp only [F_V_loses, F_M_loses, V_within, M_in, ob, b2_ite, i98, c98, gd_tt]
  by_cases h1 : wi a1 1 120 = true
  · by_cases h2 : wi a2 0 1 = true
    · obtain ⟨n, hn1, hn, rfl⟩ := wi_n h1
      rw [if_pos h1, if_pos h1, if_pos h2, if_pos h2]
      obtain ⟨σ', τ1, τ', p1, p2, p3, p4, p5, p6, p7, ⟨i, hi, p8, p8'⟩, p9, p10, p11⟩ := try_eq h hn
      have hR : Rl σ' τ' := h.eq p4 p5
      have hR2 : Rl σ τ' := h.eq EqC.rf p5
      rw [p1, p2, ob, ob]
      try dsimp only
      rw [p3, ob, p9 0 (by decide)]
      obtain ⟨-, -, -, ⟨T4, -⟩⟩ := h.1.2
      obtain ⟨-, -, -, ⟨U4, -⟩⟩ := p6.2
      rw [T4, U4]
      by_cases q : τ 1 98 = 0
      · rw [if_pos q]
        by_cases q0 : a2 = 0
        · rw [if_pos q0, if_pos q0]; exact ⟨_, _, _, rfl, rfl, hR⟩
        · rw [if_neg q0, if_neg q0]
          by_cases q1 : τ1 1 98 = 0
          · rw [if_pos q1, if_pos q1]; exact ⟨_, _, _, rfl, rfl, hR⟩
          · rw [if_neg q1, if_neg q1, p8, p8' q1]; exact ⟨_, _, _, rfl, rfl, hR⟩
      · obtain ⟨v1, v2⟩ := p11 q
        rw [if_neg q, v1, v2]
        by_cases q0 : a2 = 0
        · rw [if_pos q0, if_pos q0]; exact ⟨_, _, _, rfl, rfl, hR2⟩
        · rw [if_neg q0, if_neg q0, if_neg q]; exact ⟨_, _, _, rfl, rfl, hR2⟩
    · rw [if_pos h1, if_pos h1, if_neg h2, if_neg h2]
      exact ⟨_, _, _, rfl, rfl, h⟩
  · rw [if_neg h1, if_neg h1]
    exact ⟨_, _, _, rfl, rfl, h⟩
theorem sim_whenIn {σ τ : Hp} (h : Rl σ τ) (a1 a2 a3 : Int32) : ∃ r σ' τ', F_V_whenIn a1 a2 a3 σ = some (r, σ') ∧ F_M_whenIn a1 a2 a3 τ = some (r, τ') ∧ Rl σ' τ' := by
  simp only [F_V_whenIn, F_M_whenIn, C_isGent h.1, M_isThere, V_within, M_in, ob, b2_ite]
  by_cases h1 : thr τ a1 a2 = true
  · by_cases h2 : wi a3 1 120 = true
    · obtain ⟨n, hn1, hn, rfl⟩ := wi_n h2
      obtain ⟨i, c, hi, hc, rfl, rfl, ht⟩ := thr_nat h1
      rw [if_pos h1, if_pos h1, if_pos h2, if_pos h2, idxC, idxM, idx80]
      simp (disch := omega) only [inb_nI, gd_tt, nI_clamp]
      obtain ⟨-, -, -, -, g5, -⟩ := h.1.1 (8 * i + c) (by omega)
      have gs : σ 6 (8 * i + c) = τ 1 (80 + (8 * i + c)) := by
        rcases g5 with ⟨-, g5, -⟩ | ⟨g5, -⟩
        · exact g5
        · rw [ht] at g5; exact absurd g5 (by decide)
      rw [gs]
      by_cases q : τ 1 (80 + (8 * i + c)) = 2
      · rw [if_pos q, if_pos q]; exact ⟨_, _, _, rfl, rfl, h⟩
      · rw [if_neg q, if_neg q]
        obtain ⟨σ', τ1, τ', p1, p2, p3, p4, p5, p6, p7, -, p9, -⟩ := try_eq h hn
        have hR : Rl σ' τ' := h.eq p4 p5
        rw [p1, p2, ob, ob]
        try dsimp only
        rw [p3, ob, p9 26 (by decide)]
        obtain ⟨-, -, -, -, q5⟩ := p7
        rcases q5 (8 * i + c) (by omega) with ⟨u1, u2⟩ | ⟨m, m1, m2, u1, u2⟩
        · rw [u1, u2, if_pos (by decide)]; exact ⟨_, _, _, rfl, rfl, hR⟩
        · rw [u1, u2, if_neg (nI_nle (by omega) (by omega))]; exact ⟨_, _, _, rfl, rfl, hR⟩
    · rw [if_pos h1, if_pos h1, if_neg h2, if_neg h2]
      exact ⟨_, _, _, rfl, rfl, h⟩
  · rw [if_neg h1, if_neg h1]
    exact ⟨_, _, _, rfl, rfl, h⟩
theorem wi_no {j : Nat} (a b : Nat) (hj : j < 1000) (ha : a < 1000) (hb : b < 1000) (h : j < a ∨ b < j) : wi (nI j) (nI a) (nI b) = false := by
  unfold wi
  rcases h with h | h
  · rw [decide_eq_false (nI_ge h (by omega))]; rfl
  · rw [decide_eq_false (p := nI j ≤ nI b) (nI_ge h (by omega))]; simp
theorem tried_in {σ τ : Hp} (h : Rl σ τ) {n : Nat} (hn : n ≤ 120) {s j : Nat} (hs : s < 2) (hj : j < 8) : Ok (J_V_tried_53 (nI n) (nI (10 * (s + 1) + j)) 1 σ) (if thr τ (nI s) (nI j) = true then J_M_tried_67 (nI n) (nI (10 * (s + 1) + j)) τ else some (-1, τ)) := by
  obtain ⟨σ', τ1, τ', p1, p2, p3, p4, p5, p6, p7, -, p9, p10, -⟩ := try_eq h hn
  have hR : Rl σ' τ' := h.eq p4 p5
  have hR2 : Rl σ' τ := h.eq p4 EqM.rf
  have e1 : (nI (10 * (s + 1) + j) / 10 - 1) * 8 + jrem (nI (10 * (s + 1) + j)) 10 = nI (8 * s + j) := by
    rw [nl10, pk_div (by omega) (by omega) (by omega), show (1 : Int32) = nI 1 from rfl, pk_sub (by omega), n8, pk_mul, jrem_nI (by omega) (by omega) (by omega), nI_add]
    exact congrArg nI (by omega)
  have hT : thr τ (nI s) (nI j) = decide (τ 1 (8 * s + j) = 1) := by
    unfold thr
    rw [isCh_of hs hj, Bool.true_and, idxM, nI_clamp (by omega)]
  have hth := (p6.1 (8 * s + j) (by omega)).there
  rw [p10 _ (by omega)] at hth
  unfold J_V_tried_53
  rw [p1, ob, if_neg (show ¬ (1 : Int32) = 0 by decide), e1]
  simp (disch := omega) only [inb_nI, gd_tt, nI_clamp]
  rw [hT, ← hth]
  by_cases q : σ' 18 (8 * s + j) = 3
  · rw [if_pos q, if_neg (by simp [show σ' (13 + 5) (8 * s + j) = 3 from q])]
    exact ⟨_, _, _, rfl, rfl, hR2⟩
  · rw [if_neg q, if_pos (by simp [show ¬ σ' (13 + 5) (8 * s + j) = 3 from q])]
    unfold J_M_tried_67
    rw [p2, ob]
    try dsimp only
    rw [if_neg (nI_ne0 (by omega) (by omega)), if_neg (show ¬ nI (10 * (s + 1) + j) = (1 : Int32) from nI_lit (k := 1) (by omega) (by omega) (by omega)), if_neg (show ¬ nI (10 * (s + 1) + j) = (2 : Int32) from nI_lit (k := 2) (by omega) (by omega) (by omega)), if_neg (show ¬ nI (10 * (s + 1) + j) = (3 : Int32) from nI_lit (k := 3) (by omega) (by omega) (by omega))]
    have e2 : ∀ k : Nat, 8 * s + j = k → J_M_tried_145 (nI k) 32 τ1 = some (τ1 1 (32 + (8 * s + j)), τ') := fun k hk => by
      unfold J_M_tried_145 J_M_tried_147
      rw [← hk, n32, nI_add, gd_true (inbT (by omega) (by omega)), nI_clamp (by omega), p3, ob]
    have e3 := (p6.1 (8 * s + j) (by omega)).2.1
    rcases (show s = 0 ∨ s = 1 by omega) with rfl | rfl
    · rw [if_neg (show ¬ (20 : Int32) ≤ nI (10 * (0 + 1) + j) from nI_ge (b := 20) (by omega) (by omega)), show nI (10 * (0 + 1) + j) - 10 = nI (10 * (0 + 1) + j - 10) from pk_sub (b := 10) (by omega), e2 _ (by omega)]
      exact ⟨_, _, _, rfl, by rw [← e3], hR⟩
    · rw [if_pos (show (20 : Int32) ≤ nI (10 * (1 + 1) + j) from nI_le (a := 20) (by omega) (by omega)), show nI (10 * (1 + 1) + j) - 12 = nI (10 * (1 + 1) + j - 12) from pk_sub (b := 12) (by omega), e2 _ (by omega)]
      exact ⟨_, _, _, rfl, by rw [← e3], hR⟩
theorem sim_tried {σ τ : Hp} (h : Rl σ τ) (a1 a2 : Int32) : ∃ r σ' τ', F_V_tried a1 a2 σ = some (r, σ') ∧ F_M_tried a1 a2 τ = some (r, τ') ∧ Rl σ' τ' := by
  simp only [F_V_tried, F_M_tried, J_V_tried_22, J_V_tried_27, J_M_tried_42, V_within, M_in, M_isThere, ob, b2_ite]
  by_cases h1 : wi a1 1 120 = true
  · obtain ⟨n, hn1, hn, rfl⟩ := wi_n h1
    simp only [h1, if_true]
    by_cases w1 : wi a2 10 17 = true
    · obtain ⟨j, j1, j2, rfl⟩ := wi_from (a := 10) (M := 17) (m := 10) (n := 17) (by decide) (by decide) w1
      have z1 : wi (nI j) 0 3 = false := wi_no 0 3 (by omega) (by omega) (by omega) (by omega)
      have z2 : wi (nI j) 20 27 = false := wi_no 20 27 (by omega) (by omega) (by omega) (by omega)
      have e10 : nI j - 10 = nI (j - 10) := pk_sub (b := 10) j1
      simp only [w1, z1, z2, if_true, if_neg (show ¬ false = true by decide), if_neg (show ¬ (1 : Int32) = 0 by decide), e10]
      have := tried_in h hn (s := 0) (j := j - 10) (by omega) (by omega)
      rw [show 10 * (0 + 1) + (j - 10) = j by omega] at this
      exact this
    · by_cases w2 : wi a2 20 27 = true
      · obtain ⟨j, j1, j2, rfl⟩ := wi_from (a := 20) (M := 27) (m := 20) (n := 27) (by decide) (by decide) w2
        have z1 : wi (nI j) 0 3 = false := wi_no 0 3 (by omega) (by omega) (by omega) (by omega)
        have e20 : nI j - 20 = nI (j - 20) := pk_sub (b := 20) j1
        simp only [w1, w2, z1, if_true, if_false, if_neg (show ¬ false = true by decide), if_neg (show ¬ (1 : Int32) = 0 by decide), e20]
        have := tried_in h hn (s := 1) (j := j - 20) (by omega) (by omega)
        rw [show 10 * (1 + 1) + (j - 20) = j by omega] at this
        exact this
      · simp only [w1, w2, Bool.false_eq_true, if_false, if_pos (show (0 : Int32) = 0 from rfl)]
        by_cases w3 : wi a2 0 3 = true
        · simp only [w3, if_true]
          obtain ⟨σ', τ1, τ', p1, p2, p3, p4, p5, p6, p7, -, p9, p10, -⟩ := try_eq h hn
          have hR : Rl σ' τ' := h.eq p4 p5
          obtain ⟨q1, q2, q3, -⟩ := p7
          obtain ⟨-, -, -, ⟨U4, -⟩⟩ := p6.2
          unfold J_V_tried_53 J_M_tried_67
          rw [p1, p2, ob, ob]
          simp only [J_M_tried_147, p3, ob, if_true, i98, c98, gd_tt]
          obtain ⟨j, j1, rfl⟩ := wi_nat (M := 3) (n := 3) (by decide) w3
          rcases (show j = 0 ∨ j = 1 ∨ j = 2 ∨ j = 3 by omega) with rfl | rfl | rfl | rfl
          · rw [if_pos (by decide), if_pos (by decide)]; exact ⟨_, _, _, rfl, by rw [q1], hR⟩
          · rw [if_neg (by decide), if_pos (by decide), if_neg (by decide), if_pos (by decide)]; exact ⟨_, _, _, rfl, by rw [q2], hR⟩
          · rw [if_neg (by decide), if_neg (by decide), if_pos (by decide), if_neg (by decide), if_neg (by decide), if_pos (by decide)]; exact ⟨_, _, _, rfl, by rw [q3], hR⟩
          · rw [if_neg (by decide), if_neg (by decide), if_neg (by decide), if_neg (by decide), if_neg (by decide), if_neg (by decide), if_pos (by decide)]; exact ⟨_, _, _, rfl, by rw [U4], hR⟩
        · simp only [w3, Bool.false_eq_true, if_false]
          exact ⟨_, _, _, rfl, rfl, h⟩
  · simp only [h1, if_false]
    refine ⟨-1, σ, τ, ?_, rfl, h⟩
    split
    · rfl
    · split
      · rfl
      · rfl
