-- the law's call
theorem lay95 {z : Nat} (hz : z ≤ 240) {u : Hp} (e12 : u 0 12 = nI z) (k121 : Hp → Option (Int32 × Hp)) : ∃ t, L_M_law_95 k121 FU 0 u = k121 t ∧ Ag [13] u t ∧ ∀ x, x < z → t 13 x = u 7 x := by
  refine lone (fun N k t => L_M_law_95 k121 N (nI k) t) (fun k t => Ag [13] u t ∧ ∀ x, x < k → t 13 x = u 7 x) (fun r => ∃ t, r = k121 t ∧ Ag [13] u t ∧ ∀ x, x < z → t 13 x = u 7 x) z ?_ ?_ z 0 FU u (by omega) (by omega) (FU_lt (by omega)) ⟨Ag.rf, fun x hx => absurd hx (by omega)⟩
  · rintro N t ⟨h1, h2⟩
    show ∃ t', B_M_law_95 _ _ (nI z) t = _ ∧ _
    unfold B_M_law_95
    rw [if_pos (show t 0 12 ≤ nI z by rw [h1 0 (by decide), e12]; exact nI_le (Nat.le_refl _) (by omega))]
    exact ⟨t, rfl, h1, h2⟩
  · rintro N k t hk ⟨h1, h2⟩
    right
    refine ⟨zu t 13 k (t 7 k), ?_, h1.zu (by decide), fun x hx => ?_⟩
    · show B_M_law_95 _ _ (nI k) t = _
      unfold B_M_law_95
      rw [if_neg (show ¬ t 0 12 ≤ nI k by rw [h1 0 (by decide), e12]; exact nI_ge hk (by omega))]
      simp (disch := omega) only [inb_nI, gd_tt, nI_clamp, nI_1]
    · rw [zu_self]
      by_cases e : x = k
      · rw [e, upd_s, h1 7 (by decide)]
      · rw [upd_ne _ _ e]; exact h2 x (by omega)
theorem lay123 {i : Nat} (hi : i ≤ 16) {u : Hp} (e14 : u 0 14 = nI i) : ∃ t, L_M_law_123 FU 0 u = some (nI i, t) ∧ Ag [14, 15, 16, 17] u t ∧ ∀ x, x < i → t 14 x = u 9 x ∧ t 15 x = u 10 x ∧ t 16 x = u 11 x ∧ t 17 x = u 12 x := by
  refine lone (fun N k t => L_M_law_123 N (nI k) t) (fun k t => Ag [14, 15, 16, 17] u t ∧ ∀ x, x < k → t 14 x = u 9 x ∧ t 15 x = u 10 x ∧ t 16 x = u 11 x ∧ t 17 x = u 12 x) (fun r => ∃ t, r = some (nI i, t) ∧ Ag [14, 15, 16, 17] u t ∧ ∀ x, x < i → t 14 x = u 9 x ∧ t 15 x = u 10 x ∧ t 16 x = u 11 x ∧ t 17 x = u 12 x) i ?_ ?_ i 0 FU u (by omega) (by omega) (FU_lt (by omega)) ⟨Ag.rf, fun x hx => absurd hx (by omega)⟩
  · rintro N t ⟨h1, h2⟩
    show ∃ t', B_M_law_123 _ (nI i) t = _ ∧ _
    unfold B_M_law_123
    rw [if_pos (show t 0 14 ≤ nI i by rw [h1 0 (by decide), e14]; exact nI_le (Nat.le_refl _) (by omega)), h1 0 (by decide), e14]
    exact ⟨t, rfl, h1, h2⟩
  · rintro N k t hk ⟨h1, h2⟩
    right
    refine ⟨zu (zu (zu (zu t 14 k (t 9 k)) 15 k (t 10 k)) 16 k (t 11 k)) 17 k (t 12 k), ?_, (((h1.zu (by decide)).zu (by decide)).zu (by decide)).zu (by decide), fun x hx => ?_⟩
    · show B_M_law_123 _ (nI k) t = _
      unfold B_M_law_123
      rw [if_neg (show ¬ t 0 14 ≤ nI k by rw [h1 0 (by decide), e14]; exact nI_ge hk (by omega))]
      simp (disch := omega) only [zu_ne, inb_nI, gd_tt, nI_clamp, nI_1]
    · simp (disch := omega) only [zu_ne, zu_self]
      by_cases e : x = k
      · rw [e, upd_s, upd_s, upd_s, upd_s, h1 9 (by decide), h1 10 (by decide), h1 11 (by decide), h1 12 (by decide)]
        exact ⟨rfl, rfl, rfl, rfl⟩
      · rw [upd_ne _ _ e, upd_ne _ _ e, upd_ne _ _ e, upd_ne _ _ e]; exact h2 x (by omega)
/-- all but the law -/
theorem Rl.nolaw {σ τ σ' τ' : Hp} {L : Nat} (hL : L = 42 ∨ L = 51) (h : Rl σ τ) (hs : ∀ k, k ∉ [0, 23, 60, L, L + 1, L + 2, L + 3, L + 4, L + 5, L + 6] → σ' k = σ k) (h23 : σ' 23 1 = 0) (h17 : σ' 0 17 = σ 0 17) (ht : ∀ k, k ∉ [0, 7, 8, 9, 10, 11, 12, 13, 14, 15, 16, 17] → τ' k = τ k) (h61 : τ' 0 61 = τ 0 61) (h6 : τ' 0 6 = 0) (hw : RLaw σ' τ') : Rl σ' τ' := by
  obtain ⟨r1, r2, r3, ⟨r4, r5⟩, r6, -⟩ := h
  have s : ∀ k, k < 42 → k ≠ 0 → k ≠ 23 → σ' k = σ k := fun k h1 h2 h3 => hs k (by simp only [List.mem_cons, List.not_mem_nil, or_false]; omega)
  refine ⟨r1.congr (fun j hj => s _ (by omega) (by omega) (by omega)) (ht 1 (by decide)), r2.congr (s 20 (by omega) (by omega) (by omega)) (s 21 (by omega) (by omega) (by omega)) (ht 5 (by decide)) (ht 4 (by decide)), ⟨⟨0, by omega, h23, h6⟩, fun i hi => ?_⟩, ⟨r4.congr (s _ (by omega) (by omega) (by omega)) (s _ (by omega) (by omega) (by omega)) (ht _ (by decide)) (ht _ (by decide)), r5.congr (s _ (by omega) (by omega) (by omega)) (s _ (by omega) (by omega) (by omega)) (ht _ (by decide)) (ht _ (by decide))⟩, r6.congr h17 (fun j hj => s _ (by omega) (by omega) (by omega)) h61 (ht 3 (by decide)), hw⟩
  rw [s 24 (by omega) (by omega) (by omega), ht 6 (by decide)]
  exact r3.2 i hi
theorem sim_law {σ τ : Hp} (h : Rl σ τ) (a1 : Int32) : ∃ r σ' τ', F_V_law a1 σ = some (r, σ') ∧ F_M_law a1 τ = some (r, τ') ∧ Rl σ' τ' := by
  obtain ⟨⟨m, hm, e1, e2⟩, hb⟩ := id h.2.2.1
  simp only [F_V_law, F_M_law, V_within, M_in, ob, b2_ite]
  by_cases h2 : wi a1 1 240 = true
  rotate_left
  · rw [if_neg h2, if_neg h2]; exact ⟨-1, σ, τ, rfl, rfl, h⟩
  rw [if_pos h2, if_pos h2]
  obtain ⟨n, hn1, hn, rfl⟩ := wi_from (a := 1) (M := 240) (m := 1) (n := 240) (by decide) (by decide) h2
  rw [C_has e1 hm (by omega), ob, e2]
  dsimp only
  rw [b2_ite]
  by_cases c : n ≤ m
  rotate_left
  · rw [if_neg (by simp [c]), if_neg (nI_ge (by omega) (by omega))]; exact ⟨-1, σ, τ, rfl, rfl, h⟩
  rw [if_pos (decide_eq_true c), if_pos (nI_le c (by omega))]
  obtain ⟨L, A, hLA, eL, eA⟩ : ∃ L A : Nat, ((L = 42 ∧ A = 51) ∨ (L = 51 ∧ A = 42)) ∧ σ 0 15 = nI L ∧ σ 0 14 = nI A := by
    rcases h.2.2.2.2.2.1.1 with ⟨x, y⟩ | ⟨x, y⟩
    · exact ⟨51, 42, Or.inr ⟨rfl, rfl⟩, y, x⟩
    · exact ⟨42, 51, Or.inl ⟨rfl, rfl⟩, y, x⟩
  have hL : L = 42 ∨ L = 51 := by omega
  have hA : A = 42 ∨ A = 51 := by omega
  have islL : isL L = true := isL_of hL
  have islA : isL A = true := isL_of hA
  have clL : Int32.toNatClampNeg (nI L) = L := nI_clamp (by omega)
  have clA : Int32.toNatClampNeg (nI A) = A := nI_clamp (by omega)
  have rl1 : RLaw1 A σ τ := by
    have := h.2.2.2.2.2.2
    rw [eA, clA] at this
    exact this
  unfold F_X5_readInto F_X4_begin F_X8_begin F_M_beginsText
  simp (disch := omega) only [eL, clL, islL, gd_tt, zu_self, upd_s, ob]
  obtain ⟨σ1, hσ1⟩ : ∃ σ1, σ1 = zu σ 60 1 (nI L) := ⟨_, rfl⟩
  rw [← hσ1]
  obtain ⟨σ3, hσ3⟩ : ∃ σ3, σ3 = zu (zu (zu (zu (zu σ1 L 8 0) L 9 0) 23 2 (nI n)) 23 3 0) 23 4 0 := ⟨_, rfl⟩
  obtain ⟨τ1, hτ1⟩ : ∃ τ1, τ1 = zu (zu (zu (zu τ 0 7 0) 0 8 (nI n)) 0 12 0) 0 14 0 := ⟨_, rfl⟩
  rw [← hσ3, ← hτ1]
  have s1k : ∀ k, k ≠ 60 → σ1 k = σ k := fun k hk => by rw [hσ1, zu_ne _ _ _ hk]
  have hLv : Lv L n (σ 24) σ1 τ 0 0 0 σ3 τ1 := by
    refine ⟨⟨?_, ?_⟩, ⟨hL, ?_, ⟨hn, ?_, fun i hi => ?_⟩, ?_, ?_, ?_⟩, ⟨⟨hn, ?_, fun i hi => ?_⟩, ?_, ?_, ?_⟩, ⟨by omega, by omega, by omega⟩, fun j hj => absurd hj (by omega)⟩
    · rw [hσ3]; exact ((((Ag.rf.zu (by simp)).zu (by simp)).zu (by simp)).zu (by simp)).zu (by simp)
    · have g0 : GM τ τ := ⟨fun _ _ => rfl, fun _ _ => rfl⟩
      rw [hτ1]; exact (((g0.z0 (by decide)).z0 (by decide)).z0 (by decide)).z0 (by decide)
    · rw [hσ3]; simp (disch := omega) only [zu_ne]; rw [hσ1, zu_self, upd_s]
    · rw [hσ3]; simp (disch := omega) only [zu_ne, zu_self, upd_ne, upd_s]
    · rw [hσ3]; simp (disch := omega) only [zu_ne]; rw [s1k 24 (by decide)]
    · rw [hσ3]; simp (disch := omega) only [zu_ne, zu_self, upd_ne, upd_s]; rfl
    · rw [hσ3]; simp (disch := omega) only [zu_ne, zu_self, upd_s]; rfl
    · rw [hσ3]; simp (disch := omega) only [zu_ne, zu_self, upd_ne, upd_s]; rfl
    · rw [hτ1]; simp (disch := omega) only [zu_self, upd_ne, upd_s]
    · rw [hτ1]; simp (disch := omega) only [zu_ne]; exact (hb i (by omega)).1.symm
    · rw [hτ1]; simp (disch := omega) only [zu_self, upd_ne, upd_s]; rfl
    · rw [hτ1]; simp (disch := omega) only [zu_self, upd_ne, upd_s]; rfl
    · rw [hτ1]; simp (disch := omega) only [zu_self, upd_s]; rfl
  have hbb : ∀ i, i < n → ∃ r : Nat, r < 256 ∧ σ 24 i = nI r := fun i hi => (hb i (by omega)).2
  have hFU : FU = 1000000 := rfl
  have key := law_loop2 hn hbb n 0 0 0 σ3 τ1 FU FU (fun q27 => L_M_law_31 J_M_law_71 FU q27.1 q27.2) (by omega) (by omega) (by omega) hLv (fun _ _ _ => rfl)
  have gcK : ∀ {s'}, GC L σ1 s' → ∀ k, k ∉ [23, L, L + 1, L + 2, L + 3, L + 4, L + 5, L + 6] → k ≠ 60 → s' k = σ k := fun {s'} g k h1 h2 => (g k h1).trans (s1k k h2)
  rcases key with ⟨f, s', t', k1, k2, k3, k4, k5, k6⟩ | ⟨p, z, i, s', t', k1, k2, V⟩
  · rw [show L_X5_readInto_22 J_X5_readInto_126 J_X5_readInto_80 J_X5_readInto_65 FU 0 σ3 = _ from k1, k2, ob]
    dsimp only
    unfold F_X8_clear J_M_law_71
    rw [ob, if_pos rfl, if_pos rfl, zu_self, zu_self, upd_ne _ _ (by decide), upd_ne _ _ (by decide), k4, k6]
    have s60 : s' 60 1 = nI L := by rw [k3 60 (by simp only [List.mem_cons, List.not_mem_nil, or_false]; omega), hσ1, zu_self, upd_s]
    have sk := gcK k3
    refine ⟨f, _, _, rfl, rfl, Rl.nolaw hL h (fun k hk => ?_) (by rw [zu_self, upd_s]) ?_ (fun k hk => ?_) ?_ (by rw [zu_self, upd_s]) ⟨⟨?_, ?_⟩, ?_⟩⟩
    · have : k ≠ 23 ∧ k ≠ 60 := by revert hk; simp only [List.mem_cons, List.not_mem_nil, or_false]; omega
      rw [zu_ne _ _ _ this.1, sk k (fun z => hk (by revert z; simp only [List.mem_cons, List.not_mem_nil, or_false]; omega)) this.2]
    · rw [zu_ne _ _ _ (by decide), sk 0 (by simp only [List.mem_cons, List.not_mem_nil, or_false]; omega) (by decide)]
    · have k0 : k ≠ 0 := by revert hk; simp only [List.mem_cons, List.not_mem_nil, or_false]; omega
      rw [zu_ne _ _ _ k0, k5.1 k (fun z => hk (by revert z; simp only [List.mem_cons, List.not_mem_nil, or_false]; omega))]
    · rw [zu_self, upd_ne _ _ (by decide), k5.2 61 (by decide)]
    · rw [zu_ne _ _ _ (by decide), sk 0 (by simp only [List.mem_cons, List.not_mem_nil, or_false]; omega) (by decide)]
      exact h.2.2.2.2.2.1.1
    · rw [zu_ne _ _ _ (by decide), s60]
      rcases hL with rfl | rfl
      · exact Or.inl rfl
      · exact Or.inr rfl
    · rw [zu_ne _ _ _ (by decide), sk 0 (by simp only [List.mem_cons, List.not_mem_nil, or_false]; omega) (by decide), eA, clA]
      refine rl1.congr ?_ (fun j h1 h2 => ?_) ?_ (fun j h1 h2 => ?_)
      · rw [zu_ne _ _ _ (by omega), sk A (by simp only [List.mem_cons, List.not_mem_nil, or_false]; omega) (by omega)]
      · rw [zu_ne _ _ _ (by omega), sk (A + j) (by simp only [List.mem_cons, List.not_mem_nil, or_false]; omega) (by omega)]
      · rw [zu_self, upd_ne _ _ (by decide), k5.2 15 (by decide)]
      · rw [zu_ne _ _ _ (by omega), k5.1 j (by simp only [List.mem_cons, List.not_mem_nil, or_false]; omega)]
  · obtain ⟨⟨gC, gM⟩, ⟨-, e60, tC, e23, e9, e8⟩, ⟨tM, e7, e12, e14⟩, ⟨hz, hpn, hi16⟩, hru⟩ := id V
    rw [show L_X5_readInto_22 J_X5_readInto_126 J_X5_readInto_80 J_X5_readInto_65 FU 0 σ3 = _ from k1, k2, ob]
    dsimp only
    have sk := gcK gC
    have s0 : s' 0 = σ 0 := sk 0 (by simp only [List.mem_cons, List.not_mem_nil, or_false]; omega) (by decide)
    unfold F_X8_clear J_M_law_71
    rw [ob, if_neg (show ¬ (1 : Int32) = 0 by decide), if_neg (show ¬ (1 : Int32) = 0 by decide)]
    simp (disch := omega) only [zu_ne, zu_self, upd_ne, upd_s, s0, eL, eA, clL, clA, islL, islA, gd_tt, e8, e14]
    obtain ⟨u, hu⟩ : ∃ u, u = zu (zu t' 0 6 0) 0 15 (nI i) := ⟨_, rfl⟩
    rw [← hu]
    have uk : ∀ k, k ≠ 0 → u k = t' k := fun k hk => by rw [hu]; simp (disch := omega) only [zu_ne]
    have u0 : ∀ j, j ≠ 6 → j ≠ 15 → u 0 j = t' 0 j := fun j h1 h2 => by rw [hu]; simp (disch := omega) only [zu_self, upd_ne]
    obtain ⟨t2, l1, l2, l3⟩ := lay95 (z := z) (u := u) (by omega) (by rw [u0 12 (by decide) (by decide)]; exact e12) J_M_law_121
    rw [l1]
    unfold J_M_law_121
    obtain ⟨t3, q1, q2, q3⟩ := lay123 (i := i) (u := t2) hi16 (by rw [l2 0 (by decide), u0 14 (by decide) (by decide)]; exact e14)
    rw [q1]
    have t30 : t3 0 = u 0 := by rw [q2 0 (by decide), l2 0 (by decide)]
    have t3k : ∀ k, k ∉ [0, 13, 14, 15, 16, 17] → t3 k = t' k := fun k hk => by
      have : k ≠ 0 ∧ k ≠ 13 ∧ k ∉ [14, 15, 16, 17] := by revert hk; simp only [List.mem_cons, List.not_mem_nil, or_false]; omega
      rw [q2 k this.2.2, l2 k (by simp; omega), uk k this.1]
    have t313 : ∀ x, x < z → t3 13 x = t' 7 x := fun x hx => by rw [q2 13 (by decide), l3 x hx, uk 7 (by decide)]
    have tcl : ∀ x, x < i → t3 14 x = t' 9 x ∧ t3 15 x = t' 10 x ∧ t3 16 x = t' 11 x ∧ t3 17 x = t' 12 x := fun x hx => by
      have := q3 x hx
      rw [l2 9 (by decide), l2 10 (by decide), l2 11 (by decide), l2 12 (by decide), uk 9 (by decide), uk 10 (by decide), uk 11 (by decide), uk 12 (by decide)] at this
      exact this
    refine ⟨nI i, _, t3, rfl, rfl, Rl.nolaw hL h (fun k hk => ?_) ?_ ?_ (fun k hk => ?_) ?_ ?_ ⟨⟨?_, ?_⟩, ?_⟩⟩
    · have : k ≠ 23 ∧ k ≠ 60 ∧ k ≠ 0 := by revert hk; simp only [List.mem_cons, List.not_mem_nil, or_false]; omega
      rw [zu_ne _ _ _ this.2.2, zu_ne _ _ _ this.2.2, zu_ne _ _ _ this.1, sk k (fun z => hk (by revert z; simp only [List.mem_cons, List.not_mem_nil, or_false]; omega)) this.2.1]
    · simp (disch := omega) only [zu_ne, zu_self, upd_s]
    · simp (disch := omega) only [zu_ne, zu_self, upd_ne, s0]
    · have k0 : k ∉ [0, 7, 8, 9, 10, 11, 12] ∧ k ∉ [0, 13, 14, 15, 16, 17] := by revert hk; simp only [List.mem_cons, List.not_mem_nil, or_false]; omega
      rw [t3k k k0.2, gM.1 k k0.1]
    · rw [t30, u0 61 (by decide) (by decide), gM.2 61 (by decide)]
    · rw [t30, hu, zu_self, upd_ne _ _ (by decide), zu_self, upd_s]
    · simp (disch := omega) only [zu_ne, zu_self, upd_ne, upd_s]
      rcases hLA with ⟨rfl, rfl⟩ | ⟨rfl, rfl⟩
      · exact Or.inl ⟨rfl, rfl⟩
      · exact Or.inr ⟨rfl, rfl⟩
    · simp (disch := omega) only [zu_ne]
      rw [e60]
      rcases hL with rfl | rfl
      · exact Or.inl rfl
      · exact Or.inr rfl
    · simp (disch := omega) only [zu_self, upd_ne, upd_s]
      rw [clL]
      refine ⟨i, hi16, ?_, ?_, fun j hj => ?_⟩
      · simp (disch := omega) only [zu_ne]; exact e8
      · rw [t30, hu, zu_self, upd_s]
      · obtain ⟨a1, a2, a, hh, e, b1, b2', b3, b4, b5, b6, b7, b8, b9, c1, c2, c3⟩ := hru j hj
        obtain ⟨d1, d2, d3, d4⟩ := tcl j hj
        simp (disch := omega) only [zu_ne]
        refine ⟨a1.trans d1.symm, a2, a, hh, e, b1, b2', by omega, b4, d2.trans b5, b6, d3.trans b7, b8, d4.trans b9, fun k x1 x2 => ?_, c2, c3⟩
        rw [t313 k (by omega)]
        exact c1 k x1 x2
