-- floor, column, seed, chair, keep, undo
theorem RG.congr {o k : Nat} {σ σ' τ τ' : Hp} {g : Nat} (h : RG o k σ τ g) (h1 : σ' (o + 1) g = σ (o + 1) g) (h2 : σ' (o + 2) g = σ (o + 2) g) (h3 : σ' (o + 3) g = σ (o + 3) g) (h4 : σ' (o + 4) g = σ (o + 4) g) (h5 : σ' (o + 5) g = σ (o + 5) g) (ht : ∀ j, τ' k j = τ k j) : RG o k σ' τ' g := by
  unfold RG at *
  rw [h1, h2, h3, h4, h5, ht, ht, ht, ht, ht, ht]
  exact h
theorem RT.congr {o k : Nat} {σ σ' τ τ' : Hp} (h : RT o k σ τ) (h1 : σ' o = σ o) (ht : τ' k = τ k) : RT o k σ' τ' := by
  unfold RT at *
  rw [h1, ht]
  exact h
theorem RWar.congr {o k : Nat} {σ σ' τ τ' : Hp} (h : RWar o k σ τ) (hs : ∀ j, j ≤ 5 → σ' (o + j) = σ (o + j)) (ht : τ' k = τ k) : RWar o k σ' τ' := by
  refine ⟨fun g hg => (h.1 g hg).congr ?_ ?_ ?_ ?_ ?_ (fun j => by rw [ht]), h.2.congr (hs 0 (by omega)) ht⟩
  · rw [hs 1 (by omega)]
  · rw [hs 2 (by omega)]
  · rw [hs 3 (by omega)]
  · rw [hs 4 (by omega)]
  · rw [hs 5 (by omega)]
theorem RVal.congr {σ σ' τ τ' : Hp} (h : RVal σ τ) (h1 : σ' 20 = σ 20) (h2 : σ' 21 = σ 21) (h3 : τ' 5 = τ 5) (h4 : τ' 4 = τ 4) : RVal σ' τ' := by
  unfold RVal at *
  rw [h1, h2, h3, h4]
  exact h
theorem RTape.congr {σ σ' τ τ' : Hp} (h : RTape σ τ) (h1 : σ' 23 1 = σ 23 1) (h2 : σ' 24 = σ 24) (h3 : τ' 0 6 = τ 0 6) (h4 : τ' 6 = τ 6) : RTape σ' τ' := by
  unfold RTape at *
  rw [h1, h2, h3, h4]
  exact h
theorem RSig1.congr {c s : Nat} {σ σ' τ τ' : Hp} (h : RSig1 c s σ τ) (h1 : σ' c = σ c) (h2 : σ' (c + 1) = σ (c + 1)) (h3 : τ' 21 = τ 21) (h4 : τ' 20 = τ 20) : RSig1 c s σ' τ' := by
  unfold RSig1 at *
  rw [h1, h2, h3, h4]
  exact h
theorem RKept.congr {σ σ' τ τ' : Hp} (h : RKept σ τ) (h0 : σ' 0 17 = σ 0 17) (hs : ∀ j, j ≤ 5 → σ' (7 + j) = σ (7 + j)) (ht0 : τ' 0 61 = τ 0 61) (ht : τ' 3 = τ 3) : RKept σ' τ' := by
  rcases h with ⟨a, b⟩ | ⟨a, b, c⟩
  · exact Or.inl ⟨h0.trans a, ht0.trans b⟩
  · exact Or.inr ⟨h0.trans a, ht0.trans b, c.congr hs ht⟩
theorem RLaw1.congr {L : Nat} {σ σ' τ τ' : Hp} (h : RLaw1 L σ τ) (h8 : σ' L 8 = σ L 8) (hs : ∀ j, 1 ≤ j → j ≤ 6 → σ' (L + j) = σ (L + j)) (h15 : τ' 0 15 = τ 0 15) (ht : ∀ j, 13 ≤ j → j ≤ 17 → τ' j = τ j) : RLaw1 L σ' τ' := by
  unfold RLaw1 at *
  rw [h8, h15, hs 1 (by omega) (by omega), hs 2 (by omega) (by omega), hs 3 (by omega) (by omega), hs 4 (by omega) (by omega), hs 5 (by omega) (by omega), hs 6 (by omega) (by omega), ht 13 (by omega) (by omega), ht 14 (by omega) (by omega), ht 15 (by omega) (by omega), ht 16 (by omega) (by omega), ht 17 (by omega) (by omega)]
  exact h
theorem RLaw.cases {σ τ : Hp} (h : RLaw σ τ) : ∃ L : Nat, (L = 42 ∨ L = 51) ∧ (σ 0 14).toNatClampNeg = L ∧ RLaw1 L σ τ := by
  obtain ⟨⟨h1, -⟩, h2⟩ := h
  refine ⟨_, ?_, rfl, h2⟩
  rcases h1 with ⟨h1, -⟩ | ⟨h1, -⟩
  · rw [h1]; exact Or.inl rfl
  · rw [h1]; exact Or.inr rfl
/-- what of the class's heap lasts from call to call is the same, but for the cells of S -/
def EqC (S : List Nat) (σ σ' : Hp) : Prop := (∀ k, k ∉ S → k ∈ [1, 2, 3, 4, 5, 6, 7, 8, 9, 10, 11, 12, 20, 21, 24, 28, 29, 30, 31, 43, 44, 45, 46, 47, 48, 52, 53, 54, 55, 56, 57] → σ' k = σ k) ∧ (23 ∉ S → σ' 23 1 = σ 23 1) ∧ (0 ∉ S → σ' 0 = σ 0) ∧ σ' 60 1 = σ 60 1 ∧ σ' 42 8 = σ 42 8 ∧ σ' 51 8 = σ 51 8
def EqM (S : List Nat) (τ τ' : Hp) : Prop := (∀ k, k ∉ S → k ∈ [1, 3, 4, 5, 6, 13, 14, 15, 16, 17, 20, 21] → τ' k = τ k) ∧ (0 ∉ S → τ' 0 6 = τ 0 6 ∧ τ' 0 61 = τ 0 61) ∧ τ' 0 15 = τ 0 15
theorem RLaw.eq {σ σ' τ τ' : Hp} {S T : List Nat} (h : RLaw σ τ) (hc : EqC S σ σ') (hm : EqM T τ τ') (h0 : σ' 0 14 = σ 0 14 ∧ σ' 0 15 = σ 0 15) (hS : ∀ k, k ∈ [43, 44, 45, 46, 47, 48, 52, 53, 54, 55, 56, 57] → k ∉ S) (hT : ∀ k, k ∈ [13, 14, 15, 16, 17] → k ∉ T) : RLaw σ' τ' := by
  obtain ⟨L, hL, he, h1⟩ := h.cases
  obtain ⟨c1, c2, c3, c4, c5, c6⟩ := hc
  obtain ⟨m1, m2, m3⟩ := hm
  refine ⟨⟨?_, ?_⟩, ?_⟩
  · rw [h0.1, h0.2]; exact h.1.1
  · rw [c4]; exact h.1.2
  · rw [h0.1, he]
    have ht : ∀ j, 13 ≤ j → j ≤ 17 → τ' j = τ j := fun j a b => m1 j (hT j (by simp; omega)) (by simp; omega)
    rcases hL with rfl | rfl
    · refine h1.congr c5 (fun j a b => ?_) m3 ht
      rcases (show j = 1 ∨ j = 2 ∨ j = 3 ∨ j = 4 ∨ j = 5 ∨ j = 6 by omega) with rfl | rfl | rfl | rfl | rfl | rfl <;> exact c1 _ (hS _ (by decide)) (by decide)
    · refine h1.congr c6 (fun j a b => ?_) m3 ht
      rcases (show j = 1 ∨ j = 2 ∨ j = 3 ∨ j = 4 ∨ j = 5 ∨ j = 6 by omega) with rfl | rfl | rfl | rfl | rfl | rfl <;> exact c1 _ (hS _ (by decide)) (by decide)
theorem RWar.eq {o k : Nat} {σ σ' τ τ' : Hp} {S T : List Nat} (h : RWar o k σ τ) (ho : o = 1 ∨ o = 7) (hk : k = 1 ∨ k = 3) (hc : EqC S σ σ') (hm : EqM T τ τ') (hS : ∀ j, j ≤ 5 → (o + j) ∉ S) (hT : k ∉ T) : RWar o k σ' τ' := by
  refine h.congr (fun j hj => hc.1 _ (hS j hj) ?_) (hm.1 _ hT ?_)
  · rcases ho with rfl | rfl <;> (simp; omega)
  · rcases hk with rfl | rfl <;> decide
/-- nothing that lasts has changed -/
theorem Rl.eq {σ σ' τ τ' : Hp} (h : Rl σ τ) (hc : EqC [] σ σ') (hm : EqM [] τ τ') : Rl σ' τ' := by
  obtain ⟨r1, r2, r3, ⟨r4, r5⟩, r6, r7⟩ := h
  have e0 := hc.2.2.1 (by simp)
  refine ⟨r1.eq (Or.inl rfl) (Or.inl rfl) hc hm (by simp) (by simp), r2.congr (hc.1 _ (by simp) (by decide)) (hc.1 _ (by simp) (by decide)) (hm.1 _ (by simp) (by decide)) (hm.1 _ (by simp) (by decide)), r3.congr (hc.2.1 (by simp)) (hc.1 _ (by simp) (by decide)) (hm.2.1 (by simp)).1 (hm.1 _ (by simp) (by decide)), ⟨r4.congr (hc.1 _ (by simp) (by decide)) (hc.1 _ (by simp) (by decide)) (hm.1 _ (by simp) (by decide)) (hm.1 _ (by simp) (by decide)), r5.congr (hc.1 _ (by simp) (by decide)) (hc.1 _ (by simp) (by decide)) (hm.1 _ (by simp) (by decide)) (hm.1 _ (by simp) (by decide))⟩, r6.congr (by rw [e0]) (fun j hj => hc.1 _ (by simp) (by simp; omega)) (hm.2.1 (by simp)).2 (hm.1 _ (by simp) (by decide)), r7.eq hc hm ⟨by rw [e0], by rw [e0]⟩ (by simp) (by simp)⟩
/-- cells that no call needs of another one -/
def scC : List Nat := [13, 14, 15, 16, 17, 18, 19, 22, 25, 26, 27, 32, 33, 34, 35, 36, 37, 38, 39, 40, 41, 49, 50, 58, 59]
def scM : List Nat := [2, 7, 8, 9, 10, 11, 12, 18, 19, 22, 23, 24, 25, 26, 27, 28, 29, 30, 31, 32, 33, 34, 35, 36, 37]
theorem scC_ok : ∀ k ∈ [1, 2, 3, 4, 5, 6, 7, 8, 9, 10, 11, 12, 20, 21, 24, 28, 29, 30, 31, 43, 44, 45, 46, 47, 48, 52, 53, 54, 55, 56, 57], k ∉ scC := by decide
theorem scM_ok : ∀ k ∈ [1, 3, 4, 5, 6, 13, 14, 15, 16, 17, 20, 21], k ∉ scM := by decide
theorem EqC.of {σ σ' : Hp} (h : Ag scC σ σ') : EqC [] σ σ' :=
  ⟨fun k _ hk => h k (scC_ok k hk), fun _ => by rw [h 23 (by decide)], fun _ => h 0 (by decide), by rw [h 60 (by decide)], by rw [h 42 (by decide)], by rw [h 51 (by decide)]⟩
theorem EqM.of {τ τ' : Hp} (h : Ag scM τ τ') : EqM [] τ τ' :=
  ⟨fun k _ hk => h k (scM_ok k hk), fun _ => ⟨by rw [h 0 (by decide)], by rw [h 0 (by decide)]⟩, by rw [h 0 (by decide)]⟩
theorem EqC.rf {S : List Nat} {σ : Hp} : EqC S σ σ := ⟨fun _ _ _ => rfl, fun _ => rfl, fun _ => rfl, rfl, rfl, rfl⟩
theorem EqM.rf {S : List Nat} {τ : Hp} : EqM S τ τ := ⟨fun _ _ _ => rfl, fun _ => ⟨rfl, rfl⟩, rfl⟩
theorem sim_floor {σ τ : Hp} (h : Rl σ τ) (a1 a2 : Int32) : ∃ r σ' τ', F_V_floor a1 a2 σ = some (r, σ') ∧ F_M_floor a1 a2 τ = some (r, τ') ∧ Rl σ' τ' := by
  simp only [F_V_floor, F_M_floor, V_isSide, V_within, M_in, Option.bind_some, b2_ite]
  by_cases h1 : wi a1 0 1 = true
  · by_cases h2 : wi a2 0 99 = true
    · obtain ⟨i, hi, rfl⟩ := wi_nat (M := 1) (n := 1) (by decide) h1
      obtain ⟨j, hj, rfl⟩ := wi_nat (M := 99) (n := 99) (by decide) h2
      simp only [h1, h2, if_true, inbT (show i < 2 by omega) (by omega), gd_t, nI_clamp (show i < 2 ^ 31 by omega)]
      refine ⟨1, _, _, rfl, rfl, ?_⟩
      obtain ⟨r1, r2, r3, ⟨r4, r5⟩, r6, r7⟩ := h
      refine ⟨r1.congr (fun j hj => ?_) rfl, ⟨fun i hi => r2.1 i hi, fun k hk => ?_⟩, r3.congr rfl rfl rfl rfl, ⟨r4.congr rfl rfl rfl rfl, r5.congr rfl rfl rfl rfl⟩, r6.congr rfl (fun j hj => ?_) rfl rfl, r7.eq (S := [21]) (T := [4]) ?_ ?_ ⟨rfl, rfl⟩ (by decide) (by decide)⟩
      · rw [zu_ap, if_neg (by omega)]
      · simp only [zu_ap, if_true, upd_ap]
        by_cases hki : k = i
        · simp [hki]; exact ⟨j, by omega, rfl⟩
        · simp [hki]; exact r2.2 k hk
      · rw [zu_ap, if_neg (by omega)]
      · exact ⟨fun k hk _ => by rw [zu_ap, if_neg (by simpa using hk)], fun _ => rfl, fun _ => rfl, rfl, rfl, rfl⟩
      · exact ⟨fun k hk _ => by rw [zu_ap, if_neg (by simpa using hk)], fun _ => ⟨rfl, rfl⟩, rfl⟩
    · simp only [h1, h2, if_true, if_false]
      exact ⟨0, _, _, rfl, rfl, h⟩
  · simp only [h1, if_false]
    exact ⟨0, _, _, rfl, rfl, h⟩
theorem sim_column {σ τ : Hp} (h : Rl σ τ) (a1 a2 : Int32) : ∃ r σ' τ', F_V_column a1 a2 σ = some (r, σ') ∧ F_M_column a1 a2 τ = some (r, τ') ∧ Rl σ' τ' := by
  simp only [F_V_column, F_M_column, V_within, M_in, Option.bind_some, b2_ite]
  by_cases h1 : wi a1 0 23 = true
  · by_cases h2 : wi a2 0 199 = true
    · obtain ⟨i, hi, rfl⟩ := wi_nat (M := 23) (n := 23) (by decide) h1
      obtain ⟨j, hj, rfl⟩ := wi_nat (M := 199) (n := 199) (by decide) h2
      simp only [h1, h2, if_true, inbT (show i < 24 by omega) (by omega), gd_t, nI_clamp (show i < 2 ^ 31 by omega)]
      refine ⟨1, _, _, rfl, rfl, ?_⟩
      obtain ⟨r1, r2, r3, ⟨r4, r5⟩, r6, r7⟩ := h
      refine ⟨r1.congr (fun j hj => ?_) rfl, ⟨fun k hk => ?_, fun i hi => r2.2 i hi⟩, r3.congr rfl rfl rfl rfl, ⟨r4.congr rfl rfl rfl rfl, r5.congr rfl rfl rfl rfl⟩, r6.congr rfl (fun j hj => ?_) rfl rfl, r7.eq (S := [20]) (T := [5]) ?_ ?_ ⟨rfl, rfl⟩ (by decide) (by decide)⟩
      · rw [zu_ap, if_neg (by omega)]
      · simp only [zu_ap, if_true, upd_ap]
        by_cases hki : k = i
        · simp [hki]; exact ⟨j, by omega, rfl⟩
        · simp [hki]; exact r2.1 k hk
      · rw [zu_ap, if_neg (by omega)]
      · exact ⟨fun k hk _ => by rw [zu_ap, if_neg (by simpa using hk)], fun _ => rfl, fun _ => rfl, rfl, rfl, rfl⟩
      · exact ⟨fun k hk _ => by rw [zu_ap, if_neg (by simpa using hk)], fun _ => ⟨rfl, rfl⟩, rfl⟩
    · simp only [h1, h2, if_true, if_false]
      exact ⟨0, _, _, rfl, rfl, h⟩
  · simp only [h1, if_false]
    exact ⟨0, _, _, rfl, rfl, h⟩
theorem sim_seed {σ τ : Hp} (h : Rl σ τ) (a1 : Int32) : ∃ r σ' τ', F_V_seed a1 σ = some (r, σ') ∧ F_M_seed a1 τ = some (r, τ') ∧ Rl σ' τ' := by
  simp only [F_V_seed, F_M_seed, V_within, M_in, Option.bind_some, b2_ite, i99, gd_t, c99]
  by_cases h1 : wi a1 0 65535 = true
  · obtain ⟨i, hi, rfl⟩ := wi_nat (M := 65535) (n := 65535) (by decide) h1
    simp only [h1, if_true]
    refine ⟨1, _, _, rfl, rfl, ?_⟩
    obtain ⟨r1, r2, r3, ⟨r4, r5⟩, r6, r7⟩ := h
    refine ⟨⟨fun g hg => ?_, ?_⟩, r2.congr rfl rfl rfl rfl, r3.congr rfl rfl rfl rfl, ⟨r4.congr rfl rfl rfl rfl, r5.congr rfl rfl rfl rfl⟩, r6.congr rfl (fun j hj => ?_) rfl rfl, r7.eq (S := [1]) (T := [1]) ?_ ?_ ⟨rfl, rfl⟩ (by decide) (by decide)⟩
    · have := r1.1 g hg
      unfold RG at *
      simp only [zu_ap, upd_ap, show ¬ (1 + 1 = 1) by decide, show ¬ (1 + 2 = 1) by decide, show ¬ (1 + 3 = 1) by decide, show ¬ (1 + 4 = 1) by decide, show ¬ (1 + 5 = 1) by decide, if_false, if_true, show ¬ (16 + g = 99) by omega, show ¬ (32 + g = 99) by omega, show ¬ (48 + g = 99) by omega, show ¬ (64 + g = 99) by omega, show ¬ (80 + g = 99) by omega, show ¬ (g = 99) by omega]
      exact this
    · obtain ⟨t1, t2, t3, t4⟩ := r1.2
      exact ⟨t1, t2, ⟨rfl, i, hi, rfl⟩, t4⟩
    · rw [zu_ap, if_neg (by omega)]
    · exact ⟨fun k hk _ => by rw [zu_ap, if_neg (by simpa using hk)], fun _ => rfl, fun _ => rfl, rfl, rfl, rfl⟩
    · exact ⟨fun k hk _ => by rw [zu_ap, if_neg (by simpa using hk)], fun _ => ⟨rfl, rfl⟩, rfl⟩
  · simp only [h1, if_false]
    exact ⟨0, _, _, rfl, rfl, h⟩
theorem seat_eq {t g : Nat} (hg : g < 16) (a b c : Int32) (σ : Hp) : F_X10_seat t (nI g) a b c σ = some (zu (zu (zu (zu (zu σ (t + 1) g a) (t + 2) g 0) (t + 3) g b) (t + 4) g c) (t + 5) g 0) := by
  simp only [F_X10_seat, inbT hg (by omega), gd_t, nI_clamp (show g < 2 ^ 31 by omega)]
theorem sim_chair {σ τ : Hp} (h : Rl σ τ) (a1 a2 a3 a4 a5 : Int32) : ∃ r σ' τ', F_V_chair a1 a2 a3 a4 a5 σ = some (r, σ') ∧ F_M_chair a1 a2 a3 a4 a5 τ = some (r, τ') ∧ Rl σ' τ' := by
  simp only [F_V_chair, F_M_chair, V_isChair, M_isChair, V_within, M_in, Option.bind_some, b2_ite]
  by_cases h1 : isCh a1 a2 = true
  · by_cases h3 : wi a3 0 9 = true
    · by_cases h4 : wi a4 0 99 = true
      · by_cases h5 : wi a5 0 9 = true
        · obtain ⟨i, j, hi, hj, rfl, rfl⟩ := isCh_nat h1
          obtain ⟨x, hx, rfl⟩ := wi_nat (M := 9) (n := 9) (by decide) h3
          obtain ⟨y, hy, rfl⟩ := wi_nat (M := 99) (n := 99) (by decide) h4
          obtain ⟨z, hz, rfl⟩ := wi_nat (M := 9) (n := 9) (by decide) h5
          obtain ⟨g, hgd⟩ : ∃ g, g = 8 * i + j := ⟨_, rfl⟩
          have hg : g < 16 := by omega
          simp only [h1, h3, h4, h5, if_true]
          rw [idxC, idxM, ← hgd]
          simp only [idx0, idx16, idx32, idx48, idx64, idx80, seat_eq hg, Option.bind_some, inbT (show g < 100 by omega) (by omega), inbT (show 16 + g < 100 by omega) (by omega), inbT (show 32 + g < 100 by omega) (by omega), inbT (show 48 + g < 100 by omega) (by omega), inbT (show 64 + g < 100 by omega) (by omega), inbT (show 80 + g < 100 by omega) (by omega), i98, gd_t, c98, nI_clamp (show g < 2 ^ 31 by omega), nI_clamp (show 16 + g < 2 ^ 31 by omega), nI_clamp (show 32 + g < 2 ^ 31 by omega), nI_clamp (show 48 + g < 2 ^ 31 by omega), nI_clamp (show 64 + g < 2 ^ 31 by omega), nI_clamp (show 80 + g < 2 ^ 31 by omega)]
          refine ⟨1, _, _, rfl, rfl, ?_⟩
          obtain ⟨r1, r2, r3, ⟨r4, r5⟩, r6, r7⟩ := h
          refine ⟨⟨fun k hk => ?_, ?_⟩, r2.congr rfl rfl rfl rfl, r3.congr rfl rfl rfl rfl, ⟨r4.congr rfl rfl rfl rfl, r5.congr rfl rfl rfl rfl⟩, r6.congr rfl (fun j hj => ?_) rfl rfl, r7.eq (S := [1, 2, 3, 4, 5, 6]) (T := [1]) ?_ ?_ ⟨rfl, rfl⟩ (by decide) (by decide)⟩
          · by_cases hkg : k = g
            · subst hkg
              unfold RG
              simp only [zu_ap, upd_ap, Nat.reduceAdd, Nat.reduceEqDiff, if_true, if_false]
              simp (disch := omega) only [if_neg, if_pos]
              exact ⟨trivial, trivial, trivial, trivial, Or.inl ⟨trivial, trivial, Or.inl trivial⟩, ⟨x, hx, rfl⟩, ⟨0, by omega, rfl⟩, ⟨y, hy, rfl⟩, ⟨z, hz, rfl⟩⟩
            · have := r1.1 k hk
              unfold RG at *
              simp only [zu_ap, upd_ap, Nat.reduceAdd, Nat.reduceEqDiff, if_true, if_false, hkg]
              simp (disch := omega) only [if_neg, if_pos]
              exact this
          · obtain ⟨t1, t2, t3, t4⟩ := r1.2
            unfold RT
            simp only [zu_ap, upd_ap, Nat.reduceAdd, Nat.reduceEqDiff, if_true, if_false]
            simp (disch := omega) only [if_neg, if_pos]
            exact ⟨t1, t2, t3, trivial, 0, by omega, rfl⟩
          · simp only [zu_ap]
            simp (disch := omega) only [if_neg]
          · exact ⟨fun k hk _ => by simp at hk; simp only [zu_ap]; simp (disch := omega) only [if_neg], fun _ => rfl, fun _ => rfl, rfl, rfl, rfl⟩
          · exact ⟨fun k hk _ => by simp at hk; simp only [zu_ap]; simp (disch := omega) only [if_neg], fun _ => ⟨rfl, rfl⟩, rfl⟩
        · simp only [h1, h3, h4, h5, if_true, if_false]
          exact ⟨0, _, _, rfl, rfl, h⟩
      · simp only [h1, h3, h4, if_true, if_false]
        exact ⟨0, _, _, rfl, rfl, h⟩
    · simp only [h1, h3, if_true, if_false]
      exact ⟨0, _, _, rfl, rfl, h⟩
  · simp only [h1, if_false]
    exact ⟨0, _, _, rfl, rfl, h⟩
