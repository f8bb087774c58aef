-- copies of a war
/-- σ' has at cell t the war that σ has at cell o, and differs nowhere else -/
def CpW (t o : Nat) (σ σ' : Hp) : Prop := (∀ j, 1 ≤ j → j ≤ 5 → ∀ i, i < 16 → σ' (t + j) i = σ (o + j) i) ∧ (∀ j, 5 ≤ j → j ≤ 8 → σ' t j = σ o j) ∧ ∀ k, (k < t ∨ t + 5 < k) → σ' k = σ k
theorem zu_ne (σ : Hp) {k j : Nat} (i : Nat) (x : Int32) (h : j ≠ k) : zu σ k i x j = σ j := by rw [zu_ap, if_neg h]
theorem zu_self (σ : Hp) (k i : Nat) (x : Int32) : zu σ k i x k = upd (σ k) i x := by rw [zu_ap, if_pos rfl]
theorem zcp_ne (σ : Hp) {k1 k0 n j : Nat} (h : j ≠ k1) : zcp σ k1 k0 n j = σ j := by rw [zcp_ap, if_neg h]
theorem zcp_self (σ : Hp) (k1 k0 n i : Nat) (h : i < n) : zcp σ k1 k0 n k1 i = σ k0 i := by rw [zcp_ap, if_pos rfl]; simp [h]
theorem copy_eq (t o : Nat) (hd : t + 6 ≤ o ∨ o + 6 ≤ t) (σ : Hp) : ∃ σ', F_X10_copy t o σ = some σ' ∧ CpW t o σ σ' := by
  obtain ⟨s1, h1⟩ : ∃ s, s = zcp σ (t + 1) (o + 1) 16 := ⟨_, rfl⟩
  obtain ⟨s2, h2⟩ : ∃ s, s = zcp s1 (t + 2) (o + 2) 16 := ⟨_, rfl⟩
  obtain ⟨s3, h3⟩ : ∃ s, s = zcp s2 (t + 3) (o + 3) 16 := ⟨_, rfl⟩
  obtain ⟨s4, h4⟩ : ∃ s, s = zcp s3 (t + 4) (o + 4) 16 := ⟨_, rfl⟩
  obtain ⟨s5, h5⟩ : ∃ s, s = zcp s4 (t + 5) (o + 5) 16 := ⟨_, rfl⟩
  obtain ⟨u1, g1⟩ : ∃ s, s = zu s5 t 5 (s5 o 5) := ⟨_, rfl⟩
  obtain ⟨u2, g2⟩ : ∃ s, s = zu u1 t 6 (u1 o 6) := ⟨_, rfl⟩
  obtain ⟨u3, g3⟩ : ∃ s, s = zu u2 t 7 (u2 o 7) := ⟨_, rfl⟩
  have e : F_X10_copy t o σ = some (zu u3 t 8 (u3 o 8)) := by
    subst g3; subst g2; subst g1; subst h5; subst h4; subst h3; subst h2; subst h1
    rfl
  have ne1 : ∀ k, k ≠ t + 1 → s1 k = σ k := fun k hk => by rw [h1, zcp_ne _ hk]
  have ne2 : ∀ k, k ≠ t + 2 → s2 k = s1 k := fun k hk => by rw [h2, zcp_ne _ hk]
  have ne3 : ∀ k, k ≠ t + 3 → s3 k = s2 k := fun k hk => by rw [h3, zcp_ne _ hk]
  have ne4 : ∀ k, k ≠ t + 4 → s4 k = s3 k := fun k hk => by rw [h4, zcp_ne _ hk]
  have ne5 : ∀ k, k ≠ t + 5 → s5 k = s4 k := fun k hk => by rw [h5, zcp_ne _ hk]
  have e1 : ∀ i, i < 16 → s1 (t + 1) i = σ (o + 1) i := fun i hi => by rw [h1, zcp_self _ _ _ _ _ hi]
  have e2 : ∀ i, i < 16 → s2 (t + 2) i = s1 (o + 2) i := fun i hi => by rw [h2, zcp_self _ _ _ _ _ hi]
  have e3 : ∀ i, i < 16 → s3 (t + 3) i = s2 (o + 3) i := fun i hi => by rw [h3, zcp_self _ _ _ _ _ hi]
  have e4 : ∀ i, i < 16 → s4 (t + 4) i = s3 (o + 4) i := fun i hi => by rw [h4, zcp_self _ _ _ _ _ hi]
  have e5 : ∀ i, i < 16 → s5 (t + 5) i = s4 (o + 5) i := fun i hi => by rw [h5, zcp_self _ _ _ _ _ hi]
  have un : ∀ k, k ≠ t → zu u3 t 8 (u3 o 8) k = s5 k := fun k hk => by rw [zu_ne _ _ _ hk, g3, zu_ne _ _ _ hk, g2, zu_ne _ _ _ hk, g1, zu_ne _ _ _ hk]
  have uo1 : u1 o = s5 o := by rw [g1, zu_ne _ _ _ (by omega)]
  have uo2 : u2 o = s5 o := by rw [g2, zu_ne _ _ _ (by omega), uo1]
  have uo3 : u3 o = s5 o := by rw [g3, zu_ne _ _ _ (by omega), uo2]
  have so : s5 o = σ o := by rw [ne5 _ (by omega), ne4 _ (by omega), ne3 _ (by omega), ne2 _ (by omega), ne1 _ (by omega)]
  refine ⟨_, e, fun j hj1 hj5 i hi => ?_, fun j hj5 hj8 => ?_, fun k hk => ?_⟩
  · rw [un _ (by omega)]
    rcases (show j = 1 ∨ j = 2 ∨ j = 3 ∨ j = 4 ∨ j = 5 by omega) with rfl | rfl | rfl | rfl | rfl
    · rw [ne5 _ (by omega), ne4 _ (by omega), ne3 _ (by omega), ne2 _ (by omega), e1 i hi]
    · rw [ne5 _ (by omega), ne4 _ (by omega), ne3 _ (by omega), e2 i hi, ne1 _ (by omega)]
    · rw [ne5 _ (by omega), ne4 _ (by omega), e3 i hi, ne2 _ (by omega), ne1 _ (by omega)]
    · rw [ne5 _ (by omega), e4 i hi, ne3 _ (by omega), ne2 _ (by omega), ne1 _ (by omega)]
    · rw [e5 i hi, ne4 _ (by omega), ne3 _ (by omega), ne2 _ (by omega), ne1 _ (by omega)]
  · rw [zu_self, uo3, g3, zu_self, uo2, g2, zu_self, uo1, g1, zu_self, so]
    simp only [upd_ap]
    rcases (show j = 5 ∨ j = 6 ∨ j = 7 ∨ j = 8 by omega) with rfl | rfl | rfl | rfl <;> simp
  · rw [un _ (by omega), ne5 _ (by omega), ne4 _ (by omega), ne3 _ (by omega), ne2 _ (by omega), ne1 _ (by omega)]
theorem RWar.cp {t o k : Nat} {σ σ' τ : Hp} (h : RWar o k σ τ) (c : CpW t o σ σ') : RWar t k σ' τ := by
  obtain ⟨c1, c2, -⟩ := c
  refine ⟨fun g hg => ?_, ?_⟩
  · have := h.1 g hg
    unfold RG at *
    rw [c1 1 (by omega) (by omega) g hg, c1 2 (by omega) (by omega) g hg, c1 3 (by omega) (by omega) g hg, c1 4 (by omega) (by omega) g hg, c1 5 (by omega) (by omega) g hg]
    exact this
  · have := h.2
    unfold RT at *
    rw [c2 5 (by omega) (by omega), c2 6 (by omega) (by omega), c2 7 (by omega) (by omega), c2 8 (by omega) (by omega)]
    exact this
theorem Mcopies_loop (a b : Nat) (hab : a ≠ b) (τ : Hp) : ∀ (k i N : Nat), 100 - i = k → i ≤ 100 → k < N →
    L_M_copies_2 N a 100 b 100 (nI i) (zr τ b (fun j => if j < i then τ a j else τ b j)) = some (zr τ b (fun j => if j < 100 then τ a j else τ b j)) := by
  intro k
  induction k with
  | zero =>
    intro i N hk hi hN
    obtain ⟨N, rfl⟩ : ∃ M, N = M + 1 := ⟨N - 1, by omega⟩
    have : i = 100 := by omega
    subst this
    simp only [L_M_copies_2, B_M_copies_2]
    rw [if_pos (show (100 : Int32) ≤ nI 100 by decide)]
  | succ k ih =>
    intro i N hk hi hN
    obtain ⟨N, rfl⟩ : ∃ M, N = M + 1 := ⟨N - 1, by omega⟩
    simp only [L_M_copies_2, B_M_copies_2]
    rw [if_neg (show ¬ (100 : Int32) ≤ nI i from nI_ge (b := 100) (by omega) (by omega))]
    simp only [inbT (show i < 100 by omega) (by omega), gd_t, nI_clamp (show i < 2 ^ 31 by omega), zu_zr, nI_1]
    rw [← ih (i + 1) N (by omega) (by omega) (by omega)]
    congr 2
    funext j
    rw [zr_ne _ _ hab, upd_ap]
    by_cases hj : j = i
    · subst hj; simp
    · by_cases h2 : j < i
      · simp [hj, h2, show j < i + 1 by omega]
      · simp [hj, h2, show ¬ j < i + 1 by omega]
theorem M_copies (a b : Nat) (hab : a ≠ b) (τ : Hp) : F_M_copies a 100 b 100 τ = some (zr τ b (fun j => if j < 100 then τ a j else τ b j)) := by
  have h := Mcopies_loop a b hab τ 100 0 FU (by omega) (by omega) (by show 100 < 1000000; omega)
  simp only [Nat.not_lt_zero, if_false] at h
  have e : zr τ b (fun j => τ b j) = τ := zr_id τ b
  rw [e] at h
  exact h
/-- the reference's row b is its row a -/
theorem RWar.cpM {o a b : Nat} {σ σ' τ : Hp} (h : RWar o a σ τ) (hs : ∀ j, j ≤ 5 → σ' (o + j) = σ (o + j)) {r : Nat → Int32} : RWar o b σ' (zr τ b (fun j => if j < 100 then τ a j else r j)) := by
  refine ⟨fun g hg => ?_, ?_⟩
  · have := h.1 g hg
    unfold RG at *
    rw [hs 1 (by omega), hs 2 (by omega), hs 3 (by omega), hs 4 (by omega), hs 5 (by omega)]
    simp only [zr_self]
    simp (disch := omega) only [if_pos]
    exact this
  · have := h.2
    have h0 := hs 0 (by omega)
    simp only [Nat.add_zero] at h0
    unfold RT at *
    rw [h0]
    simp only [zr_self]
    simp (disch := omega) only [if_pos]
    exact this
theorem sim_keep {σ τ : Hp} (h : Rl σ τ) : ∃ r σ' τ', F_V_keep σ = some (r, σ') ∧ F_M_keep τ = some (r, τ') ∧ Rl σ' τ' := by
  obtain ⟨σ1, e1, c⟩ := copy_eq 7 1 (by omega) σ
  have hM := M_copies 1 3 (by decide) (zu τ 0 61 1)
  simp only [F_V_keep, F_M_keep, e1, Option.bind_some, isb_1, gd_t, hM, i97, c97]
  obtain ⟨r1, r2, r3, ⟨r4, r5⟩, r6, r7⟩ := h
  have cc := c.2.2
  refine ⟨τ 1 97, zu σ1 0 17 1, _, ?_, rfl, ?_⟩
  · rw [zu_ap, if_neg (by decide), cc 1 (by omega), r1.2.2.1.1]
  · have k1 : RWar 7 1 (zu σ1 0 17 1) (zu τ 0 61 1) := (r1.cp c).congr (fun j hj => by rw [zu_ap, if_neg (by omega)]) rfl
    refine ⟨r1.congr (fun j hj => ?_) rfl, r2.congr (cc 20 (by omega)) (cc 21 (by omega)) rfl rfl, r3.congr ?_ (cc 24 (by omega)) rfl rfl, ⟨r4.congr (cc _ (by omega)) (cc _ (by omega)) rfl rfl, r5.congr (cc _ (by omega)) (cc _ (by omega)) rfl rfl⟩, Or.inr ⟨rfl, rfl, k1.cpM (fun _ _ => rfl)⟩, r7.eq (S := [0, 7, 8, 9, 10, 11, 12]) (T := [0, 3]) ?_ ?_ ?_ (by decide) (by decide)⟩
    · rw [zu_ap, if_neg (by omega)]; exact cc _ (by omega)
    · rw [zu_ap, if_neg (by decide), cc 23 (by omega)]
    · refine ⟨fun k hk _ => ?_, fun _ => ?_, fun h0 => absurd (by decide) h0, ?_, ?_, ?_⟩
      · simp at hk
        rw [zu_ap, if_neg (by omega)]
        exact cc k (by omega)
      · rw [zu_ap, if_neg (by decide), cc 23 (by omega)]
      · rw [zu_ap, if_neg (by decide), cc 60 (by omega)]
      · rw [zu_ap, if_neg (by decide), cc 42 (by omega)]
      · rw [zu_ap, if_neg (by decide), cc 51 (by omega)]
    · refine ⟨fun k hk hk2 => ?_, fun h0 => absurd (by decide) h0, rfl⟩
      simp at hk
      rw [zr_ap, if_neg (by omega), zu_ap, if_neg (by omega)]
    · simp only [zu_ap, if_true, upd_ap]
      rw [cc 0 (by omega)]
      simp
theorem sim_undo {σ τ : Hp} (h : Rl σ τ) : ∃ r σ' τ', F_V_undo σ = some (r, σ') ∧ F_M_undo τ = some (r, τ') ∧ Rl σ' τ' := by
  obtain ⟨σ1, e1, c⟩ := copy_eq 1 7 (by omega) σ
  have hM := M_copies 3 1 (by decide) τ
  simp only [F_V_undo, F_M_undo, e1, hM, Option.bind_some]
  obtain ⟨r1, r2, r3, ⟨r4, r5⟩, r6, r7⟩ := id h
  rcases r6 with ⟨k1, k2⟩ | ⟨k1, k2, k3⟩
  · rw [if_pos k1, if_pos k2]
    exact ⟨0, _, _, rfl, rfl, h⟩
  · rw [if_neg (by rw [k1]; decide), if_neg (by rw [k2]; decide)]
    have cc := c.2.2
    refine ⟨1, _, _, rfl, rfl, (k3.cp c).cpM (fun _ _ => rfl), r2.congr (cc 20 (by omega)) (cc 21 (by omega)) rfl rfl, r3.congr (by rw [cc 23 (by omega)]) (cc 24 (by omega)) rfl rfl, ⟨r4.congr (cc _ (by omega)) (cc _ (by omega)) rfl rfl, r5.congr (cc _ (by omega)) (cc _ (by omega)) rfl rfl⟩, Or.inr ⟨by rw [cc 0 (by omega)]; exact k1, k2, k3.congr (fun j hj => cc _ (by omega)) rfl⟩, r7.eq (S := [1, 2, 3, 4, 5, 6]) (T := [1]) ?_ ?_ ⟨by rw [cc 0 (by omega)], by rw [cc 0 (by omega)]⟩ (by decide) (by decide)⟩
    · refine ⟨fun k hk _ => ?_, fun _ => by rw [cc 23 (by omega)], fun _ => cc 0 (by omega), by rw [cc 60 (by omega)], by rw [cc 42 (by omega)], by rw [cc 51 (by omega)]⟩
      simp at hk
      exact cc k (by omega)
    · exact ⟨fun k hk _ => by simp at hk; rw [zr_ap, if_neg (by omega)], fun _ => ⟨rfl, rfl⟩, rfl⟩
