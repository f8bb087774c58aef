-- signals: the whole call
theorem Rl.sigs {σ τ σ' τ' : Hp} (h : Rl σ τ) (hs : Ag [28, 29, 30, 31] σ σ') (ht : Ag [20, 21] τ τ') (h4 : RSig1 28 0 σ' τ') (h5 : RSig1 30 1 σ' τ') : Rl σ' τ' := by
  obtain ⟨r1, r2, r3, -, r6, r7⟩ := h
  have hc : EqC [28, 29, 30, 31] σ σ' := ⟨fun k hk _ => hs k hk, fun _ => by rw [hs 23 (by decide)], fun _ => hs 0 (by decide), by rw [hs 60 (by decide)], by rw [hs 42 (by decide)], by rw [hs 51 (by decide)]⟩
  have hm : EqM [20, 21] τ τ' := ⟨fun k hk _ => ht k hk, fun _ => ⟨by rw [ht 0 (by decide)], by rw [ht 0 (by decide)]⟩, by rw [ht 0 (by decide)]⟩
  exact ⟨r1.eq (Or.inl rfl) (Or.inl rfl) hc hm (fun j hj => by simp; omega) (by decide), r2.congr (hs 20 (by decide)) (hs 21 (by decide)) (ht 5 (by decide)) (ht 4 (by decide)), r3.congr (by rw [hs 23 (by decide)]) (hs 24 (by decide)) (by rw [ht 0 (by decide)]) (ht 6 (by decide)), ⟨h4, h5⟩, r6.congr (by rw [hs 0 (by decide)]) (fun j hj => hs _ (by simp; omega)) (by rw [ht 0 (by decide)]) (ht 3 (by decide)), r7.eq hc hm ⟨by rw [hs 0 (by decide)], by rw [hs 0 (by decide)]⟩ (by decide) (by decide)⟩
theorem sg_fin {σ τ σ' τ' : Hp} (h : Rl σ τ) (hA : Ag [23, 32, 33] σ σ') (hF : SgF τ τ') : Rl (zu σ' 23 1 0) (zu τ' 0 6 0) := by
  refine h.clear.eq ⟨fun k _ hk => ?_, fun _ => ?_, fun _ => ?_, ?_, ?_, ?_⟩ ⟨fun k _ hk => ?_, fun _ => ⟨?_, ?_⟩, ?_⟩
  · have k23 : k ≠ 23 ∧ k ≠ 32 ∧ k ≠ 33 := by
      revert hk; simp only [List.mem_cons, List.not_mem_nil, or_false]; omega
    rw [zu_ne _ _ _ k23.1, zu_ne _ _ _ k23.1, hA k (by simp; omega)]
  · rw [zu_self, zu_self, upd_s, upd_s]
  · rw [zu_ne _ _ _ (by decide), zu_ne _ _ _ (by decide), hA 0 (by decide)]
  · rw [zu_ne _ _ _ (by decide), zu_ne _ _ _ (by decide), hA 60 (by decide)]
  · rw [zu_ne _ _ _ (by decide), zu_ne _ _ _ (by decide), hA 42 (by decide)]
  · rw [zu_ne _ _ _ (by decide), zu_ne _ _ _ (by decide), hA 51 (by decide)]
  · have k0 : k ≠ 0 ∧ k ≠ 22 ∧ k ≠ 23 ∧ k ≠ 24 ∧ k ≠ 25 := by
      revert hk; simp only [List.mem_cons, List.not_mem_nil, or_false]; omega
    rw [zu_ne _ _ _ k0.1, zu_ne _ _ _ k0.1, hF.1 k (by simp; omega)]
  · rw [zu_self, zu_self, upd_s, upd_s]
  · rw [zu_self, zu_self, upd_ne _ _ (by decide), upd_ne _ _ (by decide), hF.2 61 (by decide)]
  · rw [zu_self, zu_self, upd_ne _ _ (by decide), upd_ne _ _ (by decide), hF.2 15 (by decide)]
theorem lamps_all {w : Nat → Int32} {n p q : Nat} {σ0 τ0 σ τ : Hp} {S : Nat → Nat × Nat × Nat} {a1 : Int32} {N K : Nat} (hn : n ≤ 40) (hc : ∀ i, i < n → σ0 24 i = w i) (hm : ∀ i, i < n → τ0 6 i &&& 255 = w i) (hp : p ≤ n) (hC : SgC n σ0 σ p q) (hM : SgM n τ0 τ p q 0 S) (hL : SgL q σ τ) (hN : 5 ≤ N) (hK : 100 ≤ K + p) : SgX a1 σ0 τ0 (D_X7_readLamps 32 0 σ) (sgII a1 N K τ) ∨ SgY a1 n σ0 τ0 0 S p q K (fun p' => wa w n p' = -1 ∨ wa w n p' = 41) (D_X7_readLamps 32 0 σ) (sgII a1 N K τ) := by
  have hFU : FU = 1000000 := rfl
  have i2 := fun (S : Nat → Nat × Nat × Nat) => item_eq (σ0 := σ0) (τ0 := τ0) (d := 2) (S := S) (a1 := a1) (o := G_X7_readItem 4 1) hn hc hm (by omega) (fun h => absurd h (by omega))
  have l2 := fun (S : Nat → Nat × Nat × Nat) => lamps_eq (σ0 := σ0) (τ0 := τ0) (d := 2) (S := S) (a1 := a1) (o := G_X7_readItem 5 0) hn hc hm (by omega) (by rw [G_X7_readItem_0]; exact i2 S)
  have i1 := fun (S : Nat → Nat × Nat × Nat) => item_eq (σ0 := σ0) (τ0 := τ0) (d := 1) (S := S) (a1 := a1) (o := G_X7_readItem 6 1) hn hc hm (by omega) (fun _ S' p q σ τ N K h1 h2 h3 h4 h5 h6 => by rw [G_X7_readItem_1]; exact l2 S' (n - p) p q σ τ N K 0 FU (by omega) (by omega) (by omega) (Or.inl rfl) h1 h2 h3 h4 h5 h6)
  have l1 := fun (S : Nat → Nat × Nat × Nat) => lamps_eq (σ0 := σ0) (τ0 := τ0) (d := 1) (S := S) (a1 := a1) (o := G_X7_readItem 7 0) hn hc hm (by omega) (by rw [G_X7_readItem_0]; exact i1 S)
  have i0 := fun (S : Nat → Nat × Nat × Nat) => item_eq (σ0 := σ0) (τ0 := τ0) (d := 0) (S := S) (a1 := a1) (o := G_X7_readItem 8 1) hn hc hm (by omega) (fun _ S' p q σ τ N K h1 h2 h3 h4 h5 h6 => by rw [G_X7_readItem_1]; exact l1 S' (n - p) p q σ τ N K 0 FU (by omega) (by omega) (by omega) (Or.inl rfl) h1 h2 h3 h4 h5 h6)
  have l0 := lamps_eq (σ0 := σ0) (τ0 := τ0) (d := 0) (S := S) (a1 := a1) (o := G_X7_readItem 9 0) hn hc hm (by omega) (by rw [G_X7_readItem_0]; exact i0 S)
  unfold D_X7_readLamps
  rw [G_X7_readItem_1]
  exact l0 (n - p) p q σ τ N K 0 FU (by omega) (by omega) (by omega) (Or.inl rfl) hp hC hM hL (by omega) hK
/-- the lamps are laid into the row of a side -/
theorem lay_M {s q : Nat} (hs : s < 2) (hq : q ≤ 60) {u : Hp} (e36 : u 0 36 = nI q) (hr : ∀ i, i < q → ∃ r : Nat, r ≤ 5 ∧ u 22 i = nI r) : ∃ t, L_M_signals_106 FU (nI s) 0 u = some (nI q, t) ∧ Ag [20] u t ∧ (∀ j, j < q → t 20 (60 * s + j) = u 22 j) ∧ ∀ j, (j < 60 * s ∨ 60 * s + 60 ≤ j) → t 20 j = u 20 j := by
  refine lone (fun N i t => L_M_signals_106 N (nI s) (nI i) t) (fun i t => Ag [20] u t ∧ (∀ j, j < i → t 20 (60 * s + j) = u 22 j) ∧ ∀ j, (j < 60 * s ∨ 60 * s + 60 ≤ j) → t 20 j = u 20 j) (fun r => ∃ t, r = some (nI q, t) ∧ Ag [20] u t ∧ (∀ j, j < q → t 20 (60 * s + j) = u 22 j) ∧ ∀ j, (j < 60 * s ∨ 60 * s + 60 ≤ j) → t 20 j = u 20 j) q ?_ ?_ q 0 FU u (by omega) (by omega) (FU_lt (by omega)) ⟨Ag.rf, fun j hj => absurd hj (by omega), fun _ _ => rfl⟩
  · rintro N t ⟨h1, h2, h3⟩
    show ∃ t', B_M_signals_106 _ (nI s) (nI q) t = _ ∧ _
    unfold B_M_signals_106
    rw [h1 0 (by decide), e36, if_pos (nI_le (Nat.le_refl _) (by omega))]
    exact ⟨t, rfl, h1, h2, h3⟩
  · rintro N i t hi ⟨h1, h2, h3⟩
    right
    obtain ⟨r, hr5, er⟩ := hr i hi
    refine ⟨zu t 20 (60 * s + i) (u 22 i), ?_, h1.zu (by decide), fun j hj => ?_, fun j hj => ?_⟩
    · show B_M_signals_106 _ (nI s) (nI i) t = _
      unfold B_M_signals_106
      rw [h1 0 (by decide), e36, if_neg (nI_ge hi (by omega)), gd_true (inbT (show i < 60 by omega) (by omega)), nl60, pk_mul, nI_add, gd_true (inbT (show 60 * s + i < 120 by omega) (by omega)), nI_clamp (by omega), nI_clamp (by omega), h1 22 (by decide), er, pk_vb, byt r (by omega), nI_1]
    · rw [zu_self]
      by_cases e : j = i
      · rw [e, upd_s]
      · rw [upd_ne _ _ (by omega)]; exact h2 j (by omega)
    · rw [zu_self, upd_ne _ _ (by omega)]; exact h3 j hj
theorem sim_signals {σ τ : Hp} (h : Rl σ τ) (a1 a2 : Int32) : ∃ r σ' τ', F_V_signals a1 a2 σ = some (r, σ') ∧ F_M_signals a1 a2 τ = some (r, τ') ∧ Rl σ' τ' := by
  obtain ⟨⟨m, hm, e1, e2⟩, hb⟩ := id h.2.2.1
  simp only [F_V_signals, F_M_signals, V_isSide, V_within, M_in, ob, b2_ite]
  by_cases h1 : wi a1 0 1 = true
  rotate_left
  · rw [if_neg h1, if_neg h1]; exact ⟨-1, σ, τ, rfl, rfl, h⟩
  by_cases h2 : wi a2 1 40 = true
  rotate_left
  · rw [if_pos h1, if_pos h1, if_neg h2, if_neg h2]; exact ⟨-1, σ, τ, rfl, rfl, h⟩
  rw [if_pos h1, if_pos h1, if_pos h2, if_pos h2]
  obtain ⟨s, hs, rfl⟩ := wi_nat (M := 1) (n := 1) (by decide) h1
  obtain ⟨n, hn1, hn, rfl⟩ := wi_from (a := 1) (M := 40) (m := 1) (n := 40) (by decide) (by decide) h2
  rw [C_has e1 hm (by omega), ob, e2]
  dsimp only
  rw [b2_ite]
  by_cases c : n ≤ m
  rotate_left
  · rw [if_neg (by simp [c]), if_neg (nI_ge (by omega) (by omega))]; exact ⟨-1, σ, τ, rfl, rfl, h⟩
  rw [if_pos (decide_eq_true c), if_pos (nI_le c (by omega))]
  unfold F_X7_readFrom F_X8_begin F_M_beginsText
  rw [ob, ob]
  obtain ⟨σ2, hσ2⟩ : ∃ σ2, σ2 = zu (zu (zu (zu σ 23 2 (nI n)) 23 3 0) 23 4 0) 32 1 0 := ⟨_, rfl⟩
  obtain ⟨τ2, hτ2⟩ : ∃ τ2, τ2 = zu (zu (zu (zu (zu (zu τ 0 7 0) 0 8 (nI n)) 0 12 0) 0 14 0) 0 36 0) 0 37 0 := ⟨_, rfl⟩
  rw [← hσ2, ← hτ2]
  have hC : SgC n σ σ2 0 0 := by
    rw [hσ2]
    refine ⟨(((Ag.rf.zu (by decide)).zu (by decide)).zu (by decide)).zu (by decide), ?_, ?_, ?_⟩
    · simp (disch := omega) only [zu_ne, zu_self, upd_ne, upd_s]
    · simp (disch := omega) only [zu_ne, zu_self, upd_ne, upd_s]; rfl
    · rw [zu_self, upd_s]; rfl
  have hM : SgM n τ τ2 0 0 0 (fun _ => (0, 0, 0)) := by
    rw [hτ2]
    refine ⟨?_, ?_, ?_, ?_, ?_, fun k hk => absurd hk (by omega)⟩
    · have f0 : SgF τ τ := ⟨fun _ _ => rfl, fun _ _ => rfl⟩
      exact (((((f0.zu0 (by decide)).zu0 (by decide)).zu0 (by decide)).zu0 (by decide)).zu0 (by decide)).zu0 (by decide)
    · simp (disch := omega) only [zu_self, upd_ne, upd_s]; rfl
    · simp (disch := omega) only [zu_self, upd_ne, upd_s]
    · simp (disch := omega) only [zu_self, upd_ne, upd_s]; rfl
    · simp (disch := omega) only [zu_self, upd_ne, upd_s]; rfl
  have hL : SgL 0 σ2 τ2 := ⟨by omega, fun i hi => absurd hi (by omega)⟩
  have hwC : ∀ i, i < n → σ 24 i = σ 24 i := fun _ _ => rfl
  have hwM : ∀ i, i < n → τ 6 i &&& 255 = σ 24 i := fun i hi => (hb i (by omega)).1.symm
  have hFU : FU = 1000000 := rfl
  have key := lamps_all (w := σ 24) (a1 := nI s) (N := FU) (K := FU) hn hwC hwM (by omega) hC hM hL (by omega) (by omega)
  have eR : ((F_M_readsItem τ2).bind fun q45 => L_M_signals_49 J_M_signals_79 FU (nI s) q45.1 q45.2) = sgII (nI s) FU FU τ2 := rfl
  rw [eR]
  have bad : ∀ (f : Int32) (s' t' : Hp) (K : Nat), Ag [23, 32, 33] σ s' → s' 23 4 = f → SgF τ t' → t' 0 9 = f → Ok (some ((zu s' 23 1 0) 23 4, zu s' 23 1 0)) (L_M_signals_49 J_M_signals_79 (K + 1) (nI s) 0 t') := by
    intro f s' t' K g1 g2 g3 g4
    rw [sg49z]
    unfold J_M_signals_79
    rw [if_pos rfl, zu_self, zu_self, upd_ne _ _ (by decide), upd_ne _ _ (by decide), g2, g4]
    exact ⟨f, _, _, rfl, rfl, sg_fin h g1 g3⟩
  rcases key with ⟨f, s', t', K', k1, k2, k3, k4, k5, k6⟩ | ⟨s', t', p', q', M', K', k1, k2, k3, k4, k5, k6, k7, k8, k9, k10, k11⟩
  · rw [k1, k2, ob]
    dsimp only
    rw [if_pos rfl, ob]
    dsimp only
    unfold F_X8_clear
    rw [ob, if_pos rfl]
    exact bad f s' t' K' k3 k4 k5 k6
  obtain ⟨M2, rfl⟩ : ∃ M2, M' = M2 + 1 := ⟨M' - 1, by omega⟩
  obtain ⟨K2, rfl⟩ : ∃ K2, K' = K2 + 1 := ⟨K' - 1, by omega⟩
  rw [k1, k2, ob, on_M hn hwM k4 k9 (by omega) (fun _ => rfl)]
  dsimp only
  rw [if_neg (show ¬ (1 : Int32) = 0 by decide), C_here (k8.tx hn hwC) k8.2.2.1 k4, ob]
  dsimp only
  rcases k11 with hw | hw
  rotate_left
  · have hlt : p' < n := wa_lt (by rw [hw]; decide)
    rw [if_neg (by rw [hw]; decide), if_pos (Or.inl hlt), C_refu, ob]
    dsimp only
    rw [if_pos rfl, ob]
    dsimp only
    unfold F_X8_clear
    rw [ob, if_pos rfl]
    obtain ⟨K3, rfl⟩ : ∃ K3, K2 = K3 + 1 := ⟨K2 - 1, by omega⟩
    obtain ⟨t3, g1, g2, g3⟩ := bad_M (a1 := nI s) (K := K3 + 1) (N := FU - 1) hn hwM k4 k9 (Or.inr hw)
    rw [show sgII (nI s) FU (K3 + 1) t' = _ from g1]
    exact bad (-1000 * 1 - nI p') (zu s' 23 4 (-1000 * 1 - s' 23 3)) t3 K3 (k8.1.zu (by decide)) (by rw [zu_self, upd_s, k8.2.2.1]) g2 g3
  · have hge : ¬ p' < n := fun hlt => by
      rw [wa_in hlt] at hw
      obtain ⟨r, hr, er⟩ := (hb p' (by omega)).2
      rw [hw] at er
      exact nI_m1 (show r < 2 ^ 31 by omega) er.symm
    rw [if_pos hw, if_neg (by omega), ob]
    dsimp only
    unfold F_X8_clear
    rw [ob, if_neg (show ¬ (1 : Int32) = 0 by decide), sigOf (by omega), ob]
    dsimp only
    rw [gd_true (isS_of (by omega))]
    unfold F_X7_copy J_M_signals_79
    rw [ob, if_neg (show ¬ (1 : Int32) = 0 by decide), gd_true (inbT (show s < 2 by omega) (by omega)), nI_clamp (by omega)]
    have hR := sg_fin h k8.1 k9.1
    obtain ⟨σ3, hσ3⟩ : ∃ σ3, σ3 = zu s' 23 1 0 := ⟨_, rfl⟩
    obtain ⟨τ3, hτ3⟩ : ∃ τ3, τ3 = zu t' 0 6 0 := ⟨_, rfl⟩
    rw [← hσ3, ← hτ3]
    rw [← hσ3, ← hτ3] at hR
    have c33 : σ3 33 = s' 33 := by rw [hσ3, zu_ne _ _ _ (by decide)]
    have c32 : σ3 32 1 = nI q' := by rw [hσ3, zu_ne _ _ _ (by decide)]; exact k8.2.2.2
    have m22 : τ3 22 = t' 22 := by rw [hτ3, zu_ne _ _ _ (by decide)]
    have m36 : τ3 0 36 = nI q' := by rw [hτ3, zu_self, upd_ne _ _ (by decide)]; exact k9.2.2.2.1
    obtain ⟨t, l1, l2, l3, l4⟩ := lay_M (s := s) (q := q') (u := zu τ3 21 s (τ3 0 36)) (by omega) k10.1 (by rw [zu_ne _ _ _ (by decide)]; exact m36) (fun i hi => by
      rw [zu_ne _ _ _ (by decide), m22, ← (k10.2 i hi).1]; exact (k10.2 i hi).2)
    rw [l1]
    have hq := k10.1
    have cc : ∀ i, i < 60 → zcp σ3 (28 + 2 * s + 1) (32 + 1) 60 (28 + 2 * s + 1) i = s' 33 i := fun i hi => by rw [zcp_self _ _ _ _ _ hi, c33]
    rw [show zu (zcp σ3 (28 + 2 * s + 1) (32 + 1) 60) (28 + 2 * s) 1 (zcp σ3 (28 + 2 * s + 1) (32 + 1) 60 32 1) (28 + 2 * s) 1 = nI q' by rw [zu_self, upd_s, zcp_ne _ (by omega), c32]]
    refine ⟨nI q', _, t, rfl, rfl, hR.sigs (fun k hk => ?_) (fun k hk => ?_) ?_ ?_⟩
    · have : k ≠ 28 ∧ k ≠ 29 ∧ k ≠ 30 ∧ k ≠ 31 := by revert hk; simp
      rw [zu_ne _ _ _ (by omega), zcp_ne _ (by omega)]
    · have : k ≠ 20 ∧ k ≠ 21 := by revert hk; simp
      rw [l2 k (by simp; omega), zu_ne _ _ _ (by omega)]
    · rcases (show s = 0 ∨ s = 1 by omega) with rfl | rfl
      · refine ⟨q', hq, ?_, ?_, fun i hi => ?_⟩
        · rw [show (28 : Nat) = 28 + 2 * 0 from rfl, zu_self, upd_s, zcp_ne _ (by omega), c32]
        · rw [l2 21 (by decide), zu_self, upd_s, m36]
        · rw [show (28 + 1 : Nat) = 28 + 2 * 0 + 1 from rfl, zu_ne _ _ _ (by omega), cc i (by omega), l3 i hi, zu_ne _ _ _ (by decide), m22]
          exact k10.2 i hi
      · obtain ⟨n4, hn4, g1, g2, g3⟩ := hR.2.2.2.1.1
        refine ⟨n4, hn4, ?_, ?_, fun i hi => ?_⟩
        · rw [zu_ne _ _ _ (by omega), zcp_ne _ (by omega)]; exact g1
        · rw [l2 21 (by decide), zu_self, upd_ne _ _ (by decide)]; exact g2
        · rw [zu_ne _ _ _ (by omega), zcp_ne _ (by omega), l4 _ (Or.inl (by omega)), zu_ne _ _ _ (by decide)]; exact g3 i hi
    · rcases (show s = 0 ∨ s = 1 by omega) with rfl | rfl
      · obtain ⟨n4, hn4, g1, g2, g3⟩ := hR.2.2.2.1.2
        refine ⟨n4, hn4, ?_, ?_, fun i hi => ?_⟩
        · rw [zu_ne _ _ _ (by omega), zcp_ne _ (by omega)]; exact g1
        · rw [l2 21 (by decide), zu_self, upd_ne _ _ (by decide)]; exact g2
        · rw [zu_ne _ _ _ (by omega), zcp_ne _ (by omega), l4 _ (Or.inr (by omega)), zu_ne _ _ _ (by decide)]; exact g3 i hi
      · refine ⟨q', hq, ?_, ?_, fun i hi => ?_⟩
        · rw [show (30 : Nat) = 28 + 2 * 1 from rfl, zu_self, upd_s, zcp_ne _ (by omega), c32]
        · rw [l2 21 (by decide), zu_self, upd_s, m36]
        · rw [show (30 + 1 : Nat) = 28 + 2 * 1 + 1 from rfl, zu_ne _ _ _ (by omega), cc i (by omega), l3 i hi, zu_ne _ _ _ (by decide), m22]
          exact k10.2 i hi
