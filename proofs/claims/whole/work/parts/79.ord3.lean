-- orders: the whole call
def OrdX (σ0 τ0 : Hp) (r r' : Option (Int32 × Hp)) : Prop := ∃ (f : Int32) (σ' τ' : Hp), r = some (0, σ') ∧ r' = J_M_orders_86 0 τ' ∧ Ag [13, 14, 15, 16, 17, 18, 23, 25] σ0 σ' ∧ σ' 23 4 = f ∧ OrF τ0 τ' ∧ τ' 0 9 = f
def OrdY (σ0 τ0 : Hp) (r r' : Option (Int32 × Hp)) : Prop := ∃ (l' : Nat) (σ' τ' : Hp), r = some (1, σ') ∧ r' = J_M_orders_86 1 τ' ∧ Ag [13, 14, 15, 16, 17, 18, 23, 25] σ0 σ' ∧ σ' 25 1 = nI l' ∧ OrF τ0 τ' ∧ τ' 0 29 = nI l' ∧ RWar 13 1 σ' τ'
theorem RG.congr2 {o k : Nat} {σ τ τ' : Hp} {g : Nat} (h : RG o k σ τ g) (hg : g < 16) (ht : ∀ j, j < 100 → τ' k j = τ k j) : RG o k σ τ' g := by
  unfold RG at *
  rw [ht g (by omega), ht (16 + g) (by omega), ht (32 + g) (by omega), ht (48 + g) (by omega), ht (64 + g) (by omega), ht (80 + g) (by omega)]
  exact h
theorem o46z (K : Nat) (τ : Hp) : L_M_orders_46 J_M_orders_86 (K + 1) 0 τ = J_M_orders_86 0 τ := by
  show B_M_orders_46 _ _ 0 τ = _
  unfold B_M_orders_46
  rw [if_pos rfl]
theorem ord_loop {n : Nat} {σ0 τ0 : Hp} {w : Nat → Int32} (hn : n ≤ 120) (hc : ∀ i, i < n → σ0 24 i = w i) (h8 : τ0 0 8 = nI n) (hm : ∀ i, i < n → τ0 6 i &&& 255 = w i) (hb : ∀ i, i < n → w i ≠ -1) :
    ∀ (k p l : Nat) (σ τ : Hp) (N K : Nat) (cont : Int32 × Hp → Option (Int32 × Hp)), n - p ≤ k → p ≤ n → k < N → k + 2 < K → l ≤ 20 → OrC n σ0 σ p l → OrM τ0 τ p l → RWar 13 1 σ τ → (∀ b t, (b = 0 ∨ b = 1) → cont (b, t) = L_M_orders_46 J_M_orders_86 K b t) → OrdX σ0 τ0 (L_X6_readOnto_13 J_X6_readOnto_138 J_X6_readOnto_114 J_X6_readOnto_60 J_X6_readOnto_42 N 13 σ) ((F_M_readsLine τ).bind cont) ∨ OrdY σ0 τ0 (L_X6_readOnto_13 J_X6_readOnto_138 J_X6_readOnto_114 J_X6_readOnto_60 J_X6_readOnto_42 N 13 σ) ((F_M_readsLine τ).bind cont) := by
  intro k
  induction k with
  | zero =>
    intro p l σ τ N K cont hk hp hN hK hl hC hM hW hct
    obtain ⟨N, rfl⟩ : ∃ N', N = N' + 1 := ⟨N - 1, by omega⟩
    obtain ⟨K, rfl⟩ : ∃ K', K = K' + 1 := ⟨K - 1, by omega⟩
    have e : wa w n p = -1 := wa_out (by omega)
    left
    show OrdX σ0 τ0 (B_X6_readOnto_13 _ _ _ _ _ 13 σ) _
    unfold B_X6_readOnto_13 F_M_readsLine
    have mh := M_here (hM.tx hn h8 hm) hM.2.1 hp
    rw [if_neg (show ¬ (20 : Int32) < σ 25 1 by rw [hC.2.2.2]; exact nI_nlt (a := 20) (by omega) (by omega)), C_here (hC.tx hn hc) hC.2.2.1 hp, ob, mh, ob]
    dsimp only
    rw [e, if_neg (by decide), if_neg (by decide), if_neg (by decide), mh, ob]
    dsimp only
    rw [e, if_neg (by decide)]
    unfold J_X6_readOnto_42 J_M_readsLine_27
    rw [if_pos rfl, C_refu, ob, M_wrA, ob]
    dsimp only
    rw [gdz, gdz, ob, hct 0 _ (Or.inl rfl), o46z]
    exact ⟨-1000 * 1 - nI p, _, _, rfl, rfl, hC.1.zu (by decide), by rw [zu_self, upd_s, hC.2.2.1], hM.1.zu0 (by decide), by rw [zu_self, upd_s, hM.2.1]⟩
  | succ k ih =>
    intro p l σ τ N K cont hk hp hN hK hl hC hM hW hct
    obtain ⟨N, rfl⟩ : ∃ N', N = N' + 1 := ⟨N - 1, by omega⟩
    obtain ⟨K, rfl⟩ : ∃ K', K = K' + 1 := ⟨K - 1, by omega⟩
    obtain ⟨L, hL⟩ : ∃ L, L = fun (r1 : Nat) (σ : Hp) => L_X6_readOnto_13 J_X6_readOnto_138 J_X6_readOnto_114 J_X6_readOnto_60 J_X6_readOnto_42 N r1 σ := ⟨_, rfl⟩
    have eL : L_X6_readOnto_13 J_X6_readOnto_138 J_X6_readOnto_114 J_X6_readOnto_60 J_X6_readOnto_42 (N + 1) 13 σ = B_X6_readOnto_13 L J_X6_readOnto_138 J_X6_readOnto_114 J_X6_readOnto_60 J_X6_readOnto_42 13 σ := by rw [hL]; rfl
    rw [eL]
    have mh := M_here (hM.tx hn h8 hm) hM.2.1 hp
    have main : ∀ (s : Nat), s < 2 → p < n → l < 20 → OrdX σ0 τ0 (J_X6_readOnto_95 L J_X6_readOnto_138 J_X6_readOnto_114 13 (nI s) 13 (zu σ 23 3 (nI (p + 1)))) ((J_M_readsLine_27 (nI s) τ).bind cont) ∨ OrdY σ0 τ0 (J_X6_readOnto_95 L J_X6_readOnto_138 J_X6_readOnto_114 13 (nI s) 13 (zu σ 23 3 (nI (p + 1)))) ((J_M_readsLine_27 (nI s) τ).bind cont) := by
      intro s hs hpn hl20
      unfold J_X6_readOnto_95
      rcases line_eq hs hn hc h8 hm hpn hC hM hW hl20 with ⟨f, s', t', h1, h2, h3, h4, h5, h6⟩ | ⟨p', s', t', h1, h2, h3, h4, C', M', W'⟩
      · rw [h1, h2, ob, ob, hct 0 _ (Or.inl rfl), o46z]
        dsimp only
        rw [if_pos rfl]
        exact Or.inl ⟨f, s', t', rfl, rfl, h3, h4, h5, h6⟩
      rw [h1, h2, ob, ob, hct 1 _ (Or.inr rfl)]
      dsimp only
      rw [if_neg (show ¬ (1 : Int32) = 0 by decide), C_here (C'.tx hn hc) C'.2.2.1 h4, ob]
      dsimp only
      have tM' := M'.tx hn h8 hm
      have eB : L_M_orders_46 J_M_orders_86 (K + 1) 1 t' = B_M_orders_46 J_M_orders_86 (fun x2 σ => L_M_orders_46 J_M_orders_86 K x2 σ) 1 t' := rfl
      rw [eB]
      unfold B_M_orders_46
      rw [if_neg (show ¬ (1 : Int32) = 0 by decide), tM'.2.1, M'.2.1]
      by_cases c : p' < n
      rotate_left
      · rw [if_pos (wa_out (by omega)), if_pos (nI_le (by omega) (by omega))]
        unfold J_X6_readOnto_114
        rw [C'.2.2.2, nI_1]
        refine Or.inr ⟨l + 1, _, t', rfl, rfl, C'.1.zu (by decide), by rw [zu_self, upd_s], M'.1, M'.2.2, W'.congr (fun j hj => zu_ne _ _ _ (by omega)) rfl⟩
      rw [if_neg (by rw [wa_in c]; exact hb p' c), if_neg (nI_ge c (by omega)), C_takes (C'.tx hn hc) C'.2.2.1 h4, M_takes tM' M'.2.1 h4]
      by_cases c2 : wa w n p' = 59
      rotate_left
      · rw [if_neg c2, if_neg c2, ob, ob]
        dsimp only
        rw [if_pos rfl, if_pos rfl]
        obtain ⟨K, rfl⟩ : ∃ K', K = K' + 1 := ⟨K - 1, by omega⟩
        rw [o46z]
        unfold J_X6_readOnto_138
        rw [C_refu, ob]
        dsimp only
        rw [gdz]
        exact Or.inl ⟨-1000 * 1 - nI p', _, _, rfl, rfl, C'.1.zu (by decide), by rw [zu_self, upd_s, C'.2.2.1], M'.1.zu0 (by decide), by rw [zu_self, upd_s]⟩
      rw [if_pos c2, if_pos c2, ob, ob]
      dsimp only
      rw [if_neg (show ¬ (1 : Int32) = 0 by decide), if_neg (show ¬ (1 : Int32) = 0 by decide), zu_ne _ _ _ (by decide), C'.2.2.2, nI_1, hL]
      have C2 := C'.at (p' + 1)
      refine ih (p' + 1) (l + 1) (zu (zu s' 23 3 (nI (p' + 1))) 25 1 (nI (l + 1))) (zu t' 0 7 (nI (p' + 1))) N K (fun q71 => if q71.1 = 0 then L_M_orders_46 J_M_orders_86 K 0 q71.2 else L_M_orders_46 J_M_orders_86 K 1 q71.2) (by omega) (by omega) (by omega) (by omega) (by omega) ⟨C2.1.zu (by decide), by rw [zu_ne _ _ _ (by decide)]; exact C2.2.1, by rw [zu_ne _ _ _ (by decide)]; exact C2.2.2.1, by rw [zu_self, upd_s]⟩ (M'.at (p' + 1)) (W'.congr (fun j hj => by rw [zu_ne _ _ _ (by omega), zu_ne _ _ _ (by omega)]) (zu_ne _ _ _ (by decide))) (fun b t hbb => ?_)
      rcases hbb with rfl | rfl
      · show (if (0 : Int32) = 0 then _ else _) = _
        rw [if_pos rfl]
      · show (if (1 : Int32) = 0 then _ else _) = _
        rw [if_neg (by decide)]
    unfold B_X6_readOnto_13 F_M_readsLine
    rw [if_neg (show ¬ (20 : Int32) < σ 25 1 by rw [hC.2.2.2]; exact nI_nlt (a := 20) (by omega) (by omega)), C_here (hC.tx hn hc) hC.2.2.1 hp, ob, mh, ob]
    dsimp only
    have full : ∀ s, J_M_readsLine_27 (nI s) τ = J_M_readsLine_27 (nI s) τ := fun _ => rfl
    have many : ∀ s, s < 2 → l = 20 → OrdX σ0 τ0 (J_X6_readOnto_60 σ) ((J_M_readsLine_27 (nI s) τ).bind cont) := by
      intro s hs hl20
      unfold J_X6_readOnto_60 J_M_readsLine_27
      rw [if_neg (nI_m1 (by omega)), if_pos (show τ 0 29 = (20 : Int32) by rw [hM.2.2, hl20]; rfl), C_refu, ob, M_wrA, ob]
      dsimp only
      rw [gdz, gdz, ob, hct 0 _ (Or.inl rfl), o46z]
      exact ⟨-1000 * 4 - nI p, _, _, rfl, rfl, hC.1.zu (by decide), by rw [zu_self, upd_s, hC.2.2.1], hM.1.zu0 (by decide), by rw [zu_self, upd_s, hM.2.1]⟩
    by_cases d60 : wa w n p = 60
    · have hlt : p < n := wa_lt (w := w) (by rw [d60]; decide)
      rw [if_pos d60, if_pos d60, d60]
      unfold J_X6_readOnto_51
      by_cases hl2 : l = 20
      · rw [if_pos (show σ 25 1 = (20 : Int32) by rw [hC.2.2.2, hl2]; rfl)]
        exact Or.inl (many 0 (by omega) hl2)
      · rw [if_neg (show ¬ σ 25 1 = (20 : Int32) by rw [hC.2.2.2]; exact nI_lit (k := 20) (by omega) (by omega) hl2), if_pos rfl, hC.2.2.1, nI_1]
        exact main 0 (by omega) hlt (by omega)
    rw [if_neg d60, if_neg d60, mh, ob]
    dsimp only
    by_cases d62 : wa w n p = 62
    · have hlt : p < n := wa_lt (w := w) (by rw [d62]; decide)
      rw [if_pos d62, if_pos d62, d62]
      unfold J_X6_readOnto_51
      by_cases hl2 : l = 20
      · rw [if_pos (show σ 25 1 = (20 : Int32) by rw [hC.2.2.2, hl2]; rfl)]
        exact Or.inl (many 1 (by omega) hl2)
      · rw [if_neg (show ¬ σ 25 1 = (20 : Int32) by rw [hC.2.2.2]; exact nI_lit (k := 20) (by omega) (by omega) hl2), if_neg (by decide), hC.2.2.1, nI_1]
        exact main 1 (by omega) hlt (by omega)
    rw [if_neg d62, if_neg d62]
    unfold J_X6_readOnto_42 J_M_readsLine_27
    rw [if_pos rfl, C_refu, ob, M_wrA, ob]
    dsimp only
    rw [gdz, gdz, ob, hct 0 _ (Or.inl rfl), o46z]
    exact Or.inl ⟨-1000 * 1 - nI p, _, _, rfl, rfl, hC.1.zu (by decide), by rw [zu_self, upd_s, hC.2.2.1], hM.1.zu0 (by decide), by rw [zu_self, upd_s, hM.2.1]⟩
/-- the wars that are there, and all else but what is read and tried -/
theorem Rl.ord {σ τ σ' τ' : Hp} (h : Rl σ τ) (hw : RWar 1 1 σ' τ') (hs : Ag [1, 2, 3, 4, 5, 6, 13, 14, 15, 16, 17, 18, 23, 25] σ σ') (h23 : σ' 23 1 = 0) (ht : ∀ k, k ∉ [0, 1, 2] → τ' k = τ k) (ht0 : ∀ j, j ∉ [6, 7, 8, 9, 10, 12, 14, 29] → τ' 0 j = τ 0 j) (h6 : τ' 0 6 = 0) : Rl σ' τ' := by
  obtain ⟨r1, r2, r3, ⟨r4, r5⟩, r6, r7⟩ := h
  have hc : EqC [1, 2, 3, 4, 5, 6, 13, 14, 15, 16, 17, 18, 23, 25] σ σ' := ⟨fun k hk _ => hs k hk, fun q => absurd (by decide) q, fun _ => hs 0 (by decide), by rw [hs 60 (by decide)], by rw [hs 42 (by decide)], by rw [hs 51 (by decide)]⟩
  have hm : EqM [0, 1, 2] τ τ' := ⟨fun k hk _ => ht k hk, fun q => absurd (by decide) q, ht0 15 (by decide)⟩
  have e0 := hs 0 (by decide)
  refine ⟨hw, r2.congr (hs 20 (by decide)) (hs 21 (by decide)) (ht 5 (by decide)) (ht 4 (by decide)), ⟨⟨0, by omega, h23, h6⟩, fun i hi => ?_⟩, ⟨r4.congr (hs _ (by decide)) (hs _ (by decide)) (ht _ (by decide)) (ht _ (by decide)), r5.congr (hs _ (by decide)) (hs _ (by decide)) (ht _ (by decide)) (ht _ (by decide))⟩, r6.congr (by rw [e0]) (fun j hj => hs _ (by simp; omega)) (ht0 61 (by decide)) (ht 3 (by decide)), r7.eq hc hm ⟨by rw [e0], by rw [e0]⟩ (by decide) (by decide)⟩
  rw [hs 24 (by decide), ht 6 (by decide)]
  exact r3.2 i hi
theorem sim_orders {σ τ : Hp} (h : Rl σ τ) (a1 : Int32) : ∃ r σ' τ', F_V_orders a1 σ = some (r, σ') ∧ F_M_orders a1 τ = some (r, τ') ∧ Rl σ' τ' := by
  obtain ⟨⟨m, hm, e1, e2⟩, hb⟩ := id h.2.2.1
  simp only [F_V_orders, F_M_orders, V_within, M_in, ob, b2_ite]
  by_cases h2 : wi a1 1 120 = true
  rotate_left
  · rw [if_neg h2, if_neg h2]; exact ⟨-1, σ, τ, rfl, rfl, h⟩
  rw [if_pos h2, if_pos h2]
  obtain ⟨n, hn1, hn, rfl⟩ := wi_from (a := 1) (M := 120) (m := 1) (n := 120) (by decide) (by decide) h2
  rw [C_has e1 hm (by omega), ob, e2]
  dsimp only
  rw [b2_ite]
  by_cases c : n ≤ m
  rotate_left
  · rw [if_neg (by simp [c]), if_neg (nI_ge (by omega) (by omega))]; exact ⟨-1, σ, τ, rfl, rfl, h⟩
  rw [if_pos (decide_eq_true c), if_pos (nI_le c (by omega))]
  obtain ⟨s1, c1, cp⟩ := copy_eq 13 1 (by omega) σ
  have cc : ∀ k, k ∉ [13, 14, 15, 16, 17, 18] → s1 k = σ k := fun k hk => cp.2.2 k (by revert hk; simp only [List.mem_cons, List.not_mem_nil, or_false]; omega)
  unfold F_X6_readOnto F_X8_begin F_M_beginsText
  rw [c1, ob, ob, ob, M_copies 1 2 (by decide), ob]
  obtain ⟨σ2, hσ2⟩ : ∃ σ2, σ2 = zu (zu (zu (zu s1 23 2 (nI n)) 23 3 0) 23 4 0) 25 1 0 := ⟨_, rfl⟩
  obtain ⟨τ1, hτ1⟩ : ∃ τ1, τ1 = zu (zu (zu (zu (zu τ 0 7 0) 0 8 (nI n)) 0 12 0) 0 14 0) 0 29 0 := ⟨_, rfl⟩
  rw [← hσ2, ← hτ1]
  obtain ⟨τ2, hτ2⟩ : ∃ τ2, τ2 = zr τ1 2 (fun j => if j < 100 then τ1 1 j else τ1 2 j) := ⟨_, rfl⟩
  rw [← hτ2]
  have t1k : ∀ k, k ≠ 0 → τ1 k = τ k := fun k hk => by rw [hτ1]; simp (disch := omega) only [zu_ne]
  have t10 : ∀ j, j ∉ [7, 8, 12, 14, 29] → τ1 0 j = τ 0 j := fun j hj => by
    have : j ≠ 7 ∧ j ≠ 8 ∧ j ≠ 12 ∧ j ≠ 14 ∧ j ≠ 29 := by revert hj; simp
    rw [hτ1]; simp (disch := omega) only [zu_self, upd_ne]
  have t2k : ∀ k, k ≠ 2 → τ2 k = τ1 k := fun k hk => by rw [hτ2, zr_ap, if_neg hk]
  have t22 : ∀ j, j < 100 → τ2 2 j = τ 1 j := fun j hj => by rw [hτ2, zr_ap, if_pos rfl, if_pos hj, t1k 1 (by decide)]
  have hC : OrC n s1 σ2 0 0 := by
    rw [hσ2]
    refine ⟨(((Ag.rf.zu (by decide)).zu (by decide)).zu (by decide)).zu (by decide), ?_, ?_, ?_⟩
    · simp (disch := omega) only [zu_ne, zu_self, upd_ne, upd_s]
    · simp (disch := omega) only [zu_ne, zu_self, upd_ne, upd_s]; rfl
    · rw [zu_self, upd_s]; rfl
  have hM : OrM τ2 τ2 0 0 := by
    refine ⟨⟨fun _ _ => rfl, fun _ _ => rfl⟩, ?_, ?_⟩
    · rw [t2k 0 (by decide), hτ1]; simp (disch := omega) only [zu_self, upd_ne, upd_s]; rfl
    · rw [t2k 0 (by decide), hτ1]; simp (disch := omega) only [zu_self, upd_s]; rfl
  have h8 : τ2 0 8 = nI n := by rw [t2k 0 (by decide), hτ1]; simp (disch := omega) only [zu_self, upd_ne, upd_s]
  have hW : RWar 13 1 σ2 τ2 := (h.1.cp cp).congr (fun j hj => by rw [hσ2]; simp (disch := omega) only [zu_ne]) (by rw [t2k 1 (by decide), t1k 1 (by decide)])
  have hwC : ∀ i, i < n → s1 24 i = σ 24 i := fun i _ => by rw [cc 24 (by decide)]
  have hwM : ∀ i, i < n → τ2 6 i &&& 255 = σ 24 i := fun i hi => by rw [t2k 6 (by decide), t1k 6 (by decide)]; exact (hb i (by omega)).1.symm
  have hwb : ∀ i, i < n → σ 24 i ≠ -1 := fun i hi e => by
    obtain ⟨r, hr, er⟩ := (hb i (by omega)).2
    rw [e] at er
    exact nI_m1 (show r < 2 ^ 31 by omega) er.symm
  have hFU : FU = 1000000 := rfl
  have key := ord_loop hn hwC h8 hwM hwb n 0 0 σ2 τ2 FU FU (fun q42 => L_M_orders_46 J_M_orders_86 FU q42.1 q42.2) (by omega) (by omega) (by omega) (by omega) (by omega) hC hM hW (fun _ _ _ => rfl)
  rcases key with ⟨f, s', t', k1, k2, k3, k4, k5, k6⟩ | ⟨l', s', t', k1, k2, k3, k4, k5, k6, k7⟩
  · rw [k1, k2, ob]
    dsimp only
    unfold F_X8_clear J_M_orders_86
    rw [ob, if_pos rfl, if_pos rfl, M_copies 2 1 (by decide), ob]
    have w1 : RWar 1 1 (zu s' 23 1 0) (zr (zu t' 0 6 0) 1 (fun j => if j < 100 then zu t' 0 6 0 2 j else zu t' 0 6 0 1 j)) := by
      have e2 : ∀ j, j < 100 → zu t' 0 6 0 2 j = τ 1 j := fun j hj => by rw [zu_ne _ _ _ (by decide), k5.1 2 (by decide), t22 j hj]
      have w0 : RWar 1 1 (zu s' 23 1 0) τ := h.1.congr (fun j hj => by rw [zu_ne _ _ _ (by omega), k3 _ (by simp; omega), cc _ (by simp; omega)]) rfl
      refine ⟨fun g hg => (w0.1 g hg).congr2 hg (fun j hj => ?_), ?_⟩
      · rw [zr_ap, if_pos rfl, if_pos hj, e2 j hj]
      · have := w0.2
        unfold RT at *
        rw [zr_ap, if_pos rfl]
        rw [if_pos (show (96 : Nat) < 100 by decide), if_pos (show (97 : Nat) < 100 by decide), if_pos (show (98 : Nat) < 100 by decide), if_pos (show (99 : Nat) < 100 by decide), e2 96 (by decide), e2 97 (by decide), e2 98 (by decide), e2 99 (by decide)]
        exact this
    have q1 : zu s' 23 1 0 23 4 = f := by rw [zu_self, upd_ne _ _ (by decide)]; exact k4
    have q2 : zr (zu t' 0 6 0) 1 (fun j => if j < 100 then zu t' 0 6 0 2 j else zu t' 0 6 0 1 j) 0 9 = f := by rw [zr_ap, if_neg (by decide), zu_self, upd_ne _ _ (by decide)]; exact k6
    rw [q1, q2]
    refine ⟨f, _, _, rfl, rfl, h.ord w1 (fun k hk => ?_) (by rw [zu_self, upd_s]) (fun k hk => ?_) (fun j hj => ?_) (by rw [zr_ap, if_neg (by decide), zu_self, upd_s])⟩
    · have q3 : k ∉ [13, 14, 15, 16, 17, 18, 23, 25] := by revert hk; simp only [List.mem_cons, List.not_mem_nil, or_false]; omega
      rw [zu_ne _ _ _ (fun e => hk (by rw [e]; decide)), k3 k q3, cc k (by revert hk; simp only [List.mem_cons, List.not_mem_nil, or_false]; omega)]
    · have q3 : k ≠ 0 ∧ k ≠ 1 ∧ k ≠ 2 := by revert hk; simp
      rw [zr_ap, if_neg q3.2.1, zu_ne _ _ _ q3.1, k5.1 k (by simp; omega), t2k k q3.2.2, t1k k q3.1]
    · have q3 : j ≠ 6 ∧ j ∉ [7, 9, 10, 29] ∧ j ∉ [7, 8, 12, 14, 29] := by revert hj; simp only [List.mem_cons, List.not_mem_nil, or_false]; omega
      rw [zr_ap, if_neg (by decide), zu_self, upd_ne _ _ q3.1, k5.2 j q3.2.1, t2k 0 (by decide), t10 j q3.2.2]
  · rw [k1, k2, ob]
    dsimp only
    unfold F_X8_clear J_M_orders_86
    rw [ob, if_neg (show ¬ (1 : Int32) = 0 by decide), if_neg (show ¬ (1 : Int32) = 0 by decide)]
    obtain ⟨s4, c4, cp4⟩ := copy_eq 1 13 (by omega) (zu s' 23 1 0)
    rw [c4, ob]
    have w0 : RWar 13 1 (zu s' 23 1 0) (zu t' 0 6 0) := k7.congr (fun j hj => zu_ne _ _ _ (by omega)) (zu_ne _ _ _ (by decide))
    have w1 := w0.cp cp4
    have c5 : ∀ k, k ∉ [1, 2, 3, 4, 5, 6] → s4 k = zu s' 23 1 0 k := fun k hk => cp4.2.2 k (by revert hk; simp only [List.mem_cons, List.not_mem_nil, or_false]; omega)
    have q1 : s4 25 1 = nI l' := by rw [c5 25 (by decide), zu_ne _ _ _ (by decide)]; exact k4
    have q2 : zu t' 0 6 0 0 29 = nI l' := by rw [zu_self, upd_ne _ _ (by decide)]; exact k6
    rw [q1, q2]
    refine ⟨nI l', s4, _, rfl, rfl, h.ord w1 (fun k hk => ?_) (by rw [c5 23 (by decide), zu_self, upd_s]) (fun k hk => ?_) (fun j hj => ?_) (by rw [zu_self, upd_s])⟩
    · have q3 : k ∉ [13, 14, 15, 16, 17, 18, 23, 25] := by revert hk; simp only [List.mem_cons, List.not_mem_nil, or_false]; omega
      rw [c5 k (by revert hk; simp only [List.mem_cons, List.not_mem_nil, or_false]; omega), zu_ne _ _ _ (fun e => hk (by rw [e]; decide)), k3 k q3, cc k (by revert hk; simp only [List.mem_cons, List.not_mem_nil, or_false]; omega)]
    · have q3 : k ≠ 0 ∧ k ≠ 1 ∧ k ≠ 2 := by revert hk; simp
      rw [zu_ne _ _ _ q3.1, k5.1 k (by simp; omega), t2k k q3.2.2, t1k k q3.1]
    · have q3 : j ≠ 6 ∧ j ∉ [7, 9, 10, 29] ∧ j ∉ [7, 8, 12, 14, 29] := by revert hj; simp only [List.mem_cons, List.not_mem_nil, or_false]; omega
      rw [zu_self, upd_ne _ _ q3.1, k5.2 j q3.2.1, t2k 0 (by decide), t10 j q3.2.2]
