-- bridge: the whole call
theorem ag_both {S : List Nat} {σ σ' : Hp} (h : Ag S σ σ') (k i : Nat) (x : Int32) : Ag S (zu σ k i x) (zu σ' k i x) := fun j hj => by
  by_cases q : j = k
  · subst q; rw [zu_self, zu_self, h j hj]
  · rw [zu_ne _ _ _ q, zu_ne _ _ _ q, h j hj]
theorem b82_un (k : Int32 → Int32 → Int32 → Int32 → Int32 → Hp → Option (Int32 × Hp)) (N : Nat) (a b c d e f : Int32) (σ : Hp) : L_M_bridge_82 k (N + 1) a b c d e f σ = B_M_bridge_82 k (fun x1 x2 x3 x4 x5 x6 σ => L_M_bridge_82 k N x1 x2 x3 x4 x5 x6 σ) a b c d e f σ := rfl
theorem b57_un (k : Int32 → Int32 → Int32 → Int32 → Hp → Option (Int32 × Hp)) (N : Nat) (a b c d e : Int32) (σ : Hp) : L_M_bridge_57 k (N + 1) a b c d e σ = B_M_bridge_57 k (fun x1 x2 x3 x4 x5 σ => L_M_bridge_57 k N x1 x2 x3 x4 x5 σ) a b c d e σ := rfl
section
variable {n : Nat} {w : Nat → Nat} {τ : Hp}
theorem m82 {k : Int32 → Int32 → Int32 → Int32 → Int32 → Hp → Option (Int32 × Hp)} {x1 x2 x3 x4 : Int32} {i : Nat} (hi : i < 12) (hM : ∀ t, t < 12 → τ 6 t &&& 255 = nI (w t)) (hw : ∀ t, t < 12 → w t < 256) : ∀ d x N, x + d = i → d < N → ((∃ t, x ≤ t ∧ t < i ∧ w t = w i) ∧ L_M_bridge_82 k N x1 x2 x3 x4 (nI i) (nI x) τ = some (-2, τ)) ∨ ((¬ ∃ t, x ≤ t ∧ t < i ∧ w t = w i) ∧ L_M_bridge_82 k N x1 x2 x3 x4 (nI i) (nI x) τ = k x1 x2 x3 x4 (nI i) τ) := by
  intro d
  induction d with
  | zero =>
    intro x N hx hN
    obtain ⟨N, rfl⟩ : ∃ N', N = N' + 1 := ⟨N - 1, by omega⟩
    refine Or.inr ⟨fun ⟨t, t1, t2, _⟩ => by omega, ?_⟩
    rw [b82_un]
    unfold B_M_bridge_82
    rw [if_pos (nI_le (by omega) (by omega))]
  | succ d ih =>
    intro x N hx hN
    obtain ⟨N, rfl⟩ : ∃ N', N = N' + 1 := ⟨N - 1, by omega⟩
    have w1 := hw x (by omega)
    have w2 := hw i hi
    rw [b82_un]
    unfold B_M_bridge_82
    rw [if_neg (nI_ge (by omega) (by omega)), M_octet (by omega), ob]
    dsimp only
    rw [M_octet (by omega), ob, hM x (by omega), hM i hi]
    dsimp only
    by_cases q : w x = w i
    · rw [if_pos (by rw [q])]
      exact Or.inl ⟨⟨x, Nat.le_refl _, by omega, q⟩, rfl⟩
    · rw [if_neg (nI_lit (by omega) (by omega) q), nI_1]
      rcases ih (x + 1) N (by omega) (by omega) with ⟨⟨t, t1, t2, t3⟩, e⟩ | ⟨h, e⟩
      · exact Or.inl ⟨⟨t, by omega, t2, t3⟩, e⟩
      · refine Or.inr ⟨fun ⟨t, t1, t2, t3⟩ => ?_, e⟩
        by_cases z : t = x
        · exact q (by rw [← z]; exact t3)
        · exact h ⟨t, by omega, t2, t3⟩
theorem m57 {k : Int32 → Int32 → Int32 → Int32 → Hp → Option (Int32 × Hp)} {x2 x3 x4 : Int32} (h3 : n ≤ 3) (hM : ∀ t, t < 12 → τ 6 t &&& 255 = nI (w t)) (hw : ∀ t, t < 12 → w t < 256) : ∀ j i N, i + j = 4 * n → j < N → (∀ t, t < i → ¬ bad w t) → ((∀ t, t < 4 * n → ¬ bad w t) ∧ L_M_bridge_57 k N (nI n) x2 x3 x4 (nI i) τ = k (nI n) x2 x3 x4 τ) ∨ ((∃ t, t < 4 * n ∧ bad w t) ∧ L_M_bridge_57 k N (nI n) x2 x3 x4 (nI i) τ = some (-2, τ)) := by
  intro j
  induction j with
  | zero =>
    intro i N hi hN hg
    obtain ⟨N, rfl⟩ : ∃ N', N = N' + 1 := ⟨N - 1, by omega⟩
    refine Or.inl ⟨fun t ht => hg t (by omega), ?_⟩
    rw [b57_un]
    unfold B_M_bridge_57
    rw [nl4, pk_mul, if_pos (nI_le (by omega) (by omega))]
  | succ j ih =>
    intro i N hi hN hg
    obtain ⟨N, rfl⟩ : ∃ N', N = N' + 1 := ⟨N - 1, by omega⟩
    have w2 := hw i (by omega)
    rw [b57_un]
    unfold B_M_bridge_57
    rw [nl4, pk_mul, if_neg (nI_ge (by omega) (by omega)), M_octet (by omega), ob, hM i (by omega)]
    dsimp only
    by_cases q : 52 ≤ w i
    · rw [if_neg (show ¬ nI (w i) ≤ 51 from nI_ge (b := w i) (a := 51) (by omega) (by omega))]
      exact Or.inr ⟨⟨i, by omega, Or.inl q⟩, rfl⟩
    rw [if_pos (show nI (w i) ≤ 51 from nI_le (b := 51) (by omega) (by omega))]
    rcases m82 (k := J_M_bridge_113 (fun x1 x2 x3 x4 x5 σ => L_M_bridge_57 k N x1 x2 x3 x4 x5 σ)) (x1 := nI n) (x2 := x2) (x3 := x3) (x4 := x4) (show i < 12 by omega) hM hw i 0 FU (by omega) (FU_lt (by omega)) with ⟨⟨t, t1, t2, t3⟩, e⟩ | ⟨hd, e⟩
    · rw [show L_M_bridge_82 (J_M_bridge_113 (fun x1 x2 x3 x4 x5 σ => L_M_bridge_57 k N x1 x2 x3 x4 x5 σ)) FU (nI n) x2 x3 x4 (nI i) 0 τ = _ from e]
      exact Or.inr ⟨⟨i, by omega, Or.inr ⟨t, t2, t3⟩⟩, rfl⟩
    · rw [show L_M_bridge_82 (J_M_bridge_113 (fun x1 x2 x3 x4 x5 σ => L_M_bridge_57 k N x1 x2 x3 x4 x5 σ)) FU (nI n) x2 x3 x4 (nI i) 0 τ = _ from e]
      unfold J_M_bridge_113
      rw [nI_1]
      refine ih (i + 1) N (by omega) (by omega) (fun t ht => ?_)
      by_cases z : t = i
      · rw [z]
        rintro (y | ⟨t', y1, y2⟩)
        · exact q y
        · exact hd ⟨t', Nat.zero_le _, y1, y2⟩
      · exact hg t (by omega)
end
theorem sim_bridge {σ τ : Hp} (h : Rl σ τ) (a1 a2 a3 a4 : Int32) : ∃ r σ' τ', F_V_bridge a1 a2 a3 a4 σ = some (r, σ') ∧ F_M_bridge a1 a2 a3 a4 τ = some (r, τ') ∧ Rl σ' τ' := by
  obtain ⟨⟨m, hm, e1, e2⟩, hb⟩ := id h.2.2.1
  simp only [F_V_bridge, F_M_bridge, V_within, M_in, ob, b2_ite]
  by_cases h1 : wi a1 1 3 = true
  rotate_left
  · rw [if_neg h1, if_neg h1]; exact ⟨-1, σ, τ, rfl, rfl, h⟩
  by_cases h2 : wi a2 0 4 = true
  rotate_left
  · rw [if_pos h1, if_pos h1, if_neg h2, if_neg h2]; exact ⟨-1, σ, τ, rfl, rfl, h⟩
  by_cases h3 : wi a3 0 3 = true
  rotate_left
  · rw [if_pos h1, if_pos h1, if_pos h2, if_pos h2, if_neg h3, if_neg h3]; exact ⟨-1, σ, τ, rfl, rfl, h⟩
  by_cases h4 : wi a4 0 1 = true
  rotate_left
  · rw [if_pos h1, if_pos h1, if_pos h2, if_pos h2, if_pos h3, if_pos h3, if_neg h4, if_neg h4]; exact ⟨-1, σ, τ, rfl, rfl, h⟩
  rw [if_pos h1, if_pos h1, if_pos h2, if_pos h2, if_pos h3, if_pos h3, if_pos h4, if_pos h4]
  obtain ⟨n, hn1, hn3, rfl⟩ := wi_from (a := 1) (M := 3) (m := 1) (n := 3) (by decide) (by decide) h1
  obtain ⟨tr, htr, rfl⟩ := wi_nat (M := 4) (n := 4) (by decide) h2
  obtain ⟨st, hst, rfl⟩ := wi_nat (M := 3) (n := 3) (by decide) h3
  obtain ⟨fl, hfl, rfl⟩ := wi_nat (M := 1) (n := 1) (by decide) h4
  rw [nl4, pk_mul, C_has e1 hm (by omega), ob, e2]
  dsimp only
  rw [b2_ite]
  by_cases c : 4 * n ≤ m
  rotate_left
  · rw [if_neg (by simp [c]), if_neg (nI_ge (by omega) (by omega))]; exact ⟨-1, σ, τ, rfl, rfl, h⟩
  rw [if_pos (decide_eq_true c), if_pos (nI_le c (by omega))]
  obtain ⟨w, hwd⟩ : ∃ w : Nat → Nat, w = fun t => (σ 24 t).toNatClampNeg := ⟨_, rfl⟩
  have hw : ∀ t, t < 12 → σ 24 t = nI (w t) ∧ w t < 256 := fun t ht => by
    obtain ⟨-, r, r1, r2⟩ := hb t (by omega)
    have : w t = r := by rw [hwd]; show (σ 24 t).toNatClampNeg = r; rw [r2, nI_clamp (by omega)]
    rw [this]; exact ⟨r2, r1⟩
  have hM : ∀ t, t < 12 → zu τ 0 6 0 6 t &&& 255 = nI (w t) := fun t ht => by
    rw [zu_ne _ _ _ (by decide), ← (hb t (by omega)).1, (hw t ht).1]
  have ref := m57 (k := J_M_bridge_119) (x2 := nI tr) (x3 := nI st) (x4 := nI fl) hn3 hM (fun t ht => (hw t ht).2) (4 * n) 0 FU (by omega) (FU_lt (by omega)) (fun t ht => by omega)
  have cls := dl_loop (n := n) (tr := tr) (w := w) hn1 hn3 (fun t ht => (hw t ht).2) (4 * n) 0 FU (Int64.ofNat 0) (zu (zu σ 39 1 (nI tr)) 39 2 0) (by omega) (FU_lt (by omega)) (fun t ht => by rw [zu_ne _ _ _ (by decide), zu_ne _ _ _ (by decide)]; exact (hw t ht).1) (fun t ht => by omega) (fun x hx => by rw [q_0 x (by omega)]; exact ⟨fun z => absurd z (by decide), fun ⟨t, t1, _⟩ => by omega⟩) ⟨by rw [zu_self, upd_ne _ _ (by decide), zu_self, upd_s], fun s _ _ z => by omega, fun s _ => by rw [zu_self, upd_s, b_0, decide_eq_false (by omega)]⟩
  have ag0 : Ag [39, 40] σ (zu (zu σ 39 1 (nI tr)) 39 2 0) := (Ag.rf.zu (by decide)).zu (by decide)
  unfold F_X0_deal
  rcases cls with ⟨σ1, s1, s2, s3, good⟩ | ⟨σ1, s1, s2, s3⟩
  rotate_left
  · obtain ⟨t, t1, t2⟩ := s3
    rcases ref with ⟨hg, -⟩ | ⟨-, e⟩
    · exact absurd t2 (hg t t1)
    · rw [show L_X0_deal_16 FU (nI n) (Int64.ofNat 0) 0 (zu (zu σ 39 1 (nI tr)) 39 2 0) = _ from s1, ob, show L_M_bridge_57 J_M_bridge_119 FU (nI n) (nI tr) (nI st) (nI fl) 0 (zu τ 0 6 0) = _ from e]
      dsimp only
      unfold F_X8_clear
      rw [ob, if_pos rfl]
      exact ⟨-2, _, _, rfl, rfl, h.clear.sc (S := [39, 40]) (T := []) (ag_both (ag0.tr s2 [39, 40] (fun _ z => z) (fun _ z => z)) 23 1 0) Ag.rf (by decide) (by decide)⟩
  rcases ref with ⟨-, e⟩ | ⟨⟨t, t1, t2⟩, -⟩
  rotate_left
  · exact absurd t2 (good t t1)
  rw [show L_X0_deal_16 FU (nI n) (Int64.ofNat 0) 0 (zu (zu σ 39 1 (nI tr)) 39 2 0) = _ from s1, ob, show L_M_bridge_57 J_M_bridge_119 FU (nI n) (nI tr) (nI st) (nI fl) 0 (zu τ 0 6 0) = _ from e]
  dsimp only
  unfold F_X8_clear
  rw [ob, if_neg (show ¬ (1 : Int32) = 0 by decide)]
  obtain ⟨cd, hcd⟩ : ∃ cd : Nat → Nat, cd = fun s => w (n * (s / 3) + s % 3) := ⟨_, rfl⟩
  have ecd : ∀ s, cd s = w (n * (s / 3) + s % 3) := fun s => by rw [hcd]
  have cdl : ∀ s, s < 12 → s % 3 < n → n * (s / 3) + s % 3 < 4 * n ∧ cd s < 52 := fun s x1 x2 => by
    have := Nat.mul_le_mul_left n (show s / 3 ≤ 3 by omega)
    refine ⟨by omega, ?_⟩
    rw [ecd]
    have nb := good (n * (s / 3) + s % 3) (by omega)
    exact Nat.lt_of_not_le (fun z => nb (Or.inl z))
  obtain ⟨d1, d2, d3⟩ := s3
  have hC : CC cd tr (dlN n) (zu σ1 23 1 0) := by
    refine ⟨by rw [zu_ne _ _ _ (by decide)]; exact d1, by omega, fun s hs => ?_⟩
    have hs' : s < 12 ∧ s % 3 < n := of_decide_eq_true hs
    obtain ⟨x1, x2⟩ := cdl s hs'.1 hs'.2
    exact ⟨hs'.1, by rw [zu_ne _ _ _ (by decide), ecd]; exact d2 s hs'.1 hs'.2 x1, x2⟩
  have hBm : Bm (zu σ1 23 1 0 39 2) (dlN n) := by
    refine ⟨fun i hi => ?_, fun i hi => decide_eq_false (by omega)⟩
    rw [zu_ne _ _ _ (by decide), d3 i hi]
    unfold dlN
    by_cases z : i < 12 ∧ i % 3 < n
    · rw [decide_eq_true z, decide_eq_true (show i < 12 ∧ i % 3 < n ∧ n * (i / 3) + i % 3 < 4 * n from ⟨z.1, z.2, (cdl i z.1 z.2).1⟩)]
    · rw [decide_eq_false z, decide_eq_false (fun y => z ⟨y.1, y.2.1⟩)]
  have hBx : Bx n tr cd (zu (zu (zu τ 0 6 0) 0 56 (nI n)) 0 57 (nI tr)) := by
    refine ⟨by rw [zu_self, upd_ne _ _ (by decide), zu_self, upd_s], by rw [zu_self, upd_s], ⟨hn1, hn3, by omega⟩, fun q k hq hk => ?_⟩
    have := nq_lt hn3 hq hk
    have x1 : (3 * q + k) / 3 = q := by omega
    have x2 : (3 * q + k) % 3 = k := by omega
    have x3 := cdl (3 * q + k) (by omega) (by omega)
    refine ⟨?_, x3.2⟩
    rw [zu_ne _ _ _ (by decide), zu_ne _ _ _ (by decide), hM _ (by omega), ecd, x1, x2]
  have hc12 := dlN_c12 hn1 hn3
  obtain ⟨r, hr⟩ : ∃ r, 4 * n = r + 1 := ⟨4 * n - 1, by omega⟩
  obtain ⟨σ3, p1, p2, p3⟩ := C_playFrom (cd := cd) (tr := tr) (r := r) (pl := st) (by omega) (by omega) (by rw [hc12, hr]) hC hBm
  obtain ⟨τ3, y, q1, q2, q3, q4, q5, q6⟩ := M_playsOut (st := st) (by omega) hBx
  rw [← hr, q4] at p3
  obtain ⟨p4, p5, -, -⟩ := p3
  rw [p1, ob]
  unfold J_M_bridge_119
  rw [q1, ob]
  have A : Ag [39, 40] (zu σ 23 1 0) σ3 := (ag_both (ag0.tr s2 [39, 40] (fun _ z => z) (fun _ z => z)) 23 1 0).tr p2 [39, 40] (fun _ z => z) (by decide)
  have fin : Rl σ3 τ3 := by
    refine h.clear.eq ⟨fun k _ hk => ?_, fun _ => by rw [A 23 (by decide)], fun _ => A 0 (by decide), by rw [A 60 (by decide)], by rw [A 42 (by decide)], by rw [A 51 (by decide)]⟩ ⟨fun k _ hk => ?_, fun _ => ⟨?_, ?_⟩, ?_⟩
    · exact A k (by revert hk; simp only [List.mem_cons, List.not_mem_nil, or_false]; omega)
    · have k0 : k ∉ [0, 30, 31, 32, 33, 34, 35] ∧ k ≠ 0 := by
        revert hk; simp only [List.mem_cons, List.not_mem_nil, or_false]; omega
      rw [q2 k k0.1, zu_ne _ _ _ k0.2, zu_ne _ _ _ k0.2]
    · rw [q3 6 (by decide), zu_self, upd_ne _ _ (by decide), zu_self, upd_ne _ _ (by decide)]
    · rw [q3 61 (by decide), zu_self, upd_ne _ _ (by decide), zu_self, upd_ne _ _ (by decide)]
    · rw [q3 15 (by decide), zu_self, upd_ne _ _ (by decide), zu_self, upd_ne _ _ (by decide)]
  by_cases z : nI fl = 0
  · rw [if_pos z, if_pos z, gd_true (show inb 0 13 = true from rfl)]
    exact ⟨nI y.1, σ3, τ3, by rw [p4], by rw [show τ3 32 (Int32.toNatClampNeg 0) = nI y.1 from q5], fin⟩
  · rw [if_neg z, if_neg z, gd_true (show inb 0 13 = true from rfl)]
    exact ⟨nI y.2, σ3, τ3, by rw [p5], by rw [show τ3 34 (Int32.toNatClampNeg 0) = nI y.2 from q6], fin⟩
