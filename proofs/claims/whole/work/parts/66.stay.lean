-- who goes in, who is called to dinner
theorem RWar.tm {o : Nat} {σ σ' τ τ' : Hp} (h : RWar o 1 σ τ) (hs : ∀ j, 1 ≤ j → j ≤ 5 → σ' (o + j) = σ (o + j)) (ht : ∀ j, j < 96 → τ' 1 j = τ 1 j) (hT : RT o 1 σ' τ') : RWar o 1 σ' τ' := by
  refine ⟨fun i hi => ?_, hT⟩
  have := h.1 i hi
  unfold RG at *
  rw [hs 1 (by omega) (by omega), hs 2 (by omega) (by omega), hs 3 (by omega) (by omega), hs 4 (by omega) (by omega), hs 5 (by omega) (by omega), ht i (by omega), ht (16 + i) (by omega), ht (32 + i) (by omega), ht (48 + i) (by omega), ht (64 + i) (by omega), ht (80 + i) (by omega)]
  exact this
section
variable {o L : Nat} {σ0 τ0 σ τ : Hp}
theorem in_eq (c : Cxt o L σ0 τ0) (w : Wt o L σ0 τ0 σ τ) {g m : Nat} (hg : g < 16) (hm1 : 1 ≤ m) (hm : m ≤ 120) (h45 : τ 0 45 = nI m) (ht : τ 1 g = 1) (hs : τ 1 (80 + g) = 0) : ∃ σ' τ', J_X2_stayOrGo_34 o (nI g) (nI m) σ = some σ' ∧ J_M_turnOf_137 (nI g) τ = some τ' ∧ Wt o L σ0 τ0 σ' τ' ∧ Kp τ τ' := by
  have ho := c.1
  have hL := c.2.1
  obtain ⟨w1, w2, w3, w4⟩ := w
  have hG := w3.1 g hg
  have hst : σ (o + 5) g = 0 := by
    obtain ⟨-, -, -, -, g5, -⟩ := hG
    rcases g5 with ⟨-, b, -⟩ | ⟨a, -⟩
    · rw [b]; exact hs
    · rw [ht] at a; exact absurd a (by decide)
  obtain ⟨r1, r2, r3, r4, r5⟩ := id w4
  -- the new war
  have war : ∀ (s t : Hp), (∀ k, k ≠ o + 5 → k ≠ 26 → k ≠ 27 → s k = σ k) → s (o + 5) = upd (σ (o + 5)) g 2 → t 1 = upd (τ 1) (80 + g) 2 → RWar o 1 s t := by
    intro s t h1 h2 h3
    refine w3.pt g (fun j p1 p2 i hi hne => ?_) (fun j p1 p2 => ?_) ?_ ?_
    · by_cases j5 : j = 5
      · subst j5; rw [h2, upd_ne _ _ hne]
      · rw [h1 _ (by omega) (by omega) (by omega)]
    · rw [h3, upd_ne _ _ (by omega)]
    · unfold RG at *
      rw [h1 (o + 1) (by omega) (by omega) (by omega), h1 (o + 2) (by omega) (by omega) (by omega), h1 (o + 3) (by omega) (by omega) (by omega), h1 (o + 4) (by omega) (by omega) (by omega), h2, h3, upd_s, upd_ne _ _ (show g ≠ 80 + g by omega), upd_ne _ _ (show 16 + g ≠ 80 + g by omega), upd_ne _ _ (show 32 + g ≠ 80 + g by omega), upd_ne _ _ (show 48 + g ≠ 80 + g by omega), upd_ne _ _ (show 64 + g ≠ 80 + g by omega), upd_s]
      obtain ⟨g1, g2, g3, g4, -, g6⟩ := hG
      exact ⟨g1, g2, g3, g4, Or.inl ⟨ht, rfl, Or.inr (Or.inr rfl)⟩, g6⟩
    · have := w3.2
      unfold RT at *
      rw [h1 o (by omega) (by omega) (by omega), h3, upd_ne _ _ (show 96 ≠ 80 + g by omega), upd_ne _ _ (show 97 ≠ 80 + g by omega), upd_ne _ _ (show 98 ≠ 80 + g by omega), upd_ne _ _ (show 99 ≠ 80 + g by omega)]
      exact this
  have bh : ∀ (s t : Hp), s 27 = upd (σ 27) g (nI m) → t 26 = upd (τ 26) g (nI m) → ∀ i, i < 16 → ((s 27 i = 0 ∧ t 26 i = -2) ∨ ∃ m : Nat, 1 ≤ m ∧ m ≤ 120 ∧ s 27 i = nI m ∧ t 26 i = nI m) := by
    intro s t h1 h2 i hi
    rw [h1, h2]
    by_cases q : i = g
    · subst q; rw [upd_s, upd_s]; exact Or.inr ⟨m, hm1, hm, rfl, rfl⟩
    · rw [upd_ne _ _ q, upd_ne _ _ q]; exact r5 i hi
  rcases r4 with ⟨a1, a2⟩ | ⟨g0, m0, b1, b2', b3, b4, b5, b6, b7, b8⟩
  · refine ⟨zu (zu (zu (zu σ (o + 5) g 2) 27 g (nI m)) 26 2 (σ 26 2 + 1)) 26 5 (nI g), zu (zu (zu (zu (zu τ 1 (80 + g) 2) 0 40 (τ 0 40 + 1)) 26 g (nI m)) 0 43 (nI g)) 0 44 (nI m), ?_, ?_, ⟨?_, ?_, ?_, ?_⟩, ?_⟩
    · unfold J_X2_stayOrGo_34
      simp (disch := omega) only [inb_nI, gd_tt, nI_clamp, zu_self, zu_ne, upd_ne, a1, if_true]
    · unfold J_M_turnOf_137 F_M_goesIn
      simp (disch := omega) only [idx80, inb_nI, gd_tt, nI_clamp, ob, zu_self, zu_ne, upd_ne, a2, h45, if_true]
    · exact (((w1.zu (fw_yes (by omega)) (by omega)).zu (fw_yes (by omega)) (by omega)).zu (fw_yes (by omega)) (by omega)).zu (fw_yes (by omega)) (by omega)
    · exact ((((w2.zu1 (by omega)).zu0 (by omega)).zu26).zu0 (by omega)).zu0 (by omega)
    · refine war _ _ (fun k h1 h2 h3 => ?_) ?_ ?_
      · rw [zu_ne _ _ _ h2, zu_ne _ _ _ h2, zu_ne _ _ _ h3, zu_ne _ _ _ h1]
      · rw [zu_ne _ _ _ (by omega), zu_ne _ _ _ (by omega), zu_ne _ _ _ (by omega), zu_self]
      · rw [zu_ne _ _ _ (by decide), zu_ne _ _ _ (by decide), zu_ne _ _ _ (by decide), zu_ne _ _ _ (by decide), zu_self]
    · refine ⟨?_, ?_, ?_, Or.inr ⟨g, m, hg, hm1, hm, ?_, ?_, ?_, ?_, ?_⟩, bh _ _ ?_ ?_⟩
      · simp (disch := omega) only [zu_self, zu_ne, upd_ne, upd_s, r1]
      · simp (disch := omega) only [zu_self, zu_ne, upd_ne, upd_s, r2]
      · simp (disch := omega) only [zu_self, zu_ne, upd_ne, upd_s, r3]
      · simp (disch := omega) only [zu_self, upd_s]
      · simp (disch := omega) only [zu_self, upd_s, upd_ne]
      · simp (disch := omega) only [zu_self, upd_s, zu_ne]
      · simp (disch := omega) only [zu_self, upd_s]
      · simp (disch := omega) only [zu_self, upd_s, zu_ne]
      · simp (disch := omega) only [zu_self, zu_ne]
      · simp (disch := omega) only [zu_self, zu_ne]
    · refine ⟨?_, ?_, ?_, ?_⟩ <;> simp (disch := omega) only [zu_self, zu_ne, upd_ne]
  · have hne : g0 ≠ g := fun e => by
      rw [e, hst] at b8; exact absurd b8 (by decide)
    have n1 : ¬ σ 26 5 = -1 := by rw [b4]; exact nI_m1 (by omega)
    have n2 : ¬ τ 0 43 = -1 := by rw [b5]; exact nI_m1 (by omega)
    refine ⟨zu (zu (zu (zu σ (o + 5) g 2) 27 g (nI m)) 26 2 (σ 26 2 + 1)) 26 5 (σ 26 5), zu (zu (zu τ 1 (80 + g) 2) 0 40 (τ 0 40 + 1)) 26 g (nI m), ?_, ?_, ⟨?_, ?_, ?_, ?_⟩, ?_⟩
    · unfold J_X2_stayOrGo_34
      simp (disch := omega) only [inb_nI, gd_tt, nI_clamp, zu_self, zu_ne, upd_ne, n1, if_false]
    · unfold J_M_turnOf_137 F_M_goesIn
      simp (disch := omega) only [idx80, inb_nI, gd_tt, nI_clamp, ob, zu_self, zu_ne, upd_ne, n2, h45, if_false]
    · exact (((w1.zu (fw_yes (by omega)) (by omega)).zu (fw_yes (by omega)) (by omega)).zu (fw_yes (by omega)) (by omega)).zu (fw_yes (by omega)) (by omega)
    · exact ((w2.zu1 (by omega)).zu0 (by omega)).zu26
    · refine war _ _ (fun k h1 h2 h3 => ?_) ?_ ?_
      · rw [zu_ne _ _ _ h2, zu_ne _ _ _ h2, zu_ne _ _ _ h3, zu_ne _ _ _ h1]
      · rw [zu_ne _ _ _ (by omega), zu_ne _ _ _ (by omega), zu_ne _ _ _ (by omega), zu_self]
      · rw [zu_ne _ _ _ (by decide), zu_ne _ _ _ (by decide), zu_self]
    · refine ⟨?_, ?_, ?_, Or.inr ⟨g0, m0, b1, b2', b3, ?_, ?_, ?_, ?_, ?_⟩, bh _ _ ?_ ?_⟩
      · simp (disch := omega) only [zu_self, zu_ne, upd_ne, upd_s, r1]
      · simp (disch := omega) only [zu_self, zu_ne, upd_ne, upd_s, r2]
      · simp (disch := omega) only [zu_self, zu_ne, upd_ne, upd_s, r3]
      · simp (disch := omega) only [zu_self, upd_s, b4]
      · simp (disch := omega) only [zu_self, zu_ne, upd_s, upd_ne, b5]
      · simp (disch := omega) only [zu_self, upd_ne, zu_ne, b6]
      · simp (disch := omega) only [zu_self, zu_ne, upd_s, upd_ne, b7]
      · simp (disch := omega) only [zu_self, upd_ne, zu_ne, b8]
      · simp (disch := omega) only [zu_self, zu_ne]
      · simp (disch := omega) only [zu_self, zu_ne]
    · refine ⟨?_, ?_, ?_, ?_⟩ <;> simp (disch := omega) only [zu_self, zu_ne, upd_ne]
/-- the law's cells alone have changed -/
theorem Wt.fr (c : Cxt o L σ0 τ0) (w : Wt o L σ0 τ0 σ τ) {σ' τ' : Hp} (hs : Ag [L, L + 7, L + 8] σ σ') (hs2 : ∀ j, j ≠ 10 → σ' L j = σ L j) (ht : Ag [18, 19] τ τ') : Wt o L σ0 τ0 σ' τ' ∧ Kp τ τ' := by
  have ho := c.1
  have hL := c.2.1
  obtain ⟨w1, w2, w3, w4⟩ := w
  have t0 : τ' 0 = τ 0 := ht 0 (by decide)
  have t1 : τ' 1 = τ 1 := ht 1 (by decide)
  have s : ∀ k, k < 42 → σ' k = σ k := fun k hk => hs k (by simp; omega)
  refine ⟨⟨w1.tr ⟨fun k hk => hs k (fun h => hk ?_), hs2⟩, w2.tr ⟨ht.tr Ag.rf (T := []) _ (by decide) (by decide), fun j _ => by rw [t0], fun j _ => by rw [t1]⟩, w3.congr (fun j hj => s _ (by omega)) t1, ?_⟩, by unfold Kp; rw [t0, t1]; exact ⟨rfl, rfl, rfl, rfl⟩⟩
  · simp only [fwL, List.mem_cons, List.not_mem_nil, or_false] at h ⊢
    omega
  · obtain ⟨r1, r2, r3, -⟩ := id w4
    exact w4.congr (by rw [s 26 (by omega), t0]; exact r1) (by rw [s 26 (by omega), t0]; exact r2) (by rw [s 26 (by omega), t0]; exact r3) (by rw [s 26 (by omega)]) (s 27 (by omega)) (fun i hi => by rw [s (o + 5) (by omega)]; exact hi) (by rw [t0]) (by rw [t0]) (ht 26 (by decide))
theorem Kp.tr {a b d : Hp} (h : Kp a b) (g : Kp b d) : Kp a d := ⟨g.1.trans h.1, g.2.1.trans h.2.1, g.2.2.1.trans h.2.2.1, g.2.2.2.trans h.2.2.2⟩
/-- the next number that is drawn -/
theorem draw_n {r : Nat} (h : r ≤ 65535) : (25173 * nI r + 13849) &&& 65535 = nI ((25173 * r + 13849) % 65536) ∧ jrem (25173 * nI r + 13849) 65536 = nI ((25173 * r + 13849) % 65536) := by
  have e : (25173 : Int32) * nI r + 13849 = nI (25173 * r + 13849) := by
    rw [show (25173 : Int32) = nI 25173 from rfl, show (13849 : Int32) = nI 13849 from rfl, pk_mul, nI_add]
  rw [e]
  exact ⟨pk_andN (by omega) 16 (by decide), jrem_nI (d := 65536) (by omega) (by omega) (by omega)⟩
theorem din_eq (c : Cxt o L σ0 τ0) (w : Wt o L σ0 τ0 σ τ) {g : Nat} (hg : g < 16) (ht : τ 1 g = 1) (hs : τ 1 (80 + g) = 0) : Wt o L σ0 τ0 (zu (zu σ (o + 5) g 1) 26 3 (σ 26 3 + 1)) (zu (zu τ 1 (80 + g) 1) 0 41 (τ 0 41 + 1)) ∧ Kp τ (zu (zu τ 1 (80 + g) 1) 0 41 (τ 0 41 + 1)) := by
  have ho := c.1
  have hL := c.2.1
  obtain ⟨w1, w2, w3, w4⟩ := w
  have hG := w3.1 g hg
  have hst : σ (o + 5) g = 0 := by
    obtain ⟨-, -, -, -, g5, -⟩ := hG
    rcases g5 with ⟨-, b, -⟩ | ⟨a, -⟩
    · rw [b]; exact hs
    · rw [ht] at a; exact absurd a (by decide)
  refine ⟨⟨(w1.zu (fw_yes (by omega)) (by omega)).zu (fw_yes (by omega)) (by omega), (w2.zu1 (by omega)).zu0 (by omega), ?_, ?_⟩, ?_⟩
  · refine w3.pt g (fun j p1 p2 i hi hne => ?_) (fun j p1 p2 => ?_) ?_ ?_
    · rw [zu_ne _ _ _ (by omega)]
      by_cases j5 : j = 5
      · subst j5; rw [zu_self, upd_ne _ _ hne]
      · rw [zu_ne _ _ _ (by omega)]
    · rw [zu_ne _ _ _ (by decide), zu_self, upd_ne _ _ (by omega)]
    · unfold RG at *
      simp (disch := omega) only [zu_ne, zu_self, upd_s, upd_ne]
      obtain ⟨g1, g2, g3, g4, -, g6⟩ := hG
      exact ⟨g1, g2, g3, g4, Or.inl ⟨ht, trivial, Or.inr (Or.inl trivial)⟩, g6⟩
    · have := w3.2
      unfold RT at *
      simp (disch := omega) only [zu_ne, zu_self, upd_ne]
      exact this
  · obtain ⟨r1, r2, r3, -⟩ := id w4
    refine w4.congr ?_ ?_ ?_ ?_ ?_ (fun i hi => ?_) ?_ ?_ ?_
    · simp (disch := omega) only [zu_ne, zu_self, upd_s, upd_ne, r1]
    · simp (disch := omega) only [zu_ne, zu_self, upd_s, upd_ne, r2]
    · simp (disch := omega) only [zu_ne, zu_self, upd_s, upd_ne, r3]
    · simp (disch := omega) only [zu_ne, zu_self, upd_s, upd_ne]
    · simp (disch := omega) only [zu_ne]
    · have hi' : i ≠ g := fun e => by rw [e, hst] at hi; exact absurd hi (by decide)
      simp (disch := omega) only [zu_ne, zu_self, upd_ne]
      exact hi
    · simp (disch := omega) only [zu_ne, zu_self, upd_ne]
    · simp (disch := omega) only [zu_ne, zu_self, upd_ne]
    · simp (disch := omega) only [zu_ne]
  · refine ⟨?_, ?_, ?_, ?_⟩ <;> simp (disch := omega) only [zu_self, zu_ne, upd_ne]
theorem stay_eq (c : Cxt o L σ0 τ0) (w : Wt o L σ0 τ0 σ τ) {g m : Nat} (hg : g < 16) (hm1 : 1 ≤ m) (hm : m ≤ 120) (h45 : τ 0 45 = nI m) (ht : τ 1 g = 1) (hs : τ 1 (80 + g) = 0) : ∃ σ' τ', F_X2_stayOrGo o L (nI g) (nI m) σ = some σ' ∧ tlM (nI g) τ = some τ' ∧ Wt o L σ0 τ0 σ' τ' ∧ Kp τ τ' := by
  have ho := c.1
  have hL := c.2.1
  have hlv := w.lv c hg ht
  have hl := w.law c
  obtain ⟨s1, a1, a2, a3⟩ := C_look (o := o) (L := L) (by omega) hL hg σ
  obtain ⟨t1, m1, m2, m3⟩ := M_feels hg τ
  have hval : ∀ i, i < 11 → s1 (L + 7) i = t1 19 i := fun i hi => by rw [a3 i hi, m3 i hi]; exact hlv i hi
  have l1 : RLaw1 L s1 t1 := hl.congr (by rw [a2 L (by simp)]) (fun j h1 h2 => a2 _ (by simp; omega)) (by rw [m2 0 (by decide)]) (fun j h1 h2 => m2 j (by simp; omega))
  obtain ⟨wA, kA⟩ := w.fr c (σ' := s1) (τ' := t1) (a2.tr Ag.rf (T := []) _ (by simp) (by simp)) (fun j _ => by rw [a2 L (by simp)]) (m2.tr Ag.rf (T := []) _ (by decide) (by decide))
  have tt : t1 1 = τ 1 := m2 1 (by decide)
  have hG := wA.2.2.1.1 g hg
  obtain ⟨g1, g2, g3, g4, g5, g6, ⟨x, hx, ex⟩, ⟨y, hy, ey⟩, g9⟩ := id hG
  unfold F_X2_stayOrGo tlM
  rw [a1, m1, ob, ob]
  try dsimp only
  simp (disch := omega) only [idx32, idx48, idx80, inb_nI, gd_tt, nI_clamp]
  rw [g2, g3, ex, ey, nl99]
  obtain ⟨σi, τi, i1, i2, i3, i4⟩ := in_eq c wA hg hm1 hm (kA.1.trans h45) (by rw [tt]; exact ht) (by rw [tt]; exact hs)
  by_cases q1 : x = 99
  · rw [if_pos (nI_le (by omega) (by omega)), if_pos (by rw [q1])]
    exact ⟨σi, τi, i1, i2, i3, kA.tr i4⟩
  rw [if_neg (nI_ge (by omega) (by omega)), if_neg (fun e => q1 ((nI_eq (by omega) (by omega)).mp e))]
  by_cases q2 : y = 0
  · rw [if_pos (by rw [q2]; decide), if_pos (by rw [q2]; rfl)]
    exact ⟨σi, τi, i1, i2, i3, kA.tr i4⟩
  rw [if_neg (nI_nle (by omega) (by omega)), if_neg (nI_ne0 (by omega) (by omega))]
  obtain ⟨b, s2, t2, p1, p2, p3, p4⟩ := send_eq l1 hval
  rw [p1, p2, ob, ob]
  try dsimp only
  rw [b2_ite, b2_ite]
  obtain ⟨wB, kB⟩ := wA.fr c (σ' := s2) (τ' := t2) (fun k hk => p3.1 k (fun e => hk (by simp [e])) (fun e => hk (by simp [e]))) p3.2 (p4.tr Ag.rf (T := []) _ (by decide) (by decide))
  have t2t : t2 1 = τ 1 := (p4 1 (by decide)).trans tt
  by_cases q3 : b = true
  · rw [if_pos q3, if_pos q3]
    obtain ⟨σj, τj, j1, j2, j3, j4⟩ := in_eq c wB hg hm1 hm (kB.1.trans (kA.1.trans h45)) (by rw [t2t]; exact ht) (by rw [t2t]; exact hs)
    exact ⟨σj, τj, j1, j2, j3, (kA.tr kB).tr j4⟩
  rw [if_neg q3, if_neg q3]
  -- the draw
  obtain ⟨T1, T2, ⟨T3, r, hr, T4⟩, T5⟩ := wB.2.2.1.2
  obtain ⟨D, hD⟩ : ∃ D : Nat, D = (25173 * r + 13849) % 65536 := ⟨_, rfl⟩
  obtain ⟨dC, dM⟩ := draw_n hr
  rw [← hD] at dC dM
  have l2 : RLaw1 L (zu s2 o 7 (nI D)) t2 := (l1.fr p3 p4).congr (by rw [zu_ne _ _ _ (by omega)]) (fun j h1 h2 => by rw [zu_ne _ _ _ (by omega)]) rfl (fun _ _ _ => rfl)
  obtain ⟨n, s3, t3, hn, z1, z2, z3, z4⟩ := amt_eq l2 (fun i hi => by rw [zu_ne _ _ _ (by omega), p3.1 _ (by omega) (by omega), p4 19 (by decide)]; exact hval i hi) (ch := 119) (by decide) (B := 10) (by omega)
  rw [← nl10] at z1 z2
  have t31 : t3 1 = t2 1 := z4 1 (by decide)
  have dr : F_M_draws t3 = some (zu t3 1 99 (nI D)) := by
    unfold F_M_draws
    simp only [i99, gd_tt, c99]
    rw [t31, T4, dM]
  have dr2 : F_X10_draw o s2 = some (jrem (nI D) 10, zu s2 o 7 (nI D)) := by
    unfold F_X10_draw
    rw [T3, T4, dC, zu_self, upd_s]
  have hDlt : D < 65536 := by omega
  have e10 : jrem (nI D) 10 = nI (D % 10) := jrem_nI (d := 10) (by omega) (by omega) (by omega)
  rw [dr2, z2, ob, ob]
  try dsimp only
  rw [z1, dr, ob, ob]
  try dsimp only
  rw [← nl99]
  simp only [i99, gd_tt, c99, zu_self, upd_s, e10]
  -- after the draw
  have s3k : ∀ k, k < 42 → k ≠ o → s3 k = s2 k := fun k hk ho' => (z3.1 k (by omega) (by omega)).trans (zu_ne _ _ _ ho')
  have s3o : s3 o = upd (s2 o) 7 (nI D) := (z3.1 o (by omega) (by omega)).trans (zu_self _ _ _ _)
  have t30 : t3 0 = t2 0 := z4 0 (by decide)
  have wC : Wt o L σ0 τ0 s3 (zu t3 1 99 (nI D)) := by
    obtain ⟨v1, v2, v3, v4⟩ := wB
    refine ⟨(v1.zu (i := 7) (x := nI D) (fw_yes (by omega)) (by omega)).tr (FrW.ofC z3), (v2.tr (FrM.of18 z4)).zu1 (by omega), v3.tm (fun j h1 h2 => s3k _ (by omega) (by omega)) (fun j hj => by rw [zu_self, upd_ne _ _ (by omega), t31]) ?_, ?_⟩
    · unfold RT
      rw [s3o, zu_self, upd_ne _ _ (show 5 ≠ 7 by decide), upd_ne _ _ (show 6 ≠ 7 by decide), upd_s, upd_ne _ _ (show 8 ≠ 7 by decide), upd_ne _ _ (show 96 ≠ 99 by decide), upd_ne _ _ (show 97 ≠ 99 by decide), upd_s, upd_ne _ _ (show 98 ≠ 99 by decide), t31]
      exact ⟨T1, T2, ⟨rfl, D, by omega, rfl⟩, T5⟩
    · obtain ⟨u1, u2, u3, -⟩ := id v4
      have h26 := s3k 26 (by omega) (by omega)
      have z0 : zu t3 1 99 (nI D) 0 = t2 0 := by rw [zu_ne _ _ _ (by decide), t30]
      exact v4.congr (by rw [h26, z0]; exact u1) (by rw [h26, z0]; exact u2) (by rw [h26, z0]; exact u3) (by rw [h26]) (s3k 27 (by omega) (by omega)) (fun i hi => by rw [s3k (o + 5) (by omega) (by omega)]; exact hi) (by rw [z0]) (by rw [z0]) (by rw [zu_ne _ _ _ (by decide)]; exact z4 26 (by decide))
  have kC : Kp t2 (zu t3 1 99 (nI D)) := by
    unfold Kp
    rw [zu_ne _ _ _ (by decide), zu_self, upd_ne _ _ (show 96 ≠ 99 by decide), upd_ne _ _ (show 97 ≠ 99 by decide), upd_ne _ _ (show 98 ≠ 99 by decide), t31, t30]
    exact ⟨rfl, rfl, rfl, rfl⟩
  have kk := (kA.tr kB).tr kC
  by_cases q4 : D % 10 < n
  · rw [if_neg (nI_ge q4 (by omega)), if_pos (nI_lt q4 (by omega))]
    have h1g : zu t3 1 99 (nI D) 1 g = 1 := by rw [zu_self, upd_ne _ _ (by omega), t31, t2t]; exact ht
    have h2g : zu t3 1 99 (nI D) 1 (80 + g) = 0 := by rw [zu_self, upd_ne _ _ (by omega), t31, t2t]; exact hs
    obtain ⟨e1, e2⟩ := din_eq c wC hg h1g h2g
    refine ⟨_, _, rfl, rfl, ?_, kk.tr ?_⟩
    · rw [zu_ne s3 _ _ (show 26 ≠ o + 5 by omega), zu_ne (zu t3 1 99 (nI D)) _ _ (show 0 ≠ 1 by decide)]
      exact e1
    · rw [zu_ne (zu t3 1 99 (nI D)) _ _ (show 0 ≠ 1 by decide)]
      exact e2
  · rw [if_pos (nI_le (by omega) (by omega)), if_neg (nI_nlt (by omega) (by omega))]
    exact ⟨_, _, rfl, rfl, wC, kk⟩
end
