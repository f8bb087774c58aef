-- a watch goes by
theorem zu_same (σ : Hp) (k i : Nat) : zu σ k i (σ k i) = σ := by
  funext j
  by_cases h : j = k
  · subst h
    rw [zu_self]
    funext q
    rw [upd_ap]
    by_cases h2 : q = i
    · rw [if_pos h2, h2]
    · rw [if_neg h2]
  · rw [zu_ne _ _ _ h]
theorem sid_un (N r0 : Nat) (a b : Int32) (σ : Hp) : L_X10_sidesOut_4 (N + 1) r0 a b σ = B_X10_sidesOut_4 (fun r0 x1 x2 σ => L_X10_sidesOut_4 N r0 x1 x2 σ) r0 a b σ := rfl
theorem or_x : ∀ x y : Bool, nI (x.toNat + 2 * y.toNat) ||| (1 : Int32) <<< (nI 0 &&& 31) = nI (true.toNat + 2 * y.toNat) := by decide
theorem or_y : ∀ x y : Bool, nI (x.toNat + 2 * y.toNat) ||| (1 : Int32) <<< (nI 1 &&& 31) = nI (x.toNat + 2 * true.toNat) := by decide
theorem C_sides (t : Nat) (σ : Hp) : ∃ x y : Bool, F_X10_sidesOut t σ = some (nI (x.toNat + 2 * y.toNat), σ) ∧ (x = true ↔ ∃ p, p < 8 ∧ (σ (t + 5) p = 0 ∨ σ (t + 5) p = 1)) ∧ (y = true ↔ ∃ p, 8 ≤ p ∧ p < 16 ∧ (σ (t + 5) p = 0 ∨ σ (t + 5) p = 1)) := by
  unfold F_X10_sidesOut
  refine lone (fun N i acc => L_X10_sidesOut_4 N t acc (nI i) σ) (fun i acc => ∃ x y : Bool, acc = nI (x.toNat + 2 * y.toNat) ∧ (x = true ↔ ∃ p, p < i ∧ p < 8 ∧ (σ (t + 5) p = 0 ∨ σ (t + 5) p = 1)) ∧ (y = true ↔ ∃ p, p < i ∧ 8 ≤ p ∧ (σ (t + 5) p = 0 ∨ σ (t + 5) p = 1))) (fun r => ∃ x y : Bool, r = some (nI (x.toNat + 2 * y.toNat), σ) ∧ (x = true ↔ ∃ p, p < 8 ∧ (σ (t + 5) p = 0 ∨ σ (t + 5) p = 1)) ∧ (y = true ↔ ∃ p, 8 ≤ p ∧ p < 16 ∧ (σ (t + 5) p = 0 ∨ σ (t + 5) p = 1))) 16 ?_ ?_ 16 0 FU 0 (by omega) (by omega) (FU_lt (by omega)) ⟨false, false, rfl, ⟨fun h => absurd h (by decide), fun ⟨p, h, _⟩ => absurd h (by omega)⟩, ⟨fun h => absurd h (by decide), fun ⟨p, h, _⟩ => absurd h (by omega)⟩⟩
  · rintro N _ ⟨x, y, rfl, hx, hy⟩
    rw [sid_un]
    unfold B_X10_sidesOut_4
    rw [if_pos (by decide)]
    exact ⟨x, y, rfl, ⟨fun h => by obtain ⟨p, _, h2, h3⟩ := hx.mp h; exact ⟨p, h2, h3⟩, fun ⟨p, h2, h3⟩ => hx.mpr ⟨p, by omega, h2, h3⟩⟩, ⟨fun h => by obtain ⟨p, h1, h2, h3⟩ := hy.mp h; exact ⟨p, h2, h1, h3⟩, fun ⟨p, h1, h2, h3⟩ => hy.mpr ⟨p, h2, h1, h3⟩⟩⟩
  · rintro N i _ hi ⟨x, y, rfl, hx, hy⟩
    right
    rw [sid_un]
    unfold B_X10_sidesOut_4
    have e8 : nI i / 8 = nI (i / 8) := pk_div (d := 8) (by omega) (by omega) (by omega)
    rw [if_neg (show ¬ (16 : Int32) ≤ nI i from nI_ge (b := 16) (by omega) (by omega)), gd_true (inbT hi (by omega)), gd_true (inbT hi (by omega)), nI_clamp (by omega)]
    simp only [J_X10_sidesOut_29, e8, nI_1]
    have hit : (σ (t + 5) i = 0 ∨ σ (t + 5) i = 1) → ∃ a, L_X10_sidesOut_4 N t (nI (x.toNat + 2 * y.toNat) ||| (1 : Int32) <<< (nI (i / 8) &&& 31)) (nI (i + 1)) σ = L_X10_sidesOut_4 N t a (nI (i + 1)) σ ∧ ∃ x y : Bool, a = nI (x.toNat + 2 * y.toNat) ∧ (x = true ↔ ∃ p, p < i + 1 ∧ p < 8 ∧ (σ (t + 5) p = 0 ∨ σ (t + 5) p = 1)) ∧ (y = true ↔ ∃ p, p < i + 1 ∧ 8 ≤ p ∧ (σ (t + 5) p = 0 ∨ σ (t + 5) p = 1)) := by
      intro hp
      refine ⟨_, rfl, ?_⟩
      by_cases h8 : i < 8
      · rw [show i / 8 = 0 by omega, or_x]
        refine ⟨true, y, rfl, ⟨fun _ => ⟨i, by omega, h8, hp⟩, fun _ => rfl⟩, ⟨fun h => ?_, fun ⟨p, h1, h2, h3⟩ => absurd h1 (by omega)⟩⟩
        obtain ⟨p, h1, h2, h3⟩ := hy.mp h
        exact ⟨p, by omega, h2, h3⟩
      · rw [show i / 8 = 1 by omega, or_y]
        refine ⟨x, true, rfl, ⟨fun h => ?_, fun ⟨p, h1, h2, h3⟩ => hx.mpr ⟨p, by omega, h2, h3⟩⟩, ⟨fun _ => ⟨i, by omega, by omega, hp⟩, fun _ => rfl⟩⟩
        obtain ⟨p, h1, h2, h3⟩ := hx.mp h
        exact ⟨p, by omega, h2, h3⟩
    by_cases h0 : σ (t + 5) i = 0
    · rw [if_pos h0]; exact hit (Or.inl h0)
    · rw [if_neg h0]
      by_cases h1 : σ (t + 5) i = 1
      · rw [if_pos h1]; exact hit (Or.inr h1)
      · rw [if_neg h1]
        have no : ∀ p, p < i + 1 → (σ (t + 5) p = 0 ∨ σ (t + 5) p = 1) → p < i := fun p hp h => by
          by_cases q : p = i
          · subst q; exact absurd h (by simp [h0, h1])
          · omega
        refine ⟨_, rfl, x, y, rfl, hx.trans ⟨fun ⟨p, a, b, d⟩ => ⟨p, by omega, b, d⟩, fun ⟨p, a, b, d⟩ => ⟨p, no p a d, b, d⟩⟩, hy.trans ⟨fun ⟨p, a, b, d⟩ => ⟨p, by omega, b, d⟩, fun ⟨p, a, b, d⟩ => ⟨p, no p a d, b, d⟩⟩⟩
/-- who of a side is outside, as the reference has it -/
def ou (τ : Hp) (s : Nat) : Int32 := bset (fun c => decide (τ 1 (8 * s + c) = 1) && decide (τ 1 (80 + (8 * s + c)) = 0)) ||| bset (fun c => decide (τ 1 (8 * s + c) = 1) && decide (τ 1 (80 + (8 * s + c)) = 1))
theorem ou_congr {τ τ' : Hp} (h : ∀ j, j < 96 → τ' 1 j = τ 1 j) (s : Nat) (hs : s < 2) : ou τ' s = ou τ s := by
  unfold ou
  rw [bset_congr (P' := fun c => decide (τ 1 (8 * s + c) = 1) && decide (τ 1 (80 + (8 * s + c)) = 0)) (fun c hc => by rw [h _ (by omega), h _ (by omega)]), bset_congr (P := fun c => decide (τ' 1 (8 * s + c) = 1) && decide (τ' 1 (80 + (8 * s + c)) = 1)) (P' := fun c => decide (τ 1 (8 * s + c) = 1) && decide (τ 1 (80 + (8 * s + c)) = 1)) (fun c hc => by rw [h _ (by omega), h _ (by omega)])]
theorem M_ou0 (τ : Hp) : F_M_outside 0 τ = some (ou τ 0, τ) := M_outside 0 (by omega) τ
theorem M_ou1 (τ : Hp) : F_M_outside 1 τ = some (ou τ 1, τ) := M_outside 1 (by omega) τ
theorem bset_nz (P : Nat → Bool) : bset P = 0 ↔ ∀ c, c < 8 → P c = false := by
  constructor
  · intro h c hc
    have := bt_bset P (i := c) (by omega)
    rw [h, b_0] at this
    simpa [hc] using this.symm
  · intro h
    rw [bset_congr (P' := fun _ => false) h, bset_0]
theorem ou_zero {o : Nat} {σ τ : Hp} (hw : RWar o 1 σ τ) {s : Nat} (hs : s < 2) : ou τ s = 0 ↔ ∀ c, c < 8 → ¬ (σ (o + 5) (8 * s + c) = 0 ∨ σ (o + 5) (8 * s + c) = 1) := by
  unfold ou
  rw [← set_eq hw s hs 0 (by decide), ← set_eq hw s hs 1 (by decide), bset_or, bset_nz]
  constructor
  · intro h c hc
    have := h c hc
    simp only [Bool.or_eq_false_iff, decide_eq_false_iff_not] at this
    exact fun q => q.elim this.1 this.2
  · intro h c hc
    have := h c hc
    simp only [Bool.or_eq_false_iff, decide_eq_false_iff_not]
    exact ⟨fun q => this (Or.inl q), fun q => this (Or.inr q)⟩
theorem sides_eq {o : Nat} {σ τ : Hp} (hw : RWar o 1 σ τ) : ∃ x y : Bool, F_X10_sidesOut o σ = some (nI (x.toNat + 2 * y.toNat), σ) ∧ (ou τ 0 = 0 ↔ x = false) ∧ (ou τ 1 = 0 ↔ y = false) := by
  obtain ⟨x, y, e, hx, hy⟩ := C_sides o σ
  refine ⟨x, y, e, ?_, ?_⟩
  · rw [ou_zero hw (by omega), ← Bool.not_eq_true, hx]
    constructor
    · rintro h ⟨p, hp, q⟩
      exact h p hp (by rw [show 8 * 0 + p = p by omega]; exact q)
    · intro h c hc q
      rw [show 8 * 0 + c = c by omega] at q
      exact h ⟨c, hc, q⟩
  · rw [ou_zero hw (by omega), ← Bool.not_eq_true, hy]
    constructor
    · rintro h ⟨p, hp, hp2, q⟩
      exact h (p - 8) (by omega) (by rw [show 8 * 1 + (p - 8) = p by omega]; exact q)
    · intro h c hc q
      rw [show 8 * 1 + c = 8 + c by omega] at q
      exact h ⟨8 + c, by omega, by omega, q⟩
theorem lost_v : ∀ a0 a1 b0 b1 : Bool, nI (a0.toNat + 2 * a1.toNat) &&& (nI (b0.toNat + 2 * b1.toNat) ^^^ -1) = nI ((a0 && !b0).toNat + 2 * (a1 && !b1).toNat) := by decide
/-- the end of a watch, of both -/
def WEnd (o L : Nat) (σ0 τ0 : Hp) (m : Nat) (r r' : Option Hp) : Prop := ∃ σ' τ', r = some σ' ∧ r' = some τ' ∧ Wt o L σ0 τ0 σ' τ' ∧ τ' 0 45 = nI m ∧ (¬ τ' 1 98 = 0 → σ' 26 6 = nI m)
section
variable {o L : Nat} {σ0 τ0 σ τ : Hp}
theorem next_eq (c : Cxt o L σ0 τ0) (w : Wt o L σ0 τ0 σ τ) {m d : Nat} (h45 : τ 0 45 = nI m) (hd : d < 9999) (h97 : τ 1 97 = nI d) (h6 : ¬ τ 1 98 = 0 → σ 26 6 = nI m) : WEnd o L σ0 τ0 m (J_X2_passWatch_119 o σ) (J_M_watchGoes_154 τ) := by
  have ho := c.1
  have hL := c.2.1
  obtain ⟨w1, w2, w3, w4⟩ := w
  obtain ⟨⟨T1, r, hr, T1'⟩, ⟨T2, -⟩, T3, T4⟩ := w3.2
  obtain ⟨r1, r2, r3, -⟩ := id w4
  have e5 : σ o 5 = nI r := T1.trans T1'
  have e6 : σ o 6 = nI d := T2.trans h97
  unfold J_X2_passWatch_119 F_X10_nextWatch J_M_watchGoes_154
  simp only [i96, i97, c96, c97, gd_tt, zu_self, upd_s, e5, T1', nI_1]
  by_cases q : r < 5
  · rw [if_pos (show nI (r + 1) ≤ (5 : Int32) from nI_le (b := 5) (by omega) (by omega)), if_neg (show ¬ (6 : Int32) ≤ nI (r + 1) from nI_ge (b := 6) (by omega) (by omega)), ob]
    refine ⟨_, _, rfl, rfl, ⟨w1.zu (fw_yes (by omega)) (by omega), w2.zu1 (by omega), w3.tm (fun j h1 h2 => zu_ne _ _ _ (by omega)) (fun j hj => by rw [zu_self, upd_ne _ _ (by omega)]) ?_, ?_⟩, ?_, ?_⟩
    · unfold RT
      rw [zu_self, zu_self, upd_s, upd_s, upd_ne _ _ (show 6 ≠ 5 by decide), upd_ne _ _ (show 7 ≠ 5 by decide), upd_ne _ _ (show 8 ≠ 5 by decide), upd_ne _ _ (show 97 ≠ 96 by decide), upd_ne _ _ (show 98 ≠ 96 by decide), upd_ne _ _ (show 99 ≠ 96 by decide)]
      exact ⟨⟨rfl, r + 1, by omega, rfl⟩, ⟨T2, d, by omega, h97⟩, T3, T4⟩
    · have k26 : zu σ o 5 (nI (r + 1)) 26 = σ 26 := zu_ne _ _ _ (by omega)
      have k0 : zu τ 1 96 (nI (r + 1)) 0 = τ 0 := zu_ne _ _ _ (by decide)
      exact w4.congr (by rw [k26, k0]; exact r1) (by rw [k26, k0]; exact r2) (by rw [k26, k0]; exact r3) (by rw [k26]) (zu_ne _ _ _ (by omega)) (fun i hi => by rw [zu_ne _ _ _ (by omega)]; exact hi) (by rw [k0]) (by rw [k0]) (zu_ne _ _ _ (by decide))
    · rw [zu_ne _ _ _ (by decide)]; exact h45
    · rw [zu_self, upd_ne _ _ (by decide), zu_ne _ _ _ (by omega)]; exact h6
  · obtain rfl : r = 5 := by omega
    rw [if_neg (show ¬ nI (5 + 1) ≤ (5 : Int32) by decide), if_pos (show (6 : Int32) ≤ nI (5 + 1) by decide), ob]
    simp (disch := decide) only [upd_ne, e6, h97, nI_1]
    refine ⟨_, _, rfl, rfl, ⟨((w1.zu (fw_yes (by omega)) (by omega)).zu (fw_yes (by omega)) (by omega)).zu (fw_yes (by omega)) (by omega), ((w2.zu1 (by omega)).zu1 (by omega)).zu1 (by omega), w3.tm (fun j h1 h2 => by rw [zu_ne _ _ _ (by omega), zu_ne _ _ _ (by omega), zu_ne _ _ _ (by omega)]) (fun j hj => by rw [zu_self, upd_ne _ _ (by omega), zu_self, upd_ne _ _ (by omega), zu_self, upd_ne _ _ (by omega)]) ?_, ?_⟩, ?_, ?_⟩
    · unfold RT
      simp (disch := omega) only [zu_self, upd_s, upd_ne]
      exact ⟨⟨trivial, 0, by omega, rfl⟩, ⟨trivial, d + 1, by omega, rfl⟩, T3, T4⟩
    · refine w4.congr ?_ ?_ ?_ ?_ ?_ (fun i hi => ?_) ?_ ?_ ?_
      · simp (disch := omega) only [zu_ne]; exact r1
      · simp (disch := omega) only [zu_ne]; exact r2
      · simp (disch := omega) only [zu_ne]; exact r3
      · simp (disch := omega) only [zu_ne]
      · simp (disch := omega) only [zu_ne]
      · simp (disch := omega) only [zu_ne]; exact hi
      · simp (disch := omega) only [zu_ne]
      · simp (disch := omega) only [zu_ne]
      · simp (disch := omega) only [zu_ne]
    · simp (disch := omega) only [zu_ne]; exact h45
    · simp (disch := omega) only [zu_self, upd_ne, zu_ne]; exact h6
/-- who has lost -/
theorem lost_eq (c : Cxt o L σ0 τ0) (w : Wt o L σ0 τ0 σ τ) {m d : Nat} (h45 : τ 0 45 = nI m) (hd : d < 9999) (h97 : τ 1 97 = nI d) (h98 : τ 1 98 = 0) (a0 a1 : Bool) (u v : Int32) (hu : u = 0 ↔ a0 = false) (hv : v = 0 ↔ a1 = false) : WEnd o L σ0 τ0 m (J_X2_passWatch_94 o (nI m) (nI (a0.toNat + 2 * a1.toNat)) σ) (J_M_watchGoes_98 u v τ) := by
  have ho := c.1
  have hL := c.2.1
  obtain ⟨x, y, e, hx, hy⟩ := sides_eq w.2.2.1
  unfold J_X2_passWatch_94
  rw [e, ob]
  try dsimp only
  rw [lost_v, zu_self, upd_s]
  -- the state behind both writes
  have key : ∀ (p q : Bool) (s t : Hp), (s = zu σ o 8 (nI (p.toNat + 2 * q.toNat)) ∧ p = false ∧ q = false ∨ s = zu (zu σ o 8 (nI (p.toNat + 2 * q.toNat))) 26 6 (nI m)) → (∀ k, k ≠ 1 → t k = τ k) → (∀ j, j ≠ 98 → t 1 j = τ 1 j) → t 1 98 = nI (p.toNat + 2 * q.toNat) → WEnd o L σ0 τ0 m (J_X2_passWatch_119 o s) (J_M_watchGoes_154 t) := by
    intro p q s t hs ht1 ht2 ht3
    have hk : ∀ k, k ≠ o → k ≠ 26 → s k = σ k := fun k h1 h2 => by
      rcases hs with ⟨rfl, -⟩ | rfl
      · rw [zu_ne _ _ _ h1]
      · rw [zu_ne _ _ _ h2, zu_ne _ _ _ h1]
    have hko : s o = upd (σ o) 8 (nI (p.toNat + 2 * q.toNat)) := by
      rcases hs with ⟨rfl, -⟩ | rfl
      · rw [zu_self]
      · rw [zu_ne _ _ _ (by omega), zu_self]
    have hk26 : ∀ j, j ≠ 6 → s 26 j = σ 26 j := fun j hj => by
      rcases hs with ⟨rfl, -⟩ | rfl
      · rw [zu_ne _ _ _ (by omega)]
      · rw [zu_self, upd_ne _ _ hj, zu_ne _ _ _ (by omega)]
    have hpq : p.toNat + 2 * q.toNat ≤ 3 := by cases p <;> cases q <;> decide
    obtain ⟨w1, w2, w3, w4⟩ := w
    obtain ⟨r1, r2, r3, -⟩ := id w4
    refine next_eq c (d := d) ⟨w1.tr ⟨fun k hk' => hk k (fun e => hk' (fw_yes (by omega))) (fun e => hk' (fw_yes (by omega))), fun j _ => by rw [hk L (by omega) (by omega)]⟩, w2.tr ⟨fun k hk' => ht1 k (fun e => hk' (by simp [e])), fun j _ => by rw [ht1 0 (by decide)], fun j hj => ht2 j (by omega)⟩, w3.tm (fun j h1 h2 => hk _ (by omega) (by omega)) (fun j hj => ht2 j (by omega)) ?_, ?_⟩ (by rw [ht1 0 (by decide)]; exact h45) hd (by rw [ht2 97 (by decide)]; exact h97) (fun h => ?_)
    · obtain ⟨T1, T2, T3, T4⟩ := w3.2
      unfold RT
      rw [hko, ht3, ht2 96 (by decide), ht2 97 (by decide), ht2 99 (by decide), upd_s, upd_ne _ _ (show 5 ≠ 8 by decide), upd_ne _ _ (show 6 ≠ 8 by decide), upd_ne _ _ (show 7 ≠ 8 by decide)]
      exact ⟨T1, T2, T3, rfl, _, hpq, rfl⟩
    · have k0 := ht1 0 (by decide)
      exact w4.congr (by rw [hk26 2 (by decide), k0]; exact r1) (by rw [hk26 3 (by decide), k0]; exact r2) (by rw [hk26 4 (by decide), k0]; exact r3) (hk26 5 (by decide)) (hk 27 (by omega) (by omega)) (fun i hi => by rw [hk (o + 5) (by omega) (by omega)]; exact hi) (by rw [k0]) (by rw [k0]) (ht1 26 (by decide))
    · rcases hs with ⟨-, rfl, rfl⟩ | rfl
      · rw [ht3] at h; exact absurd rfl h
      · rw [zu_self, upd_s]
  have fin : ∀ (p q : Bool) (t : Hp), (∀ k, k ≠ 1 → t k = τ k) → (∀ j, j ≠ 98 → t 1 j = τ 1 j) → t 1 98 = nI (p.toNat + 2 * q.toNat) → WEnd o L σ0 τ0 m (if nI (p.toNat + 2 * q.toNat) = 0 then J_X2_passWatch_119 o (zu σ o 8 (nI (p.toNat + 2 * q.toNat))) else J_X2_passWatch_119 o (zu (zu σ o 8 (nI (p.toNat + 2 * q.toNat))) 26 6 (nI m))) (J_M_watchGoes_154 t) := by
    intro p q t h1 h2 h3
    by_cases hz : nI (p.toNat + 2 * q.toNat) = 0
    · rw [if_pos hz]
      refine key p q _ t (Or.inl ⟨rfl, ?_⟩) h1 h2 h3
      revert hz; cases p <;> cases q <;> decide
    · rw [if_neg hz]
      exact key p q _ t (Or.inr rfl) h1 h2 h3
  have n98 : ∀ b : Bool, nI b.toNat ||| 2 = nI (b.toNat + 2 * true.toNat) := by decide
  have j126 : ∀ (p : Bool) (t : Hp), (∀ k, k ≠ 1 → t k = τ k) → (∀ j, j ≠ 98 → t 1 j = τ 1 j) → t 1 98 = nI p.toNat → WEnd o L σ0 τ0 m (if nI (p.toNat + 2 * (a1 && !y).toNat) = 0 then J_X2_passWatch_119 o (zu σ o 8 (nI (p.toNat + 2 * (a1 && !y).toNat))) else J_X2_passWatch_119 o (zu (zu σ o 8 (nI (p.toNat + 2 * (a1 && !y).toNat))) 26 6 (nI m))) (J_M_watchGoes_126 v t) := by
    intro p t h1 h2 h3
    unfold J_M_watchGoes_126
    by_cases hv0 : v = 0
    · rw [if_pos hv0, hv.mp hv0]
      exact fin p false t h1 h2 h3
    · have ha1 : a1 = true := by
        cases a1
        · exact absurd (hv.mpr rfl) hv0
        · rfl
      rw [if_neg hv0, M_ou1, ob]
      try dsimp only
      rw [ou_congr (τ := τ) (fun j hj => h2 j (by omega)) 1 (by omega)]
      by_cases hy0 : ou τ 1 = 0
      · rw [if_pos hy0, gd_true i98, gd_true i98, c98, hy.mp hy0, ha1, h3, n98]
        exact fin p true _ (fun k hk => by rw [zu_ne _ _ _ hk]; exact h1 k hk) (fun j hj => by rw [zu_self, upd_ne _ _ hj]; exact h2 j hj) (by rw [zu_self, upd_s])
      · have hy1 : y = true := by
          cases y
          · exact absurd (hy.mpr rfl) hy0
          · rfl
        rw [if_neg hy0, ha1, hy1]
        exact fin p false t h1 h2 h3
  unfold J_M_watchGoes_98
  by_cases hu0 : u = 0
  · rw [if_pos hu0, hu.mp hu0]
    exact j126 false τ (fun _ _ => rfl) (fun _ _ => rfl) h98
  · have ha0 : a0 = true := by
      cases a0
      · exact absurd (hu.mpr rfl) hu0
      · rfl
    rw [if_neg hu0, M_ou0, ob]
    try dsimp only
    by_cases hx0 : ou τ 0 = 0
    · rw [if_pos hx0, gd_true i98, gd_true i98, c98, hx.mp hx0, ha0, h98]
      exact j126 true _ (fun k hk => zu_ne _ _ _ hk) (fun j hj => by rw [zu_self, upd_ne _ _ hj]) (by rw [zu_self, upd_s]; decide)
    · have hx1 : x = true := by
        cases x
        · exact absurd (hx.mpr rfl) hx0
        · rfl
      rw [if_neg hx0, ha0, hx1]
      exact j126 false τ (fun _ _ => rfl) (fun _ _ => rfl) h98
end
