-- bridge: the other one plays, a card laid and what comes behind it
section
variable {n tr : Nat} {cd : Nat → Nat}
theorem ref_lay {r' a st tb m : Nat} {H : Nat → Nat} {left : Nat → Bool} {τ1 : Hp} {b : Option (Nat × Nat)} (ih : NodeOk n tr cd r') (hr : a + (r' + 1) = 4 * n) (B1 : Bx n tr cd τ1) (A1 : Aw n (rm left (3 * ((st + a % 4) % 4) + m)) τ1) (hst : st < 4) (htb : tb ≤ a / 4) (hm : m < n) (hs : left (3 * ((st + a % 4) % 4) + m) = true) (cp : ∀ q, q < 4 → hk left q 3 0 = n - a / 4 - (if (q + 4 - st) % 4 < a % 4 then 1 else 0)) (h33 : τ1 33 a = nI ((st + a % 4) % 4)) (h35 : τ1 35 a = nI tb) (f33 : τ1 33 (a - a % 4) = nI st) (hi : ∀ i, a - a % 4 ≤ i → i < a + 1 → τ1 30 i = nI (cd ((fun i => if i = a then 3 * ((st + a % 4) % 4) + m else H i) i)) ∧ cd ((fun i => if i = a then 3 * ((st + a % 4) % 4) + m else H i) i) < 52 ∧ (fun i => if i = a then 3 * ((st + a % 4) % 4) + m else H i) i / 3 = (st + (i - (a - a % 4))) % 4) (h32 : τ1 32 a = (bF tb b).1) (h34 : τ1 34 a = (bF tb b).2) (hb : vl b ≤ 13) (hbc : ∀ y, b = some y → y.2 < 52) : ∃ (c : Nat) (τ2 : Hp), c ≤ Dm r' ∧ Fr a τ1 τ2 ∧ (τ2 31 a = τ1 31 a ∧ τ2 33 a = τ1 33 a ∧ τ2 35 a = τ1 35 a) ∧ τ2 32 a = (bF tb (bt2 ((st + a % 4) % 4) b (lv cd tr r' left (3 * ((st + a % 4) % 4) + m) (a % 4) (ldd H (a - a % 4) (a % 4)) (hgh cd tr H (a - a % 4) (a % 4))) (cd (3 * ((st + a % 4) % 4) + m)))).1 ∧ τ2 34 a = (bF tb (bt2 ((st + a % 4) % 4) b (lv cd tr r' left (3 * ((st + a % 4) % 4) + m) (a % 4) (ldd H (a - a % 4) (a % 4)) (hgh cd tr H (a - a % 4) (a % 4))) (cd (3 * ((st + a % 4) % 4) + m)))).2 ∧ ∀ K, J_M_playsOut_210 (fun x2 x3 σ => L_M_playsOut_21 (K + c) x2 x3 σ) (nI (4 * n)) (nI a) (nI ((st + a % 4) % 4)) (nI (if a % 4 = 3 then 1 else 0)) τ1 = L_M_playsOut_21 K (nI (4 * n)) (nI a) τ2 := by
  obtain ⟨hn1, hn3, htr⟩ := B1.2.2.1
  have eH : ∀ x, (fun i => if i = a then 3 * ((st + a % 4) % 4) + m else H i) x = if x = a then 3 * ((st + a % 4) % 4) + m else H x := fun _ => rfl
  obtain ⟨i1, i2, i3⟩ := hi a (by omega) (by omega)
  rw [eH, if_pos rfl] at i1 i2 i3
  have hkr := hk_rm (left := left) (p := (st + a % 4) % 4) (m := m) (by omega) hs
  have eg : inb (nI a) 13 = true := inbT (by omega) (by omega)
  by_cases q : a % 4 = 3
  · have tk := M_taker B1 (f := a - a % 4) (H := fun i => if i = a then 3 * ((st + a % 4) % 4) + m else H i) (by omega) hst f33 (fun i h1 h2 => hi i h1 (by omega))
    have eh := hgh_hig (cd := cd) (tr := tr) (H := H) (f := a - a % 4) (j := a % 4) (a := a) (s := 3 * ((st + a % 4) % 4) + m) (by omega)
    obtain ⟨iw, w1, w2, w3⟩ := hgh_mem (cd := cd) (tr := tr) (H := fun i => if i = a then 3 * ((st + a % 4) % 4) + m else H i) (f := a - a % 4) 3
    obtain ⟨-, -, u3⟩ := hi iw w1 (by omega)
    rw [eH iw, ← w3] at u3
    rw [show a - a % 4 + 4 = a + 1 by omega] at tk
    rw [show a % 4 + 1 = 3 + 1 by omega] at eh
    obtain ⟨w, hw⟩ : ∃ w, w = hgh cd tr (fun i => if i = a then 3 * ((st + a % 4) % 4) + m else H i) (a - a % 4) (3 + 1) / 3 := ⟨_, rfl⟩
    have wl : w < 4 := by rw [hw, u3]; omega
    have hw2 : w = higN cd tr (a % 4) (3 * ((st + a % 4) % 4) + m) (hgh cd tr H (a - a % 4) (a % 4)) / 3 := by rw [hw, eh]
    have tk : F_M_takerOf (nI (a + 1)) τ1 = some (nI w, τ1) := by rw [tk, hw]
    obtain ⟨wn, hwn⟩ : ∃ wn, wn = if w % 2 = 0 then 1 else 0 := ⟨_, rfl⟩
    have wnl : wn ≤ 1 := by rw [hwn]; split <;> omega
    obtain ⟨g1, g2, g3, g4, g5⟩ := beg_at (τ := τ1) (j := a + 1) (x := nI w) (y := nI (tb + wn))
    have L := ref_258 (r' := r') (a := a) (p := w) (wn := wn) (tb := tb) (st' := w) (v := lv cd tr r' left (3 * ((st + a % 4) % 4) + m) (a % 4) (ldd H (a - a % 4) (a % 4)) (hgh cd tr H (a - a % 4) (a % 4))) (cc := cd (3 * ((st + a % 4) % 4) + m)) (pl := (st + a % 4) % 4) (H' := H) (left' := rm left (3 * ((st + a % 4) % 4) + m)) (τ1 := τ1) (b := b) ih hn3 hr wnl (by omega) (fun hr1 => by
      refine ⟨⟨B1.mono (fun i _ => by rw [beg_0 (by omega)]) (beg_0 (by omega)), ⟨fun q k h1 h2 => by rw [beg_0 (by omega)]; exact A1.1 q k h1 h2, A1.2⟩⟩, ⟨by omega, wl, by omega⟩, ⟨?_, g2, ?_⟩, fun i h1 h2 => by omega, fun q' hq' => ?_⟩
      · rw [g1]; congr 1; omega
      · rw [show a + 1 - (a + 1) % 4 = a + 1 by omega, g1]
      · have z1 := hkr q'
        have z2 := cp q' hq'
        rw [if_neg (by omega)]
        by_cases y : q' = (st + a % 4) % 4
        · rw [if_pos y] at z1; rw [if_neg (by omega)] at z2; omega
        · rw [if_neg y] at z1; rw [if_pos (by omega)] at z2; omega) (by
      unfold lv lvF
      rw [if_neg (by omega), ← hw2, ← hwn, show (a + 1) % 4 = 0 by omega, show (w + 0) % 4 = w by omega]
      rfl) (by omega) h33 h32 h34 hb i1 i2 hbc
    obtain ⟨c, τ2, L1, L2, L3, L4, L5, L6⟩ := L
    refine ⟨c, τ2, L1, L2, L3, L4, L5, fun K => ?_⟩
    rw [← L6 K, if_pos q]
    unfold J_M_playsOut_210
    rw [if_neg (show ¬ nI 1 = 0 by decide), nI_1, tk, ob]
    dsimp only
    unfold J_M_playsOut_233
    rw [if_neg (show ¬ nI 1 = 0 by decide), gd_true eg, nl2, jrem_nI (by omega) (by omega) (by omega), nI_clamp (by omega), h35]
    by_cases z : w % 2 = 0
    · rw [if_pos (show nI (w % 2) = 0 by rw [z]; rfl), hwn, if_pos z]; rfl
    · rw [if_neg (nI_ne0 (by omega) (by omega)), hwn, if_neg z]; rfl
  · obtain ⟨g1, g2, g3, g4, g5⟩ := beg_at (τ := τ1) (j := a + 1) (x := nI ((st + (a + 1) % 4) % 4)) (y := nI (tb + 0))
    have ef : a + 1 - (a + 1) % 4 = a - a % 4 := by omega
    have ej : (a + 1) % 4 = a % 4 + 1 := by omega
    have L := ref_258 (r' := r') (a := a) (p := (st + (a + 1) % 4) % 4) (wn := 0) (tb := tb) (st' := st) (v := lv cd tr r' left (3 * ((st + a % 4) % 4) + m) (a % 4) (ldd H (a - a % 4) (a % 4)) (hgh cd tr H (a - a % 4) (a % 4))) (cc := cd (3 * ((st + a % 4) % 4) + m)) (pl := (st + a % 4) % 4) (H' := fun i => if i = a then 3 * ((st + a % 4) % 4) + m else H i) (left' := rm left (3 * ((st + a % 4) % 4) + m)) (τ1 := τ1) (b := b) ih hn3 hr (by omega) (by omega) (fun hr1 => by
      refine ⟨⟨B1.mono (fun i _ => by rw [beg_0 (by omega)]) (beg_0 (by omega)), ⟨fun q k h1 h2 => by rw [beg_0 (by omega)]; exact A1.1 q k h1 h2, A1.2⟩⟩, ⟨by omega, hst, by omega⟩, ⟨g1, g2, ?_⟩, fun i h1 h2 => ?_, fun q' hq' => ?_⟩
      · rw [ef, beg_row (by omega), f33]
      · rw [ef] at h1 ⊢
        rw [beg_0 (by omega)]
        exact hi i h1 h2
      · have z1 := hkr q'
        have z2 := cp q' hq'
        by_cases y : q' = (st + a % 4) % 4
        · rw [if_pos y] at z1; rw [if_neg (by omega)] at z2; rw [if_pos (by omega)]; omega
        · rw [if_neg y] at z1
          by_cases y2 : (q' + 4 - st) % 4 < a % 4
          · rw [if_pos y2] at z2; rw [if_pos (by omega)]; omega
          · rw [if_neg y2] at z2; rw [if_neg (by omega)]; omega) (by
      rw [ef, ej, hgh_hig (by omega), ldd_led (by omega), if_neg (by omega), Nat.zero_add]
      unfold lv lvF
      rw [if_pos (by omega), show ((3 * ((st + a % 4) % 4) + m) / 3 + 1) % 4 = (st + (a % 4 + 1)) % 4 by omega]) (by omega) h33 h32 h34 hb i1 i2 hbc
    obtain ⟨c, τ2, L1, L2, L3, L4, L5, L6⟩ := L
    refine ⟨c, τ2, L1, L2, L3, L4, L5, fun K => ?_⟩
    rw [← L6 K, if_neg q]
    unfold J_M_playsOut_210
    rw [if_pos (show nI 0 = 0 by rfl), nI_1, nl4, jrem_nI (by omega) (by omega) (by omega)]
    unfold J_M_playsOut_233
    rw [if_pos (show nI 0 = 0 by rfl), gd_true eg, nI_clamp (by omega), h35, show ((st + a % 4) % 4 + 1) % 4 = (st + (a + 1) % 4) % 4 by omega]
    rfl
end
