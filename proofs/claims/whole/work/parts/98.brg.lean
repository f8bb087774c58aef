-- bridge: the other one plays out, a whole node
section
variable {n tr : Nat} {cd : Nat → Nat}
theorem ref_scan {r' a st tb : Nat} {H : Nat → Nat} {left : Nat → Bool} (ih : NodeOk n tr cd r') (hr : a + (r' + 1) = 4 * n) : ∀ (j m N : Nat) (b : Option (Nat × Nat)) (τ : Hp), m + j = n → j < N → Nd n tr cd a st tb H left τ → τ 32 a = (bF tb b).1 → τ 34 a = (bF tb b).2 → vl b ≤ 13 → (∀ y, b = some y → y.2 < 52) → ∃ (c : Nat) (τ' : Hp), c ≤ hk left ((st + a % 4) % 4) (3 - m) m * (1 + Dm r') ∧ Fr a τ τ' ∧ τ' 32 a = (bF tb (f3 cd (fun s => lvF cd tr (bv cd tr r') r' left s (a % 4) (ldd H (a - a % 4) (a % 4)) (hgh cd tr H (a - a % 4) (a % 4))) left ((st + a % 4) % 4) (a % 4) (ldd H (a - a % 4) (a % 4)) (3 - m) m b)).1 ∧ τ' 34 a = (bF tb (f3 cd (fun s => lvF cd tr (bv cd tr r') r' left s (a % 4) (ldd H (a - a % 4) (a % 4)) (hgh cd tr H (a - a % 4) (a % 4))) left ((st + a % 4) % 4) (a % 4) (ldd H (a - a % 4) (a % 4)) (3 - m) m b)).2 ∧ ∀ K, L_M_playsOut_79 (J_M_playsOut_109 (fun x2 x3 σ => L_M_playsOut_21 (K + c) x2 x3 σ)) N (nI (4 * n)) (nI a) (nI ((st + a % 4) % 4)) (nI m) τ = Fn n K a τ' := by
  obtain ⟨pl, hpl⟩ : ∃ pl, pl = (st + a % 4) % 4 := ⟨_, rfl⟩
  obtain ⟨led, hled⟩ : ∃ led, led = ldd H (a - a % 4) (a % 4) := ⟨_, rfl⟩
  obtain ⟨high, hhigh⟩ : ∃ high, high = hgh cd tr H (a - a % 4) (a % 4) := ⟨_, rfl⟩
  obtain ⟨V, hV⟩ : ∃ V, V = fun s => lvF cd tr (bv cd tr r') r' left s (a % 4) led high := ⟨_, rfl⟩
  have hp : pl < 4 := by omega
  rw [← hpl, ← hled, ← hhigh, ← hV]
  intro j
  induction j with
  | zero =>
    intro m N b τ hm hN hNd h32 h34 hb hbc
    obtain ⟨N, rfl⟩ : ∃ N', N = N' + 1 := ⟨N - 1, by omega⟩
    have hB := hNd.1.1
    have hn3 := hB.2.2.1.2.1
    have mn : m = n := by omega
    have dead : f3 cd V left pl (a % 4) led (3 - m) m b = b := f3_dead _ _ _ (fun i h1 h2 z => by
      have := alw_left z
      rw [hNd.1.2.2 pl i hp (by omega) (by omega)] at this
      exact absurd this (by decide))
    rw [dead]
    refine ⟨0, zu (zu τ 31 a (nI n)) 31 a (-1), Nat.zero_le _, ⟨(Ag.rf.zu (by decide)).zu (by decide), fun i => by rw [zu_ne _ _ _ (by decide), zu_ne _ _ _ (by decide)], fun k i hi => by rw [zu_row _ _ (by omega), zu_row _ _ (by omega)]⟩, by rw [zu_ne _ _ _ (by decide), zu_ne _ _ _ (by decide), h32], by rw [zu_ne _ _ _ (by decide), zu_ne _ _ _ (by decide), h34], fun K => ?_⟩
    rw [po79_un]
    unfold B_M_playsOut_79
    rw [if_pos (show τ 0 56 ≤ nI m by rw [hB.1]; exact nI_le (by omega) (by omega)), mn]
    exact ref_109e hB (by omega) K
  | succ j IH =>
    intro m N b τ hm hN hNd h32 h34 hb hbc
    obtain ⟨N, rfl⟩ : ∃ N', N = N' + 1 := ⟨N - 1, by omega⟩
    have hNd0 := hNd
    obtain ⟨⟨hB, hA⟩, ⟨u1, u2, u3⟩, ⟨u4, u5, u6⟩, u7, u8⟩ := hNd
    have hn3 := hB.2.2.1.2.1
    have hn1 := hB.2.2.1.1
    have mp := M_mayPlay hB hA (at' := a) (pl := pl) (led := led) (k := m) (by omega) hp (by omega) (fun z => by
      obtain ⟨x1, x2, -⟩ := u7 (a - a % 4) (Nat.le_refl _) (by omega)
      rw [hled, show ldd H (a - a % 4) (a % 4) = H (a - a % 4) from if_neg (by omega)]
      exact ⟨x1, x2⟩)
    have e79 : ∀ k : Int32 → Int32 → Int32 → Int32 → Hp → Option Hp, L_M_playsOut_79 k (N + 1) (nI (4 * n)) (nI a) (nI pl) (nI m) τ = if alw cd left pl (a % 4) led m = true then k (nI (4 * n)) (nI a) (nI pl) (nI m) τ else L_M_playsOut_79 k N (nI (4 * n)) (nI a) (nI pl) (nI (m + 1)) τ := by
      intro k
      rw [po79_un]
      unfold B_M_playsOut_79
      rw [if_neg (show ¬ τ 0 56 ≤ nI m by rw [hB.1]; exact nI_ge (by omega) (by omega)), mp, ob]
      dsimp only
      rw [b2_ite, nI_1]
    have ef : f3 cd V left pl (a % 4) led (3 - m) m b = f3 cd V left pl (a % 4) led (3 - (m + 1)) (m + 1) (if alw cd left pl (a % 4) led m = true then bt2 pl b (V (3 * pl + m)) (cd (3 * pl + m)) else b) := by
      rw [show 3 - m = (3 - (m + 1)) + 1 by omega]; rfl
    have ek : hk left pl (3 - m) m = (if left (3 * pl + m) = true then 1 else 0) + hk left pl (3 - (m + 1)) (m + 1) := by
      rw [show 3 - m = (3 - (m + 1)) + 1 by omega]; rfl
    rw [ef, ek, Nat.add_mul]
    by_cases q : alw cd left pl (a % 4) led m = true
    rotate_left
    · rw [if_neg q]
      obtain ⟨c, τ', c1, c2, c3, c4, c5⟩ := IH (m + 1) N b τ (by omega) (by omega) hNd0 h32 h34 hb hbc
      refine ⟨c, τ', Nat.le_trans c1 (Nat.le_add_left _ _), c2, c3, c4, fun K => ?_⟩
      rw [e79, if_neg q]
      exact c5 K
    have hs := alw_left q
    rw [if_pos q, if_pos hs, Nat.one_mul]
    obtain ⟨b1, b2'⟩ := hB.2.2.2 pl m hp (by omega)
    have nm := nq_lt hn3 hp (show m < n by omega)
    obtain ⟨W, hW⟩ : ∃ W, W = (1 : Int32) <<< (nI (n * pl + m) &&& 31) := ⟨_, rfl⟩
    obtain ⟨τ1, hτ1⟩ : ∃ τ1, τ1 = zu (zu (zu τ 31 a (nI m)) 30 a (nI (cd (3 * pl + m)))) 0 58 (τ 0 58 ||| W) := ⟨_, rfl⟩
    have t0 : ∀ i, i ≠ 58 → τ1 0 i = τ 0 i := fun i hi => by rw [hτ1, zu_self, upd_ne _ _ hi, zu_ne _ _ _ (by decide), zu_ne _ _ _ (by decide)]
    have t58 : τ1 0 58 = τ 0 58 ||| W := by rw [hτ1, zu_self, upd_s]
    have tk : ∀ k, k ≠ 0 → k ≠ 30 → k ≠ 31 → τ1 k = τ k := fun k k0 k1 k2 => by rw [hτ1, zu_ne _ _ _ k0, zu_ne _ _ _ k1, zu_ne _ _ _ k2]
    have tr' : ∀ k i, k ≠ 0 → i ≠ a → τ1 k i = τ k i := fun k i k0 hi => by rw [hτ1, zu_ne _ _ _ k0, zu_row _ _ hi, zu_row _ _ hi]
    have t30 : τ1 30 a = nI (cd (3 * pl + m)) := by rw [hτ1, zu_ne _ _ _ (by decide), zu_self, upd_s]
    have t31 : τ1 31 a = nI m := by rw [hτ1, zu_ne _ _ _ (by decide), zu_ne _ _ _ (by decide), zu_self, upd_s]
    have B1 : Bx n tr cd τ1 := hB.mono t0 (tk 6 (by decide) (by decide) (by decide))
    have A1 : Aw n (rm left (3 * pl + m)) τ1 := by
      refine ⟨fun q' k h1 h2 => ?_, fun q' k h1 h2 h3 => ?_⟩
      · have nk := nq_lt hn3 h1 h2
        rw [t58, b_or, hA.1 q' k h1 h2, hW, bt_bit (by omega) (by omega)]
        have := nq_eq (q := q') (k := k) (p := pl) (m := m) hn1 hn3 h2 (by omega)
        unfold rm
        by_cases z : n * q' + k = n * pl + m
        · rw [decide_eq_true z, decide_eq_true (this.mp z)]; simp
        · rw [decide_eq_false z, decide_eq_false (fun y => z (this.mpr y))]; simp
      · unfold rm
        rw [hA.2 q' k h1 h2 h3]; rfl
    have L := ref_lay (st := st) (tb := tb) (m := m) (H := H) (left := left) (τ1 := τ1) (b := b) ih hr B1 (by rw [← hpl]; exact A1) u2 u3 (by omega) (by rw [← hpl]; exact hs) u8 (by rw [tk 33 (by decide) (by decide) (by decide), u4]) (by rw [tk 35 (by decide) (by decide) (by decide), u5]) (by rw [tk 33 (by decide) (by decide) (by decide), u6]) (fun i i1 i2 => by
      show τ1 30 i = nI (cd (if i = a then 3 * ((st + a % 4) % 4) + m else H i)) ∧ cd (if i = a then 3 * ((st + a % 4) % 4) + m else H i) < 52 ∧ (if i = a then 3 * ((st + a % 4) % 4) + m else H i) / 3 = (st + (i - (a - a % 4))) % 4
      rw [← hpl]
      by_cases z : i = a
      · rw [if_pos z, z]
        exact ⟨t30, b2', by omega⟩
      · rw [if_neg z, tr' 30 i (by decide) z]
        exact u7 i i1 (by omega)) (by rw [tk 32 (by decide) (by decide) (by decide), h32]) (by rw [tk 34 (by decide) (by decide) (by decide), h34]) hb hbc
    rw [← hpl, ← hled, ← hhigh] at L
    have eV : lv cd tr r' left (3 * pl + m) (a % 4) led high = V (3 * pl + m) := by rw [hV]; rfl
    rw [eV] at L
    obtain ⟨c1, τ2, l1, l2, ⟨l3, l4, l5⟩, l6, l7, l8⟩ := L
    obtain ⟨τ3, hτ3⟩ : ∃ τ3, τ3 = zu τ2 0 58 (τ2 0 58 &&& (W ^^^ (-1 : Int32))) := ⟨_, rfl⟩
    have w58 : τ3 0 58 = τ 0 58 := by
      rw [hτ3, zu_self, upd_s, l2.2.1, t58]
      refine b_ext (fun i hi => ?_)
      rw [b_and, b_or, b_xor, b_m1 i hi, hW, bt_bit (by omega) hi]
      have := hA.1 pl m hp (by omega)
      rw [hs] at this
      by_cases z : i = n * pl + m
      · rw [z, this]; simp
      · rw [decide_eq_false z]; simp
    have F3 : Fr a τ τ3 := by
      have z0 : ∀ i, τ3 0 i = τ 0 i := fun i => by
        by_cases z : i = 58
        · rw [z, w58]
        · rw [hτ3, zu_self, upd_ne _ _ z, l2.2.1, t0 i z]
      refine ⟨fun k hk => ?_, z0, fun k i hi => ?_⟩
      · have k0 : k ≠ 0 := fun z => hk (by rw [z]; decide)
        rw [hτ3, zu_ne _ _ _ k0, l2.1 k hk, tk k k0 (fun z => hk (by rw [z]; decide)) (fun z => hk (by rw [z]; decide))]
      · by_cases z : k = 0
        · rw [z]; exact z0 i
        · rw [hτ3, zu_ne _ _ _ z, l2.2.2 k i hi, tr' k i z (by omega)]
    have x3 : ∀ k, k ≠ 0 → τ3 k = τ2 k := fun k hk => by rw [hτ3, zu_ne _ _ _ hk]
    have N3 : Nd n tr cd a st tb H left τ3 := hNd0.mono F3 (by rw [x3 33 (by decide), l4, tk 33 (by decide) (by decide) (by decide)]) (by rw [x3 35 (by decide), l5, tk 35 (by decide) (by decide) (by decide)])
    have vle : V (3 * pl + m) ≤ 13 := by
      rw [← eV]
      exact Nat.le_trans (lv_le _ _ _ _ _ _) (by omega)
    obtain ⟨c2, τ4, d1, d2, d3, d4, d5⟩ := IH (m + 1) FU (bt2 pl b (V (3 * pl + m)) (cd (3 * pl + m))) τ3 (by omega) (FU_lt (by omega)) N3 (by rw [x3 32 (by decide), l6]) (by rw [x3 34 (by decide), l7]) (bt2_vl vle hb) (bt2_lt b2' hbc)
    refine ⟨c1 + 1 + c2, τ4, by omega, F3.tr d2, d3, d4, fun K => ?_⟩
    rw [e79, if_pos q, ref_109 hB (by omega) hp (by omega), ← hW, ← hτ1, show K + (c1 + 1 + c2) = (K + c2 + 1) + c1 by omega, l8 (K + c2 + 1)]
    have B2 : Bx n tr cd τ2 := B1.mono (fun i _ => l2.2.1 i) (l2.1 6 (by decide))
    rw [ref_back B2 (by omega) hp (show m < n by omega) (by rw [l3, t31]) (by rw [l4, tk 33 (by decide) (by decide) (by decide), u4, hpl]), ← hW, ← hτ3]
    exact d5 K
theorem ref_node : ∀ r, NodeOk n tr cd r := by
  intro r
  induction r with
  | zero => intro a st tb H left τ _ h; omega
  | succ r ih =>
    intro a st tb H left τ hr _ hNd h31 h32 h34
    have hB := hNd.1.1
    have hn3 := hB.2.2.1.2.1
    have hcp := hNd.2.2.2.2 ((st + a % 4) % 4) (by omega)
    have hst := hNd.2.1.2.1
    rw [if_neg (by omega)] at hcp
    obtain ⟨c, τ', c1, c2, c3, c4, c5⟩ := ref_scan (st := st) (tb := tb) (H := H) (left := left) ih hr n 0 FU none τ (by omega) (FU_lt (by omega)) hNd h32 h34 (Nat.zero_le _) (fun y h => by cases h)
    have hx : ∃ y, bv cd tr (r + 1) left ((st + a % 4) % 4) (a % 4) (ldd H (a - a % 4) (a % 4)) (hgh cd tr H (a - a % 4) (a % 4)) = some y := by
      obtain ⟨k, k1, k2⟩ := alw_ex (cd := cd) (laid := a % 4) (led := ldd H (a - a % 4) (a % 4)) (show 1 ≤ hk left ((st + a % 4) % 4) 3 0 by omega)
      exact f3_some (V := fun s => lvF cd tr (bv cd tr r) r left s (a % 4) (ldd H (a - a % 4) (a % 4)) (hgh cd tr H (a - a % 4) (a % 4))) 3 0 none (Or.inr ⟨k, Nat.zero_le _, by omega, k2⟩)
    obtain ⟨y, hy⟩ := hx
    have hy' : f3 cd (fun s => lvF cd tr (bv cd tr r) r left s (a % 4) (ldd H (a - a % 4) (a % 4)) (hgh cd tr H (a - a % 4) (a % 4))) left ((st + a % 4) % 4) (a % 4) (ldd H (a - a % 4) (a % 4)) (3 - 0) 0 none = some y := hy
    rw [hy'] at c3 c4
    refine ⟨c + 1, τ', y, ?_, hy, ?_, c2, c3, c4, fun K => ?_⟩
    · have e : hk left ((st + a % 4) % 4) (3 - 0) 0 = r / 4 + 1 := by
        show hk left ((st + a % 4) % 4) 3 0 = _
        omega
      rw [e] at c1
      show c + 1 ≤ (r / 4 + 1) * (1 + Dm r) + 1
      omega
    · refine f3_lt (V := fun s => lvF cd tr (bv cd tr r) r left s (a % 4) (ldd H (a - a % 4) (a % 4)) (hgh cd tr H (a - a % 4) (a % 4))) (led := ldd H (a - a % 4) (a % 4)) (laid := a % 4) (left := left) (pl := (st + a % 4) % 4) 3 0 none (fun i _ i2 z => ?_) (fun y h => by cases h) y hy'
      by_cases q : i < n
      · exact (hB.2.2.2 _ i (by omega) q).2
      · have := alw_left z
        rw [hNd.1.2.2 _ i (by omega) (by omega) (by omega)] at this
        exact absurd this (by decide)
    · rw [← Nat.add_assoc, ref_in hB (by omega) (show (st + a % 4) % 4 < 4 by omega) h31 hNd.2.2.1.1]
      exact c5 K
end
