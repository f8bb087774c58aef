-- bridge: the other one's pieces
def Bx (n tr : Nat) (cd : Nat → Nat) (τ : Hp) : Prop := τ 0 56 = nI n ∧ τ 0 57 = nI tr ∧ (1 ≤ n ∧ n ≤ 3 ∧ tr ≤ 4) ∧ ∀ q k, q < 4 → k < n → τ 6 (n * q + k) &&& 255 = nI (cd (3 * q + k)) ∧ cd (3 * q + k) < 52
def Aw (n : Nat) (left : Nat → Bool) (τ : Hp) : Prop := (∀ q k, q < 4 → k < n → bt (τ 0 58) (n * q + k) = !left (3 * q + k)) ∧ ∀ q k, q < 4 → n ≤ k → k < 3 → left (3 * q + k) = false
theorem nq_lt {n q k : Nat} (hn : n ≤ 3) (hq : q < 4) (hk : k < n) : n * q + k < 12 := by
  have : n * q ≤ n * 3 := Nat.mul_le_mul_left n (by omega)
  omega
section
variable {n tr : Nat} {cd : Nat → Nat} {left : Nat → Bool} {τ : Hp}
theorem M_isAway (hB : Bx n tr cd τ) (hA : Aw n left τ) {q k : Nat} (hq : q < 4) (hk : k < n) : F_M_isAway (nI q) (nI k) τ = some (b2 (!left (3 * q + k)), τ) := by
  have := nq_lt hB.2.2.1.2.1 hq hk
  unfold F_M_isAway
  rw [hB.1, pk_mul, nI_add, M_has _ (by omega), ob, hA.1 q k hq hk]
  dsimp only
  rw [b2_isb, gd_tt]
theorem M_cardOf (hB : Bx n tr cd τ) {q k : Nat} (hq : q < 4) (hk : k < n) : F_M_cardOf (nI q) (nI k) τ = some (nI (cd (3 * q + k)), τ) := by
  have := nq_lt hB.2.2.1.2.1 hq hk
  unfold F_M_cardOf
  rw [hB.1, pk_mul, nI_add, M_octet (by omega), ob, (hB.2.2.2 q k hq hk).1]
theorem mp_un (N : Nat) (a b c : Int32) (σ : Hp) : L_M_mayPlay_53 (N + 1) a b c σ = B_M_mayPlay_53 (fun x2 x4 x5 σ => L_M_mayPlay_53 N x2 x4 x5 σ) a b c σ := rfl
theorem nl13' : (13 : Int32) = nI 13 := rfl
theorem mp_step (hB : Bx n tr cd τ) (hA : Aw n left τ) {q su j N : Nat} (hq : q < 4) (hj : j ≤ n) (hsu : su < 52) : L_M_mayPlay_53 (N + 1) (nI q) (nI su) (nI j) τ = if n ≤ j then some (1, τ) else if (left (3 * q + j) && decide (cd (3 * q + j) / 13 = su)) = true then some (0, τ) else L_M_mayPlay_53 N (nI q) (nI su) (nI (j + 1)) τ := by
  have hn := hB.2.2.1.2.1
  rw [mp_un]
  unfold B_M_mayPlay_53
  by_cases h0 : n ≤ j
  · rw [if_pos (show τ 0 56 ≤ nI j by rw [hB.1]; exact nI_le h0 (by omega)), if_pos h0]
  rw [if_neg (show ¬ τ 0 56 ≤ nI j by rw [hB.1]; exact nI_ge (by omega) (by omega)), if_neg h0, M_isAway hB hA hq (by omega), ob]
  dsimp only
  rw [b2_ite, nI_1]
  obtain ⟨c1, c2⟩ := hB.2.2.2 q j hq (by omega)
  by_cases h1 : left (3 * q + j) = true
  · rw [if_neg (by simp [h1]), M_cardOf hB hq (by omega), ob]
    dsimp only
    rw [nl13', pk_div (by omega) (by omega) (by omega)]
    by_cases h2 : cd (3 * q + j) / 13 = su
    · rw [if_pos (by rw [h2]), if_pos (by simp [h1, h2])]
    · rw [if_neg (nI_lit (by omega) (by omega) h2), if_neg (by simp [h2])]
  · rw [if_pos (by simp [h1]), if_neg (by simp [h1])]
theorem mp_all (hB : Bx n tr cd τ) (hA : Aw n left τ) {q su : Nat} (hq : q < 4) (hsu : su < 52) : L_M_mayPlay_53 FU (nI q) (nI su) 0 τ = some (b2 (!hasS cd left q su), τ) := by
  obtain ⟨hn1, hn3, -⟩ := hB.2.2.1
  obtain ⟨F, hF⟩ : ∃ F, FU = F + 4 := ⟨FU - 4, rfl⟩
  have s0 := mp_step (N := F + 3) (j := 0) hB hA hq (by omega) hsu
  have s1 := mp_step (N := F + 2) (j := 0 + 1) hB hA hq (by omega) hsu
  rw [hF, show L_M_mayPlay_53 (F + 4) (nI q) (nI su) 0 τ = _ from s0, if_neg (by omega), s1]
  unfold hasS
  have z1 : n = 1 → left (3 * q + 1) = false := fun e => hA.2 q 1 hq (by omega) (by omega)
  have z2 : n ≤ 2 → left (3 * q + 2) = false := fun e => hA.2 q 2 hq (by omega) (by omega)
  rw [Nat.add_zero]
  by_cases c0 : (left (3 * q) && decide (cd (3 * q) / 13 = su)) = true
  · rw [if_pos c0, c0]; rfl
  rw [if_neg c0]
  simp only [Bool.not_eq_true] at c0
  rw [c0]
  by_cases n1 : n = 1
  · rw [if_pos (by omega), z1 n1, z2 (by omega)]; rfl
  have s2 := mp_step (N := F + 1) (j := 0 + 1 + 1) hB hA hq (by omega) hsu
  rw [if_neg (by omega), s2, Nat.zero_add]
  by_cases c1 : (left (3 * q + 1) && decide (cd (3 * q + 1) / 13 = su)) = true
  · rw [if_pos c1, c1]; rfl
  rw [if_neg c1]
  simp only [Bool.not_eq_true] at c1
  rw [c1]
  by_cases n2 : n = 2
  · rw [if_pos (by omega), z2 (by omega)]; rfl
  have s3 := mp_step (N := F) (j := 1 + 1 + 1) hB hA hq (by omega) hsu
  rw [if_pos (show n ≤ 1 + 1 + 1 by omega)] at s3
  rw [if_neg (by omega), s3]
  by_cases c2 : (left (3 * q + (1 + 1)) && decide (cd (3 * q + (1 + 1)) / 13 = su)) = true
  · rw [if_pos c2]
    rw [show 3 * q + (1 + 1) = 3 * q + 2 from rfl] at c2
    rw [c2]; rfl
  · rw [if_neg c2]
    simp only [Bool.not_eq_true] at c2
    rw [show 3 * q + (1 + 1) = 3 * q + 2 from rfl] at c2
    rw [c2]; rfl
theorem M_mayPlay (hB : Bx n tr cd τ) (hA : Aw n left τ) {at' pl led k : Nat} (hat : at' < 12) (hp : pl < 4) (hk : k < n) (hled : 0 < at' % 4 → τ 30 (at' - at' % 4) = nI (cd led) ∧ cd led < 52) : F_M_mayPlay (nI at') (nI pl) (nI k) τ = some (b2 (alw cd left pl (at' % 4) led k), τ) := by
  unfold F_M_mayPlay alw
  obtain ⟨c1, c2⟩ := hB.2.2.2 pl k hp hk
  rw [M_isAway hB hA hp hk, ob]
  dsimp only
  rw [b2_ite, nl4, jrem_nI (by omega) (by omega) (by omega)]
  by_cases h1 : left (3 * pl + k) = true
  rotate_left
  · rw [if_pos (by simp [h1])]
    simp only [Bool.not_eq_true] at h1
    rw [h1]; rfl
  rw [if_neg (by simp [h1]), h1]
  by_cases h2 : at' % 4 = 0
  · rw [if_pos (show nI (at' % 4) = 0 by rw [h2]; rfl), decide_eq_true h2]; rfl
  obtain ⟨l1, l2⟩ := hled (by omega)
  rw [if_neg (nI_ne0 (by omega) (by omega)), pk_sub (by omega)]
  have hf : at' - at' % 4 < 13 := by omega
  generalize at' - at' % 4 = f at l1 hf ⊢
  rw [gd_true (inbT hf (by decide)), nI_clamp (by omega)]
  have mpl := mp_all hB hA hp (show cd led / 13 < 52 by omega)
  have e30 : τ 30 f / 13 = nI (cd led / 13) := by rw [l1, nl13', pk_div (by omega) (by omega) (by omega)]
  have ec : nI (cd (3 * pl + k)) / 13 = nI (cd (3 * pl + k) / 13) := by rw [nl13', pk_div (by omega) (by omega) (by omega)]
  rw [← e30] at mpl
  rw [M_cardOf hB hp hk, ob, decide_eq_false h2]
  dsimp only
  by_cases h3 : cd (3 * pl + k) / 13 = cd led / 13
  · rw [if_pos (show nI (cd (3 * pl + k)) / 13 = τ 30 f / 13 by rw [ec, e30, h3]), decide_eq_true h3]
    cases hasS cd left pl (cd led / 13) <;> rfl
  · rw [if_neg (show ¬ nI (cd (3 * pl + k)) / 13 = τ 30 f / 13 by rw [ec, e30]; exact nI_lit (by omega) (by omega) h3), mpl, decide_eq_false h3]
    cases hasS cd left pl (cd led / 13) <;> rfl
theorem M_higher (hB : Bx n tr cd τ) {a b : Nat} (ha : cd a < 52) (hb : cd b < 52) : F_M_isHigher (nI (cd a)) (nI (cd b)) τ = some (b2 (bts cd tr a b), τ) := by
  have ht := hB.2.2.1.2.2
  unfold F_M_isHigher bts
  rw [nl13', pk_div (by omega) (by omega) (by omega), pk_div (by omega) (by omega) (by omega)]
  by_cases q : cd a / 13 = cd b / 13
  · rw [if_pos (by rw [q]), if_pos q]
    by_cases q2 : cd b < cd a
    · rw [if_neg (nI_ge q2 (by omega)), decide_eq_true q2]; rfl
    · rw [if_pos (nI_le (by omega) (by omega)), decide_eq_false q2]; rfl
  · rw [if_neg (nI_lit (by omega) (by omega) q), if_neg q]
    by_cases q2 : cd a / 13 = tr
    · rw [if_pos (by rw [hB.2.1, q2]), decide_eq_true q2]; rfl
    · rw [if_neg (by rw [hB.2.1]; exact nI_lit (by omega) (by omega) q2), decide_eq_false q2]; rfl
/-- who is high behind so many cards of a trick -/
def hgh (cd : Nat → Nat) (tr : Nat) (H : Nat → Nat) (f : Nat) : Nat → Nat
  | 0 => 0
  | 1 => H f
  | j + 2 => if bts cd tr (H (f + j + 1)) (hgh cd tr H f (j + 1)) = true then H (f + j + 1) else hgh cd tr H f (j + 1)
theorem tk_un (k46 : Int32 → Int32 → Hp → Option (Int32 × Hp)) (N : Nat) (a b c d : Int32) (σ : Hp) : L_M_takerOf_11 k46 (N + 1) a b c d σ = B_M_takerOf_11 k46 (fun x1 x2 x3 x4 σ => L_M_takerOf_11 k46 N x1 x2 x3 x4 σ) a b c d σ := rfl
theorem M_taker (hB : Bx n tr cd τ) {f st : Nat} {H : Nat → Nat} (hf : f + 4 ≤ 12) (hst : st < 4) (h33 : τ 33 f = nI st) (hH : ∀ i, f ≤ i → i < f + 4 → τ 30 i = nI (cd (H i)) ∧ cd (H i) < 52 ∧ H i / 3 = (st + (i - f)) % 4) : F_M_takerOf (nI (f + 4)) τ = some (nI (hgh cd tr H f 4 / 3), τ) := by
  unfold F_M_takerOf
  rw [nl4, pk_sub (by omega), show f + 4 - 4 = f by omega, nI_1]
  have key : ∀ (j N b : Nat), j ≤ 3 → j < N → f ≤ b → b < f + 4 → H b = hgh cd tr H f (4 - j) → L_M_takerOf_11 J_M_takerOf_46 N (nI (f + 4)) (nI f) (nI b) (nI (f + (4 - j))) τ = some (nI (hgh cd tr H f 4 / 3), τ) := by
    intro j
    induction j with
    | zero =>
      intro N b hj hN h1 h2 hb
      obtain ⟨N, rfl⟩ : ∃ N', N = N' + 1 := ⟨N - 1, by omega⟩
      rw [tk_un]
      unfold B_M_takerOf_11 J_M_takerOf_46
      obtain ⟨-, -, x3⟩ := hH b h1 h2
      rw [if_pos (nI_le (by omega) (by omega)), gd_true (inbT (show f < 13 by omega) (by omega)), nI_clamp (by omega), h33, nI_add, pk_sub (by omega), nl4, jrem_nI (by omega) (by omega) (by omega), show (st + b - f) % 4 = H b / 3 by rw [x3]; congr 1; omega, hb]
    | succ j ih =>
      intro N b hj hN h1 h2 hb
      obtain ⟨N, rfl⟩ : ∃ N', N = N' + 1 := ⟨N - 1, by omega⟩
      rw [tk_un]
      unfold B_M_takerOf_11
      obtain ⟨x1, x2, -⟩ := hH b h1 h2
      obtain ⟨y1, y2, -⟩ := hH (f + (4 - (j + 1))) (by omega) (by omega)
      have eh : hgh cd tr H f (4 - j) = if bts cd tr (H (f + (4 - (j + 1)))) (hgh cd tr H f (4 - (j + 1))) = true then H (f + (4 - (j + 1))) else hgh cd tr H f (4 - (j + 1)) := by
        rcases (show j = 0 ∨ j = 1 ∨ j = 2 by omega) with rfl | rfl | rfl <;> rfl
      rw [if_neg (nI_ge (by omega) (by omega)), gd_true (inbT (show f + (4 - (j + 1)) < 13 by omega) (by omega)), gd_true (inbT (show b < 13 by omega) (by omega)), nI_clamp (by omega), nI_clamp (by omega), x1, y1, M_higher hB y2 x2, ob, nI_1]
      dsimp only
      rw [b2_ite, show f + (4 - (j + 1)) + 1 = f + (4 - j) by omega, hb]
      by_cases q : bts cd tr (H (f + (4 - (j + 1)))) (hgh cd tr H f (4 - (j + 1))) = true
      · rw [if_pos q]
        exact ih N _ (by omega) (by omega) (by omega) (by omega) (by rw [eh, if_pos q])
      · rw [if_neg q]
        exact ih N b (by omega) (by omega) h1 h2 (by rw [eh, if_neg q, hb])
  exact key 3 FU f (by omega) (FU_lt (by omega)) (Nat.le_refl _) (by omega) rfl
/-- a better end -/
def bF (tb : Nat) (b : Option (Nat × Nat)) : Int32 × Int32 := match b with
  | none => (-1, -1)
  | some y => (nI (tb + y.1), nI y.2)
theorem M_best {at' pl tb v c : Nat} {b : Option (Nat × Nat)} (hat : at' < 13) (hp : pl < 4) (h33 : τ 33 at' = nI pl) (h32 : τ 32 at' = (bF tb b).1) (h34 : τ 34 at' = (bF tb b).2) (hv : tb + v < 100) (hb : tb + vl b < 100) (hc : c < 52) (hbc : ∀ y, b = some y → y.2 < 52) : ∃ τ', F_M_mayBeBest (nI at') (nI c) (nI (tb + v)) τ = some τ' ∧ Ag [32, 34] τ τ' ∧ (∀ i, i ≠ at' → τ' 32 i = τ 32 i ∧ τ' 34 i = τ 34 i) ∧ τ' 32 at' = (bF tb (bt2 pl b v c)).1 ∧ τ' 34 at' = (bF tb (bt2 pl b v c)).2 := by
  have inb13 : inb (nI at') 13 = true := inbT hat (by omega)
  have yes : (bt2 pl b v c = some (v, c)) → ∃ τ', J_M_mayBeBest_76 (nI at') (nI c) (nI (tb + v)) τ = some τ' ∧ Ag [32, 34] τ τ' ∧ (∀ i, i ≠ at' → τ' 32 i = τ 32 i ∧ τ' 34 i = τ 34 i) ∧ τ' 32 at' = (bF tb (bt2 pl b v c)).1 ∧ τ' 34 at' = (bF tb (bt2 pl b v c)).2 := by
    intro e
    unfold J_M_mayBeBest_76 J_M_mayBeBest_81
    rw [if_neg (by decide), gd_true inb13, gd_true inb13, nI_clamp (by omega), e]
    refine ⟨_, rfl, (Ag.rf.zu (by decide)).zu (by decide), fun i hi => ⟨?_, ?_⟩, ?_, ?_⟩
    · rw [zu_ne _ _ _ (by decide), zu_self, upd_ne _ _ hi]
    · rw [zu_self, upd_ne _ _ hi, zu_ne _ _ _ (by decide)]
    · rw [zu_ne _ _ _ (by decide), zu_self, upd_s]; rfl
    · rw [zu_self, upd_s]; rfl
  have no : (bt2 pl b v c = b) → ∃ τ', J_M_mayBeBest_80 (nI at') (nI c) (nI (tb + v)) τ = some τ' ∧ Ag [32, 34] τ τ' ∧ (∀ i, i ≠ at' → τ' 32 i = τ 32 i ∧ τ' 34 i = τ 34 i) ∧ τ' 32 at' = (bF tb (bt2 pl b v c)).1 ∧ τ' 34 at' = (bF tb (bt2 pl b v c)).2 := by
    intro e
    unfold J_M_mayBeBest_80 J_M_mayBeBest_81
    rw [if_pos rfl, e]
    exact ⟨τ, rfl, Ag.rf, fun _ _ => ⟨rfl, rfl⟩, h32, h34⟩
  unfold F_M_mayBeBest
  rw [gd_true inb13, nI_clamp (by omega), h33, nl2, jrem_nI (by omega) (by omega) (by omega)]
  have main : ∀ s0 : Int32, ((pl % 2 = 0 ∧ s0 = 1) ∨ (¬ pl % 2 = 0 ∧ s0 = 0)) → ∃ τ', J_M_mayBeBest_16 (nI at') (nI c) (nI (tb + v)) s0 τ = some τ' ∧ Ag [32, 34] τ τ' ∧ (∀ i, i ≠ at' → τ' 32 i = τ 32 i ∧ τ' 34 i = τ 34 i) ∧ τ' 32 at' = (bF tb (bt2 pl b v c)).1 ∧ τ' 34 at' = (bF tb (bt2 pl b v c)).2 := by
    intro s0 hs
    unfold J_M_mayBeBest_16
    rw [gd_true inb13, nI_clamp (by omega)]
    match b, h32, h34, hb, hbc, yes, no with
    | none, h32, h34, hb, hbc, yes, no =>
      rw [if_pos (show τ 32 at' = -1 from h32)]
      exact yes rfl
    | some y, h32, h34, hb, hbc, yes, no =>
      have h32 : τ 32 at' = nI (tb + y.1) := h32
      have h34 : τ 34 at' = nI y.2 := h34
      have hb : tb + y.1 < 100 := hb
      have hy := hbc y rfl
      have e2 : bt2 pl (some y) v c = if bet pl v y.1 = true ∨ (v = y.1 ∧ c < y.2) then some (v, c) else some y := rfl
      rw [if_neg (show ¬ τ 32 at' = -1 by rw [h32]; exact nI_m1 (by omega))]
      have j56 : ¬ bet pl v y.1 = true → ∃ τ', J_M_mayBeBest_56 (nI at') (nI c) (nI (tb + v)) τ = some τ' ∧ Ag [32, 34] τ τ' ∧ (∀ i, i ≠ at' → τ' 32 i = τ 32 i ∧ τ' 34 i = τ 34 i) ∧ τ' 32 at' = (bF tb (bt2 pl (some y) v c)).1 ∧ τ' 34 at' = (bF tb (bt2 pl (some y) v c)).2 := by
        intro nb
        unfold J_M_mayBeBest_56
        rw [gd_true inb13, nI_clamp (by omega)]
        by_cases q1 : v = y.1
        · rw [if_pos (show nI (tb + v) = τ 32 at' by rw [h32, q1]), gd_true inb13]
          by_cases q2 : c < y.2
          · rw [if_neg (show ¬ τ 34 at' ≤ nI c by rw [h34]; exact nI_ge q2 (by omega))]
            exact yes (by rw [e2, if_pos (Or.inr ⟨q1, q2⟩)])
          · rw [if_pos (show τ 34 at' ≤ nI c by rw [h34]; exact nI_le (by omega) (by omega))]
            exact no (by rw [e2, if_neg (by rintro (z | z); exact nb z; exact q2 z.2)])
        · rw [if_neg (show ¬ nI (tb + v) = τ 32 at' by rw [h32]; exact nI_lit (by omega) (by omega) (by omega))]
          exact no (by rw [e2, if_neg (by rintro (z | z); exact nb z; exact q1 z.1)])
      rcases hs with ⟨h0, rfl⟩ | ⟨h0, rfl⟩
      · rw [if_neg (by decide), gd_true inb13]
        have eb : bet pl v y.1 = decide (y.1 < v) := by unfold bet; rw [if_pos h0]
        by_cases q : y.1 < v
        · rw [if_neg (show ¬ nI (tb + v) ≤ τ 32 at' by rw [h32]; exact nI_ge (by omega) (by omega))]
          exact yes (by rw [e2, if_pos (Or.inl (by rw [eb]; exact decide_eq_true q))])
        · rw [if_pos (show nI (tb + v) ≤ τ 32 at' by rw [h32]; exact nI_le (by omega) (by omega))]
          exact j56 (by rw [eb]; simp [q])
      · rw [if_pos rfl, gd_true inb13]
        have eb : bet pl v y.1 = decide (v < y.1) := by unfold bet; rw [if_neg h0]
        by_cases q : v < y.1
        · rw [if_pos (show nI (tb + v) < τ 32 at' by rw [h32]; exact nI_lt (by omega) (by omega))]
          exact yes (by rw [e2, if_pos (Or.inl (by rw [eb]; exact decide_eq_true q))])
        · rw [if_neg (show ¬ nI (tb + v) < τ 32 at' by rw [h32]; exact nI_nlt (by omega) (by omega))]
          exact j56 (by rw [eb]; simp [q])
  by_cases q : pl % 2 = 0
  · rw [if_pos (by rw [q]; rfl)]; exact main 1 (Or.inl ⟨q, rfl⟩)
  · rw [if_neg (nI_ne0 (by omega) (by omega))]; exact main 0 (Or.inr ⟨q, rfl⟩)
end
