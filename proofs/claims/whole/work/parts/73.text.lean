-- reading a text
def wa (w : Nat → Int32) (n p : Nat) : Int32 := if p < n then w p else -1
def TxC (w : Nat → Int32) (n : Nat) (σ : Hp) : Prop := n ≤ 240 ∧ σ 23 2 = nI n ∧ ∀ i, i < n → σ 24 i = w i
def TxM (w : Nat → Int32) (n : Nat) (τ : Hp) : Prop := n ≤ 240 ∧ τ 0 8 = nI n ∧ ∀ i, i < n → τ 6 i &&& 255 = w i
theorem wa_in {w : Nat → Int32} {n p : Nat} (h : p < n) : wa w n p = w p := if_pos h
theorem wa_out {w : Nat → Int32} {n p : Nat} (h : n ≤ p) : wa w n p = -1 := if_neg (by omega)
theorem wa_lt {w : Nat → Int32} {n p : Nat} (h : wa w n p ≠ -1) : p < n := by
  by_cases q : p < n
  · exact q
  · exact absurd (wa_out (by omega)) h
theorem C_here {w : Nat → Int32} {n p : Nat} {σ : Hp} (h : TxC w n σ) (e : σ 23 3 = nI p) (hp : p ≤ n) : F_X8_here σ = some (wa w n p, σ) := by
  obtain ⟨h1, h2, h3⟩ := h
  unfold F_X8_here wa
  rw [h2, e]
  by_cases q : p < n
  · rw [if_neg (nI_ge q (by omega)), if_neg (show ¬ Int32.ofNat 260 ≤ nI p from nI_ge (b := 260) (by omega) (by omega)), gd_true (inbT (show p < 260 by omega) (by omega)), nI_clamp (by omega), h3 p q, if_pos q]
  · rw [if_pos (nI_le (by omega) (by omega)), if_neg q]
theorem M_here {w : Nat → Int32} {n p : Nat} {τ : Hp} (h : TxM w n τ) (e : τ 0 7 = nI p) (hp : p ≤ n) : F_M_here τ = some (wa w n p, τ) := by
  obtain ⟨h1, h2, h3⟩ := h
  unfold F_M_here wa
  rw [h2, e]
  by_cases q : p < n
  · rw [if_neg (nI_ge q (by omega)), gd_true (inbT (show p < 260 by omega) (by omega)), nI_clamp (by omega), h3 p q, if_pos q]
  · rw [if_pos (nI_le (by omega) (by omega)), if_neg q]
def dgt (x : Int32) : Bool := wi x 48 57
theorem dgt_of {x : Int32} (h : dgt x = true) : ∃ r : Nat, r ≤ 9 ∧ x = nI (48 + r) ∧ x - 48 = nI r := by
  obtain ⟨j, h1, h2, rfl⟩ := wi_from (a := 48) (M := 57) (m := 48) (n := 57) (by decide) (by decide) h
  refine ⟨j - 48, by omega, by congr 1; omega, ?_⟩
  rw [nl48, pk_sub h1]
theorem dgt_lt {w : Nat → Int32} {n p : Nat} (h : dgt (wa w n p) = true) : p < n := by
  refine wa_lt (w := w) (fun e => ?_)
  rw [e] at h
  exact absurd h (by decide)
theorem C_digit {w : Nat → Int32} {n p : Nat} {σ : Hp} (h : TxC w n σ) (e : σ 23 3 = nI p) (hp : p ≤ n) : F_X8_digit σ = some (if dgt (wa w n p) = true then wa w n p - 48 else -1, σ) := by
  unfold F_X8_digit
  rw [C_here h e hp, ob]
  dsimp only
  unfold dgt wi
  by_cases q1 : wa w n p < 48
  · rw [if_pos q1, if_neg (by simp [Int32.not_le.mpr q1])]
  · rw [if_neg q1]
    by_cases q2 : 57 < wa w n p
    · rw [if_pos q2, if_neg (by simp [Int32.not_le.mpr q2])]
    · rw [if_neg q2, if_pos (by simp [Int32.not_lt.mp q1, Int32.not_lt.mp q2])]
theorem M_isDigit {w : Nat → Int32} {n p : Nat} {τ : Hp} (h : TxM w n τ) (e : τ 0 7 = nI p) (hp : p ≤ n) : F_M_isDigit τ = some (b2 (dgt (wa w n p)), τ) := by
  unfold F_M_isDigit
  rw [M_here h e hp, ob]
  dsimp only
  unfold dgt wi
  by_cases q1 : wa w n p < 48
  · rw [if_pos q1]
    simp [Int32.not_le.mpr q1, b2]
  · rw [if_neg q1, M_here h e hp, ob]
    dsimp only
    by_cases q2 : 57 < wa w n p
    · rw [if_pos q2]
      simp [Int32.not_le.mpr q2, b2]
    · rw [if_neg q2]
      simp [Int32.not_lt.mp q1, Int32.not_lt.mp q2, b2]
theorem C_refu (k : Int32) (σ : Hp) : F_X8_refuse k σ = some (0, zu σ 23 4 (-1000 * k - σ 23 3)) := rfl
theorem C_refA (k x : Int32) (σ : Hp) : F_X8_refuseAt k x σ = some (0, zu σ 23 4 (-1000 * k - x)) := rfl
theorem M_wrA (k x : Int32) (τ : Hp) : F_M_wrongAt k x τ = some (0, zu τ 0 9 (-1000 * k - x)) := rfl
theorem gdz {α : Type} (x : Option α) : gd (isb 0) x = x := by rw [isb_0]; rfl
theorem gdo {α : Type} (x : Option α) : gd (isb 1) x = x := by rw [isb_1]; rfl
theorem C_takes {w : Nat → Int32} {n p : Nat} {σ : Hp} (h : TxC w n σ) (e : σ 23 3 = nI p) (hp : p ≤ n) (x : Int32) : F_X8_takes x σ = if wa w n p = x then some (1, zu σ 23 3 (nI (p + 1))) else some (0, σ) := by
  unfold F_X8_takes
  rw [C_here h e hp, ob]
  dsimp only
  rw [e, nI_1]
theorem M_takes {w : Nat → Int32} {n p : Nat} {τ : Hp} (h : TxM w n τ) (e : τ 0 7 = nI p) (hp : p ≤ n) (x : Int32) : F_M_takes x τ = if wa w n p = x then some (1, zu τ 0 7 (nI (p + 1))) else some (0, zu τ 0 9 (-1000 * 1 - nI p)) := by
  unfold F_M_takes
  rw [M_here h e hp, ob]
  dsimp only
  rw [M_wrA, ob]
  dsimp only
  rw [gdz, e, nI_1]
/-- what changes while a number is read -/
def FrT (σ σ' : Hp) : Prop := (∀ k, k ≠ 23 → σ' k = σ k) ∧ ∀ j, j ≠ 3 → j ≠ 4 → σ' 23 j = σ 23 j
def FrN (S : List Nat) (τ τ' : Hp) : Prop := (∀ k, k ≠ 0 → τ' k = τ k) ∧ ∀ j, j ∉ S → τ' 0 j = τ 0 j
theorem FrT.rf {σ : Hp} : FrT σ σ := ⟨fun _ _ => rfl, fun _ _ _ => rfl⟩
theorem FrN.rf {S : List Nat} {τ : Hp} : FrN S τ τ := ⟨fun _ _ => rfl, fun _ _ => rfl⟩
theorem FrT.zu {σ σ' : Hp} (h : FrT σ σ') {i : Nat} {x : Int32} (hi : i = 3 ∨ i = 4) : FrT σ (zu σ' 23 i x) := ⟨fun k hk => by rw [zu_ne _ _ _ hk]; exact h.1 k hk, fun j h3 h4 => by rw [zu_self, upd_ne _ _ (by omega)]; exact h.2 j h3 h4⟩
theorem FrN.zu {S : List Nat} {τ τ' : Hp} (h : FrN S τ τ') {i : Nat} {x : Int32} (hi : i ∈ S) : FrN S τ (zu τ' 0 i x) := ⟨fun k hk => by rw [zu_ne _ _ _ hk]; exact h.1 k hk, fun j hj => by rw [zu_self, upd_ne _ _ (fun e : j = i => hj (by rw [e]; exact hi))]; exact h.2 j hj⟩
theorem TxC.fr {w : Nat → Int32} {n : Nat} {σ σ' : Hp} (h : TxC w n σ) (f : FrT σ σ') : TxC w n σ' := ⟨h.1, by rw [f.2 2 (by decide) (by decide)]; exact h.2.1, fun i hi => by rw [f.1 24 (by decide)]; exact h.2.2 i hi⟩
theorem TxM.fr {w : Nat → Int32} {n : Nat} {S : List Nat} {τ τ' : Hp} (h : TxM w n τ) (f : FrN S τ τ') (hS : 8 ∉ S) : TxM w n τ' := ⟨h.1, by rw [f.2 8 hS]; exact h.2.1, fun i hi => by rw [f.1 6 (by decide)]; exact h.2.2 i hi⟩
/-- a number of m digits at most, read by both: the class's loop against the other's -/
def NumQ (w : Nat → Int32) (n p0 : Nat) (B : Nat) (σ τ : Hp) (r r' : Option (Int32 × Hp)) : Prop :=
  (∃ (q : Nat) (σ' τ' : Hp), p0 ≤ q ∧ q ≤ n ∧ r = some (-1, σ') ∧ r' = some (0, τ') ∧ FrT σ σ' ∧ FrN [7, 9, 10] τ τ' ∧ σ' 23 4 = -1000 * 2 - nI q ∧ τ' 0 9 = -1000 * 2 - nI q) ∨
  (∃ (q v : Nat) (σ' τ' : Hp), p0 ≤ q ∧ q ≤ n ∧ v < B ∧ r = some (nI v, σ') ∧ r' = some (1, τ') ∧ FrT σ σ' ∧ FrN [7, 9, 10] τ τ' ∧ σ' 23 3 = nI q ∧ τ' 0 7 = nI q ∧ τ' 0 10 = nI v ∧ dgt (wa w n q) = false)
theorem num_eq {w : Nat → Int32} {n p0 m : Nat} {σ0 τ0 : Hp} (hm : m ≤ 5) (hC : TxC w n σ0) (hM : TxM w n τ0) (L2 : Nat → Hp → Option (Int32 × Hp))
    (hL2 : ∀ N t p v, TxM w n t → t 0 7 = nI p → p ≤ n → t 0 10 = nI v → L2 (N + 1) t = if dgt (wa w n p) = true then (if p = p0 + m then some (0, zu t 0 9 (-1000 * 2 - nI p)) else L2 N (zu (zu t 0 10 (10 * nI v + wa w n p - 48)) 0 7 (nI (p + 1)))) else some (1, t)) :
    ∀ (d i N1 N2 v : Nat) (σ τ : Hp), i + d = m → d < N1 → d < N2 → FrT σ0 σ → FrN [7, 9, 10] τ0 τ → σ 23 3 = nI (p0 + i) → τ 0 7 = nI (p0 + i) → p0 + i ≤ n → τ 0 10 = nI v → v < 10 ^ i → NumQ w n (p0 + i) (10 ^ m) σ0 τ0 (L_X8_number_20 J_X8_number_38 N1 (nI m) (nI v) (nI i) σ) (L2 N2 τ) := by
  intro d
  induction d with
  | zero =>
    intro i N1 N2 v σ τ hd h1 h2 f1 f2 e1 e2 hp ev hv
    obtain ⟨N1, rfl⟩ : ∃ M, N1 = M + 1 := ⟨N1 - 1, by omega⟩
    obtain ⟨N2, rfl⟩ : ∃ M, N2 = M + 1 := ⟨N2 - 1, by omega⟩
    obtain rfl : i = m := by omega
    rw [hL2 N2 τ (p0 + i) v (hM.fr f2 (by decide)) e2 hp ev]
    show NumQ _ _ _ _ _ _ (B_X8_number_20 _ _ (nI i) (nI v) (nI i) σ) _
    unfold B_X8_number_20
    rw [if_neg (nI_nlt (Nat.le_refl _) (by omega)), C_digit (hC.fr f1) e1 hp, ob]
    dsimp only
    by_cases q : dgt (wa w n (p0 + i)) = true
    · obtain ⟨r, hr, -, er⟩ := dgt_of q
      rw [if_pos q, if_pos q, if_pos rfl, er, if_neg (nI_m1 (by omega)), if_pos rfl]
      unfold J_X8_number_38
      rw [C_refu, ob]
      dsimp only
      refine Or.inl ⟨p0 + i, _, _, Nat.le_refl _, hp, rfl, rfl, f1.zu (Or.inr rfl), f2.zu (by decide), ?_, ?_⟩
      · rw [zu_self, upd_s, e1]
      · rw [zu_self, upd_s]
    · rw [if_neg q, if_neg q, if_pos rfl]
      exact Or.inr ⟨p0 + i, v, σ, τ, Nat.le_refl _, hp, hv, rfl, rfl, f1, f2, e1, e2, ev, by simpa using q⟩
  | succ d ih =>
    intro i N1 N2 v σ τ hd h1 h2 f1 f2 e1 e2 hp ev hv
    obtain ⟨N1, rfl⟩ : ∃ M, N1 = M + 1 := ⟨N1 - 1, by omega⟩
    obtain ⟨N2, rfl⟩ : ∃ M, N2 = M + 1 := ⟨N2 - 1, by omega⟩
    have p10 : 10 ^ i * 10 ≤ 10 ^ m := by
      rw [← Nat.pow_succ]
      exact Nat.pow_le_pow_right (by omega) (by omega)
    have pm : 10 ^ m ≤ 10 ^ 5 := Nat.pow_le_pow_right (by omega) hm
    rw [hL2 N2 τ (p0 + i) v (hM.fr f2 (by decide)) e2 hp ev]
    show NumQ _ _ _ _ _ _ (B_X8_number_20 (fun x1 x2 x3 σ => L_X8_number_20 J_X8_number_38 N1 x1 x2 x3 σ) _ (nI m) (nI v) (nI i) σ) _
    unfold B_X8_number_20
    rw [if_neg (nI_nlt (by omega) (by omega)), C_digit (hC.fr f1) e1 hp, ob]
    dsimp only
    by_cases q : dgt (wa w n (p0 + i)) = true
    · obtain ⟨r, hr, er', er⟩ := dgt_of q
      have hlt := dgt_lt q
      rw [if_pos q, if_pos q, er, if_neg (nI_m1 (by omega)), if_neg (nI_lit (by omega) (by omega) (by omega)), if_neg (show ¬ p0 + i = p0 + m by omega), C_digit (hC.fr f1) e1 hp, ob]
      dsimp only
      rw [if_pos q, er, e1, nI_1, nI_1, er', nl10, pk_mul, nI_add, nI_add, nl48, pk_sub (show 48 ≤ 10 * v + (48 + r) by omega), show 10 * v + (48 + r) - 48 = 10 * v + r by omega]
      have := ih (i + 1) N1 N2 (10 * v + r) (zu σ 23 3 (nI (p0 + i + 1))) (zu (zu τ 0 10 (nI (10 * v + r))) 0 7 (nI (p0 + i + 1))) (by omega) (by omega) (by omega) (f1.zu (Or.inl rfl)) ((f2.zu (by decide)).zu (by decide)) (by rw [zu_self, upd_s]; rfl) (by rw [zu_self, upd_s]; rfl) (by omega) (by rw [zu_self, upd_ne _ _ (by decide), zu_self, upd_s]) (by rw [Nat.pow_succ]; omega)
      rcases this with ⟨q', s', t', g1, g2, g3⟩ | ⟨q', v', s', t', g1, g2, g3⟩
      · exact Or.inl ⟨q', s', t', by omega, g2, g3⟩
      · exact Or.inr ⟨q', v', s', t', by omega, g2, g3⟩
    · rw [if_neg q, if_neg q, if_pos rfl]
      refine Or.inr ⟨p0 + i, v, σ, τ, Nat.le_refl _, hp, ?_, rfl, rfl, f1, f2, e1, e2, ev, by simpa using q⟩
      omega
/-- a first step of a number has a digit -/
theorem number_C {w : Nat → Int32} {n p m : Nat} {σ τ : Hp} (hm : m ≤ 5) (h1 : 1 ≤ m) (hC : TxC w n σ) (hM : TxM w n τ) (e1 : σ 23 3 = nI p) (e2 : τ 0 7 = nI p) (hp : p ≤ n) (hd : dgt (wa w n p) = true) (L2 : Nat → Hp → Option (Int32 × Hp))
    (hL2 : ∀ N t q v, TxM w n t → t 0 7 = nI q → q ≤ n → t 0 10 = nI v → L2 (N + 1) t = if dgt (wa w n q) = true then (if q = p + m then some (0, zu t 0 9 (-1000 * 2 - nI q)) else L2 N (zu (zu t 0 10 (10 * nI v + wa w n q - 48)) 0 7 (nI (q + 1)))) else some (1, t)) :
    NumQ w n (p + 1) (10 ^ m) σ τ (F_X8_number (nI m) σ) (L2 FU (zu τ 0 10 0)) := by
  unfold F_X8_number
  rw [C_digit hC e1 hp, ob]
  dsimp only
  obtain ⟨r, hr, er', er⟩ := dgt_of hd
  have hlt := dgt_lt hd
  rw [if_pos hd, er, if_neg (nI_m1 (by omega))]
  obtain ⟨F, hF⟩ : ∃ F, FU = F + 1 := ⟨FU - 1, rfl⟩
  have hF6 : 6 < F := by
    have : FU = 1000000 := rfl
    omega
  have f2 : FrN [7, 9, 10] τ (zu τ 0 10 0) := FrN.rf.zu (by decide)
  rw [hF, hL2 F (zu τ 0 10 0) p 0 (hM.fr f2 (by decide)) (by rw [zu_self, upd_ne _ _ (by decide)]; exact e2) hp (by rw [zu_self, upd_s]; rfl), if_pos hd, if_neg (by omega)]
  show NumQ _ _ _ _ _ _ (B_X8_number_20 (fun x1 x2 x3 σ => L_X8_number_20 J_X8_number_38 F x1 x2 x3 σ) _ (nI m) 0 0 σ) _
  unfold B_X8_number_20
  rw [if_neg (show ¬ nI m < 0 from nI_pos (by omega)), C_digit hC e1 hp, ob]
  dsimp only
  rw [if_pos hd, er, if_neg (nI_m1 (by omega)), if_neg (show ¬ (0 : Int32) = nI m from fun e => nI_ne0 (by omega) (by omega) e.symm), C_digit hC e1 hp, ob]
  dsimp only
  rw [if_pos hd, er, e1, nI_1, er', nl10, n0, pk_mul, nI_add, nI_add, nI_1, nl48, pk_sub (show 48 ≤ 10 * 0 + (48 + r) by omega), show 10 * 0 + (48 + r) - 48 = 0 + r by omega, show 10 * 0 + r = 0 + r by omega, show 0 + 1 = 1 from rfl]
  exact num_eq hm hC hM L2 hL2 (m - 1) 1 F F (0 + r) (zu σ 23 3 (nI (p + 1))) (zu (zu (zu τ 0 10 (nI 0)) 0 10 (nI (0 + r))) 0 7 (nI (p + 1))) (by omega) (by omega) (by omega) (FrT.rf.zu (Or.inl rfl)) ((f2.zu (by decide)).zu (by decide)) (by rw [zu_self, upd_s]) (by rw [zu_self, upd_s]) (by omega) (by rw [zu_self, upd_ne _ _ (by decide), zu_self, upd_s]) (by omega)
theorem M_num5 {w : Nat → Int32} {n p0 : Nat} (hn : p0 ≤ n) (N : Nat) (t : Hp) (p v : Nat) (h : TxM w n t) (e : t 0 7 = nI p) (hp : p ≤ n) (ev : t 0 10 = nI v) : L_M_readsNumber_10 J_M_readsNumber_27 (N + 1) (nI p0) t = if dgt (wa w n p) = true then (if p = p0 + 5 then some (0, zu t 0 9 (-1000 * 2 - nI p)) else L_M_readsNumber_10 J_M_readsNumber_27 N (nI p0) (zu (zu t 0 10 (10 * nI v + wa w n p - 48)) 0 7 (nI (p + 1)))) else some (1, t) := by
  have hn2 := h.1
  show B_M_readsNumber_10 (fun x1 σ => L_M_readsNumber_10 J_M_readsNumber_27 N x1 σ) _ (nI p0) t = _
  unfold B_M_readsNumber_10
  rw [M_isDigit h e hp, ob]
  dsimp only
  rw [b2_ite]
  by_cases q : dgt (wa w n p) = true
  · rw [if_pos q, if_pos q, M_here h e hp, ob]
    by_cases q2 : p = p0 + 5
    · rw [if_pos (by rw [e, nl5, nI_add, q2]), if_pos q2]
      unfold J_M_readsNumber_27
      rw [M_wrA, ob]
      dsimp only
      rw [gdz, e]
    · rw [if_neg (by rw [e, nl5, nI_add]; exact nI_lit (by omega) (by omega) q2), if_neg q2]
      dsimp only
      rw [ev, zu_self, upd_ne _ _ (by decide), e, nI_1]
  · rw [if_neg q, if_neg q]
theorem M_num2 {w : Nat → Int32} {n p0 : Nat} (hn : p0 ≤ n) (N : Nat) (t : Hp) (p v : Nat) (h : TxM w n t) (e : t 0 7 = nI p) (hp : p ≤ n) (ev : t 0 10 = nI v) : L_M_readsAmount_27 J_M_readsAmount_44 (N + 1) (nI p0) t = if dgt (wa w n p) = true then (if p = p0 + 2 then some (0, zu t 0 9 (-1000 * 2 - nI p)) else L_M_readsAmount_27 J_M_readsAmount_44 N (nI p0) (zu (zu t 0 10 (10 * nI v + wa w n p - 48)) 0 7 (nI (p + 1)))) else some (1, t) := by
  have hn2 := h.1
  show B_M_readsAmount_27 (fun x1 σ => L_M_readsAmount_27 J_M_readsAmount_44 N x1 σ) _ (nI p0) t = _
  unfold B_M_readsAmount_27
  rw [M_isDigit h e hp, ob]
  dsimp only
  rw [b2_ite]
  by_cases q : dgt (wa w n p) = true
  · rw [if_pos q, if_pos q, M_here h e hp, ob]
    by_cases q2 : p = p0 + 2
    · rw [if_pos (by rw [e, nl2, nI_add, q2]), if_pos q2]
      unfold J_M_readsAmount_44
      rw [M_wrA, ob]
      dsimp only
      rw [gdz, e]
    · rw [if_neg (by rw [e, nl2, nI_add]; exact nI_lit (by omega) (by omega) q2), if_neg q2]
      dsimp only
      rw [ev, zu_self, upd_ne _ _ (by decide), e, nI_1]
  · rw [if_neg q, if_neg q]
