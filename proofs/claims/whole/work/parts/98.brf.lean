-- bridge: the other one plays out
theorem bt2_some (pl : Nat) (b : Option (Nat × Nat)) (v c : Nat) : ∃ y, bt2 pl b v c = some y := by
  unfold bt2
  match b with
  | none => exact ⟨_, rfl⟩
  | some x =>
    dsimp only
    split
    · exact ⟨_, rfl⟩
    · exact ⟨_, rfl⟩
theorem bt2_lt {pl v c : Nat} {b : Option (Nat × Nat)} (hc : c < 52) (hb : ∀ y, b = some y → y.2 < 52) : ∀ y, bt2 pl b v c = some y → y.2 < 52 := by
  intro y
  unfold bt2
  match b, hb with
  | none, _ => intro e; cases e; exact hc
  | some x, hb =>
    dsimp only
    split
    · intro e; cases e; exact hc
    · intro e; cases e; exact hb _ rfl
theorem bt2_vl {pl v c M : Nat} {b : Option (Nat × Nat)} (hv : v ≤ M) (hb : vl b ≤ M) : vl (bt2 pl b v c) ≤ M := by
  unfold bt2
  match b, hb with
  | none, _ => exact hv
  | some x, hb =>
    dsimp only
    split
    · exact hv
    · exact hb
theorem nq_eq {n q k p m : Nat} (h1 : 1 ≤ n) (h3 : n ≤ 3) (hk : k < n) (hm : m < n) : (n * q + k = n * p + m) ↔ (3 * q + k = 3 * p + m) := by
  rcases (show n = 1 ∨ n = 2 ∨ n = 3 by omega) with z | z | z <;> subst z <;> omega
section
variable {n tr : Nat} {cd : Nat → Nat}
theorem f3_some {V : Nat → Nat} {left : Nat → Bool} {pl laid led : Nat} : ∀ (j k : Nat) (b : Option (Nat × Nat)), ((∃ y, b = some y) ∨ ∃ i, k ≤ i ∧ i < k + j ∧ alw cd left pl laid led i = true) → ∃ y, f3 cd V left pl laid led j k b = some y := by
  intro j
  induction j with
  | zero =>
    intro k b h
    rcases h with ⟨y, h⟩ | ⟨i, h1, h2, -⟩
    · exact ⟨y, h⟩
    · omega
  | succ j ih =>
    intro k b h
    refine ih (k + 1) _ ?_
    by_cases q : alw cd left pl laid led k = true
    · rw [if_pos q]; exact Or.inl (bt2_some _ _ _ _)
    · rw [if_neg q]
      rcases h with h | ⟨i, h1, h2, h3⟩
      · exact Or.inl h
      · by_cases z : i = k
        · rw [z] at h3; exact absurd h3 q
        · exact Or.inr ⟨i, by omega, by omega, h3⟩
theorem f3_lt {V : Nat → Nat} {left : Nat → Bool} {pl laid led : Nat} : ∀ (j k : Nat) (b : Option (Nat × Nat)), (∀ i, k ≤ i → i < k + j → alw cd left pl laid led i = true → cd (3 * pl + i) < 52) → (∀ y, b = some y → y.2 < 52) → ∀ y, f3 cd V left pl laid led j k b = some y → y.2 < 52 := by
  intro j
  induction j with
  | zero => intro k b _ hb; exact hb
  | succ j ih =>
    intro k b h hb
    refine ih (k + 1) _ (fun i h1 h2 => h i (by omega) (by omega)) ?_
    by_cases q : alw cd left pl laid led k = true
    · rw [if_pos q]; exact bt2_lt (h k (Nat.le_refl _) (by omega) q) hb
    · rw [if_neg q]; exact hb
theorem f3_dead {V : Nat → Nat} {left : Nat → Bool} {pl laid led : Nat} : ∀ (j k : Nat) (b : Option (Nat × Nat)), (∀ i, k ≤ i → i < k + j → ¬ alw cd left pl laid led i = true) → f3 cd V left pl laid led j k b = b := by
  intro j
  induction j with
  | zero => intro k b _; rfl
  | succ j ih =>
    intro k b h
    show f3 cd V left pl laid led j (k + 1) (if alw cd left pl laid led k = true then bt2 pl b (V (3 * pl + k)) (cd (3 * pl + k)) else b) = b
    rw [if_neg (h k (Nat.le_refl _) (by omega))]
    exact ih (k + 1) b (fun i h1 h2 => h i (by omega) (by omega))
theorem alw_left {left : Nat → Bool} {pl laid led k : Nat} (h : alw cd left pl laid led k = true) : left (3 * pl + k) = true := by
  unfold alw at h
  rw [Bool.and_eq_true] at h
  exact h.1
theorem hasS_ex {left : Nat → Bool} {pl q : Nat} (h : hasS cd left pl q = true) : ∃ k, k < 3 ∧ left (3 * pl + k) = true ∧ cd (3 * pl + k) / 13 = q := by
  unfold hasS at h
  simp only [Bool.or_eq_true, Bool.and_eq_true, decide_eq_true_eq] at h
  rcases h with h | h | h
  · exact ⟨0, by omega, h⟩
  · exact ⟨1, by omega, h⟩
  · exact ⟨2, by omega, h⟩
theorem alw_ex {left : Nat → Bool} {pl laid led : Nat} (h : 1 ≤ hk left pl 3 0) : ∃ k, k < 3 ∧ alw cd left pl laid led k = true := by
  by_cases q : laid ≠ 0 ∧ hasS cd left pl (cd led / 13) = true
  · obtain ⟨k, k1, k2, k3⟩ := hasS_ex q.2
    exact ⟨k, k1, by unfold alw; simp [k2, k3]⟩
  · have hl : ∃ k, k < 3 ∧ left (3 * pl + k) = true := by
      by_cases a0 : left (3 * pl + 0) = true
      · exact ⟨0, by omega, a0⟩
      by_cases a1 : left (3 * pl + (0 + 1)) = true
      · exact ⟨1, by omega, a1⟩
      by_cases a2 : left (3 * pl + (0 + 1 + 1)) = true
      · exact ⟨2, by omega, a2⟩
      unfold hk hk hk hk at h
      rw [if_neg a0, if_neg a1, if_neg a2] at h
      omega
    obtain ⟨k, k1, k2⟩ := hl
    refine ⟨k, k1, ?_⟩
    unfold alw
    rw [k2]
    by_cases z : laid = 0
    · rw [decide_eq_true z]; rfl
    · have : ¬ hasS cd left pl (cd led / 13) = true := fun y => q ⟨z, y⟩
      simp only [Bool.not_eq_true] at this
      rw [this]; simp
theorem po79_un (k : Int32 → Int32 → Int32 → Int32 → Hp → Option Hp) (N : Nat) (a b c d : Int32) (σ : Hp) : L_M_playsOut_79 k (N + 1) a b c d σ = B_M_playsOut_79 k (fun x2 x3 x4 x5 σ => L_M_playsOut_79 k N x2 x3 x4 x5 σ) a b c d σ := rfl
theorem po21_un (N : Nat) (a b : Int32) (σ : Hp) : L_M_playsOut_21 (N + 1) a b σ = B_M_playsOut_21 (fun x2 x3 σ => L_M_playsOut_21 N x2 x3 σ) a b σ := rfl
theorem Nd.mono {a st tb : Nat} {H : Nat → Nat} {left : Nat → Bool} {τ τ' : Hp} (h : Nd n tr cd a st tb H left τ) (hF : Fr a τ τ') (h33 : τ' 33 a = τ 33 a) (h35 : τ' 35 a = τ 35 a) : Nd n tr cd a st tb H left τ' := by
  obtain ⟨⟨h1, h2⟩, h3, ⟨h4, h5, h6⟩, h7, h8⟩ := h
  refine ⟨⟨h1.mono (fun i _ => hF.2.1 i) (hF.1 6 (by decide)), ⟨fun q k hq hk => by rw [hF.2.1]; exact h2.1 q k hq hk, h2.2⟩⟩, h3, ⟨by rw [h33, h4], by rw [h35, h5], ?_⟩, fun i i1 i2 => by rw [hF.2.2 30 i i2]; exact h7 i i1 i2, h8⟩
  by_cases q : a % 4 = 0
  · rw [show a - a % 4 = a by omega] at h6 ⊢
    rw [h33, h6]
  · rw [hF.2.2 33 _ (by omega), h6]
theorem ref_109 {a pl m : Nat} {τ : Hp} (hB : Bx n tr cd τ) (ha : a < 12) (hp : pl < 4) (hm : m < n) (k21 : Int32 → Int32 → Hp → Option Hp) (x : Int32) : J_M_playsOut_109 k21 x (nI a) (nI pl) (nI m) τ = J_M_playsOut_210 k21 x (nI a) (nI pl) (nI (if a % 4 = 3 then 1 else 0)) (zu (zu (zu τ 31 a (nI m)) 30 a (nI (cd (3 * pl + m)))) 0 58 (τ 0 58 ||| ((1 : Int32) <<< (nI (n * pl + m) &&& 31)))) := by
  have hn := hB.2.2.1.2.1
  have eg : inb (nI a) 13 = true := inbT (by omega) (by omega)
  have hB' : Bx n tr cd (zu τ 31 a (nI m)) := hB.mono (fun i _ => by rw [zu_ne _ _ _ (by decide)]) (zu_ne _ _ _ (by decide))
  unfold J_M_playsOut_109
  rw [gd_true eg, nI_clamp (by omega), if_neg (show ¬ nI m = zu τ 31 a (nI m) 0 56 by rw [hB'.1]; exact nI_lit (by omega) (by omega) (by omega)), M_cardOf hB' hp hm, ob]
  dsimp only
  have z0 : zu (zu τ 31 a (nI m)) 30 a (nI (cd (3 * pl + m))) 0 = τ 0 := by rw [zu_ne _ _ _ (by decide), zu_ne _ _ _ (by decide)]
  rw [gd_true eg, z0, hB.1, pk_mul, nI_add, nl4, jrem_nI (by omega) (by omega) (by omega)]
  by_cases q : a % 4 = 3
  · rw [if_pos (show nI (a % 4) = 3 by rw [q]; rfl), if_pos q]; rfl
  · rw [if_neg (show ¬ nI (a % 4) = 3 from nI_lit (k := 3) (by omega) (by omega) q), if_neg q]; rfl
theorem ref_109e {a pl : Nat} {τ : Hp} (hB : Bx n tr cd τ) (ha : a < 12) (K : Nat) : J_M_playsOut_109 (fun x2 x3 σ => L_M_playsOut_21 K x2 x3 σ) (nI (4 * n)) (nI a) (nI pl) (nI n) τ = Fn n K a (zu (zu τ 31 a (nI n)) 31 a (-1)) := by
  have hn := hB.2.2.1.2.1
  have eg : inb (nI a) 13 = true := inbT (by omega) (by omega)
  unfold J_M_playsOut_109 Fn
  rw [gd_true eg, nI_clamp (by omega), if_pos (show nI n = zu τ 31 a (nI n) 0 56 by rw [zu_ne _ _ _ (by decide), hB.1]), gd_true eg]
  by_cases q : a = 0
  · rw [if_pos (show nI a - 1 < 0 by rw [q]; decide), if_pos q, q]; rfl
  · have es : nI a - 1 = nI (a - 1) := by
      show nI a - nI 1 = _
      rw [pk_sub (by omega)]
    rw [es, if_neg (show ¬ nI (a - 1) < 0 from nI_nlt (b := 0) (by omega) (by omega)), if_neg q, gd_true (inbT (show a - 1 < 13 by omega) (by omega)), nI_1, show a - 1 + 1 = a by omega, gd_true eg, nI_clamp (by omega), nI_clamp (by omega)]
theorem ref_back {a pl m K : Nat} {τ : Hp} (hB : Bx n tr cd τ) (ha : a < 12) (hp : pl < 4) (hm : m < n) (h31 : τ 31 a = nI m) (h33 : τ 33 a = nI pl) : L_M_playsOut_21 (K + 1) (nI (4 * n)) (nI a) τ = L_M_playsOut_79 (J_M_playsOut_109 (fun x2 x3 σ => L_M_playsOut_21 K x2 x3 σ)) FU (nI (4 * n)) (nI a) (nI pl) (nI (m + 1)) (zu τ 0 58 (τ 0 58 &&& (((1 : Int32) <<< (nI (n * pl + m) &&& 31)) ^^^ (-1 : Int32)))) := by
  have hn := hB.2.2.1.2.1
  have eg : inb (nI a) 13 = true := inbT (by omega) (by omega)
  rw [po21_un]
  unfold B_M_playsOut_21
  rw [if_neg (show ¬ nI a < 0 from nI_nlt (b := 0) (by omega) (by omega)), gd_true eg, gd_true eg, nI_clamp (by omega), if_neg (show ¬ τ 31 a < 0 by rw [h31]; exact nI_nlt (b := 0) (by omega) (by omega)), gd_true eg, h31, h33, hB.1, pk_mul, nI_add]
  unfold J_M_playsOut_69
  rw [gd_true eg, nI_clamp (by omega), zu_ne _ _ _ (by decide), h31, nI_1]
theorem ref_in {a pl K : Nat} {τ : Hp} (hB : Bx n tr cd τ) (ha : a < 12) (hp : pl < 4) (h31 : τ 31 a = -1) (h33 : τ 33 a = nI pl) : L_M_playsOut_21 (K + 1) (nI (4 * n)) (nI a) τ = L_M_playsOut_79 (J_M_playsOut_109 (fun x2 x3 σ => L_M_playsOut_21 K x2 x3 σ)) FU (nI (4 * n)) (nI a) (nI pl) (nI 0) τ := by
  have eg : inb (nI a) 13 = true := inbT (by omega) (by omega)
  rw [po21_un]
  unfold B_M_playsOut_21
  rw [if_neg (show ¬ nI a < 0 from nI_nlt (b := 0) (by omega) (by omega)), gd_true eg, gd_true eg, nI_clamp (by omega), if_pos (show τ 31 a < 0 by rw [h31]; decide), h33]
  unfold J_M_playsOut_69
  rw [gd_true eg, nI_clamp (by omega), h31]
  rfl
end
