-- bridge: the pure play, and the class's
def hasS (cd : Nat → Nat) (left : Nat → Bool) (pl q : Nat) : Bool := (left (3 * pl) && decide (cd (3 * pl) / 13 = q)) || ((left (3 * pl + 1) && decide (cd (3 * pl + 1) / 13 = q)) || (left (3 * pl + 2) && decide (cd (3 * pl + 2) / 13 = q)))
def alw (cd : Nat → Nat) (left : Nat → Bool) (pl laid led k : Nat) : Bool := left (3 * pl + k) && (decide (laid = 0) || (!hasS cd left pl (cd led / 13) || decide (cd (3 * pl + k) / 13 = cd led / 13)))
def bts (cd : Nat → Nat) (tr s h : Nat) : Bool := if cd s / 13 = cd h / 13 then decide (cd h < cd s) else decide (cd s / 13 = tr)
def bet (pl v b : Nat) : Bool := if pl % 2 = 0 then decide (b < v) else decide (v < b)
def bt2 (pl : Nat) (b : Option (Nat × Nat)) (v c : Nat) : Option (Nat × Nat) := match b with
  | none => some (v, c)
  | some x => if bet pl v x.1 = true ∨ (v = x.1 ∧ c < x.2) then some (v, c) else some x
def vl (b : Option (Nat × Nat)) : Nat := match b with
  | none => 0
  | some x => x.1
def ledN (laid s led : Nat) : Nat := if laid = 0 then s else led
def higN (cd : Nat → Nat) (tr laid s high : Nat) : Nat := if laid = 0 ∨ bts cd tr s high = true then s else high
def lvF (cd : Nat → Nat) (tr : Nat) (B : (Nat → Bool) → Nat → Nat → Nat → Nat → Option (Nat × Nat)) (r : Nat) (left : Nat → Bool) (s laid led high : Nat) : Nat :=
  if laid < 3 then vl (B (rm left s) ((s / 3 + 1) % 4) (laid + 1) (ledN laid s led) (higN cd tr laid s high)) else (if (higN cd tr laid s high / 3) % 2 = 0 then 1 else 0) + (if r = 0 then 0 else vl (B (rm left s) (higN cd tr laid s high / 3) 0 0 0))
def f3 (cd : Nat → Nat) (V : Nat → Nat) (left : Nat → Bool) (pl laid led : Nat) : Nat → Nat → Option (Nat × Nat) → Option (Nat × Nat)
  | 0, _, b => b
  | j + 1, k, b => f3 cd V left pl laid led j (k + 1) (if alw cd left pl laid led k = true then bt2 pl b (V (3 * pl + k)) (cd (3 * pl + k)) else b)
def bv (cd : Nat → Nat) (tr : Nat) : Nat → (Nat → Bool) → Nat → Nat → Nat → Nat → Option (Nat × Nat)
  | 0 => fun _ _ _ _ _ => none
  | r + 1 => fun left pl laid led high => f3 cd (fun s => lvF cd tr (bv cd tr r) r left s laid led high) left pl laid led 3 0 none
def lv (cd : Nat → Nat) (tr r : Nat) (left : Nat → Bool) (s laid led high : Nat) : Nat := lvF cd tr (bv cd tr r) r left s laid led high
section
variable {cd : Nat → Nat} {tr : Nat}
theorem f3_le {V : Nat → Nat} {left : Nat → Bool} {pl laid led M : Nat} (hV : ∀ s, V s ≤ M) : ∀ (j k : Nat) (b : Option (Nat × Nat)), vl b ≤ M → vl (f3 cd V left pl laid led j k b) ≤ M := by
  intro j
  induction j with
  | zero => intro k b h; exact h
  | succ j ih =>
    intro k b h
    refine ih (k + 1) _ ?_
    split
    · unfold bt2
      match b with
      | none => exact hV _
      | some x =>
        dsimp only
        split
        · exact hV _
        · exact h
    · exact h
theorem bv_le : ∀ (r : Nat) (left : Nat → Bool) (pl laid led high : Nat), vl (bv cd tr r left pl laid led high) ≤ r := by
  intro r
  induction r with
  | zero => intro left pl laid led high; exact Nat.le_refl 0
  | succ r ih =>
    intro left pl laid led high
    show vl (f3 cd (fun s => lvF cd tr (bv cd tr r) r left s laid led high) left pl laid led 3 0 none) ≤ r + 1
    refine f3_le (M := r + 1) (fun s => ?_) 3 0 none (Nat.zero_le _)
    unfold lvF
    split
    · exact Nat.le_trans (ih _ _ _ _ _) (by omega)
    · have := ih (rm left s) (higN cd tr laid s high / 3) 0 0 0
      split <;> split <;> omega
theorem lv_le (r : Nat) (left : Nat → Bool) (s laid led high : Nat) : lv cd tr r left s laid led high ≤ r + 1 := by
  unfold lv lvF
  split
  · exact Nat.le_trans (bv_le _ _ _ _ _ _) (by omega)
  · have := bv_le (cd := cd) (tr := tr) r (rm left s) (higN cd tr laid s high / 3) 0 0 0
    split <;> split <;> omega
end
/-- how many cards are left -/
def c12 (left : Nat → Bool) : Nat → Nat
  | 0 => 0
  | k + 1 => c12 left k + (if left k = true then 1 else 0)
theorem c12_rm {left : Nat → Bool} {s : Nat} (hs : left s = true) : ∀ k, c12 (rm left s) k + (if s < k then 1 else 0) = c12 left k := by
  intro k
  induction k with
  | zero => rfl
  | succ k ih =>
    show c12 (rm left s) k + (if rm left s k = true then 1 else 0) + _ = c12 left k + (if left k = true then 1 else 0)
    by_cases q : k = s
    · rw [q] at ih ⊢
      rw [if_neg (fun z => (rm_t.mp z).2 rfl), if_pos (by omega), if_pos hs]
      rw [if_neg (by omega)] at ih
      omega
    · have e : (if rm left s k = true then 1 else 0) = (if left k = true then 1 else 0) := by
        by_cases h : left k = true
        · rw [if_pos h, if_pos (rm_t.mpr ⟨h, q⟩)]
        · rw [if_neg h, if_neg (fun z => h (rm_t.mp z).1)]
      rw [e]
      by_cases h2 : s < k
      · rw [if_pos h2] at ih; rw [if_pos (show s < k + 1 by omega)]; omega
      · rw [if_neg h2] at ih; rw [if_neg (show ¬ s < k + 1 by omega)]; omega
theorem c12_0 {left : Nat → Bool} : ∀ k, c12 left k = 0 → ∀ i, i < k → left i = false := by
  intro k
  induction k with
  | zero => intro _ i hi; omega
  | succ k ih =>
    intro h i hi
    have h' : c12 left k + (if left k = true then 1 else 0) = 0 := h
    by_cases q : i = k
    · rw [q]
      by_cases z : left k = true
      · rw [if_pos z] at h'; omega
      · simpa using z
    · exact ih (by omega) i (by omega)
theorem c12_pos {left : Nat → Bool} {s : Nat} (hs : left s = true) : ∀ k, s < k → 0 < c12 left k := by
  intro k hk
  have := c12_rm hs k
  rw [if_pos hk] at this
  omega
/-- the cards that the class was dealt -/
def CC (cd : Nat → Nat) (tr : Nat) (dl : Nat → Bool) (σ : Hp) : Prop := σ 39 1 = nI tr ∧ tr ≤ 4 ∧ ∀ s, dl s = true → s < 12 ∧ σ 40 s = nI (cd s) ∧ cd s < 52
def Bm (x : Int32) (left : Nat → Bool) : Prop := (∀ i, i < 32 → bt x i = left i) ∧ ∀ i, 12 ≤ i → left i = false
section
variable {cd : Nat → Nat} {tr : Nat} {dl left : Nat → Bool} {σ : Hp} {x : Int32}
theorem X0_left (h : Bm x left) {s : Nat} (hs : s < 32) : F_X0_isLeft x (nI s) σ = some (b2 (left s), σ) := by
  rw [← h.1 s hs]
  unfold F_X0_isLeft
  by_cases q : bt x s = true
  · rw [if_pos ((has_bt x hs).mpr q), q]; rfl
  · rw [if_neg (fun e => q ((has_bt x hs).mp e))]
    simp only [Bool.not_eq_true] at q
    rw [q]; rfl
theorem X0_suit (hC : CC cd tr dl σ) {s : Nat} (hs : dl s = true) : F_X0_suit (nI s) σ = some (nI (cd s / 13), σ) := by
  obtain ⟨h1, h2, h3⟩ := hC.2.2 s hs
  unfold F_X0_suit
  rw [gd_true (inbT h1 (by omega)), nI_clamp (by omega), h2, show (13 : Int32) = nI 13 from rfl, pk_div (by omega) (by omega) (by omega)]
theorem X0_beats (hC : CC cd tr dl σ) {s h : Nat} (hs : dl s = true) (hh : dl h = true) : F_X0_beats (nI s) (nI h) σ = some (b2 (bts cd tr s h), σ) := by
  obtain ⟨s1, s2, s3⟩ := hC.2.2 s hs
  obtain ⟨h1, h2, h3⟩ := hC.2.2 h hh
  have ht := hC.2.1
  unfold F_X0_beats bts
  rw [X0_suit hC hs, ob]
  dsimp only
  rw [X0_suit hC hh, ob]
  dsimp only
  by_cases q : cd s / 13 = cd h / 13
  · rw [if_pos (by rw [q]), if_pos q, gd_true (inbT s1 (by omega)), gd_true (inbT h1 (by omega)), nI_clamp (by omega), nI_clamp (by omega)]
    by_cases q2 : cd h < cd s
    · rw [if_neg (show ¬ σ 40 s ≤ σ 40 h by rw [s2, h2]; exact nI_ge q2 (by omega)), decide_eq_true q2]; rfl
    · rw [if_pos (show σ 40 s ≤ σ 40 h by rw [s2, h2]; exact nI_le (by omega) (by omega)), decide_eq_false q2]; rfl
  · rw [if_neg (nI_lit (by omega) (by omega) q), if_neg q, X0_suit hC hs, ob]
    dsimp only
    by_cases q2 : cd s / 13 = tr
    · rw [if_pos (by rw [hC.1, q2]), decide_eq_true q2]; rfl
    · rw [if_neg (by rw [hC.1]; exact nI_lit (by omega) (by omega) q2), decide_eq_false q2]; rfl
theorem X0_better {pl v b : Nat} (hp : pl < 4) (hv : v < 100) (hb : b < 100) : F_X0_isBetter (nI pl) (nI v) (nI b) σ = some (b2 (bet pl v b), σ) := by
  unfold F_X0_isBetter bet
  rw [nl2, jrem_nI (by omega) (by omega) (by omega)]
  by_cases q : pl % 2 = 0
  · rw [if_pos (by rw [q]; rfl), if_pos q]
    by_cases q2 : b < v
    · rw [if_neg (nI_ge q2 (by omega)), decide_eq_true q2]; rfl
    · rw [if_pos (nI_le (by omega) (by omega)), decide_eq_false q2]; rfl
  · rw [if_neg (nI_ne0 (by omega) (by omega)), if_neg q]
    by_cases q2 : v < b
    · rw [if_neg (nI_ge q2 (by omega)), decide_eq_true q2]; rfl
    · rw [if_pos (nI_le (by omega) (by omega)), decide_eq_false q2]; rfl
theorem hs_un (N : Nat) (a b c d : Int32) (σ : Hp) : L_X0_hasSuit_5 (N + 1) a b c d σ = B_X0_hasSuit_5 (fun x1 x2 x3 x4 σ => L_X0_hasSuit_5 N x1 x2 x3 x4 σ) a b c d σ := rfl
theorem hs_step (hC : CC cd tr dl σ) (hB : Bm x left) (hld : ∀ i, left i = true → dl i = true) {pl q k N : Nat} (hp : pl < 4) (hk : k < 3) (hq : q < 52) : L_X0_hasSuit_5 (N + 1) x (nI pl) (nI q) (nI (3 * pl + k)) σ = if (left (3 * pl + k) && decide (cd (3 * pl + k) / 13 = q)) = true then some (1, σ) else L_X0_hasSuit_5 N x (nI pl) (nI q) (nI (3 * pl + (k + 1))) σ := by
  rw [hs_un]
  unfold B_X0_hasSuit_5
  rw [nl3, pk_mul, nI_add, if_neg (nI_ge (by omega) (by omega)), if_neg (show ¬ Int32.ofNat 12 ≤ nI (3 * pl + k) from nI_ge (b := 12) (by omega) (by omega)), X0_left hB (by omega), ob]
  dsimp only
  rw [b2_ite, nI_1]
  by_cases h1 : left (3 * pl + k) = true
  rotate_left
  · rw [if_neg h1, if_neg (by simp [h1])]; rfl
  obtain ⟨d1, d2, d3⟩ := hC.2.2 _ (hld _ h1)
  rw [if_pos h1, X0_suit hC (hld _ h1), ob]
  dsimp only
  by_cases h2 : cd (3 * pl + k) / 13 = q
  · rw [if_pos (by rw [h2]), if_pos (by simp [h1, h2])]
  · rw [if_neg (nI_lit (by omega) (by omega) h2), if_neg (by simp [h2])]; rfl
theorem X0_hasS (hC : CC cd tr dl σ) (hB : Bm x left) (hld : ∀ i, left i = true → dl i = true) {pl q : Nat} (hp : pl < 4) (hq : q < 52) : F_X0_hasSuit x (nI pl) (nI q) σ = some (b2 (hasS cd left pl q), σ) := by
  unfold F_X0_hasSuit
  obtain ⟨F, hF⟩ : ∃ F, FU = F + 4 := ⟨FU - 4, rfl⟩
  rw [nl3, pk_mul, show pl * 3 = 3 * pl + 0 by omega, hF, hs_step hC hB hld hp (by omega) hq, hs_step hC hB hld hp (by omega) hq, hs_step hC hB hld hp (by omega) hq]
  have e : L_X0_hasSuit_5 (F + 1) x (nI pl) (nI q) (nI (3 * pl + (0 + 1 + 1 + 1))) σ = some (0, σ) := by
    rw [hs_un]
    unfold B_X0_hasSuit_5
    rw [nl3, pk_mul, nI_add, if_pos (nI_le (by omega) (by omega))]
  rw [e]
  unfold hasS
  simp only [Nat.add_zero, Nat.zero_add]
  cases (left (3 * pl) && decide (cd (3 * pl) / 13 = q)) <;> cases (left (3 * pl + 1) && decide (cd (3 * pl + 1) / 13 = q)) <;> cases (left (3 * pl + (1 + 1)) && decide (cd (3 * pl + (1 + 1)) / 13 = q)) <;> simp_all [b2]
theorem Bm.rmv (h : Bm x left) {s : Nat} (hs : s < 12) : Bm (x &&& (((1 : Int32) <<< (nI s &&& 31)) ^^^ (-1 : Int32))) (rm left s) := by
  refine ⟨fun i hi => ?_, fun i hi => ?_⟩
  · rw [b_and, b_xor, bt_bit (by omega) hi, b_m1 i hi, h.1 i hi]
    unfold rm
    cases left i <;> cases decide (i = s) <;> rfl
  · unfold rm
    rw [h.2 i hi]; rfl
theorem Bm.zero (h : Bm x left) : x = 0 ↔ c12 left 12 = 0 := by
  have b0 : ∀ i, i < 32 → bt 0 i = false := by decide
  constructor
  · intro e
    by_cases q : c12 left 12 = 0
    · exact q
    · exfalso
      have key : ∀ k, k ≤ 12 → c12 left k = 0 := by
        intro k
        induction k with
        | zero => intro _; rfl
        | succ k ih =>
          intro hk
          show c12 left k + (if left k = true then 1 else 0) = 0
          have := h.1 k (by omega)
          rw [e, b0 k (by omega)] at this
          rw [ih (by omega), ← this]; rfl
      exact q (key 12 (Nat.le_refl _))
  · intro e
    refine b_ext (fun i hi => ?_)
    rw [h.1 i hi, b0 i hi]
    by_cases q : i < 12
    · exact c12_0 12 e i q
    · exact h.2 i (by omega)
end
