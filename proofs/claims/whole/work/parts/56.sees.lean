-- who sees whom
/-- the line between two eyes is free over these columns -/
def fre (col : Nat → Int32) (a b : Int32) : Bool := erU (fun i (_ : Unit) => if 25 * col i < (24 - nI i) * a + (nI i + 1) * b then .inr () else .inl false) (fun _ => true) 24 0 ()
theorem erU_congr {S R : Type} {g g' : Nat → S → R ⊕ S} {fin : S → R} : ∀ (k i : Nat) (s : S), (∀ j s, i ≤ j → j < i + k → g j s = g' j s) → erU g fin k i s = erU g' fin k i s := by
  intro k
  induction k with
  | zero => intro i s _; rfl
  | succ k ih =>
    intro i s h
    simp only [erU]
    rw [h i s (by omega) (by omega)]
    cases g' i s with
    | inl r => rfl
    | inr s' => exact ih (i + 1) s' (fun j s h1 h2 => h j s (by omega) (by omega))
theorem fre_congr {c c' : Nat → Int32} {a b : Int32} (h : ∀ i, i < 24 → c i = c' i) : fre c a b = fre c' a b := erU_congr 24 0 () (fun j s _ h2 => by rw [h j (by omega)])
/-- an answer of a loop that says yes or no -/
theorem erU_b2 {g : Nat → Unit → Bool ⊕ Unit} {σ : Hp} : ∀ (k i : Nat), erU (fun j (s : Unit) => match g j s with | .inl r => .inl (some (b2 r, σ)) | .inr s => .inr s) (fun _ => some (b2 true, σ)) k i () = some (b2 (erU g (fun _ => true) k i ()), σ) := by
  intro k
  induction k with
  | zero => intro i; rfl
  | succ k ih =>
    intro i
    simp only [erU]
    cases g i () with
    | inl r => rfl
    | inr s => exact ih (i + 1)
theorem C_isFree (a b cut : Int32) (σ : Hp) : F_X9_isFree a b cut σ = some (b2 (fre (fun i => if nI i = cut then 0 else σ 20 i) a b), σ) := by
  unfold F_X9_isFree fre
  rw [← erU_b2 (σ := σ)]
  exact loopE (fun N i (_ : Unit) => L_X9_isFree_3 N a b cut (nI i) σ) _ _ 24
    (fun N s => by simp only [L_X9_isFree_3, B_X9_isFree_3]; rw [if_pos (by decide)]; rfl)
    (fun N i s hi => by
      simp only [L_X9_isFree_3, B_X9_isFree_3, J_X9_isFree_27]
      rw [if_neg (show ¬ (24 : Int32) ≤ nI i from nI_ge (b := 24) (by omega) (by omega)), gd_true (inbT hi (by omega)), nI_clamp (by omega), nI_1]
      by_cases hc : nI i = cut
      · simp only [if_pos hc]
        by_cases h2 : 25 * 0 < (24 - nI i) * a + nI (i + 1) * b
        · rw [if_pos h2, if_pos h2]
        · rw [if_neg h2, if_neg h2]; rfl
      · simp only [if_neg hc]
        by_cases h2 : 25 * σ 20 i < (24 - nI i) * a + nI (i + 1) * b
        · rw [if_pos h2, if_pos h2]
        · rw [if_neg h2, if_neg h2]; rfl) 24 0 FU () (by omega) (by omega) (FU_lt (by omega))
theorem nI_m1 {i : Nat} (h : i < 2 ^ 31) : ¬ nI i = -1 := fun e => by
  have := congrArg Int32.toInt e
  rw [nI_toInt h, show (-1 : Int32).toInt = -1 by decide] at this
  omega
theorem C_isFree1 (a b : Int32) (σ : Hp) : F_X9_isFree a b (-1) σ = some (b2 (fre (σ 20) a b), σ) := by
  rw [C_isFree, fre_congr (c' := σ 20) (fun i hi => by rw [if_neg (nI_m1 (by omega))])]
theorem M_seesOver (a b : Int32) (τ : Hp) : F_M_seesOver a b (-1) τ = some (b2 (fre (τ 5) a b), τ) := by
  unfold F_M_seesOver fre
  rw [← erU_b2 (σ := τ)]
  exact loopE (fun N i (_ : Unit) => L_M_seesOver_3 N a b (-1) (nI i) τ) _ _ 24
    (fun N s => by simp only [L_M_seesOver_3, B_M_seesOver_3]; rw [if_pos (by decide)]; rfl)
    (fun N i s hi => by
      simp only [L_M_seesOver_3, B_M_seesOver_3]
      rw [if_neg (show ¬ (24 : Int32) ≤ nI i from nI_ge (b := 24) (by omega) (by omega)), if_neg (nI_m1 (by omega)), gd_true (inbT hi (by omega)), nI_clamp (by omega), nI_1, Int32.mul_comm a, Int32.mul_comm b]
      by_cases h2 : 25 * τ 5 i < (24 - nI i) * a + nI (i + 1) * b
      · rw [if_pos h2, if_pos h2]
      · rw [if_neg h2, if_neg h2]; rfl) 24 0 FU () (by omega) (by omega) (FU_lt (by omega))
theorem C_eye (s : Nat) (hs : s < 2) (c : Int32) (σ : Hp) : F_X9_eye (nI s) c σ = some (σ 21 s + 5 * c, σ) := by
  simp only [F_X9_eye, inbT hs (by omega), gd_t, nI_clamp (show s < 2 ^ 31 by omega)]
/-- how high an eye is -/
def eyM (τ : Hp) (g : Nat) : Int32 := τ 4 (g / 8) + 5 * τ 1 (64 + g)
theorem M_eyeOf (g : Nat) (hg : g < 16) (τ : Hp) : F_M_eyeOf (nI g) τ = some (eyM τ g, τ) := by
  have e : nI g / 8 = nI (g / 8) := pk_div (d := 8) (by omega) (by omega) (by omega)
  simp only [F_M_eyeOf, e, idx64, inbT (show g / 8 < 2 by omega) (by omega), inbT (show 64 + g < 100 by omega) (by omega), gd_t, nI_clamp (show g / 8 < 2 ^ 31 by omega), nI_clamp (show 64 + g < 2 ^ 31 by omega)]
  rfl
def vis (τ : Hp) (c e : Nat) : Bool := fre (τ 5) (eyM τ c) (eyM τ (8 + e))
theorem M_seesOne (c e : Nat) (hc : c < 8) (he : e < 8) (τ : Hp) : F_M_seesOne (nI c) (nI e) τ = some (b2 (vis τ c e), τ) := by
  have e8 : (8 : Int32) + nI e = nI (8 + e) := by rw [n8, nI_add]
  simp only [F_M_seesOne, M_eyeOf c (by omega), Option.bind_some, e8, M_eyeOf (8 + e) (by omega), M_seesOver, b2_isb, gd_t]
  rfl
def visC (o : Nat) (σ : Hp) (c e : Nat) : Bool := fre (σ 20) (σ 21 0 + 5 * σ (o + 4) c) (σ 21 1 + 5 * σ (o + 4) (8 + e))
theorem C_sighted (o c e : Nat) (hc : c < 8) (he : e < 8) (σ : Hp) : F_X9_sighted o (nI c) (nI e) σ = some (b2 (visC o σ c e), σ) := by
  have e8 : (8 : Int32) + nI e = nI (8 + e) := by rw [n8, nI_add]
  have e0 : ∀ x, F_X9_eye 0 x σ = some (σ 21 0 + 5 * x, σ) := fun x => C_eye 0 (by omega) x σ
  have e1 : ∀ x, F_X9_eye 1 x σ = some (σ 21 1 + 5 * x, σ) := fun x => C_eye 1 (by omega) x σ
  unfold F_X9_sighted
  rw [gd_true (inbT (show c < 16 by omega) (by omega)), nI_clamp (show c < 2 ^ 31 by omega), e0, Option.bind_some, e8, gd_true (inbT (show 8 + e < 16 by omega) (by omega)), nI_clamp (show 8 + e < 2 ^ 31 by omega)]
  dsimp only
  rw [e1, Option.bind_some]
  dsimp only
  rw [C_isFree1, Option.bind_some]
  dsimp only
  rw [gd_true (b2_isb _)]
  unfold visC
  rfl
theorem vis_eq {o : Nat} {σ τ : Hp} (hw : RWar o 1 σ τ) (hv : RVal σ τ) {c e : Nat} (hc : c < 8) (he : e < 8) : visC o σ c e = vis τ c e := by
  have e1 : σ 21 0 + 5 * σ (o + 4) c = eyM τ c := by
    unfold eyM
    rw [(hv.2 0 (by omega)).1, (hw.1 c (by omega)).2.2.2.1, show c / 8 = 0 by omega]
  have e2 : σ 21 1 + 5 * σ (o + 4) (8 + e) = eyM τ (8 + e) := by
    unfold eyM
    rw [(hv.2 1 (by omega)).1, (hw.1 (8 + e) (by omega)).2.2.2.1, show (8 + e) / 8 = 1 by omega]
  unfold visC vis
  rw [e1, e2]
  exact fre_congr (fun i hi => (hv.1 i hi).1)
/-- a gentleman is there -/
def thr (τ : Hp) (s c : Int32) : Bool := isCh s c && decide (τ 1 (8 * s + c).toNatClampNeg = 1)
theorem M_isThere (s c : Int32) (τ : Hp) : F_M_isThere s c τ = some (b2 (thr τ s c), τ) := by
  simp only [F_M_isThere, M_isChair, Option.bind_some, b2_ite, thr]
  by_cases h : isCh s c = true
  · obtain ⟨i, j, hi, hj, rfl, rfl⟩ := isCh_nat h
    have e : (0 : Int32) + 8 * nI i + nI j = nI (8 * i + j) := by rw [n8, pk_mul, n0, nI_add, nI_add, Nat.zero_add]
    rw [if_pos h, e, idxM, gd_true (inbT (show 8 * i + j < 100 by omega) (by omega)), nI_clamp (by omega), h]
    by_cases h1 : τ 1 (8 * i + j) = 1
    · rw [if_pos h1]; simp [h1, b2]
    · rw [if_neg h1]; simp [h1, b2]
  · rw [if_neg h]
    simp only [Bool.not_eq_true] at h
    rw [h]; rfl
theorem C_isGent {σ τ : Hp} (hw : RWar 1 1 σ τ) (s c : Int32) : F_V_isGentleman s c σ = some (b2 (thr τ s c), σ) := by
  simp only [F_V_isGentleman, V_isChair, Option.bind_some, b2_ite, thr]
  by_cases h : isCh s c = true
  · obtain ⟨i, j, hi, hj, rfl, rfl⟩ := isCh_nat h
    have ht := (hw.1 (8 * i + j) (by omega)).there
    rw [if_pos h, idxC, idxM, gd_true (inbT (show 8 * i + j < 16 by omega) (by omega)), nI_clamp (by omega), h, Bool.true_and, ← ht]
    by_cases h1 : σ 6 (8 * i + j) = 3
    · rw [if_pos h1]; simp [h1, b2]
    · rw [if_neg h1]; simp [h1, b2]
  · rw [if_neg h]
    simp only [Bool.not_eq_true] at h
    rw [h]; rfl
theorem thr_nat {τ : Hp} {s c : Int32} (h : thr τ s c = true) : ∃ i j : Nat, i < 2 ∧ j < 8 ∧ s = nI i ∧ c = nI j ∧ τ 1 (8 * i + j) = 1 := by
  simp only [thr, Bool.and_eq_true, decide_eq_true_eq] at h
  obtain ⟨i, j, hi, hj, rfl, rfl⟩ := isCh_nat h.1
  rw [idxM, nI_clamp (by omega)] at h
  exact ⟨i, j, hi, hj, rfl, rfl, h.2⟩
theorem sim_sees {σ τ : Hp} (h : Rl σ τ) (a1 a2 : Int32) : ∃ r σ' τ', F_V_sees a1 a2 σ = some (r, σ') ∧ F_M_sees a1 a2 τ = some (r, τ') ∧ Rl σ' τ' := by
  obtain ⟨r1, r2, -⟩ := id h
  simp only [F_V_sees, F_M_sees, C_isGent r1, M_isThere, Option.bind_some, b2_ite]
  by_cases h1 : thr τ 0 a1 = true
  · by_cases h2 : thr τ 1 a2 = true
    · obtain ⟨i, c, -, hc, -, rfl, -⟩ := thr_nat h1
      obtain ⟨j, e, -, he, -, rfl, -⟩ := thr_nat h2
      simp only [h1, h2, if_true, C_sighted 1 c e hc he, M_seesOne c e hc he, Option.bind_some, b2_ite, vis_eq r1 r2 hc he]
      cases vis τ c e
      · exact ⟨_, _, _, rfl, rfl, h⟩
      · exact ⟨_, _, _, rfl, rfl, h⟩
    · simp only [h1, h2, if_true, if_false]
      exact ⟨_, _, _, rfl, rfl, h⟩
  · simp only [h1, if_false]
    exact ⟨_, _, _, rfl, rfl, h⟩
