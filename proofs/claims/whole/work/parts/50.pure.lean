-- THE PURE PART: numbers, guards, small functions
theorem zu_ap (σ : Hp) (k i : Nat) (x : Int32) (j : Nat) : zu σ k i x j = if j = k then upd (σ k) i x else σ j := rfl
theorem zr_ap (σ : Hp) (k : Nat) (r : Nat → Int32) (j : Nat) : zr σ k r j = if j = k then r else σ j := rfl
theorem upd_ap (f : Nat → Int32) (k : Nat) (x : Int32) (j : Nat) : upd f k x j = if j = k then x else f j := rfl
theorem zcp_ap (σ : Hp) (k1 k0 n j : Nat) : zcp σ k1 k0 n j = if j = k1 then (fun i => if i < n then σ k0 i else σ k1 i) else σ j := by
  unfold zcp zr va_cpy
  split
  · funext i
    simp
  · rfl
/-- only the cells of S differ -/
def Ag (S : List Nat) (σ σ' : Hp) : Prop := ∀ k, k ∉ S → σ' k = σ k
theorem Ag.rf {S : List Nat} {σ : Hp} : Ag S σ σ := fun _ _ => rfl
theorem Ag.tr {S T : List Nat} {σ σ1 σ2 : Hp} (h1 : Ag S σ σ1) (h2 : Ag T σ1 σ2) (U : List Nat) (hS : ∀ k ∈ S, k ∈ U) (hT : ∀ k ∈ T, k ∈ U) : Ag U σ σ2 := fun k hk => (h2 k (fun h => hk (hT k h))).trans (h1 k (fun h => hk (hS k h)))
theorem Ag.zu {S : List Nat} {σ σ' : Hp} (h : Ag S σ σ') {k i : Nat} {x : Int32} (hk : k ∈ S) : Ag S σ (zu σ' k i x) := fun j hj => by
  rw [zu_ap, if_neg (show ¬ j = k from fun e => hj (e ▸ hk))]
  exact h j hj
theorem Ag.zr {S : List Nat} {σ σ' : Hp} (h : Ag S σ σ') {k : Nat} {r : Nat → Int32} (hk : k ∈ S) : Ag S σ (zr σ' k r) := fun j hj => by
  rw [zr_ap, if_neg (show ¬ j = k from fun e => hj (e ▸ hk))]
  exact h j hj
def wi (x a b : Int32) : Bool := decide (a ≤ x) && decide (x ≤ b)
def b2 (b : Bool) : Int32 := match b with
  | true => 1
  | false => 0
theorem b2_ite {α : Type} (b : Bool) (A B : α) : (if b2 b = 0 then A else B) = (if b = true then B else A) := by cases b <;> simp [b2]
theorem b2_eq0 (b : Bool) : b2 b = 0 ↔ b = false := by cases b <;> simp [b2]
theorem b2_isb (b : Bool) : isb (b2 b) = true := by cases b <;> decide
theorem isb_1 : isb 1 = true := by decide
theorem isb_0 : isb 0 = true := by decide
theorem V_within (x a b : Int32) (σ : Hp) : F_V_within x a b σ = some (b2 (wi x a b), σ) := by
  unfold F_V_within wi
  by_cases h1 : x < a
  · rw [if_pos h1]; simp [Int32.not_le.mpr h1, b2]
  · rw [if_neg h1]
    by_cases h2 : b < x
    · rw [if_pos h2]; simp [Int32.not_le.mpr h2, b2]
    · rw [if_neg h2]; simp [Int32.not_lt.mp h1, Int32.not_lt.mp h2, b2]
theorem M_in (x a b : Int32) (σ : Hp) : F_M_in x a b σ = some (b2 (wi x a b), σ) := by
  unfold F_M_in wi
  by_cases h1 : x < a
  · rw [if_pos h1]; simp [Int32.not_le.mpr h1, b2]
  · rw [if_neg h1]
    by_cases h2 : b < x
    · rw [if_pos h2]; simp [Int32.not_le.mpr h2, b2]
    · rw [if_neg h2]; simp [Int32.not_lt.mp h1, Int32.not_lt.mp h2, b2]
theorem wi_nat {x : Int32} {M : Int32} {n : Nat} (hM : M.toInt = n) (h : wi x 0 M = true) : ∃ j : Nat, j ≤ n ∧ x = nI j := by
  simp only [wi, Bool.and_eq_true, decide_eq_true_eq] at h
  exact nI_of2 hM (Int32.not_lt.mpr h.1) h.2
theorem wi_from {x a M : Int32} {m n : Nat} (hm : a.toInt = m) (hM : M.toInt = n) (h : wi x a M = true) : ∃ j : Nat, m ≤ j ∧ j ≤ n ∧ x = nI j := by
  simp only [wi, Bool.and_eq_true, decide_eq_true_eq] at h
  have h0 : ¬ x < 0 := by
    rw [Int32.not_lt, Int32.le_iff_toInt_le]
    have := Int32.le_iff_toInt_le.mp h.1
    simp
    omega
  obtain ⟨j, hj, rfl⟩ := nI_of2 hM h0 h.2
  refine ⟨j, ?_, hj, rfl⟩
  have h1 := Int32.le_iff_toInt_le.mp h.1
  by_cases hb : j < 2 ^ 31
  · rw [hm, nI_toInt hb] at h1
    omega
  · have : (M.toInt : Int) < 2 ^ 31 := Int32.toInt_lt M
    omega
theorem wi_side {x : Int32} : wi x 0 1 = true ↔ x = 0 ∨ x = 1 := by
  constructor
  · intro h
    obtain ⟨j, hj, rfl⟩ := wi_nat (M := 1) (n := 1) (by decide) h
    rcases (show j = 0 ∨ j = 1 by omega) with rfl | rfl
    · exact Or.inl rfl
    · exact Or.inr rfl
  · rintro (rfl | rfl) <;> decide
theorem V_isSide (x : Int32) (σ : Hp) : F_V_isSide x σ = some (b2 (wi x 0 1), σ) := by
  unfold F_V_isSide
  by_cases h0 : x = 0
  · subst h0; rfl
  · rw [if_neg h0]
    by_cases h1 : x = 1
    · subst h1; rfl
    · rw [if_neg h1]
      have : wi x 0 1 = false := by
        cases hw : wi x 0 1
        · rfl
        · rcases wi_side.mp hw with h | h
          · exact absurd h h0
          · exact absurd h h1
      rw [this]; rfl
def isCh (s c : Int32) : Bool := wi s 0 1 && wi c 0 7
theorem V_isChair (s c : Int32) (σ : Hp) : F_V_isChair s c σ = some (b2 (isCh s c), σ) := by
  simp only [F_V_isChair, V_isSide, V_within, Option.bind_some, b2_ite, isCh]
  cases wi s 0 1 <;> cases wi c 0 7 <;> rfl
theorem M_isChair (s c : Int32) (σ : Hp) : F_M_isChair s c σ = some (b2 (isCh s c), σ) := by
  simp only [F_M_isChair, M_in, Option.bind_some, b2_ite, isCh]
  cases wi s 0 1 <;> cases wi c 0 7 <;> rfl
theorem isCh_nat {s c : Int32} (h : isCh s c = true) : ∃ i j : Nat, i < 2 ∧ j < 8 ∧ s = nI i ∧ c = nI j := by
  simp only [isCh, Bool.and_eq_true] at h
  obtain ⟨i, hi, rfl⟩ := wi_nat (M := 1) (n := 1) (by decide) h.1
  obtain ⟨j, hj, rfl⟩ := wi_nat (M := 7) (n := 7) (by decide) h.2
  exact ⟨i, j, by omega, by omega, rfl, rfl⟩
theorem isCh_of {i j : Nat} (hi : i < 2) (hj : j < 8) : isCh (nI i) (nI j) = true := by
  have : ∀ i : Nat, i < 2 → ∀ j : Nat, j < 8 → isCh (nI i) (nI j) = true := by decide
  exact this i hi j hj
-- numbers
theorem n2 : (2 : Int32) = nI 2 := rfl
theorem n5 : (5 : Int32) = nI 5 := rfl
theorem n8 : (8 : Int32) = nI 8 := rfl
theorem n16 : (16 : Int32) = nI 16 := rfl
theorem n32 : (32 : Int32) = nI 32 := rfl
theorem n48 : (48 : Int32) = nI 48 := rfl
theorem n64 : (64 : Int32) = nI 64 := rfl
theorem n80 : (80 : Int32) = nI 80 := rfl
theorem n0 : (0 : Int32) = nI 0 := rfl
theorem n1 : (1 : Int32) = nI 1 := rfl
theorem idxC (i j : Nat) : nI i * 8 + nI j = nI (8 * i + j) := by rw [n8, pk_mul, nI_add, Nat.mul_comm]
theorem idxM (i j : Nat) : 8 * nI i + nI j = nI (8 * i + j) := by rw [n8, pk_mul, nI_add]
theorem idx0 (g : Nat) : 0 + nI g = nI g := by rw [n0, nI_add, Nat.zero_add]
theorem idx16 (g : Nat) : 16 + nI g = nI (16 + g) := by rw [n16, nI_add]
theorem idx32 (g : Nat) : 32 + nI g = nI (32 + g) := by rw [n32, nI_add]
theorem idx48 (g : Nat) : 48 + nI g = nI (48 + g) := by rw [n48, nI_add]
theorem idx64 (g : Nat) : 64 + nI g = nI (64 + g) := by rw [n64, nI_add]
theorem idx80 (g : Nat) : 80 + nI g = nI (80 + g) := by rw [n80, nI_add]
theorem c96 : (96 : Int32).toNatClampNeg = 96 := by decide
theorem c97 : (97 : Int32).toNatClampNeg = 97 := by decide
theorem c98 : (98 : Int32).toNatClampNeg = 98 := by decide
theorem c99 : (99 : Int32).toNatClampNeg = 99 := by decide
theorem i96 : inb 96 100 = true := by decide
theorem i97 : inb 97 100 = true := by decide
theorem i98 : inb 98 100 = true := by decide
theorem i99 : inb 99 100 = true := by decide
theorem gd_t {α : Type} (x : Option α) : gd true x = x := rfl
theorem inbT {i n : Nat} (h : i < n) (hn : n < 2 ^ 31) : inb (nI i) n = true := inb_nI h hn
-- THE RELATION
/-- a chair of a War at cell o against the reference's row k -/
def RG (o k : Nat) (σ τ : Hp) (g : Nat) : Prop :=
  σ (o + 1) g = τ k (16 + g) ∧ σ (o + 2) g = τ k (32 + g) ∧ σ (o + 3) g = τ k (48 + g) ∧ σ (o + 4) g = τ k (64 + g) ∧
  ((τ k g = 1 ∧ σ (o + 5) g = τ k (80 + g) ∧ (τ k (80 + g) = 0 ∨ τ k (80 + g) = 1 ∨ τ k (80 + g) = 2)) ∨ (τ k g = 0 ∧ σ (o + 5) g = 3)) ∧
  (∃ r : Nat, r ≤ 9 ∧ τ k (16 + g) = nI r) ∧ (∃ r : Nat, r ≤ 99 ∧ τ k (32 + g) = nI r) ∧ (∃ r : Nat, r ≤ 99 ∧ τ k (48 + g) = nI r) ∧ (∃ r : Nat, r ≤ 9 ∧ τ k (64 + g) = nI r)
/-- watch, day, X, who lost -/
def RT (o k : Nat) (σ τ : Hp) : Prop := (σ o 5 = τ k 96 ∧ ∃ r : Nat, r ≤ 5 ∧ τ k 96 = nI r) ∧ (σ o 6 = τ k 97 ∧ ∃ r : Nat, r ≤ 9999 ∧ τ k 97 = nI r) ∧ (σ o 7 = τ k 99 ∧ ∃ r : Nat, r ≤ 65535 ∧ τ k 99 = nI r) ∧ (σ o 8 = τ k 98 ∧ ∃ r : Nat, r ≤ 3 ∧ τ k 98 = nI r)
def RWar (o k : Nat) (σ τ : Hp) : Prop := (∀ g, g < 16 → RG o k σ τ g) ∧ RT o k σ τ
def RVal (σ τ : Hp) : Prop := (∀ i, i < 24 → σ 20 i = τ 5 i ∧ ∃ r : Nat, r ≤ 199 ∧ τ 5 i = nI r) ∧ ∀ i, i < 2 → σ 21 i = τ 4 i ∧ ∃ r : Nat, r ≤ 99 ∧ τ 4 i = nI r
def RTape (σ τ : Hp) : Prop := (∃ n : Nat, n ≤ 260 ∧ σ 23 1 = nI n ∧ τ 0 6 = nI n) ∧ ∀ i, i < 260 → σ 24 i = τ 6 i &&& 255 ∧ ∃ r : Nat, r < 256 ∧ σ 24 i = nI r
def RSig1 (c s : Nat) (σ τ : Hp) : Prop := ∃ n : Nat, n ≤ 60 ∧ σ c 1 = nI n ∧ τ 21 s = nI n ∧ ∀ i, i < n → σ (c + 1) i = τ 20 (60 * s + i) ∧ ∃ r : Nat, r ≤ 5 ∧ σ (c + 1) i = nI r
def RKept (σ τ : Hp) : Prop := (σ 0 17 = 0 ∧ τ 0 61 = 0) ∨ (σ 0 17 = 1 ∧ τ 0 61 = 1 ∧ RWar 7 3 σ τ)
-- THE LAW's CODE: signs of the class's code against the reference's numbers
/-- what the reference calls a sign of the class's code -/
def opM (x : Int32) : Int32 := if x = 110 then 0 else if x = 108 then 1 else if x = 43 then 2 else if x = 45 then 3 else if x = 42 then 4 else if x = 47 then 5 else if x = 37 then 6 else if x = 60 then 7 else if x = 62 then 8 else if x = 61 then 9 else if x = 33 then 10 else if x = 38 then 11 else 12
/-- one code against the other: the sign and what goes with it -/
def cRel (c w m : Int32) : Prop := ∃ v : Nat, v ≤ 99999 ∧ w = nI v ∧ m = 1048576 * opM c + nI v ∧ (c = 110 ∨ (c = 108 ∧ v < 11) ∨ ((c = 43 ∨ c = 45 ∨ c = 42 ∨ c = 47 ∨ c = 37 ∨ c = 60 ∨ c = 62 ∨ c = 61 ∨ c = 33) ∧ v = 0) ∨ c = 38 ∨ c = 124)
/-- the stack's kinds (true: a truth value) from one code to the next, code k with w, up to b -/
def sOk (c w : Nat → Int32) (ty : Nat → List Bool) (b k : Nat) : Prop :=
  (ty k).length ≤ 40 ∧
  (((c k = 110 ∨ c k = 108) ∧ ty (k + 1) = false :: ty k) ∨
  ((c k = 43 ∨ c k = 45 ∨ c k = 42 ∨ c k = 47 ∨ c k = 37) ∧ ∃ r, ty k = false :: false :: r ∧ ty (k + 1) = false :: r) ∨
  ((c k = 60 ∨ c k = 62 ∨ c k = 61) ∧ ∃ r, ty k = false :: false :: r ∧ ty (k + 1) = true :: r) ∨
  (c k = 33 ∧ ∃ r, ty k = true :: r ∧ ty (k + 1) = true :: r) ∨
  ((c k = 38 ∨ c k = 124) ∧ ∃ r, ty k = true :: r ∧ ty (k + 1) = r ∧ ∃ t : Nat, w k = nI t ∧ k < t ∧ t ≤ b ∧ ty t = true :: r))
/-- the codes from a to b lead from one stack to another -/
def Seg (c w : Nat → Int32) (a b : Nat) (r r' : List Bool) : Prop := a ≤ b ∧ ∃ ty : Nat → List Bool, ty a = r ∧ ty b = r' ∧ ∀ k, a ≤ k → k < b → sOk c w ty b k
/-- the rules of a Law at cell L against the reference's -/
def RLaw1 (L : Nat) (σ τ : Hp) : Prop := ∃ n : Nat, n ≤ 16 ∧ σ L 8 = nI n ∧ τ 0 15 = nI n ∧ ∀ j, j < n → σ (L + 3) j = τ 14 j ∧ (σ (L + 3) j = 98 ∨ σ (L + 3) j = 116 ∨ σ (L + 3) j = 119 ∨ σ (L + 3) j = 120) ∧ ∃ a h e : Nat, a ≤ h ∧ h ≤ e ∧ e ≤ 240 ∧ σ (L + 4) j = nI a ∧ τ 15 j = nI a ∧ σ (L + 5) j = nI h ∧ τ 16 j = nI h ∧ σ (L + 6) j = nI e ∧ τ 17 j = nI e ∧ (∀ k, a ≤ k → k < e → cRel (σ (L + 1) k) (σ (L + 2) k) (τ 13 k)) ∧ (σ (L + 3) j = 120 ∨ Seg (σ (L + 1)) (σ (L + 2)) a h [] [false]) ∧ Seg (σ (L + 1)) (σ (L + 2)) h e [] [true]
def RLaw (σ τ : Hp) : Prop := (((σ 0 14 = 42 ∧ σ 0 15 = 51) ∨ (σ 0 14 = 51 ∧ σ 0 15 = 42)) ∧ (σ 60 1 = 42 ∨ σ 60 1 = 51)) ∧ RLaw1 (σ 0 14).toNatClampNeg σ τ
def Rl (σ τ : Hp) : Prop := RWar 1 1 σ τ ∧ RVal σ τ ∧ RTape σ τ ∧ (RSig1 28 0 σ τ ∧ RSig1 30 1 σ τ) ∧ RKept σ τ ∧ RLaw σ τ
theorem Rl_0 : Rl sC0 sM0 := by
  refine ⟨⟨fun g hg => ?_, ?_⟩, ⟨fun i hi => ⟨rfl, 0, by omega, rfl⟩, fun i hi => ?_⟩, ⟨⟨0, by omega, rfl, rfl⟩, fun i hi => ⟨by show (0 : Int32) = 0 &&& 255; decide, 0, by omega, rfl⟩⟩, ⟨⟨0, by omega, rfl, rfl, fun i hi => absurd hi (by omega)⟩, ⟨0, by omega, rfl, rfl, fun i hi => absurd hi (by omega)⟩⟩, Or.inl ⟨rfl, rfl⟩, ⟨⟨Or.inl ⟨rfl, rfl⟩, Or.inr rfl⟩, 0, by omega, ?_, rfl, fun j hj => absurd hj (by omega)⟩⟩
  · have e : ∀ j : Nat, j < 99 → sM0 1 j = 0 := fun j hj => by
      show upd (fun _ => 0) (99 : Int32).toNatClampNeg 1 j = 0
      rw [c99, upd_ap, if_neg (by omega)]
    have e6 : sC0 6 g = 3 := by
      show fill 16 3 (fun _ => 0) g = 3
      simp [fill, hg]
    exact ⟨(e _ (by omega)).symm, (e _ (by omega)).symm, (e _ (by omega)).symm, (e _ (by omega)).symm, Or.inr ⟨e _ (by omega), e6⟩, ⟨0, by omega, e _ (by omega)⟩, ⟨0, by omega, e _ (by omega)⟩, ⟨0, by omega, e _ (by omega)⟩, ⟨0, by omega, e _ (by omega)⟩⟩
  · exact ⟨⟨rfl, 0, by omega, rfl⟩, ⟨rfl, 0, by omega, rfl⟩, ⟨rfl, 1, by omega, rfl⟩, ⟨rfl, 0, by omega, rfl⟩⟩
  · rcases (show i = 0 ∨ i = 1 by omega) with rfl | rfl
    · exact ⟨rfl, 50, by omega, rfl⟩
    · exact ⟨rfl, 50, by omega, rfl⟩
  · rfl
