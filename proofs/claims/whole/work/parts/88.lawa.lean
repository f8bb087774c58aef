-- the law as a text: amounts
def fac (x : Int32) : Int32 := if x = 97 then 3 else if x = 99 then 1 else if x = 100 then 10 else if x = 104 then 9 else if x = 107 then 2 else if x = 108 then 4 else if x = 110 then 6 else if x = 111 then 7 else if x = 115 then 0 else if x = 117 then 5 else if x = 118 then 8 else -1
theorem M_factOf (x : Int32) (τ : Hp) : F_M_factOf x τ = some (fac x, τ) := by
  unfold F_M_factOf fac
  by_cases h0 : x = 97
  · rw [if_pos h0, if_pos h0]
  rw [if_neg h0, if_neg h0]
  by_cases h1 : x = 99
  · rw [if_pos h1, if_pos h1]
  rw [if_neg h1, if_neg h1]
  by_cases h2 : x = 100
  · rw [if_pos h2, if_pos h2]
  rw [if_neg h2, if_neg h2]
  by_cases h3 : x = 104
  · rw [if_pos h3, if_pos h3]
  rw [if_neg h3, if_neg h3]
  by_cases h4 : x = 107
  · rw [if_pos h4, if_pos h4]
  rw [if_neg h4, if_neg h4]
  by_cases h5 : x = 108
  · rw [if_pos h5, if_pos h5]
  rw [if_neg h5, if_neg h5]
  by_cases h6 : x = 110
  · rw [if_pos h6, if_pos h6]
  rw [if_neg h6, if_neg h6]
  by_cases h7 : x = 111
  · rw [if_pos h7, if_pos h7]
  rw [if_neg h7, if_neg h7]
  by_cases h8 : x = 115
  · rw [if_pos h8, if_pos h8]
  rw [if_neg h8, if_neg h8]
  by_cases h9 : x = 117
  · rw [if_pos h9, if_pos h9]
  rw [if_neg h9, if_neg h9]
  by_cases h10 : x = 118
  · rw [if_pos h10, if_pos h10]
  rw [if_neg h10, if_neg h10]
theorem fac_sidx : ∀ r, r < 256 → fac (nI r) = sidx (UInt32.toInt32 (Int32.toUInt32 (nI r) % 65536)) := by decide +kernel
theorem fac_v : ∀ r, r < 256 → fac (nI r) = -1 ∨ ((fac (nI r)).toNatClampNeg < 11 ∧ fac (nI r) = nI (fac (nI r)).toNatClampNeg) := by decide +kernel
def psh (S : Nat → Nat × Nat) (m : Nat) (e : Nat × Nat) : Nat → Nat × Nat := fun i => if i = m then e else S i
theorem psh_s {S : Nat → Nat × Nat} {m : Nat} {e : Nat × Nat} : psh S m e m = e := if_pos rfl
theorem psh_ne {S : Nat → Nat × Nat} {m : Nat} {e : Nat × Nat} {i : Nat} (h : i ≠ m) : psh S m e i = S i := if_neg h
/-- one more waits; one less -/
theorem Vw.push {L n p z o m : Nat} {w : Nat → Int32} {S : Nat → Nat × Nat} {σ τ : Hp} (h : Vw L n w p z o m S [] σ τ) (hp : p < n) {e : Nat × Nat} (he1 : e.1 ≤ 14) (he2 : e.2 < 1048576) {o' : Nat} (ho' : o' ≤ 6) {τ1 : Hp} (h7 : τ1 0 7 = nI (p + 1)) (h8 : τ1 0 8 = τ 0 8) (h12 : τ1 0 12 = τ 0 12) (h11 : τ1 0 11 = nI o') (h13 : τ1 0 13 = nI (m + 1)) (hs : τ1 8 = upd (τ 8) m (nI (en e))) (h6 : τ1 6 = τ 6) : Vw L n w (p + 1) z o' (m + 1) (psh S m e) [] (zu σ 23 3 (nI (p + 1))) τ1 := by
  obtain ⟨⟨hL, e60, tC, e23, e9⟩, ⟨tM, e7, e12, e11, e13⟩, ⟨hS, hs1, hc1, hR2, hR3⟩, hz, hmp, hpn, ho⟩ := h
  have hz' : z ≤ p := hz
  refine ⟨⟨hL, by rw [zu_ne _ _ _ (by decide)]; exact e60, tC.fr (FrT.rf.zu (Or.inl rfl)), by rw [zu_self, upd_s], by rw [zu_ne _ _ _ (by omega)]; exact e9⟩, ⟨⟨tM.1, by rw [h8]; exact tM.2.1, fun i hi => by rw [h6]; exact tM.2.2 i hi⟩, h7, by rw [h12]; exact e12, h11, h13⟩, ⟨fun i hi => ?_, trivial, trivial, hR2, hR3⟩, ?_, by omega, by omega, ho'⟩
  · rw [hs]
    by_cases q : i = m
    · rw [q, upd_s, psh_s]; exact ⟨rfl, he1, he2⟩
    · rw [upd_ne _ _ q, psh_ne q]; exact hS i (by omega)
  · show z ≤ p + 1; omega
theorem Vw.pop {L n p z o m : Nat} {w : Nat → Int32} {S S' : Nat → Nat × Nat} {σ τ : Hp} (h : Vw L n w p z o (m + 1) S' [] σ τ) (hp : p < n) (hSS : ∀ i, i < m → S' i = S i) {o' : Nat} (ho' : o' ≤ 6) {τ1 : Hp} (h7 : τ1 0 7 = nI (p + 1)) (h8 : τ1 0 8 = τ 0 8) (h12 : τ1 0 12 = τ 0 12) (h11 : τ1 0 11 = nI o') (h13 : τ1 0 13 = nI m) (hs : τ1 8 = τ 8) (h6 : τ1 6 = τ 6) : Vw L n w (p + 1) z o' m S [] (zu σ 23 3 (nI (p + 1))) τ1 := by
  obtain ⟨⟨hL, e60, tC, e23, e9⟩, ⟨tM, e7, e12, e11, e13⟩, ⟨hS, hs1, hc1, hR2, hR3⟩, hz, hmp, hpn, ho⟩ := h
  have hz' : z ≤ p := hz
  refine ⟨⟨hL, by rw [zu_ne _ _ _ (by decide)]; exact e60, tC.fr (FrT.rf.zu (Or.inl rfl)), by rw [zu_self, upd_s], by rw [zu_ne _ _ _ (by omega)]; exact e9⟩, ⟨⟨tM.1, by rw [h8]; exact tM.2.1, fun i hi => by rw [h6]; exact tM.2.2 i hi⟩, h7, by rw [h12]; exact e12, h11, h13⟩, ⟨fun i hi => ?_, trivial, trivial, hR2, hR3⟩, ?_, by omega, by omega, ho'⟩
  · rw [hs, ← hSS i hi]; exact hS i (by omega)
  · show z ≤ p + 1; omega
theorem Fm.at {L a p : Nat} {σ τ σ1 τ1 : Hp} (h : Fm L a σ τ σ1 τ1) (hL : L = 42 ∨ L = 51) {τ2 : Hp} (hF : LwF τ1 τ2) (h7 : τ2 7 = τ1 7) : Fm L a σ τ (zu σ1 23 3 (nI p)) τ2 := by
  refine ⟨h.1.z23 hL, h.2.1.tr hF, fun k hk => ?_⟩
  rw [zu_ne _ _ _ (by omega), zu_ne _ _ _ (by omega), h7]
  exact h.2.2 k hk
/-- a code is written by both -/
theorem Vw.code {L n p z o m : Nat} {w : Nat → Int32} {S : Nat → Nat × Nat} {σ τ : Hp} (h : Vw L n w p z o m S [] σ τ) (hzp : z < p) (hn : n ≤ 240) (x y a v : Int32) : Vw L n w p (z + 1) o m S [] (zu (zu (zu σ (L + 1) z x) (L + 2) z y) L 9 (nI (z + 1))) (zu (zu τ 7 z (1048576 * a + v)) 0 12 (nI (z + 1))) := by
  obtain ⟨⟨hL, e60, tC, e23, e9⟩, ⟨tM, e7, e12, e11, e13⟩, ⟨hS, hs1, hc1, hR2, hR3⟩, hz, hmp, hpn, ho⟩ := h
  refine ⟨⟨hL, ?_, ⟨tC.1, ?_, fun i hi => ?_⟩, ?_, ?_⟩, ⟨⟨tM.1, ?_, fun i hi => ?_⟩, ?_, ?_, ?_, ?_⟩, ⟨fun i hi => ?_, trivial, trivial, hR2, hR3⟩, ?_, hmp, hpn, ho⟩
  · simp (disch := omega) only [zu_ne]; exact e60
  · simp (disch := omega) only [zu_ne]; exact tC.2.1
  · simp (disch := omega) only [zu_ne]; exact tC.2.2 i hi
  · simp (disch := omega) only [zu_ne]; exact e23
  · rw [zu_self, upd_s]; rfl
  · simp (disch := omega) only [zu_ne, zu_self, upd_ne]; exact tM.2.1
  · simp (disch := omega) only [zu_ne]; exact tM.2.2 i hi
  · simp (disch := omega) only [zu_ne, zu_self, upd_ne]; exact e7
  · rw [zu_self, upd_s]
  · simp (disch := omega) only [zu_ne, zu_self, upd_ne]; exact e11
  · simp (disch := omega) only [zu_ne, zu_self, upd_ne]; exact e13
  · simp (disch := omega) only [zu_ne]; exact hS i hi
  · show z + 1 ≤ p; omega
theorem Fm.code {L z : Nat} {σ τ : Hp} (hL : L = 42 ∨ L = 51) (x y a v : Int32) : Fm L z σ τ (zu (zu (zu σ (L + 1) z x) (L + 2) z y) L 9 (nI (z + 1))) (zu (zu τ 7 z (1048576 * a + v)) 0 12 (nI (z + 1))) := by
  refine ⟨⟨((Ag.rf.zu (by simp)).zu (by simp)).zu (by simp), fun j hj => ?_⟩, (LwF.rf.zuk (Or.inl rfl)).zu0 (by decide), fun k hk => ⟨?_, ?_, ?_⟩⟩
  · rw [zu_self, upd_ne _ _ hj, zu_ne _ _ _ (by omega), zu_ne _ _ _ (by omega)]
  · simp (disch := omega) only [zu_ne, zu_self, upd_ne]
  · simp (disch := omega) only [zu_ne, zu_self, upd_ne]
  · simp (disch := omega) only [zu_ne, zu_self, upd_ne]
theorem Cr.code {L z : Nat} {σ τ : Hp} (hL : L = 42 ∨ L = 51) {x y a v : Int32} (h : cRel x y (1048576 * a + v)) : Cr L z (z + 1) (zu (zu (zu σ (L + 1) z x) (L + 2) z y) L 9 (nI (z + 1))) (zu (zu τ 7 z (1048576 * a + v)) 0 12 (nI (z + 1))) := by
  intro k h1 h2
  obtain rfl : k = z := by omega
  simp (disch := omega) only [zu_ne, zu_self, upd_s]
  exact h
/-- the other's way from a factor on; from behind one -/
def afP (base K : Nat) (τ : Hp) : Option (Int32 × Hp) := L_M_readsSum_14 J_M_readsSum_138 K (nI base) τ
def fsP (base N K : Nat) (τ : Hp) : Option (Int32 × Hp) := (L_M_readsFactor_0 J_M_readsFactor_20 N τ).bind fun q => if q.1 = 0 then some (0, q.2) else afP base K q.2
def LwY (L n : Nat) (w : Nat → Int32) (o m : Nat) (S : Nat → Nat × Nat) (p z K base : Nat) (r : List Bool) (Q : List Nat → Nat → Prop) (σ τ : Hp) (rC rM : Option (Int32 × Hp)) : Prop := ∃ (σ' τ' : Hp) (p' z' : Nat) (R : List Nat) (K' : Nat), rC = some (1, σ') ∧ rM = afP base K' τ' ∧ Vw L n w p' z' o m S R σ' τ' ∧ Fm L z σ τ σ' τ' ∧ Cr L z z' σ' τ' ∧ Seg (σ' (L + 1)) (σ' (L + 2)) z (z' + R.length) r (false :: r) ∧ (p < p' ∧ z ≤ z') ∧ z' + R.length + p ≤ z + p' ∧ K + p ≤ K' + p' ∧ Q R p'
def SpF (L n : Nat) (w : Nat → Int32) (o : Nat) (fF : Int32 → Hp → Option (Int32 × Hp)) : Prop := ∀ (p z m : Nat) (S : Nat → Nat × Nat) (σ τ : Hp) (N K base : Nat) (r : List Bool), Vw L n w p z o m S [] σ τ → base ≤ m → r.length ≤ 2 * o + 3 → 10 ≤ N + o → 1000 ≤ K + p → LwX L σ τ (fF (nI o) σ) (fsP base N K τ) ∨ LwY L n w o m S p z K base r (fun R _ => R = []) σ τ (fF (nI o) σ) (fsP base N K τ)
def mul3 (x : Int32) : Prop := x = 42 ∨ x = 47 ∨ x = 37
def add2 (x : Int32) : Prop := x = 43 ∨ x = 45
def SpT (L n : Nat) (w : Nat → Int32) (o : Nat) (fT : Int32 → Hp → Option (Int32 × Hp)) : Prop := ∀ (p z m : Nat) (S : Nat → Nat × Nat) (σ τ : Hp) (N K base : Nat) (r : List Bool), Vw L n w p z o m S [] σ τ → NT false m S → base ≤ m → r.length ≤ 2 * o + 2 → 10 ≤ N + o → 1000 ≤ K + p → LwX L σ τ (fT (nI o) σ) (fsP base N K τ) ∨ LwY L n w o m S p z K base r (fun R p' => R.length ≤ 1 ∧ (∀ x ∈ R, clo false x) ∧ ¬ mul3 (wa w n p')) σ τ (fT (nI o) σ) (fsP base N K τ)
def SpA (L n : Nat) (w : Nat → Int32) (o : Nat) (fA : Int32 → Hp → Option (Int32 × Hp)) : Prop := ∀ (p z m : Nat) (S : Nat → Nat × Nat) (σ τ : Hp) (N K base : Nat) (r : List Bool), Vw L n w p z o m S [] σ τ → NT true m S → base ≤ m → r.length ≤ 2 * o + 1 → 10 ≤ N + o → 1000 ≤ K + p → LwX L σ τ (fA (nI o) σ) (fsP base N K τ) ∨ LwY L n w o m S p z K base r (fun R p' => (∀ x ∈ R, clo true x) ∧ ¬ mul3 (wa w n p') ∧ ¬ add2 (wa w n p')) σ τ (fA (nI o) σ) (fsP base N K τ)
theorem RdS_at {τ : Hp} {m : Nat} : ∀ (R : List Nat), RdS τ m R → (∀ x ∈ R, 2 ≤ x ∧ x ≤ 6) → ∀ i, i < R.length → ∃ x, x ≤ 6 ∧ τ 8 (m + i) = nI (en (x, 0)) := by
  intro R
  induction R with
  | nil => intro _ _ i hi; simp at hi
  | cons y R ih =>
    intro h hR i hi
    by_cases q : i = R.length
    · exact ⟨y, (hR y (by simp)).2, by rw [q]; exact h.1⟩
    · exact ih h.2 (fun x hx => hR x (by simp [hx])) i (by simp at hi; omega)
theorem ho_un (N : Nat) (x : Int32) (τ : Hp) : L_M_hasOpenSum_2 (N + 1) x τ = B_M_hasOpenSum_2 (fun x2 σ => L_M_hasOpenSum_2 N x2 σ) x τ := rfl
section
variable {L n p z o m : Nat} {w : Nat → Int32} {S : Nat → Nat × Nat} {R : List Nat} {σ τ : Hp}
theorem Vw.ent (h : Vw L n w p z o m S R σ τ) {i : Nat} (hi : i < m + R.length) : ∃ x v, x ≤ 14 ∧ v < 1048576 ∧ τ 8 i = nI (en (x, v)) ∧ (i < m → (x, v) = S i) ∧ (m ≤ i → x ≤ 6) := by
  obtain ⟨-, -, ⟨hS, hs1, -, -, hR3⟩, -⟩ := h
  by_cases q : i < m
  · obtain ⟨h1, h2, h3⟩ := hS i q
    exact ⟨(S i).1, (S i).2, h2, h3, h1, fun _ => rfl, fun z => by omega⟩
  · obtain ⟨x, hx, e⟩ := RdS_at R hs1 hR3 (i - m) (by omega)
    exact ⟨x, 0, by omega, by omega, by rw [← e]; congr 1; omega, fun z => absurd z q, fun _ => hx⟩
theorem ho_yes (h : Vw L n w p z o m S R σ τ) (hn : n ≤ 240) {j : Nat} (hj : j < m) (h14 : (S j).1 = 14) : ∀ (k i N : Nat), j - i = k → i ≤ j → k < N → L_M_hasOpenSum_2 N (nI i) τ = some (1, τ) := by
  have hmp := h.2.2.2.2.1
  have hpn := h.2.2.2.2.2.1
  have e13 := h.2.1.2.2.2.2
  have hR2 := h.2.2.1.2.2.2.1
  intro k
  induction k with
  | zero =>
    intro i N hk hi hN
    obtain ⟨N, rfl⟩ : ∃ N', N = N' + 1 := ⟨N - 1, by omega⟩
    obtain rfl : i = j := by omega
    obtain ⟨x, v, h1, h2, h3, h4, -⟩ := h.ent (i := i) (by omega)
    have hx : x = 14 := by rw [← h14, ← h4 hj]
    rw [ho_un]
    unfold B_M_hasOpenSum_2
    rw [if_neg (show ¬ τ 0 13 ≤ nI i by rw [e13]; exact nI_ge (by omega) (by omega)), gd_true (inbT (show i < 260 by omega) (by omega)), nI_clamp (by omega), if_pos (by rw [h3, en_div h1 h2, hx]; rfl)]
  | succ k ih =>
    intro i N hk hi hN
    obtain ⟨N, rfl⟩ : ∃ N', N = N' + 1 := ⟨N - 1, by omega⟩
    rw [ho_un]
    unfold B_M_hasOpenSum_2
    rw [if_neg (show ¬ τ 0 13 ≤ nI i by rw [e13]; exact nI_ge (by omega) (by omega)), gd_true (inbT (show i < 260 by omega) (by omega)), nI_clamp (by omega), nI_1]
    split
    · rfl
    · exact ih (i + 1) N (by omega) (by omega) (by omega)
theorem ho_no (h : Vw L n w p z o m S R σ τ) (hn : n ≤ 240) : ∀ (k i N : Nat), m + R.length - i = k → m ≤ i → i ≤ m + R.length → k < N → L_M_hasOpenSum_2 N (nI i) τ = some (0, τ) := by
  have hmp := h.2.2.2.2.1
  have hpn := h.2.2.2.2.2.1
  have e13 := h.2.1.2.2.2.2
  have hR2 := h.2.2.1.2.2.2.1
  intro k
  induction k with
  | zero =>
    intro i N hk hi hi2 hN
    obtain ⟨N, rfl⟩ : ∃ N', N = N' + 1 := ⟨N - 1, by omega⟩
    rw [ho_un]
    unfold B_M_hasOpenSum_2
    rw [if_pos (show τ 0 13 ≤ nI i by rw [e13]; exact nI_le (by omega) (by omega))]
  | succ k ih =>
    intro i N hk hi hi2 hN
    obtain ⟨N, rfl⟩ : ∃ N', N = N' + 1 := ⟨N - 1, by omega⟩
    obtain ⟨x, v, h1, h2, h3, -, h5⟩ := h.ent (i := i) (by omega)
    have hx := h5 hi
    rw [ho_un]
    unfold B_M_hasOpenSum_2
    rw [if_neg (show ¬ τ 0 13 ≤ nI i by rw [e13]; exact nI_ge (by omega) (by omega)), gd_true (inbT (show i < 260 by omega) (by omega)), nI_clamp (by omega), nI_1, if_neg (show ¬ τ 8 i / 1048576 = (14 : Int32) by rw [h3, en_div h1 h2]; exact nI_lit (k := 14) (by omega) (by omega) (by omega))]
    exact ih (i + 1) N (by omega) (by omega) (by omega) (by omega)
end
