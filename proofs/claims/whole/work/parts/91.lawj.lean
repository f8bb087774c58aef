-- the law as a text: jumps that wait for where they lead
def JdS (τ : Hp) (m : Nat) : List (Nat × Nat) → Prop
  | [] => True
  | x :: r => τ 8 (m + r.length) = nI (en x) ∧ JdS τ m r
def jc (x : Nat) : Int32 := if x = 11 then 38 else 124
def Jok (L a z : Nat) (J : List (Nat × Nat)) (σ τ : Hp) : Prop := ∀ x ∈ J, (x.1 = 11 ∨ x.1 = 12) ∧ a ≤ x.2 ∧ x.2 < z ∧ σ (L + 1) x.2 = jc x.1 ∧ σ (L + 2) x.2 = nI z ∧ τ 7 x.2 = nI (en (x.1, 0))
def CrJ (L a z : Nat) (J : List (Nat × Nat)) (σ τ : Hp) : Prop := ∀ k, a ≤ k → k < z → (∀ x ∈ J, x.2 ≠ k) → cRel (σ (L + 1) k) (σ (L + 2) k) (τ 7 k)
def Vj (L n : Nat) (w : Nat → Int32) (a p z o m : Nat) (S : Nat → Nat × Nat) (J : List (Nat × Nat)) (σ τ : Hp) : Prop :=
  ((L = 42 ∨ L = 51) ∧ σ 60 1 = nI L ∧ TxC w n σ ∧ σ 23 3 = nI p ∧ σ L 9 = nI z) ∧
  (TxM w n τ ∧ τ 0 7 = nI p ∧ τ 0 12 = nI z ∧ τ 0 11 = nI o ∧ τ 0 13 = nI (m + J.length)) ∧
  ((∀ i, i < m → τ 8 i = nI (en (S i)) ∧ (S i).1 ≤ 14 ∧ (S i).2 < 1048576) ∧ JdS τ m J ∧ Jok L a z J σ τ ∧ J.length ≤ 2 ∧ J.Pairwise (fun x y => x.2 ≠ y.2)) ∧
  (z ≤ p ∧ m ≤ p ∧ p ≤ n ∧ o ≤ 6) ∧ CrJ L a z J σ τ
theorem Vj.vw {L n a p z o m : Nat} {w : Nat → Int32} {S : Nat → Nat × Nat} {σ τ : Hp} (h : Vj L n w a p z o m S [] σ τ) : Vw L n w p z o m S [] σ τ := ⟨h.1, h.2.1, ⟨h.2.2.1.1, trivial, trivial, by simp, by simp⟩, h.2.2.2.1⟩
theorem Vj.cr {L n a p z o m : Nat} {w : Nat → Int32} {S : Nat → Nat × Nat} {σ τ : Hp} (h : Vj L n w a p z o m S [] σ τ) : Cr L a z σ τ := fun k h1 h2 => h.2.2.2.2 k h1 h2 (by simp)
theorem Vj.of {L n a p z o m : Nat} {w : Nat → Int32} {S : Nat → Nat × Nat} {σ τ : Hp} (h : Vw L n w p z o m S [] σ τ) (hc : Cr L a z σ τ) : Vj L n w a p z o m S [] σ τ := ⟨h.1, h.2.1, ⟨h.2.2.1.1, trivial, by intro x hx; simp at hx, by simp, List.Pairwise.nil⟩, h.2.2.2, fun k h1 h2 _ => hc k h1 h2⟩
def lnd (b : Bool) (x : Nat) : Prop := x = 11 ∨ (b = true ∧ x = 12)
def NL (b : Bool) (m : Nat) (S : Nat → Nat × Nat) : Prop := m = 0 ∨ ¬ lnd b (S (m - 1)).1
theorem la_un (N : Nat) (b : Int32) (τ : Hp) : L_M_lands_0 (N + 1) b τ = B_M_lands_0 (fun x1 σ => L_M_lands_0 N x1 σ) b τ := rfl
theorem la_stop {N : Nat} {b : Bool} {x : Int32} {τ : Hp} (ht : F_M_waitTop τ = some (x, τ)) (hx : x = -1 ∨ ∃ y : Nat, y ≤ 14 ∧ x = nI y ∧ ¬ lnd b y) : L_M_lands_0 (N + 1) (b2 b) τ = some τ := by
  rw [la_un]
  unfold B_M_lands_0
  rw [ht, ob]
  dsimp only
  have h11 : ¬ x = 11 := by
    rcases hx with rfl | ⟨y, hy, rfl, hc⟩
    · decide
    · exact fun e => hc (Or.inl ((nI_eq (b := 11) (by omega) (by omega)).mp e))
  rw [if_neg h11, b2_ite]
  by_cases hb : b = true
  · rw [if_pos hb, ht, ob]
    dsimp only
    rw [if_neg (by
      rcases hx with rfl | ⟨y, hy, rfl, hc⟩
      · decide
      · exact fun e => hc (Or.inr ⟨hb, (nI_eq (b := 12) (by omega) (by omega)).mp e⟩))]
  · rw [if_neg hb]
theorem la_go {N z m : Nat} {x : Nat × Nat} {b : Bool} {τ : Hp} (e12 : τ 0 12 = nI z) (e13 : τ 0 13 = nI (m + 1)) (hm : m < 260) (h8 : τ 8 m = nI (en x)) (hx : x.1 ≤ 14) (hx2 : x.2 < 240) (h7 : τ 7 x.2 = nI (en (x.1, 0))) (hc : lnd b x.1) : L_M_lands_0 (N + 1) (b2 b) τ = L_M_lands_0 N (b2 b) (zu (zu τ 7 x.2 (1048576 * nI x.1 + nI z)) 0 13 (nI m)) := by
  have ht := M_top (x := x.1) (v := x.2) e13 hm h8 hx (by omega)
  rw [la_un]
  unfold B_M_lands_0
  rw [ht, ob]
  dsimp only
  have er : jrem (nI (en x)) 1048576 = nI x.2 := en_rem (x := x.1) (v := x.2) hx (by omega)
  have j22 : J_M_lands_22 (fun x1 σ => L_M_lands_0 N x1 σ) (b2 b) τ = L_M_lands_0 N (b2 b) (zu (zu τ 7 x.2 (1048576 * nI x.1 + nI z)) 0 13 (nI m)) := by
    unfold J_M_lands_22
    rw [e13, nI_pred, gd_true (inbT hm (by omega)), nI_clamp (by omega), h8, er, gd_true (inbT (show x.2 < 260 by omega) (by omega)), gd_true (inbT (show x.2 < 260 by omega) (by omega)), nI_clamp (by omega), h7, en_div hx (by omega), e12]
    simp (disch := omega) only [zu_ne, e13, nI_pred]
  rcases hc with h | ⟨hb, h⟩
  · rw [if_pos (by rw [h]; rfl)]; exact j22
  · rw [if_neg (by rw [h]; decide), b2_ite, if_pos hb, ht, ob]
    dsimp only
    rw [if_pos (by rw [h]; rfl)]; exact j22
theorem cRel_j {x z : Nat} (h : x = 11 ∨ x = 12) (hz : z ≤ 240) : cRel (jc x) (nI z) (1048576 * nI x + nI z) := by
  rcases h with rfl | rfl
  · exact ⟨z, by omega, rfl, rfl, Or.inr (Or.inr (Or.inr (Or.inl rfl)))⟩
  · exact ⟨z, by omega, rfl, rfl, Or.inr (Or.inr (Or.inr (Or.inr rfl)))⟩
theorem lands_eq {L n a p z o m : Nat} {w : Nat → Int32} {S : Nat → Nat × Nat} {b : Bool} {σ : Hp} (hn : n ≤ 240) (hNL : NL b m S) : ∀ (J : List (Nat × Nat)) (N : Nat) (τ : Hp), Vj L n w a p z o m S J σ τ → (∀ x ∈ J, lnd b x.1) → J.length < N → ∃ τ', L_M_lands_0 N (b2 b) τ = some τ' ∧ Vj L n w a p z o m S [] σ τ' ∧ Fm L a σ τ σ τ' := by
  intro J
  induction J with
  | nil =>
    intro N τ hV hJ hN
    obtain ⟨N, rfl⟩ : ∃ N', N = N' + 1 := ⟨N - 1, by simp at hN; omega⟩
    refine ⟨τ, ?_, hV, Fm.rf⟩
    obtain ⟨-, ⟨-, -, -, -, e13⟩, ⟨hS, -⟩, ⟨-, hmp, hpn, -⟩, -⟩ := hV
    have e13 : τ 0 13 = nI m := e13
    by_cases q : m = 0
    · exact la_stop (M_top0 (by rw [e13, q])) (Or.inl rfl)
    · obtain ⟨h1, h2, h3⟩ := hS (m - 1) (by omega)
      refine la_stop (M_top (m := m - 1) (by rw [e13]; congr 1; omega) (by omega) h1 h2 h3) (Or.inr ⟨_, h2, rfl, ?_⟩)
      rcases hNL with h | h
      · exact absurd h q
      · exact h
  | cons x J ih =>
    intro N τ hV hJ hN
    obtain ⟨N, rfl⟩ : ∃ N', N = N' + 1 := ⟨N - 1, by simp at hN; omega⟩
    obtain ⟨⟨hL, e60, tC, e23, e9⟩, ⟨tM, e7, e12, e11, e13⟩, ⟨hS, ⟨hs1, hs2⟩, hjo, hJ2, hpw⟩, ⟨hz, hmp, hpn, ho⟩, hcr⟩ := hV
    have hlen : (x :: J).length = J.length + 1 := rfl
    rw [hlen] at e13 hJ2 hN
    obtain ⟨x1, x2, x3, x4, x5, x6⟩ := hjo x (by simp)
    have hgo := la_go (N := N) (b := b) e12 (show τ 0 13 = nI (m + J.length + 1) from e13) (by omega) hs1 (by omega) (by omega) x6 (hJ x (by simp))
    obtain ⟨τ1, hτ1⟩ : ∃ τ1, τ1 = zu (zu τ 7 x.2 (1048576 * nI x.1 + nI z)) 0 13 (nI (m + J.length)) := ⟨_, rfl⟩
    rw [← hτ1] at hgo
    have t8 : τ1 8 = τ 8 := by rw [hτ1]; simp (disch := omega) only [zu_ne]
    have t7n : ∀ k, k ≠ x.2 → τ1 7 k = τ 7 k := fun k hk => by rw [hτ1, zu_ne _ _ _ (by decide), zu_self, upd_ne _ _ hk]
    have hpw' := List.pairwise_cons.mp hpw
    have V1 : Vj L n w a p z o m S J σ τ1 := by
      refine ⟨⟨hL, e60, tC, e23, e9⟩, ⟨⟨tM.1, ?_, fun i hi => ?_⟩, ?_, ?_, ?_, ?_⟩, ⟨fun i hi => by rw [t8]; exact hS i hi, ?_, fun y hy => ?_, by omega, hpw'.2⟩, ⟨hz, hmp, hpn, ho⟩, fun k h1 h2 h3 => ?_⟩
      · rw [hτ1]; simp (disch := omega) only [zu_ne, zu_self, upd_ne]; exact tM.2.1
      · rw [hτ1]; simp (disch := omega) only [zu_ne]; exact tM.2.2 i hi
      · rw [hτ1]; simp (disch := omega) only [zu_ne, zu_self, upd_ne]; exact e7
      · rw [hτ1]; simp (disch := omega) only [zu_ne, zu_self, upd_ne]; exact e12
      · rw [hτ1]; simp (disch := omega) only [zu_ne, zu_self, upd_ne]; exact e11
      · rw [hτ1]; simp (disch := omega) only [zu_self, upd_s]
      · have : ∀ (J : List (Nat × Nat)), JdS τ m J → JdS τ1 m J := by
          intro J
          induction J with
          | nil => exact id
          | cons y J ih => exact fun h => ⟨by rw [t8]; exact h.1, ih h.2⟩
        exact this J hs2
      · obtain ⟨y1, y2, y3, y4, y5, y6⟩ := hjo y (by simp [hy])
        exact ⟨y1, y2, y3, y4, y5, by rw [t7n _ (fun e => hpw'.1 y hy e.symm)]; exact y6⟩
      · by_cases q : k = x.2
        · rw [q, x4, x5, hτ1, zu_ne _ _ _ (by decide), zu_self, upd_s]
          exact cRel_j x1 (by omega)
        · rw [t7n k q]
          refine hcr k h1 h2 (fun y hy => ?_)
          rcases List.mem_cons.mp hy with rfl | hy
          · exact fun e => q e.symm
          · exact h3 y hy
    obtain ⟨τ', g1, g2, g3⟩ := ih N τ1 V1 (fun y hy => hJ y (by simp [hy])) (by omega)
    have F1 : Fm L a σ τ σ τ1 := by
      refine ⟨LwG.rf, ?_, fun k hk => ⟨rfl, rfl, t7n k (by omega)⟩⟩
      rw [hτ1]; exact (LwF.rf.zuk (Or.inl rfl)).zu0 (by decide)
    exact ⟨τ', hgo.trans g1, g2, F1.tr g3 (Nat.le_refl _)⟩
theorem M_jumps {m p z x : Nat} {τ : Hp} (e13 : τ 0 13 = nI m) (hm : m < 260) (e12 : τ 0 12 = nI z) (hz : z < 260) (e7 : τ 0 7 = nI p) (a : Int32) (ha : a = nI x) : F_M_jumps a τ = some (zu (zu (zu (zu (zu τ 8 m (nI (en (x, z)))) 0 13 (nI (m + 1))) 7 z (1048576 * nI x + 0)) 0 12 (nI (z + 1))) 0 7 (nI (p + 1))) := by
  subst ha
  unfold F_M_jumps
  rw [e13, gd_true (inbT hm (by omega)), nI_clamp (by omega), e12, show (1048576 : Int32) * nI x + nI z = nI (en (x, z)) by unfold en; rw [nlU, pk_mul, nI_add]]
  rw [M_notes (z := z) (by simp (disch := omega) only [zu_ne, zu_self, upd_ne]; exact e12) hz, ob]
  simp (disch := omega) only [zu_ne, zu_self, upd_ne, e13, e7, nI_1]
theorem ep_un (N : Nat) (τ : Hp) : L_M_endsPiece_0 (N + 1) τ = B_M_endsPiece_0 (fun σ => L_M_endsPiece_0 N σ) τ := rfl
/-- the not's in front of a piece are written behind it -/
theorem ends_eq {m : Nat} {S : Nat → Nat × Nat} (hm : m = 0 ∨ (S (m - 1)).1 ≠ 10) : ∀ (k y o N : Nat) (τ : Hp), m + k < 250 → y + k < 250 → k < N → τ 0 12 = nI y → τ 0 13 = nI (m + k) → τ 0 11 = nI (o + k) → (∀ i, i < m → τ 8 i = nI (en (S i)) ∧ (S i).1 ≤ 14 ∧ (S i).2 < 1048576) → (∀ i, m ≤ i → i < m + k → τ 8 i = nI (en (10, 0))) → ∃ τ', L_M_endsPiece_0 N τ = some τ' ∧ LwF τ τ' ∧ τ' 8 = τ 8 ∧ (∀ j, j ≠ 11 → j ≠ 12 → j ≠ 13 → τ' 0 j = τ 0 j) ∧ τ' 0 12 = nI (y + k) ∧ τ' 0 13 = nI m ∧ τ' 0 11 = nI o ∧ (∀ i, i < k → τ' 7 (y + i) = 1048576 * 10 + 0) ∧ ∀ i, i < y → τ' 7 i = τ 7 i := by
  intro k
  induction k with
  | zero =>
    intro y o N τ b1 b2' hN e12 e13 e11 hS hno
    obtain ⟨N, rfl⟩ : ∃ N', N = N' + 1 := ⟨N - 1, by omega⟩
    refine ⟨τ, ?_, LwF.rf, rfl, fun _ _ _ _ => rfl, e12, e13, e11, fun i hi => absurd hi (by omega), fun _ _ => rfl⟩
    have e13 : τ 0 13 = nI m := e13
    rw [ep_un]
    unfold B_M_endsPiece_0
    by_cases q : m = 0
    · rw [M_top0 (by rw [e13, q]), ob]
      dsimp only
      rw [if_neg (by decide)]
    · obtain ⟨h1, h2, h3⟩ := hS (m - 1) (by omega)
      rw [M_top (m := m - 1) (by rw [e13]; congr 1; omega) (by omega) h1 h2 h3, ob]
      dsimp only
      rw [if_neg (fun e => by
        have := (nI_eq (b := 10) (by omega) (by omega)).mp e
        rcases hm with h | h
        · exact q h
        · exact h this)]
  | succ k ih =>
    intro y o N τ b1 b2' hN e12 e13 e11 hS hno
    obtain ⟨N, rfl⟩ : ∃ N', N = N' + 1 := ⟨N - 1, by omega⟩
    have ht := M_top (m := m + k) e13 (by omega) (hno (m + k) (by omega) (by omega)) (by omega) (by omega)
    obtain ⟨τ1, hτ1⟩ : ∃ τ1, τ1 = zu (zu (zu (zu τ 7 y (1048576 * 10 + 0)) 0 12 (nI (y + 1))) 0 13 (nI (m + k))) 0 11 (nI (o + k)) := ⟨_, rfl⟩
    have hgo : L_M_endsPiece_0 (N + 1) τ = L_M_endsPiece_0 N τ1 := by
      rw [ep_un]
      unfold B_M_endsPiece_0
      rw [ht, ob]
      dsimp only
      rw [if_pos (by rfl), M_notes e12 (by omega), ob]
      simp (disch := omega) only [zu_ne, zu_self, upd_ne, e13, e11, ← Nat.add_assoc, nI_pred]
      rw [hτ1]
    have t8 : τ1 8 = τ 8 := by rw [hτ1]; simp (disch := omega) only [zu_ne]
    obtain ⟨τ', g1, g2, g3, g4, g5, g6, g7, g8, g9⟩ := ih (y + 1) o N τ1 (by omega) (by omega) (by omega) (by rw [hτ1]; simp (disch := omega) only [zu_self, upd_ne, upd_s]) (by rw [hτ1]; simp (disch := omega) only [zu_self, upd_ne, upd_s]) (by rw [hτ1]; simp (disch := omega) only [zu_self, upd_s]) (fun i hi => by rw [t8]; exact hS i hi) (fun i h1 h2 => by rw [t8]; exact hno i h1 (by omega))
    refine ⟨τ', hgo.trans g1, ?_, g3.trans t8, fun j h1 h2 h3 => ?_, by rw [g5]; congr 1; omega, g6, g7, fun i hi => ?_, fun i hi => ?_⟩
    · refine LwF.tr ?_ g2
      rw [hτ1]; exact (((LwF.rf.zuk (Or.inl rfl)).zu0 (by decide)).zu0 (by decide)).zu0 (by decide)
    · rw [g4 j h1 h2 h3, hτ1]; simp (disch := omega) only [zu_ne, zu_self, upd_ne]
    · by_cases q : i = 0
      · rw [q, Nat.add_zero, g9 y (by omega), hτ1]
        simp (disch := omega) only [zu_ne, zu_self, upd_s]
      · have := g8 (i - 1) (by omega)
        rw [show y + 1 + (i - 1) = y + i by omega] at this
        exact this
    · rw [g9 i (by omega), hτ1]
      simp (disch := omega) only [zu_ne, zu_self, upd_ne]
