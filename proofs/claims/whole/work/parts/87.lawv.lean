-- the law as a text: what both have read so far
def en (x : Nat × Nat) : Nat := 1048576 * x.1 + x.2
def sgn (x : Nat) : Int32 := if x = 2 then 43 else if x = 3 then 45 else if x = 4 then 42 else if x = 5 then 47 else 37
/-- signs that wait to be written, those on top first -/
def RdS (τ : Hp) (m : Nat) : List Nat → Prop
  | [] => True
  | x :: r => τ 8 (m + r.length) = nI (en (x, 0)) ∧ RdS τ m r
def RdC (L : Nat) (σ : Hp) (z : Nat) : List Nat → Prop
  | [] => True
  | x :: r => (σ (L + 1) z = sgn x ∧ σ (L + 2) z = 0) ∧ RdC L σ (z + 1) r
def LwF (τ0 τ : Hp) : Prop := (∀ k, k ∉ [0, 7, 8] → τ k = τ0 k) ∧ ∀ j, j ∉ [7, 9, 10, 11, 12, 13] → τ 0 j = τ0 0 j
def LwG (L : Nat) (σ0 σ : Hp) : Prop := Ag [23, L, L + 1, L + 2] σ0 σ ∧ ∀ j, j ≠ 9 → σ L j = σ0 L j
/-- where both stand: the place p, z codes written by the other one, o open, m waiting with S, behind them R -/
def Vw (L n : Nat) (w : Nat → Int32) (p z o m : Nat) (S : Nat → Nat × Nat) (R : List Nat) (σ τ : Hp) : Prop :=
  ((L = 42 ∨ L = 51) ∧ σ 60 1 = nI L ∧ TxC w n σ ∧ σ 23 3 = nI p ∧ σ L 9 = nI (z + R.length)) ∧
  (TxM w n τ ∧ τ 0 7 = nI p ∧ τ 0 12 = nI z ∧ τ 0 11 = nI o ∧ τ 0 13 = nI (m + R.length)) ∧
  ((∀ i, i < m → τ 8 i = nI (en (S i)) ∧ (S i).1 ≤ 14 ∧ (S i).2 < 1048576) ∧ RdS τ m R ∧ RdC L σ z R ∧ R.length ≤ 2 ∧ ∀ x ∈ R, 2 ≤ x ∧ x ≤ 6) ∧
  (z + R.length ≤ p ∧ m ≤ p ∧ p ≤ n ∧ o ≤ 6)
/-- what lies below a stays, and all but the cells of the reading -/
def Fm (L a : Nat) (σ τ σ' τ' : Hp) : Prop := LwG L σ σ' ∧ LwF τ τ' ∧ ∀ k, k < a → σ' (L + 1) k = σ (L + 1) k ∧ σ' (L + 2) k = σ (L + 2) k ∧ τ' 7 k = τ 7 k
def Cr (L a z : Nat) (σ τ : Hp) : Prop := ∀ k, a ≤ k → k < z → cRel (σ (L + 1) k) (σ (L + 2) k) (τ 7 k)
theorem LwF.rf {τ : Hp} : LwF τ τ := ⟨fun _ _ => rfl, fun _ _ => rfl⟩
theorem LwF.tr {a b c : Hp} (h1 : LwF a b) (h2 : LwF b c) : LwF a c := ⟨fun k hk => (h2.1 k hk).trans (h1.1 k hk), fun j hj => (h2.2 j hj).trans (h1.2 j hj)⟩
theorem LwF.zu0 {τ0 τ : Hp} (h : LwF τ0 τ) {i : Nat} {x : Int32} (hi : i ∈ [7, 9, 10, 11, 12, 13]) : LwF τ0 (zu τ 0 i x) := ⟨fun k hk => by rw [zu_ne _ _ _ (fun e => hk (by rw [e]; decide))]; exact h.1 k hk, fun j hj => by rw [zu_self, upd_ne _ _ (fun e : j = i => hj (by rw [e]; exact hi))]; exact h.2 j hj⟩
theorem LwF.zuk {τ0 τ : Hp} (h : LwF τ0 τ) {c i : Nat} {x : Int32} (hc : c = 7 ∨ c = 8) : LwF τ0 (zu τ c i x) := ⟨fun k hk => by rw [zu_ne _ _ _ (fun e => hk (by rw [e]; rcases hc with rfl | rfl <;> decide))]; exact h.1 k hk, fun j hj => by rw [zu_ne _ _ _ (by omega)]; exact h.2 j hj⟩
theorem LwG.rf {L : Nat} {σ : Hp} : LwG L σ σ := ⟨Ag.rf, fun _ _ => rfl⟩
theorem LwG.tr {L : Nat} {a b c : Hp} (h1 : LwG L a b) (h2 : LwG L b c) : LwG L a c := ⟨fun k hk => (h2.1 k hk).trans (h1.1 k hk), fun j hj => (h2.2 j hj).trans (h1.2 j hj)⟩
theorem LwG.z23 {L : Nat} {σ0 σ : Hp} (h : LwG L σ0 σ) (hL : L = 42 ∨ L = 51) {i : Nat} {x : Int32} : LwG L σ0 (zu σ 23 i x) := ⟨h.1.zu (by simp), fun j hj => by rw [zu_ne _ _ _ (by omega)]; exact h.2 j hj⟩
theorem Fm.rf {L a : Nat} {σ τ : Hp} : Fm L a σ τ σ τ := ⟨LwG.rf, LwF.rf, fun _ _ => ⟨rfl, rfl, rfl⟩⟩
theorem Fm.tr {L a b : Nat} {σ τ s1 t1 s2 t2 : Hp} (h1 : Fm L a σ τ s1 t1) (h2 : Fm L b s1 t1 s2 t2) (hab : a ≤ b) : Fm L a σ τ s2 t2 := ⟨h1.1.tr h2.1, h1.2.1.tr h2.2.1, fun k hk => by
  obtain ⟨x1, x2, x3⟩ := h1.2.2 k hk
  obtain ⟨y1, y2, y3⟩ := h2.2.2 k (by omega)
  exact ⟨y1.trans x1, y2.trans x2, y3.trans x3⟩⟩
theorem Cr.tr {L a b z : Nat} {s1 t1 s2 t2 : Hp} (h1 : Cr L a b s1 t1) (hf : Fm L b s1 t1 s2 t2) (h2 : Cr L b z s2 t2) : Cr L a z s2 t2 := fun k hk hz => by
  by_cases q : k < b
  · obtain ⟨x1, x2, x3⟩ := hf.2.2 k q
    rw [x1, x2, x3]; exact h1 k hk q
  · exact h2 k (by omega) hz
theorem Cr.nil {L a : Nat} {σ τ : Hp} : Cr L a a σ τ := fun k h1 h2 => absurd h2 (by omega)
theorem Seg.fm {L a b e : Nat} {s1 t1 s2 t2 : Hp} {r r' : List Bool} (h : Seg (s1 (L + 1)) (s1 (L + 2)) a b r r') (hf : Fm L e s1 t1 s2 t2) (hb : b ≤ e) : Seg (s2 (L + 1)) (s2 (L + 2)) a b r r' := h.congr (fun k _ hk => ⟨(hf.2.2 k (by omega)).1, (hf.2.2 k (by omega)).2.1⟩)
/-- both refuse -/
def LwX (L : Nat) (σ0 τ0 : Hp) (r r' : Option (Int32 × Hp)) : Prop := ∃ (f : Int32) (σ' τ' : Hp), r = some (0, σ') ∧ r' = some (0, τ') ∧ LwG L σ0 σ' ∧ σ' 23 4 = f ∧ LwF τ0 τ' ∧ τ' 0 9 = f
theorem LwX.tr {L a : Nat} {σ τ s1 t1 : Hp} {r r' : Option (Int32 × Hp)} (h1 : Fm L a σ τ s1 t1) (h : LwX L s1 t1 r r') : LwX L σ τ r r' := by
  obtain ⟨f, s', t', g1, g2, g3, g4, g5, g6⟩ := h
  exact ⟨f, s', t', g1, g2, h1.1.tr g3, g4, h1.2.1.tr g5, g6⟩
-- small pieces
theorem C_add {L z : Nat} {σ : Hp} (e : σ L 9 = nI z) (hz : z < 240) (x y : Int32) : F_X4_add L x y σ = some (nI z, zu (zu (zu σ (L + 1) z x) (L + 2) z y) L 9 (nI (z + 1))) := by
  unfold F_X4_add
  rw [if_neg (show ¬ (240 : Int32) ≤ σ L 9 by rw [e]; exact nI_ge (b := 240) (by omega) (by omega))]
  simp (disch := omega) only [zu_ne, zu_self, upd_s, e, nI_clamp, inb_nI, gd_tt, nI_1, nI_pred]
theorem M_notes {z : Nat} {τ : Hp} (e : τ 0 12 = nI z) (hz : z < 260) (a v : Int32) : F_M_notes a v τ = some (zu (zu τ 7 z (1048576 * a + v)) 0 12 (nI (z + 1))) := by
  unfold F_M_notes
  simp (disch := omega) only [zu_ne, e, nI_clamp, inb_nI, gd_tt, nI_1]
theorem nlU : (1048576 : Int32) = nI 1048576 := rfl
theorem en_div {x v : Nat} (hx : x ≤ 14) (hv : v < 1048576) : nI (en (x, v)) / 1048576 = nI x := by
  unfold en
  rw [nlU, pk_div (by omega) (by omega) (by omega)]
  congr 1
  show (1048576 * x + v) / 1048576 = x
  omega
theorem en_rem {x v : Nat} (hx : x ≤ 14) (hv : v < 1048576) : jrem (nI (en (x, v))) 1048576 = nI v := by
  unfold en
  rw [nlU, jrem_nI (by omega) (by omega) (by omega)]
  congr 1
  show (1048576 * x + v) % 1048576 = v
  omega
theorem en0 (x : Nat) : (1048576 : Int32) * nI x = nI (en (x, 0)) := by unfold en; rw [nlU, pk_mul]; rfl
theorem M_top {m x v : Nat} {τ : Hp} (e : τ 0 13 = nI (m + 1)) (hm : m < 260) (h8 : τ 8 m = nI (en (x, v))) (hx : x ≤ 14) (hv : v < 1048576) : F_M_waitTop τ = some (nI x, τ) := by
  unfold F_M_waitTop
  rw [if_neg (show ¬ τ 0 13 = 0 by rw [e]; exact nI_ne0 (by omega) (by omega)), e, nI_pred, gd_true (inbT hm (by omega)), nI_clamp (by omega), h8, en_div hx hv]
theorem M_top0 {τ : Hp} (e : τ 0 13 = nI 0) : F_M_waitTop τ = some (-1, τ) := by
  unfold F_M_waitTop
  rw [if_pos (by rw [e]; rfl)]
/-- what may be written at a sign -/
def clo (b : Bool) (x : Nat) : Prop := (4 ≤ x ∧ x ≤ 6) ∨ (b = true ∧ (x = 2 ∨ x = 3))
def NT (b : Bool) (m : Nat) (S : Nat → Nat × Nat) : Prop := m = 0 ∨ ¬ clo b (S (m - 1)).1
theorem cl_un (N : Nat) (b : Int32) (τ : Hp) : L_M_closesSums_0 (N + 1) b τ = B_M_closesSums_0 (fun x1 σ => L_M_closesSums_0 N x1 σ) b τ := rfl
theorem cl_stop {N : Nat} {b : Bool} {x : Int32} {τ : Hp} (ht : F_M_waitTop τ = some (x, τ)) (hx : x = -1 ∨ ∃ y : Nat, y ≤ 14 ∧ x = nI y ∧ ¬ clo b y) : L_M_closesSums_0 (N + 1) (b2 b) τ = some τ := by
  rw [cl_un]
  unfold B_M_closesSums_0
  rw [ht, ob]
  dsimp only
  have j17 : ∀ k0, (∀ y : Nat, y ≤ 14 → x = nI y → ¬ (b = true ∧ (y = 2 ∨ y = 3))) → J_M_closesSums_17 k0 (b2 b) τ = some τ := by
    intro k0 hy
    unfold J_M_closesSums_17
    rw [b2_ite]
    by_cases hb : b = true
    · rw [if_pos hb, ht, ob]
      dsimp only
      rw [if_neg (show ¬ x = (2 : Int32) from fun e => hy 2 (by omega) e ⟨hb, Or.inl rfl⟩), ht, ob]
      dsimp only
      rw [if_neg (show ¬ x = (3 : Int32) from fun e => hy 3 (by omega) e ⟨hb, Or.inr rfl⟩)]
    · rw [if_neg hb]
  rcases hx with rfl | ⟨y, hy, rfl, hc⟩
  · rw [if_pos (by decide)]
    exact j17 _ (fun y hy e => absurd e.symm (nI_m1 (by omega)))
  · have hc' : ∀ y' : Nat, y' ≤ 14 → nI y = nI y' → ¬ (b = true ∧ (y' = 2 ∨ y' = 3)) := fun y' h1 h2 h3 => by
      have := (nI_eq (by omega) (by omega)).mp h2
      exact hc (Or.inr (this ▸ h3))
    by_cases q : y < 4
    · rw [if_pos (show nI y < (4 : Int32) from nI_lt (b := 4) q (by omega))]
      exact j17 _ hc'
    · rw [if_neg (show ¬ nI y < (4 : Int32) from nI_nlt (b := 4) (by omega) (by omega)), ht, ob]
      dsimp only
      rw [if_neg (show ¬ nI y ≤ (6 : Int32) from nI_ge (a := 6) (by
        by_cases q2 : y ≤ 6
        · exact absurd (Or.inl ⟨by omega, q2⟩) hc
        · omega) (by omega))]
      exact j17 _ hc'
theorem cl_go {N z m x : Nat} {b : Bool} {τ : Hp} (e12 : τ 0 12 = nI z) (hz : z < 260) (e13 : τ 0 13 = nI (m + 1)) (hm : m < 260) (h8 : τ 8 m = nI (en (x, 0))) (hx : x ≤ 14) (hc : clo b x) : L_M_closesSums_0 (N + 1) (b2 b) τ = L_M_closesSums_0 N (b2 b) (zu (zu (zu τ 7 z (1048576 * nI x + 0)) 0 12 (nI (z + 1))) 0 13 (nI m)) := by
  have ht := M_top e13 hm h8 hx (by omega)
  rw [cl_un]
  unfold B_M_closesSums_0
  rw [ht, ob]
  dsimp only
  have j37 : J_M_closesSums_37 (fun x1 σ => L_M_closesSums_0 N x1 σ) (b2 b) τ = L_M_closesSums_0 N (b2 b) (zu (zu (zu τ 7 z (1048576 * nI x + 0)) 0 12 (nI (z + 1))) 0 13 (nI m)) := by
    unfold J_M_closesSums_37
    rw [ht, ob]
    dsimp only
    rw [M_notes e12 hz, ob]
    simp (disch := omega) only [zu_ne, zu_self, upd_ne, e13, nI_pred]
  rcases hc with ⟨c1, c2⟩ | ⟨c1, c2⟩
  · rw [if_neg (show ¬ nI x < (4 : Int32) from nI_nlt (b := 4) (by omega) (by omega)), ht, ob]
    dsimp only
    rw [if_pos (show nI x ≤ (6 : Int32) from nI_le (b := 6) (by omega) (by omega))]
    exact j37
  · rw [if_pos (show nI x < (4 : Int32) from nI_lt (b := 4) (by omega) (by omega))]
    unfold J_M_closesSums_17
    rw [b2_ite, if_pos c1, ht, ob]
    dsimp only
    rcases c2 with rfl | rfl
    · rw [if_pos (by rfl)]; exact j37
    · rw [if_neg (by decide), ht, ob]
      dsimp only
      rw [if_pos (by rfl)]; exact j37
theorem sgn_op {x : Nat} (h : 2 ≤ x ∧ x ≤ 6) : opM (sgn x) = nI x ∧ (sgn x = 43 ∨ sgn x = 45 ∨ sgn x = 42 ∨ sgn x = 47 ∨ sgn x = 37) := by
  rcases (show x = 2 ∨ x = 3 ∨ x = 4 ∨ x = 5 ∨ x = 6 by omega) with rfl | rfl | rfl | rfl | rfl <;> decide
theorem cRel_sgn {x : Nat} (h : 2 ≤ x ∧ x ≤ 6) : cRel (sgn x) 0 (1048576 * nI x + 0) := by
  obtain ⟨h1, h2⟩ := sgn_op h
  refine ⟨0, by omega, rfl, by rw [h1]; rfl, Or.inr (Or.inr (Or.inl ⟨?_, rfl⟩))⟩
  rcases h2 with h | h | h | h | h
  · exact Or.inl h
  · exact Or.inr (Or.inl h)
  · exact Or.inr (Or.inr (Or.inl h))
  · exact Or.inr (Or.inr (Or.inr (Or.inl h)))
  · exact Or.inr (Or.inr (Or.inr (Or.inr (Or.inl h))))
/-- the signs that wait are written -/
theorem closes_eq {L n p o m : Nat} {w : Nat → Int32} {S : Nat → Nat × Nat} {b : Bool} {σ : Hp} (hn : n ≤ 240) (hNT : NT b m S) : ∀ (R : List Nat) (z N : Nat) (τ : Hp), Vw L n w p z o m S R σ τ → (∀ x ∈ R, clo b x) → R.length < N → ∃ τ', L_M_closesSums_0 N (b2 b) τ = some τ' ∧ Vw L n w p (z + R.length) o m S [] σ τ' ∧ Fm L z σ τ σ τ' ∧ Cr L z (z + R.length) σ τ' := by
  intro R
  induction R with
  | nil =>
    intro z N τ hV hR hN
    obtain ⟨N, rfl⟩ : ∃ N', N = N' + 1 := ⟨N - 1, by simp at hN; omega⟩
    refine ⟨τ, ?_, hV, Fm.rf, Cr.nil⟩
    obtain ⟨-, ⟨-, -, -, -, e13⟩, ⟨hS, -⟩, -, hmp, hpn, -⟩ := hV
    have e13 : τ 0 13 = nI m := e13
    by_cases q : m = 0
    · exact cl_stop (M_top0 (by rw [e13, q])) (Or.inl rfl)
    · obtain ⟨h1, h2, h3⟩ := hS (m - 1) (by omega)
      refine cl_stop (M_top (m := m - 1) (by rw [e13]; congr 1; omega) (by omega) h1 h2 h3) (Or.inr ⟨_, h2, rfl, ?_⟩)
      rcases hNT with h | h
      · exact absurd h q
      · exact h
  | cons x R ih =>
    intro z N τ hV hR hN
    obtain ⟨N, rfl⟩ : ∃ N', N = N' + 1 := ⟨N - 1, by simp at hN; omega⟩
    have hV' := hV
    obtain ⟨⟨hL, e60, tC, e23, e9⟩, ⟨tM, e7, e12, e11, e13⟩, ⟨hS, ⟨hs1, hs2⟩, ⟨⟨hc1, hc2⟩, hc3⟩, hR2, hR3⟩, hz, hmp, hpn, ho⟩ := hV
    have hlen : (x :: R).length = R.length + 1 := rfl
    rw [hlen] at e9 e13 hR2 hz hN
    have hx := hR3 x (by simp)
    have hgo := cl_go (N := N) (b := b) e12 (by omega) (show τ 0 13 = nI (m + R.length + 1) from e13) (by omega) hs1 (by omega) (hR x (by simp))
    obtain ⟨τ1, hτ1⟩ : ∃ τ1, τ1 = zu (zu (zu τ 7 z (1048576 * nI x + 0)) 0 12 (nI (z + 1))) 0 13 (nI (m + R.length)) := ⟨_, rfl⟩
    rw [← hτ1] at hgo
    have t8 : τ1 8 = τ 8 := by rw [hτ1]; simp (disch := omega) only [zu_ne]
    have V1 : Vw L n w p (z + 1) o m S R σ τ1 := by
      refine ⟨⟨hL, e60, tC, e23, by rw [e9]; congr 1; omega⟩, ⟨⟨tM.1, ?_, fun i hi => ?_⟩, ?_, ?_, ?_, ?_⟩, ⟨fun i hi => by rw [t8]; exact hS i hi, ?_, hc3, by omega, fun y hy => hR3 y (by simp [hy])⟩, by omega, hmp, hpn, ho⟩
      · rw [hτ1]; simp (disch := omega) only [zu_ne, zu_self, upd_ne]; exact tM.2.1
      · rw [hτ1]; simp (disch := omega) only [zu_ne]; exact tM.2.2 i hi
      · rw [hτ1]; simp (disch := omega) only [zu_ne, zu_self, upd_ne]; exact e7
      · rw [hτ1]; simp (disch := omega) only [zu_ne, zu_self, upd_ne, upd_s]
      · rw [hτ1]; simp (disch := omega) only [zu_ne, zu_self, upd_ne]; exact e11
      · rw [hτ1]; simp (disch := omega) only [zu_self, upd_s]
      · have : ∀ (R : List Nat), RdS τ m R → RdS τ1 m R := by
          intro R
          induction R with
          | nil => exact id
          | cons y R ih => exact fun h => ⟨by rw [t8]; exact h.1, ih h.2⟩
        exact this R hs2
    obtain ⟨τ', g1, g2, g3, g4⟩ := ih (z + 1) N τ1 V1 (fun y hy => hR y (by simp [hy])) (by omega)
    have F1 : Fm L z σ τ σ τ1 := by
      refine ⟨LwG.rf, ?_, fun k hk => ⟨rfl, rfl, ?_⟩⟩
      · rw [hτ1]; exact ((LwF.rf.zuk (Or.inl rfl)).zu0 (by decide)).zu0 (by decide)
      · rw [hτ1, zu_ne _ _ _ (by decide), zu_ne _ _ _ (by decide), zu_self, upd_ne _ _ (by omega)]
    have C1 : Cr L z (z + 1) σ τ1 := by
      intro k h1 h2
      obtain rfl : k = z := by omega
      rw [hc1, hc2, hτ1, zu_ne _ _ _ (by decide), zu_ne _ _ _ (by decide), zu_self, upd_s]
      exact cRel_sgn hx
    refine ⟨τ', hgo.trans g1, ?_, F1.tr g3 (by omega), ?_⟩
    · rw [hlen, show z + (R.length + 1) = z + 1 + R.length by omega]; exact g2
    · rw [hlen, show z + (R.length + 1) = z + 1 + R.length by omega]; exact C1.tr g3 g4
