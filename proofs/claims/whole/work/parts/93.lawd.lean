-- the law as a text: tests, parts, choices
def SpTest (L n : Nat) (w : Nat → Int32) (o : Nat) (fT : Int32 → Hp → Option (Int32 × Hp)) : Prop := ∀ (p z m k : Nat) (S : Nat → Nat × Nat) (σ τ : Hp) (N : Nat), Vw L n w p z o (m + k) S [] σ τ → (∀ i, m ≤ i → i < m + k → S i = (10, 0)) → 1 ≤ m → (11 ≤ (S (m - 1)).1 ∧ (S (m - 1)).1 ≤ 13) → k ≤ o → z + k ≤ p → 1000 ≤ N + p → LwX L σ τ (fT (nI o) σ) (csP N τ) ∨ ∃ (σ' τ' : Hp) (p' z' M' N' : Nat), fT (nI o) σ = some (1, σ') ∧ csP N τ = clP M' N' τ' ∧ Vn L n w z p' z' (o - k) m S k σ' τ' ∧ Fm L z σ τ σ' τ' ∧ Seg (σ' (L + 1)) (σ' (L + 2)) z z' [] [true] ∧ p < p' ∧ z ≤ z' ∧ z' + p ≤ z + p' ∧ 10 + (o - k) ≤ M' ∧ N + p ≤ N' + p'
def SpPart (L n : Nat) (w : Nat → Int32) (o : Nat) (fP : Int32 → Hp → Option (Int32 × Hp)) : Prop := ∀ (p z m : Nat) (S : Nat → Nat × Nat) (σ τ : Hp) (N : Nat), Vw L n w p z o m S [] σ τ → 1 ≤ m → ((S (m - 1)).1 = 12 ∨ (S (m - 1)).1 = 13) → 1000 ≤ N + p → LwX L σ τ (fP (nI o) σ) (csP N τ) ∨ ∃ (σ' τ' : Hp) (p' z' M' N' : Nat) (J : List (Nat × Nat)), fP (nI o) σ = some (1, σ') ∧ csP N τ = clP M' N' τ' ∧ Vj L n w z p' z' o m S J σ' τ' ∧ (J.length ≤ 1 ∧ ∀ y ∈ J, y.1 = 11) ∧ Fm L z σ τ σ' τ' ∧ Seg (σ' (L + 1)) (σ' (L + 2)) z z' [] [true] ∧ p < p' ∧ z ≤ z' ∧ z' + p ≤ z + p' ∧ 10 + o ≤ M' ∧ N + p ≤ N' + p' ∧ ¬ wa w n p' = 38
def SpChoice (L n : Nat) (w : Nat → Int32) (o : Nat) (fC : Int32 → Hp → Option (Int32 × Hp)) : Prop := ∀ (p z m : Nat) (S : Nat → Nat × Nat) (σ τ : Hp) (N : Nat), Vw L n w p z o m S [] σ τ → 1 ≤ m → (S (m - 1)).1 = 13 → 1000 ≤ N + p → LwX L σ τ (fC (nI o) σ) (csP N τ) ∨ ∃ (σ' τ' : Hp) (p' z' M' N' : Nat) (J : List (Nat × Nat)), fC (nI o) σ = some (1, σ') ∧ csP N τ = clP M' N' τ' ∧ Vj L n w z p' z' o m S J σ' τ' ∧ (∀ y ∈ J, lnd true y.1) ∧ Fm L z σ τ σ' τ' ∧ Seg (σ' (L + 1)) (σ' (L + 2)) z z' [] [true] ∧ p < p' ∧ z ≤ z' ∧ z' + p ≤ z + p' ∧ 10 + o ≤ M' ∧ N + p ≤ N' + p' ∧ ¬ wa w n p' = 38 ∧ ¬ wa w n p' = 124
theorem Cr.fm {L a z b : Nat} {s1 t1 s2 t2 : Hp} (h : Cr L a z s1 t1) (hf : Fm L b s1 t1 s2 t2) (hb : z ≤ b) : Cr L a z s2 t2 := fun k h1 h2 => by
  obtain ⟨x1, x2, x3⟩ := hf.2.2 k (by omega)
  rw [x1, x2, x3]; exact h k h1 h2
/-- the not's are written -/
theorem Vw.ends {L n a p z o m k : Nat} {w : Nat → Int32} {S : Nat → Nat × Nat} {σ τ : Hp} (hn : n ≤ 240) (hV : Vw L n w p z o (m + k) S [] σ τ) (hc : Cr L a z σ τ) (hk : ∀ i, m ≤ i → i < m + k → S i = (10, 0)) (hm : m = 0 ∨ (S (m - 1)).1 ≠ 10) (hko : k ≤ o) (hzk : z + k ≤ p) : ∃ τ', F_M_endsPiece τ = some τ' ∧ Vn L n w a p z (o - k) m S k σ τ' ∧ Fm L z σ τ σ τ' := by
  obtain ⟨⟨hL, e60, tC, e23, e9⟩, ⟨tM, e7, e12, e11, e13⟩, ⟨hS, -⟩, hz, hmp, hpn, ho⟩ := id hV
  have e13 : τ 0 13 = nI (m + k) := e13
  have e9 : σ L 9 = nI z := e9
  obtain ⟨τ', g1, g2, g3, g4, g5, g6, g7, g8, g9⟩ := ends_eq (S := S) hm k z (o - k) FU τ (by omega) (by omega) (FU_lt (by omega)) e12 e13 (by rw [e11]; congr 1; omega) (fun i hi => hS i (by omega)) (fun i h1 h2 => by rw [(hS i h2).1, hk i h1 h2])
  refine ⟨τ', g1, ⟨⟨hL, e60, tC, e23, e9⟩, ⟨⟨tM.1, by rw [g4 8 (by decide) (by decide) (by decide)]; exact tM.2.1, fun i hi => by rw [g2.1 6 (by decide)]; exact tM.2.2 i hi⟩, by rw [g4 7 (by decide) (by decide) (by decide)]; exact e7, g5, g7, g6⟩, fun i hi => by rw [g3]; exact hS i (by omega), ⟨hzk, by omega, hpn, by omega⟩, fun x h1 h2 => by rw [g9 x h2]; exact hc x h1 h2, g8⟩, ⟨LwG.rf, g2, fun x hx => ⟨rfl, rfl, g9 x hx⟩⟩⟩
theorem F1at_aux {L a p : Nat} {s1 t1 s2 t2 : Hp} (hL : L = 42 ∨ L = 51) (h : Fm L a (zu s1 23 3 (nI p)) (zu t1 0 7 (nI p)) s2 t2) : Fm L a s1 t1 s2 t2 := (Fm.rf.at hL (LwF.rf.zu0 (by decide)) (zu_ne _ _ _ (by decide))).tr h (Nat.le_refl _)
section
variable {L n o : Nat} {w : Nat → Int32}
/-- what a test does that begins with neither ! nor ( -/
def cmpC (fO : Int32 → Hp → Option (Int32 × Hp)) (a : Int32) (σ : Hp) : Option (Int32 × Hp) :=
  (D_X5_readAmount a σ).bind fun q32 => if q32.1 = 0 then (some ((0 : Int32), q32.2)) else ((F_X8_here q32.2).bind fun q44 => if q44.1 = (60 : Int32) then (J_X5_readTest_75 fO a q44.1 q44.2) else (if q44.1 = (62 : Int32) then (J_X5_readTest_75 fO a q44.1 q44.2) else (if q44.1 = (61 : Int32) then (J_X5_readTest_75 fO a q44.1 q44.2) else ((F_X8_refuse (1 : Int32) q44.2).bind fun q71 => gd (isb q71.1) (some (q71.1, q71.2))))))
/-- a comparison, by both -/
theorem comp_eq (hn : n ≤ 240) (hb : ∀ i, i < n → ∃ r : Nat, r < 256 ∧ w i = nI r) (fO : Int32 → Hp → Option (Int32 × Hp)) {p z m k : Nat} {S : Nat → Nat × Nat} {σ τ : Hp} (hV : Vw L n w p z o (m + k) S [] σ τ) (hk : ∀ i, m ≤ i → i < m + k → S i = (10, 0)) (hm1 : 1 ≤ m) (hm : 11 ≤ (S (m - 1)).1 ∧ (S (m - 1)).1 ≤ 13) (hko : k ≤ o) (hzk : z + k ≤ p) : LwX L σ τ (cmpC fO (nI o) σ) (F_M_readsCompared τ) ∨ ∃ (σ' τ' : Hp) (p' z' : Nat), (cmpC fO (nI o) σ) = some (1, σ') ∧ F_M_readsCompared τ = some (1, τ') ∧ Vn L n w z p' z' (o - k) m S k σ' τ' ∧ Fm L z σ τ σ' τ' ∧ Seg (σ' (L + 1)) (σ' (L + 2)) z z' [] [true] ∧ p < p' ∧ z ≤ z' ∧ z' + p ≤ z + p' := by
  have hL := hV.1.1
  have nt : NT true (m + k) S := Or.inr (by
    intro hc
    have : 10 ≤ (S (m + k - 1)).1 ∧ (S (m + k - 1)).1 ≤ 13 := by
      by_cases q : k = 0
      · rw [q, Nat.add_zero]; omega
      · rw [hk (m + k - 1) (by omega) (by omega)]; exact ⟨by show 10 ≤ 10; omega, by show 10 ≤ 13; omega⟩
    rcases hc with hc | ⟨_, hc⟩ <;> omega)
  unfold cmpC F_M_readsCompared
  rcases sum_eq (r := []) hn hb hV nt (by simp) with ⟨f, s', t', h1, h2, h3⟩ | ⟨s1, t1, p1, z1, h1, h2, V1, F1, C1, G1, b1, b2', b3⟩
  · left
    rw [h1, h2, ob, ob]
    exact ⟨f, s', t', by dsimp only; rw [if_pos rfl], by dsimp only; rw [if_pos rfl], h3⟩
  rw [h1, h2, ob, ob]
  dsimp only
  rw [if_neg (show ¬ (1 : Int32) = 0 by decide), if_neg (show ¬ (1 : Int32) = 0 by decide)]
  obtain ⟨⟨-, -, tC1, e231, -⟩, ⟨tM1, e71, -⟩, -, -, -, hpn1, -⟩ := id V1
  have ch := C_here tC1 e231 hpn1
  have mh := M_here tM1 e71 hpn1
  have main : ∀ (x : Int32) (h : Nat), ((x = 60 ∧ h = 7) ∨ (x = 62 ∧ h = 8) ∨ (x = 61 ∧ h = 9)) → wa w n p1 = x → (LwX L σ τ (J_X5_readTest_75 fO (nI o) x s1) (J_M_readsCompared_52 (nI h) t1) ∨ ∃ (σ' τ' : Hp) (p' z' : Nat), (J_X5_readTest_75 fO (nI o) x s1) = some (1, σ') ∧ J_M_readsCompared_52 (nI h) t1 = some (1, τ') ∧ Vn L n w z p' z' (o - k) m S k σ' τ' ∧ Fm L z σ τ σ' τ' ∧ Seg (σ' (L + 1)) (σ' (L + 2)) z z' [] [true] ∧ p < p' ∧ z ≤ z' ∧ z' + p ≤ z + p') := by
    intro x h hxh hwx
    have hh : h ≤ 9 := by omega
    have hlt : p1 < n := wa_lt (w := w) (by rw [hwx]; rcases hxh with ⟨e, _⟩ | ⟨e, _⟩ | ⟨e, _⟩ <;> rw [e] <;> decide)
    unfold J_X5_readTest_75 J_M_readsCompared_52
    rw [if_neg (nI_m1 (by omega)), e231, e71, nI_1]
    obtain ⟨⟨_, e601, _, _, e91⟩, ⟨_, _, e121, e111, e131⟩, ⟨hS1, _⟩, hz1, hmp1, _, ho1⟩ := id V1
    have V1a : Vw L n w (p1 + 1) z1 o (m + k) S [] (zu s1 23 3 (nI (p1 + 1))) (zu t1 0 7 (nI (p1 + 1))) := by
      refine ⟨⟨hL, by rw [zu_ne _ _ _ (by decide)]; exact e601, tC1.fr (FrT.rf.zu (Or.inl rfl)), by rw [zu_self, upd_s], by rw [zu_ne _ _ _ (by omega)]; exact e91⟩, ⟨⟨tM1.1, by rw [zu_self, upd_ne _ _ (by decide)]; exact tM1.2.1, fun i hi => by rw [zu_ne _ _ _ (by decide)]; exact tM1.2.2 i hi⟩, by rw [zu_self, upd_s], by rw [zu_self, upd_ne _ _ (by decide)]; exact e121, by rw [zu_self, upd_ne _ _ (by decide)]; exact e111, by rw [zu_self, upd_ne _ _ (by decide)]; exact e131⟩, ⟨fun i hi => by rw [zu_ne _ _ _ (by decide)]; exact hS1 i hi, trivial, trivial, by simp, by simp⟩, ?_, by omega, by omega, ho1⟩
      have : z1 ≤ p1 := hz1
      show z1 ≤ p1 + 1; omega
    have F1a : Fm L z σ τ (zu s1 23 3 (nI (p1 + 1))) (zu t1 0 7 (nI (p1 + 1))) := F1.at hL (LwF.rf.zu0 (by decide)) (zu_ne _ _ _ (by decide))
    rcases sum_eq (r := [false]) hn hb V1a nt (by simp) with hx | ⟨s2, t2, p2, z2, g1, g2, V2, F2, C2, G2, c1, c2, c3⟩
    · left
      obtain ⟨f, s', t', y1, y2, y3⟩ := LwX.tr F1a hx
      rw [y1, y2, ob, ob]
      refine ⟨f, s', t', ?_, ?_, y3⟩
      · dsimp only
        rw [if_pos rfl]
      · dsimp only
        rw [if_pos rfl]
    right
    obtain ⟨⟨-, e602, -, -, e92⟩, ⟨-, -, e122, -, -⟩, -, hz2, -, hpn2, -⟩ := id V2
    have e92 : s2 L 9 = nI z2 := e92
    have hz2 : z2 ≤ p2 := hz2
    rw [g1, g2, ob, ob]
    dsimp only
    rw [if_neg (show ¬ (1 : Int32) = 0 by decide), if_neg (show ¬ (1 : Int32) = 0 by decide), e602, nI_clamp (by omega), gd_true (isL_of hL), C_add e92 (by omega), ob, M_notes e122 (by omega), ob]
    try dsimp only
    have V3 := V2.code (by omega) hn x 0 (nI h) 0
    have F3 := Fm.code (σ := s2) (τ := t2) (z := z2) hL x 0 (nI h) 0
    have hcx : cRel x 0 (1048576 * nI h + 0) := by
      rcases hxh with ⟨rfl, rfl⟩ | ⟨rfl, rfl⟩ | ⟨rfl, rfl⟩
      · exact ⟨0, by omega, rfl, rfl, Or.inr (Or.inr (Or.inl ⟨by simp, rfl⟩))⟩
      · exact ⟨0, by omega, rfl, rfl, Or.inr (Or.inr (Or.inl ⟨by simp, rfl⟩))⟩
      · exact ⟨0, by omega, rfl, rfl, Or.inr (Or.inr (Or.inl ⟨by simp, rfl⟩))⟩
    have C3 := Cr.code (L := L) (z := z2) (σ := s2) (τ := t2) hL hcx
    have Call : Cr L z (z2 + 1) _ _ := (C1.tr (F1at_aux hL F2) C2).tr F3 C3
    obtain ⟨t4, k1, k2, k3⟩ := V3.ends hn Call hk (Or.inr (by omega)) hko (by omega)
    rw [k1, ob]
    refine ⟨_, t4, p2, z2 + 1, rfl, rfl, k2, ((F1a.tr F2 b2').tr F3 (by omega)).tr k3 (by omega), ?_, by omega, by omega, by omega⟩
    refine ((G1.fm (F1at_aux hL F2 |>.tr F3 c2) (Nat.le_refl _)).tr (G2.fm F3 (Nat.le_refl _))).tr (Seg.one (by simp) (Or.inr (Or.inr (Or.inl ⟨?_, [], rfl, rfl⟩))))
    simp (disch := omega) only [zu_ne, zu_self, upd_s]
    rcases hxh with ⟨e, _⟩ | ⟨e, _⟩ | ⟨e, _⟩
    · exact Or.inl e
    · exact Or.inr (Or.inl e)
    · exact Or.inr (Or.inr e)
  rw [ch, ob, mh, ob]
  dsimp only
  by_cases c60 : wa w n p1 = 60
  · rw [if_pos c60, if_pos c60, c60]
    exact main 60 7 (Or.inl ⟨rfl, rfl⟩) c60
  rw [if_neg c60, if_neg c60, mh, ob]
  dsimp only
  by_cases c62 : wa w n p1 = 62
  · rw [if_pos c62, if_pos c62, c62]
    exact main 62 8 (Or.inr (Or.inl ⟨rfl, rfl⟩)) c62
  rw [if_neg c62, if_neg c62, mh, ob]
  dsimp only
  by_cases c61 : wa w n p1 = 61
  · rw [if_pos c61, if_pos c61, c61]
    exact main 61 9 (Or.inr (Or.inr ⟨rfl, rfl⟩)) c61
  rw [if_neg c61, if_neg c61, C_refu, ob]
  dsimp only
  rw [gdz]
  unfold J_M_readsCompared_52
  rw [if_pos rfl, M_wrA, ob]
  dsimp only
  rw [gdz]
  exact Or.inl ⟨-1000 * 1 - nI p1, _, _, rfl, rfl, F1.1.z23 hL, by rw [zu_self, upd_s, e231], F1.2.1.zu0 (by decide), by rw [zu_self, upd_s, e71]⟩
end
