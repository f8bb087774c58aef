-- the law as a text: tests, parts, choices, closed
section
variable {L n o : Nat} {w : Nat → Int32}
theorem Vn.sS {a p z o m k : Nat} {S S' : Nat → Nat × Nat} {σ τ : Hp} (h : Vn L n w a p z o m S k σ τ) (hS : ∀ i, i < m → S i = S' i) : Vn L n w a p z o m S' k σ τ := ⟨h.1, h.2.1, fun i hi => by rw [← hS i hi]; exact h.2.2.1 i hi, h.2.2.2⟩
theorem Vw.sS {p z o m : Nat} {S S' : Nat → Nat × Nat} {σ τ : Hp} (h : Vw L n w p z o m S [] σ τ) (hS : ∀ i, i < m → S i = S' i) : Vw L n w p z o m S' [] σ τ := ⟨h.1, h.2.1, ⟨fun i hi => by rw [← hS i hi]; exact h.2.2.1.1 i hi, h.2.2.1.2⟩, h.2.2.2⟩
theorem test_eq (hn : n ≤ 240) (hb : ∀ i, i < n → ∃ r : Nat, r < 256 ∧ w i = nI r) {fC fT : Int32 → Hp → Option (Int32 × Hp)} (hC : o < 6 → SpChoice L n w (o + 1) fC) (hT : o < 6 → SpTest L n w (o + 1) fT) : SpTest L n w o (F_X5_readTest (F_X5_readOpened fC fT)) := by
  intro p z m k S σ τ N hV hk hm1 hm hko hzk hN
  obtain ⟨⟨hL, e60, tC, e23, e9⟩, ⟨tM, e7, e12, e11, e13⟩, ⟨hS, -⟩, hz, hmp, hpn, ho⟩ := id hV
  have e9 : σ L 9 = nI z := e9
  have e13 : τ 0 13 = nI (m + k) := e13
  have ch := C_here tC e23 hpn
  have mh := M_here tM e7 hpn
  have hFU : FU = 1000000 := rfl
  obtain ⟨N, rfl⟩ : ∃ N', N = N' + 1 := ⟨N - 1, by omega⟩
  have ecs : csP (N + 1) τ = B_M_readsCondition_40 (fun σ => L_M_readsCondition_40 J_M_readsCondition_170 N σ) J_M_readsCondition_170 τ := rfl
  rw [ecs]
  unfold B_M_readsCondition_40
  rw [mh, ob]
  dsimp only
  by_cases hopn : wa w n p = 33 ∨ wa w n p = 40
  rotate_left
  · have h33 : ¬ wa w n p = 33 := fun e => hopn (Or.inl e)
    have h40 : ¬ wa w n p = 40 := fun e => hopn (Or.inr e)
    have eC : F_X5_readTest (F_X5_readOpened fC fT) (nI o) σ = cmpC (F_X5_readOpened fC fT) (nI o) σ := by
      unfold F_X5_readTest
      rw [ch, ob]
      dsimp only
      rw [if_neg h33, ch, ob]
      dsimp only
      rw [if_neg h40]
      rfl
    rw [eC, if_neg h33, mh, ob]
    dsimp only
    rw [if_neg h40]
    rcases comp_eq hn hb (F_X5_readOpened fC fT) hV hk hm1 hm hko hzk with ⟨f, s', t', h1, h2, h3⟩ | ⟨s', t', p', z', h1, h2, h3, h4, h5, h6, h7, h8⟩
    · left
      refine ⟨f, s', t', h1, ?_, h3⟩
      rw [h2, ob]
      dsimp only
      rw [if_pos rfl]
    · right
      refine ⟨s', t', p', z', FU, N, h1, ?_, h3, h4, h5, h6, h7, h8, by omega, by omega⟩
      rw [h2, ob]
      dsimp only
      rw [if_neg (by decide)]
      rfl
  have hlt : p < n := wa_lt (w := w) (by rcases hopn with h | h <;> rw [h] <;> decide)
  obtain ⟨x, hx⟩ : ∃ x : Nat, (wa w n p = 33 ∧ x = 10) ∨ (wa w n p = 40 ∧ x = 13) := by
    rcases hopn with h | h
    · exact ⟨10, Or.inl ⟨h, rfl⟩⟩
    · exact ⟨13, Or.inr ⟨h, rfl⟩⟩
  have hx14 : x ≤ 14 := by omega
  have eC : F_X5_readTest (F_X5_readOpened fC fT) (nI o) σ = (F_X5_readOpened fC fT (nI o) σ).bind fun q26 => gd (isb q26.1) (some (q26.1, q26.2)) := by
    unfold F_X5_readTest
    rw [ch, ob]
    dsimp only
    rcases hopn with h | h
    · rw [if_pos h]
      rfl
    · rw [if_neg (by rw [h]; decide), ch, ob]
      dsimp only
      rw [if_pos h]
      rfl
  rw [eC]
  have eM : (if wa w n p = 33 then J_M_readsCondition_58 (fun σ => L_M_readsCondition_40 J_M_readsCondition_170 N σ) τ else (F_M_here τ).bind fun q50 => if q50.1 = 40 then J_M_readsCondition_58 (fun σ => L_M_readsCondition_40 J_M_readsCondition_170 N σ) q50.2 else (F_M_readsCompared q50.2).bind fun q84 => if q84.1 = 0 then some (0, q84.2) else L_M_readsCondition_92 (J_M_readsCondition_152 (fun σ => L_M_readsCondition_40 J_M_readsCondition_170 N σ) J_M_readsCondition_170) FU q84.2) = (F_M_opens (nI x) τ).bind fun q75 => if q75.1 = 0 then some (0, q75.2) else csP N q75.2 := by
    have h58 : J_M_readsCondition_58 (fun σ => L_M_readsCondition_40 J_M_readsCondition_170 N σ) τ = (F_M_opens (nI x) τ).bind fun q75 => if q75.1 = 0 then some (0, q75.2) else csP N q75.2 := by
      unfold J_M_readsCondition_58
      rw [mh, ob]
      dsimp only
      rcases hx with ⟨h, rfl⟩ | ⟨h, rfl⟩
      · rw [if_pos h]; rfl
      · rw [if_neg (by rw [h]; decide)]; rfl
    rcases hopn with h | h
    · rw [if_pos h]; exact h58
    · rw [if_neg (by rw [h]; decide), mh, ob]
      dsimp only
      rw [if_pos h]; exact h58
  rw [eM]
  unfold F_X5_readOpened
  by_cases ho6 : o < 6
  rotate_left
  · have ho' : o = 6 := by omega
    rw [if_neg (show ¬ nI o < (6 : Int32) from nI_nlt (b := 6) (by omega) (by omega)), C_refu, ob, M_opens6 (by rw [e11, ho']) e7, ob]
    dsimp only
    rw [gdz, ob]
    dsimp only
    rw [gdz, if_pos rfl]
    exact Or.inl ⟨-1000 * 5 - nI p, _, _, rfl, rfl, LwG.rf.z23 hL, by rw [zu_self, upd_s, e23], LwF.rf.zu0 (by decide), by rw [zu_self, upd_s]⟩
  rw [if_pos (show nI o < (6 : Int32) from nI_lt (b := 6) ho6 (by omega)), M_opens (x := x) e11 ho6 e13 (by omega) e7 (nI x) rfl, ob, nI_1]
  dsimp only
  rw [if_neg (show ¬ (1 : Int32) = 0 by decide)]
  obtain ⟨τ1, hτ1⟩ : ∃ τ1, τ1 = zu (zu (zu (zu τ 0 11 (nI (o + 1))) 8 (m + k) (nI (en (x, 0)))) 0 13 (nI (m + k + 1))) 0 7 (nI (p + 1)) := ⟨_, rfl⟩
  rw [← hτ1]
  have V1 : Vw L n w (p + 1) z (o + 1) (m + k + 1) (psh S (m + k) (x, 0)) [] (zu σ 23 3 (nI (p + 1))) τ1 := by
    refine hV.push hlt (e := (x, 0)) (by show x ≤ 14; omega) (by show 0 < 1048576; omega) (by omega) ?_ ?_ ?_ ?_ ?_ ?_ ?_
    all_goals rw [hτ1]
    · rw [zu_self, upd_s]
    · simp (disch := omega) only [zu_ne, zu_self, upd_ne]
    · simp (disch := omega) only [zu_ne, zu_self, upd_ne]
    · simp (disch := omega) only [zu_ne, zu_self, upd_ne, upd_s]
    · simp (disch := omega) only [zu_ne, zu_self, upd_ne, upd_s]
    · simp (disch := omega) only [zu_ne, zu_self]
    · simp (disch := omega) only [zu_ne]
  have F1 : Fm L z σ τ (zu σ 23 3 (nI (p + 1))) τ1 := by
    refine Fm.rf.at hL ?_ ?_
    · rw [hτ1]; exact (((LwF.rf.zu0 (by decide)).zuk (Or.inr rfl)).zu0 (by decide)).zu0 (by decide)
    · rw [hτ1]; simp (disch := omega) only [zu_ne]
  have hz : z ≤ p := hz
  rcases hx with ⟨h33, rfl⟩ | ⟨h40, rfl⟩
  · rw [C_takes tC e23 hpn, if_neg (show ¬ wa w n p = 40 by rw [h33]; decide), ob]
    dsimp only
    rw [if_pos rfl, e23, nI_1]
    rcases hT ho6 (p + 1) z m (k + 1) (psh S (m + k) (10, 0)) (zu σ 23 3 (nI (p + 1))) τ1 N V1 (fun i h1 h2 => by
      by_cases q : i = m + k
      · rw [q, psh_s]
      · rw [psh_ne q]; exact hk i h1 (by omega)) hm1 (by rw [psh_ne (by omega)]; exact hm) (by omega) (by omega) (by omega) with hx | ⟨s2, t2, p2, z2, M2, N2, g1, g2, V2, F2, G2, b1, b2', b3, b4, b5⟩
    · left
      obtain ⟨f, s', t', y1, y2, y3⟩ := LwX.tr F1 hx
      exact ⟨f, s', t', by rw [y1, ob]; dsimp only; rw [if_pos rfl, ob]; dsimp only; rw [gdz], y2, y3⟩
    right
    obtain ⟨⟨-, e602, -, -, e92⟩, -, -, ⟨hz2, -, hpn2, -⟩, -⟩ := id V2
    have V2' : Vn L n w z p2 z2 (o - k) m S (k + 1) s2 t2 := by
      have := V2.sS (S' := S) (fun i hi => psh_ne (by omega))
      rw [show o + 1 - (k + 1) = o - k by omega] at this
      exact this
    rw [g1, ob, g2]
    dsimp only
    rw [if_neg (show ¬ (1 : Int32) = 0 by decide), e602, nI_clamp (by omega), gd_true (isL_of hL), C_add e92 (by omega), ob]
    dsimp only
    rw [ob]
    dsimp only
    rw [gdo]
    refine ⟨_, t2, p2, z2 + 1, M2, N2, rfl, rfl, V2'.not, (F1.tr F2 (Nat.le_refl _)).tr (Fm.cadd 33 0) b2', ?_, by omega, by omega, by omega, by omega, by omega⟩
    refine (G2.fm (Fm.cadd (τ := t2) 33 0) (Nat.le_refl _)).tr (Seg.one (by simp) (Or.inr (Or.inr (Or.inr ⟨?_, [], rfl, rfl⟩))))
    simp (disch := omega) only [zu_ne, zu_self, upd_s]
  · rw [C_takes tC e23 hpn, if_pos h40, ob]
    dsimp only
    rw [if_neg (show ¬ (1 : Int32) = 0 by decide)]
    rcases hC ho6 (p + 1) z (m + k + 1) (psh S (m + k) (13, 0)) (zu σ 23 3 (nI (p + 1))) τ1 N V1 (by omega) (by rw [show m + k + 1 - 1 = m + k by omega, psh_s]) (by omega) with hx | ⟨s2, t2, p2, z2, M2, N2, J, g1, g2, V2, hJ, F2, G2, b1, b2', b3, b4, b5, b6, b7⟩
    · left
      obtain ⟨f, s', t', y1, y2, y3⟩ := LwX.tr F1 hx
      exact ⟨f, s', t', by rw [y1, ob]; dsimp only; rw [if_pos rfl, ob]; dsimp only; rw [gdz], y2, y3⟩
    obtain ⟨⟨-, -, tC2, e232, -⟩, -, -, ⟨-, -, hpn2, -⟩, -⟩ := id V2
    obtain ⟨M2, rfl⟩ : ∃ M', M2 = M' + 1 := ⟨M2 - 1, by omega⟩
    rw [g1, ob, g2]
    dsimp only
    rw [if_neg (show ¬ (1 : Int32) = 0 by decide), C_closing tC2 e232 hpn2]
    by_cases c41 : wa w n p2 = 41
    rotate_left
    · rw [if_neg c41, ob]
      dsimp only
      rw [if_pos rfl, ob]
      dsimp only
      rw [gdz, cl_bad V2 c41 b6 b7]
      exact Or.inl ⟨-1000 * 1 - nI p2, _, _, rfl, rfl, (F1.1.tr F2.1).z23 hL, by rw [zu_self, upd_s], (F1.2.1.tr F2.2.1).zu0 (by decide), by rw [zu_self, upd_s]⟩
    right
    rw [if_pos c41, ob]
    dsimp only
    rw [if_neg (show ¬ (1 : Int32) = 0 by decide), ob]
    dsimp only
    rw [gdo]
    obtain ⟨t3, V3, F3, e3⟩ := cl_close (M := M2) (N := N2) hn V2 c41 (Or.inr (by
      rw [show m + k + 1 - 1 = m + k by omega, psh_s]
      rintro (h | ⟨_, h⟩)
      · exact absurd h (by decide)
      · exact absurd h (by decide))) hJ
    rw [if_neg (by omega)] at e3
    have V3' : Vw L n w (p2 + 1) z2 o (m + k) S [] (zu s2 23 3 (nI (p2 + 1))) t3 := V3.vw.sS (fun i hi => psh_ne (by omega))
    obtain ⟨t4, k1, k2, k3⟩ := V3'.ends hn V3.cr hk (Or.inr (by omega)) hko (by omega)
    rw [e3, k1, ob]
    exact ⟨_, t4, p2 + 1, z2, M2, N2, rfl, rfl, k2, ((F1.tr F2 (Nat.le_refl _)).tr F3 (Nat.le_refl _)).tr k3 b2', G2.at hL, by omega, by omega, by omega, by omega, by omega⟩
theorem part_eq (hn : n ≤ 240) {fF : Int32 → Hp → Option (Int32 × Hp)} (hF : SpTest L n w o fF) : SpPart L n w o (F_X5_readPart fF) := by
  intro p z m S σ τ N hV hm1 hm hN
  have hL := hV.1.1
  have hz0 : z ≤ p := hV.2.2.2.1
  have loop : ∀ (k p1 z1 : Nat) (J : List (Nat × Nat)) (σ1 τ1 : Hp) (M1 N1 i NL : Nat), n - p1 ≤ k → k < NL → i ≤ p1 → Vj L n w z p1 z1 o m S J σ1 τ1 → Fm L z σ τ σ1 τ1 → Seg (σ1 (L + 1)) (σ1 (L + 2)) z z1 [] [true] → p < p1 → z ≤ z1 → z1 + p ≤ z + p1 → 10 + o ≤ M1 → N + p ≤ N1 + p1 → (J.length ≤ 1 ∧ ∀ y ∈ J, y.1 = 11) → LwX L σ τ (L_X5_readPart_12 fF NL (nI o) (nI i) σ1) (clP M1 N1 τ1) ∨ ∃ (σ' τ' : Hp) (p' z' M' N' : Nat) (J : List (Nat × Nat)), L_X5_readPart_12 fF NL (nI o) (nI i) σ1 = some (1, σ') ∧ clP M1 N1 τ1 = clP M' N' τ' ∧ Vj L n w z p' z' o m S J σ' τ' ∧ (J.length ≤ 1 ∧ ∀ y ∈ J, y.1 = 11) ∧ Fm L z σ τ σ' τ' ∧ Seg (σ' (L + 1)) (σ' (L + 2)) z z' [] [true] ∧ p < p' ∧ z ≤ z' ∧ z' + p ≤ z + p' ∧ 10 + o ≤ M' ∧ N + p ≤ N' + p' ∧ ¬ wa w n p' = 38 := by
    intro k
    induction k with
    | zero =>
      intro p1 z1 J σ1 τ1 M1 N1 i NL hk hNL hi V1 F1 G1 b1 b2' b3 b4 b5 hJ
      obtain ⟨NL, rfl⟩ : ∃ N', NL = N' + 1 := ⟨NL - 1, by omega⟩
      obtain ⟨⟨-, -, tC, e23, -⟩, -, -, ⟨-, -, hpn, -⟩, -⟩ := id V1
      have hw : wa w n p1 = -1 := wa_out (by omega)
      have hno : ¬ wa w n p1 = 38 := by rw [hw]; decide
      have e : L_X5_readPart_12 fF (NL + 1) (nI o) (nI i) σ1 = some (1, σ1) := by
        show B_X5_readPart_12 fF _ (nI o) (nI i) σ1 = _
        unfold B_X5_readPart_12
        rw [C_takes tC e23 hpn, if_neg hno, ob]
        dsimp only
        rw [if_pos rfl, ite_self]
      exact Or.inr ⟨σ1, τ1, p1, z1, M1, N1, J, e, rfl, V1, hJ, F1, G1, b1, b2', b3, b4, b5, hno⟩
    | succ k ih =>
      intro p1 z1 J σ1 τ1 M1 N1 i NL hk hNL hi V1 F1 G1 b1 b2' b3 b4 b5 hJ
      obtain ⟨NL, rfl⟩ : ∃ N', NL = N' + 1 := ⟨NL - 1, by omega⟩
      obtain ⟨⟨-, e60, tC, e23, e9⟩, ⟨tM, e7, e12, e11, e13⟩, ⟨-, -, -, hJ2, -⟩, ⟨hz1, hmp, hpn, ho⟩, -⟩ := id V1
      have eL : L_X5_readPart_12 fF (NL + 1) (nI o) (nI i) σ1 = B_X5_readPart_12 fF (fun x1 x2 σ => L_X5_readPart_12 fF NL x1 x2 σ) (nI o) (nI i) σ1 := rfl
      by_cases hwx : wa w n p1 = 38
      rotate_left
      · have hno := hwx
        have e : L_X5_readPart_12 fF (NL + 1) (nI o) (nI i) σ1 = some (1, σ1) := by
          rw [eL]
          unfold B_X5_readPart_12
          rw [C_takes tC e23 hpn, if_neg hwx, ob]
          dsimp only
          rw [if_pos rfl, ite_self]
        exact Or.inr ⟨σ1, τ1, p1, z1, M1, N1, J, e, rfl, V1, hJ, F1, G1, b1, b2', b3, b4, b5, hno⟩
      have hlt : p1 < n := wa_lt (w := w) (by rw [hwx]; decide)
      obtain ⟨M1, rfl⟩ : ∃ M', M1 = M' + 1 := ⟨M1 - 1, by omega⟩
      obtain ⟨τ2, V2, F2, e2⟩ := cl_jump (M := M1) (N := N1) (x := 11) (b := false) hn V1 (Or.inl ⟨rfl, hwx, rfl⟩) (Or.inr (by rintro (h | ⟨h, _⟩); omega; exact absurd h (by decide))) (fun y hy => Or.inl (hJ.2 y hy))
      obtain ⟨-, ⟨-, e72, e122, e112, e132⟩, -⟩ := id V2
      rw [zu_sw3] at e2
      obtain ⟨τa, hτa⟩ : ∃ τa, τa = zu (zu (zu τ2 8 m (nI (en (11, z1)))) 0 13 (nI (m + 1))) 0 7 (nI (p1 + 1)) := ⟨_, rfl⟩
      rw [← hτa] at e2
      have Va : Vw L n w (p1 + 1) z1 o (m + 1) (psh S m (11, z1)) [] (zu σ1 23 3 (nI (p1 + 1))) τa := by
        refine V2.vw.push hlt (e := (11, z1)) (by show 11 ≤ 14; omega) (by show z1 < 1048576; omega) ho ?_ ?_ ?_ ?_ ?_ ?_ ?_
        all_goals rw [hτa]
        · rw [zu_self, upd_s]
        · simp (disch := omega) only [zu_ne, zu_self, upd_ne]
        · simp (disch := omega) only [zu_ne, zu_self, upd_ne]
        · simp (disch := omega) only [zu_ne, zu_self, upd_ne]; exact e112
        · simp (disch := omega) only [zu_ne, zu_self, upd_ne, upd_s]
        · simp (disch := omega) only [zu_ne, zu_self]
        · simp (disch := omega) only [zu_ne]
      have ta7 : τa 7 = τ2 7 := by rw [hτa]; simp (disch := omega) only [zu_ne]
      have Fa : Fm L z1 σ1 τ2 (zu σ1 23 3 (nI (p1 + 1))) τa := by
        refine Fm.rf.at hL ?_ ta7
        rw [hτa]; exact ((LwF.rf.zuk (Or.inr rfl)).zu0 (by decide)).zu0 (by decide)
      have V3 := Va.code (by omega) hn 38 0 (nI 11) 0
      have F3 := Fm.code (σ := zu σ1 23 3 (nI (p1 + 1))) (τ := τa) (z := z1) hL 38 0 (nI 11) 0
      have F13 := Fa.tr F3 (Nat.le_refl _)
      have F03 : Fm L z σ τ _ _ := (F1.tr F2 (Nat.le_refl _)).tr F13 b2'
      rw [eL, e2]
      unfold B_X5_readPart_12
      rw [if_neg (show ¬ (240 : Int32) ≤ nI i from nI_ge (b := 240) (by omega) (by omega)), C_takes tC e23 hpn, if_pos hwx, ob]
      dsimp only
      rw [if_neg (show ¬ (1 : Int32) = 0 by decide), zu_ne _ _ _ (by decide), e60, nI_clamp (by omega), gd_true (isL_of hL), C_add (by rw [zu_ne _ _ _ (by omega)]; exact e9) (by omega), ob]
      dsimp only
      rcases hF (p1 + 1) (z1 + 1) (m + 1) 0 (psh S m (11, z1)) _ _ N1 V3 (fun i h1 h2 => absurd h2 (by omega)) (by omega) (by rw [show m + 1 - 1 = m by omega, psh_s]; exact ⟨by show 11 ≤ 11; omega, by show 11 ≤ 13; omega⟩) (by omega) (by omega) (by omega) with hx | ⟨s4, t4, p4, z4, M4, N4, g1, g2, V4n, F4, G4, c1, c2, c3, c4, c5⟩
      · left
        obtain ⟨f, s', t', y1, y2, y3⟩ := LwX.tr F03 hx
        exact ⟨f, s', t', by rw [y1, ob]; dsimp only; rw [if_pos rfl], y2, y3⟩
      have V4 : Vj L n w (z1 + 1) p4 z4 o (m + 1) (psh S m (11, z1)) [] s4 t4 := V4n.vj
      obtain ⟨⟨-, e604, -, -, e94⟩, -, -, ⟨hz4, -, hpn4, -⟩, -⟩ := id V4
      rw [g1, g2, ob]
      dsimp only
      rw [if_neg (show ¬ (1 : Int32) = 0 by decide), e604, nI_clamp (by omega), gd_true (isL_of hL), C_jump e94 (by omega), ob, nI_1]
      have q1 : s4 (L + 1) z1 = jc 11 ∧ t4 7 z1 = nI (en (11, 0)) := by
        obtain ⟨y1, y2, y3⟩ := F4.2.2 z1 (by omega)
        rw [y1, y3]
        simp (disch := omega) only [zu_ne, zu_self, upd_s]
        refine ⟨rfl, ?_⟩
        rw [en0]; rfl
      have C4 : Cr L z z1 s4 t4 := (V2.cr.fm F13 (Nat.le_refl _)).fm F4 (by omega)
      have V5 := V4.jump (a := z) (by simp) (by omega) b2' (by omega) C4 q1.1 q1.2
      have F5 : Fm L z1 s4 t4 (zu s4 (L + 2) z1 (nI z4)) t4 := Fm.jump
      have F15 : Fm L z1 σ1 τ2 (zu s4 (L + 2) z1 (nI z4)) t4 := (F13.tr F4 (by omega)).tr F5 (Nat.le_refl _)
      refine ih p4 z4 ([] ++ [(11, z1)]) _ t4 M4 N4 (i + 1) NL (by omega) (by omega) (by omega) V5 ((F1.tr F2 (Nat.le_refl _)).tr F15 b2') ?_ (by omega) (by omega) (by omega) (by omega) (by omega) ⟨by simp, by intro y hy; simp at hy; rw [hy]⟩
      refine (G1.fm F15 (Nat.le_refl _)).tr (Seg.jmp (by simp) (Or.inl (by rw [zu_ne _ _ _ (by omega), q1.1]; rfl)) ?_ (G4.congr (fun k h1 h2 => ⟨by rw [zu_ne _ _ _ (by omega)], by rw [zu_self, upd_ne _ _ (by omega)]⟩)))
      · rw [zu_self, upd_s]
  unfold F_X5_readPart
  rcases hF p z m 0 S σ τ N hV (fun i h1 h2 => absurd h2 (by omega)) hm1 (by omega) (by omega) hz0 hN with hx | ⟨s1, t1, p1, z1, M1, N1, g1, g2, V1, F1, G1, b1, b2', b3, b4, b5⟩
  · left
    obtain ⟨f, s', t', y1, y2, y3⟩ := hx
    exact ⟨f, s', t', by rw [y1, ob]; dsimp only; rw [if_pos rfl], y2, y3⟩
  rw [g1, g2, ob]
  dsimp only
  rw [if_neg (show ¬ (1 : Int32) = 0 by decide)]
  exact loop (n - p1) p1 z1 [] s1 t1 M1 N1 0 FU (Nat.le_refl _) (FU_lt (by omega)) (by omega) V1.vj F1 G1 b1 b2' b3 (by omega) b5 ⟨by simp, by intro y hy; simp at hy⟩
theorem choice_eq (hn : n ≤ 240) {fF : Int32 → Hp → Option (Int32 × Hp)} (hF : SpPart L n w o fF) : SpChoice L n w o (F_X5_readChoice fF) := by
  intro p z m S σ τ N hV hm1 hm hN
  have hL := hV.1.1
  have hz0 : z ≤ p := hV.2.2.2.1
  have loop : ∀ (k p1 z1 : Nat) (J : List (Nat × Nat)) (σ1 τ1 : Hp) (M1 N1 i NL : Nat), n - p1 ≤ k → k < NL → i ≤ p1 → Vj L n w z p1 z1 o m S J σ1 τ1 → Fm L z σ τ σ1 τ1 → Seg (σ1 (L + 1)) (σ1 (L + 2)) z z1 [] [true] → p < p1 → z ≤ z1 → z1 + p ≤ z + p1 → 10 + o ≤ M1 → N + p ≤ N1 + p1 → (∀ y ∈ J, lnd true y.1) → ¬ wa w n p1 = 38 → LwX L σ τ (L_X5_readChoice_12 fF NL (nI o) (nI i) σ1) (clP M1 N1 τ1) ∨ ∃ (σ' τ' : Hp) (p' z' M' N' : Nat) (J : List (Nat × Nat)), L_X5_readChoice_12 fF NL (nI o) (nI i) σ1 = some (1, σ') ∧ clP M1 N1 τ1 = clP M' N' τ' ∧ Vj L n w z p' z' o m S J σ' τ' ∧ (∀ y ∈ J, lnd true y.1) ∧ Fm L z σ τ σ' τ' ∧ Seg (σ' (L + 1)) (σ' (L + 2)) z z' [] [true] ∧ p < p' ∧ z ≤ z' ∧ z' + p ≤ z + p' ∧ 10 + o ≤ M' ∧ N + p ≤ N' + p' ∧ ¬ wa w n p' = 38 ∧ ¬ wa w n p' = 124 := by
    intro k
    induction k with
    | zero =>
      intro p1 z1 J σ1 τ1 M1 N1 i NL hk hNL hi V1 F1 G1 b1 b2' b3 b4 b5 hJ h38
      obtain ⟨NL, rfl⟩ : ∃ N', NL = N' + 1 := ⟨NL - 1, by omega⟩
      obtain ⟨⟨-, -, tC, e23, -⟩, -, -, ⟨-, -, hpn, -⟩, -⟩ := id V1
      have hw : wa w n p1 = -1 := wa_out (by omega)
      have hno : ¬ wa w n p1 = 124 := by rw [hw]; decide
      have e : L_X5_readChoice_12 fF (NL + 1) (nI o) (nI i) σ1 = some (1, σ1) := by
        show B_X5_readChoice_12 fF _ (nI o) (nI i) σ1 = _
        unfold B_X5_readChoice_12
        rw [C_takes tC e23 hpn, if_neg hno, ob]
        dsimp only
        rw [if_pos rfl, ite_self]
      exact Or.inr ⟨σ1, τ1, p1, z1, M1, N1, J, e, rfl, V1, hJ, F1, G1, b1, b2', b3, b4, b5, h38, hno⟩
    | succ k ih =>
      intro p1 z1 J σ1 τ1 M1 N1 i NL hk hNL hi V1 F1 G1 b1 b2' b3 b4 b5 hJ h38
      obtain ⟨NL, rfl⟩ : ∃ N', NL = N' + 1 := ⟨NL - 1, by omega⟩
      obtain ⟨⟨-, e60, tC, e23, e9⟩, ⟨tM, e7, e12, e11, e13⟩, ⟨-, -, -, hJ2, -⟩, ⟨hz1, hmp, hpn, ho⟩, -⟩ := id V1
      have eL : L_X5_readChoice_12 fF (NL + 1) (nI o) (nI i) σ1 = B_X5_readChoice_12 fF (fun x1 x2 σ => L_X5_readChoice_12 fF NL x1 x2 σ) (nI o) (nI i) σ1 := rfl
      by_cases hwx : wa w n p1 = 124
      rotate_left
      · have hno := hwx
        have e : L_X5_readChoice_12 fF (NL + 1) (nI o) (nI i) σ1 = some (1, σ1) := by
          rw [eL]
          unfold B_X5_readChoice_12
          rw [C_takes tC e23 hpn, if_neg hwx, ob]
          dsimp only
          rw [if_pos rfl, ite_self]
        exact Or.inr ⟨σ1, τ1, p1, z1, M1, N1, J, e, rfl, V1, hJ, F1, G1, b1, b2', b3, b4, b5, h38, hno⟩
      have hlt : p1 < n := wa_lt (w := w) (by rw [hwx]; decide)
      obtain ⟨M1, rfl⟩ : ∃ M', M1 = M' + 1 := ⟨M1 - 1, by omega⟩
      obtain ⟨τ2, V2, F2, e2⟩ := cl_jump (M := M1) (N := N1) (x := 12) (b := true) hn V1 (Or.inr ⟨rfl, hwx, rfl⟩) (Or.inr (by rintro (h | ⟨_, h⟩) <;> omega)) hJ
      obtain ⟨-, ⟨-, e72, e122, e112, e132⟩, -⟩ := id V2
      rw [zu_sw3] at e2
      obtain ⟨τa, hτa⟩ : ∃ τa, τa = zu (zu (zu τ2 8 m (nI (en (12, z1)))) 0 13 (nI (m + 1))) 0 7 (nI (p1 + 1)) := ⟨_, rfl⟩
      rw [← hτa] at e2
      have Va : Vw L n w (p1 + 1) z1 o (m + 1) (psh S m (12, z1)) [] (zu σ1 23 3 (nI (p1 + 1))) τa := by
        refine V2.vw.push hlt (e := (12, z1)) (by show 12 ≤ 14; omega) (by show z1 < 1048576; omega) ho ?_ ?_ ?_ ?_ ?_ ?_ ?_
        all_goals rw [hτa]
        · rw [zu_self, upd_s]
        · simp (disch := omega) only [zu_ne, zu_self, upd_ne]
        · simp (disch := omega) only [zu_ne, zu_self, upd_ne]
        · simp (disch := omega) only [zu_ne, zu_self, upd_ne]; exact e112
        · simp (disch := omega) only [zu_ne, zu_self, upd_ne, upd_s]
        · simp (disch := omega) only [zu_ne, zu_self]
        · simp (disch := omega) only [zu_ne]
      have ta7 : τa 7 = τ2 7 := by rw [hτa]; simp (disch := omega) only [zu_ne]
      have Fa : Fm L z1 σ1 τ2 (zu σ1 23 3 (nI (p1 + 1))) τa := by
        refine Fm.rf.at hL ?_ ta7
        rw [hτa]; exact ((LwF.rf.zuk (Or.inr rfl)).zu0 (by decide)).zu0 (by decide)
      have V3 := Va.code (by omega) hn 124 0 (nI 12) 0
      have F3 := Fm.code (σ := zu σ1 23 3 (nI (p1 + 1))) (τ := τa) (z := z1) hL 124 0 (nI 12) 0
      have F13 := Fa.tr F3 (Nat.le_refl _)
      have F03 : Fm L z σ τ _ _ := (F1.tr F2 (Nat.le_refl _)).tr F13 b2'
      rw [eL, e2]
      unfold B_X5_readChoice_12
      rw [if_neg (show ¬ (240 : Int32) ≤ nI i from nI_ge (b := 240) (by omega) (by omega)), C_takes tC e23 hpn, if_pos hwx, ob]
      dsimp only
      rw [if_neg (show ¬ (1 : Int32) = 0 by decide), zu_ne _ _ _ (by decide), e60, nI_clamp (by omega), gd_true (isL_of hL), C_add (by rw [zu_ne _ _ _ (by omega)]; exact e9) (by omega), ob]
      dsimp only
      rcases hF (p1 + 1) (z1 + 1) (m + 1) (psh S m (12, z1)) _ _ N1 V3 (by omega) (by rw [show m + 1 - 1 = m by omega, psh_s]; exact Or.inl rfl) (by omega) with hx | ⟨s4, t4, p4, z4, M4, N4, J4, g1, g2, V4, hJ4, F4, G4, c1, c2, c3, c4, c5, c6⟩
      · left
        obtain ⟨f, s', t', y1, y2, y3⟩ := LwX.tr F03 hx
        exact ⟨f, s', t', by rw [y1, ob]; dsimp only; rw [if_pos rfl], y2, y3⟩
      obtain ⟨⟨-, e604, -, -, e94⟩, -, -, ⟨hz4, -, hpn4, -⟩, -⟩ := id V4
      rw [g1, g2, ob]
      dsimp only
      rw [if_neg (show ¬ (1 : Int32) = 0 by decide), e604, nI_clamp (by omega), gd_true (isL_of hL), C_jump e94 (by omega), ob, nI_1]
      have q1 : s4 (L + 1) z1 = jc 12 ∧ t4 7 z1 = nI (en (12, 0)) := by
        obtain ⟨y1, y2, y3⟩ := F4.2.2 z1 (by omega)
        rw [y1, y3]
        simp (disch := omega) only [zu_ne, zu_self, upd_s]
        refine ⟨rfl, ?_⟩
        rw [en0]; rfl
      have C4 : Cr L z z1 s4 t4 := (V2.cr.fm F13 (Nat.le_refl _)).fm F4 (by omega)
      have V5 := V4.jump (a := z) hJ4.1 (by omega) b2' (by omega) C4 q1.1 q1.2
      have F5 : Fm L z1 s4 t4 (zu s4 (L + 2) z1 (nI z4)) t4 := Fm.jump
      have F15 : Fm L z1 σ1 τ2 (zu s4 (L + 2) z1 (nI z4)) t4 := (F13.tr F4 (by omega)).tr F5 (Nat.le_refl _)
      refine ih p4 z4 (J4 ++ [(12, z1)]) _ t4 M4 N4 (i + 1) NL (by omega) (by omega) (by omega) V5 ((F1.tr F2 (Nat.le_refl _)).tr F15 b2') ?_ (by omega) (by omega) (by omega) c4 (by omega) (by
        intro y hy
        rcases List.mem_append.mp hy with h | h
        · exact Or.inl (hJ4.2 y h)
        · rw [List.mem_singleton.mp h]; exact Or.inr ⟨rfl, rfl⟩) c6
      refine (G1.fm F15 (Nat.le_refl _)).tr (Seg.jmp (by simp) (Or.inr (by rw [zu_ne _ _ _ (by omega), q1.1]; rfl)) ?_ (G4.congr (fun k h1 h2 => ⟨by rw [zu_ne _ _ _ (by omega)], by rw [zu_self, upd_ne _ _ (by omega)]⟩)))
      · rw [zu_self, upd_s]
  unfold F_X5_readChoice
  rcases hF p z m S σ τ N hV hm1 (Or.inr hm) hN with hx | ⟨s1, t1, p1, z1, M1, N1, J, g1, g2, V1, hJ, F1, G1, b1, b2', b3, b4, b5, b6⟩
  · left
    obtain ⟨f, s', t', y1, y2, y3⟩ := hx
    exact ⟨f, s', t', by rw [y1, ob]; dsimp only; rw [if_pos rfl], y2, y3⟩
  rw [g1, g2, ob]
  dsimp only
  rw [if_neg (show ¬ (1 : Int32) = 0 by decide)]
  exact loop (n - p1) p1 z1 J s1 t1 M1 N1 0 FU (Nat.le_refl _) (FU_lt (by omega)) (by omega) V1 F1 G1 b1 b2' b3 b4 b5 (fun y hy => Or.inl (hJ.2 y hy)) b6
theorem cond_all (hn : n ≤ 240) (hb : ∀ i, i < n → ∃ r : Nat, r < 256 ∧ w i = nI r) : ∀ (d o : Nat), o + d = 6 → ∀ (g : Nat), 4 * d + 2 ≤ g → SpTest L n w o (G_X5_readChoice g 3) ∧ (4 * d + 4 ≤ g → SpChoice L n w o (G_X5_readChoice g 0)) := by
  intro d
  induction d with
  | zero =>
    intro o ho g hg
    have t : ∀ g, 2 ≤ g → SpTest L n w o (G_X5_readChoice g 3) := fun g hg => by
      obtain ⟨g, rfl⟩ : ∃ g', g = g' + 2 := ⟨g - 2, by omega⟩
      rw [G_X5_readChoice_3, G_X5_readChoice_1]
      exact test_eq hn hb (fun h => absurd h (by omega)) (fun h => absurd h (by omega))
    refine ⟨t g (by omega), fun hg3 => ?_⟩
    obtain ⟨g, rfl⟩ : ∃ g', g = g' + 2 := ⟨g - 2, by omega⟩
    rw [G_X5_readChoice_0, G_X5_readChoice_2]
    exact choice_eq hn (part_eq hn (t g (by omega)))
  | succ d ih =>
    intro o ho g hg
    have t : ∀ g, 4 * (d + 1) + 2 ≤ g → SpTest L n w o (G_X5_readChoice g 3) := fun g hg => by
      obtain ⟨g, rfl⟩ : ∃ g', g = g' + 2 := ⟨g - 2, by omega⟩
      rw [G_X5_readChoice_3, G_X5_readChoice_1]
      exact test_eq hn hb (fun h => (ih (o + 1) (by omega) g (by omega)).2 (by omega)) (fun h => (ih (o + 1) (by omega) g (by omega)).1)
    refine ⟨t g hg, fun hg3 => ?_⟩
    obtain ⟨g, rfl⟩ : ∃ g', g = g' + 2 := ⟨g - 2, by omega⟩
    rw [G_X5_readChoice_0, G_X5_readChoice_2]
    exact choice_eq hn (part_eq hn (t g (by omega)))
end
