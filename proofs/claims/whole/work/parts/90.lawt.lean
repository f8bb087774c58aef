-- the law as a text: terms and amounts
theorem C_addV {L n p z o m x : Nat} {w : Nat → Int32} {S : Nat → Nat × Nat} {R : List Nat} {σ τ : Hp} (h : Vw L n w p z o (m + 1) (psh S m (x, 0)) R σ τ) (hx : 2 ≤ x ∧ x ≤ 6) (hR : R.length ≤ 1) (hz : z + R.length < p) : Vw L n w p z o m S (R ++ [x]) (zu (zu (zu σ (L + 1) (z + R.length) (sgn x)) (L + 2) (z + R.length) 0) L 9 (nI (z + R.length + 1))) τ := by
  obtain ⟨⟨hL, e60, tC, e23, e9⟩, ⟨tM, e7, e12, e11, e13⟩, ⟨hS, hs1, hc1, hR2, hR3⟩, hz0, hmp, hpn, ho⟩ := h
  have hl : (R ++ [x]).length = R.length + 1 := by simp
  have hm := hS m (by omega)
  rw [psh_s] at hm
  refine ⟨⟨hL, ?_, ⟨tC.1, ?_, fun i hi => ?_⟩, ?_, ?_⟩, ⟨tM, e7, e12, e11, by rw [e13, hl]; congr 1; omega⟩, ⟨fun i hi => ?_, ?_, ?_, by rw [hl]; omega, fun y hy => ?_⟩, by rw [hl]; omega, by omega, hpn, ho⟩
  · simp (disch := omega) only [zu_ne]; exact e60
  · simp (disch := omega) only [zu_ne]; exact tC.2.1
  · simp (disch := omega) only [zu_ne]; exact tC.2.2 i hi
  · simp (disch := omega) only [zu_ne]; exact e23
  · rw [zu_self, upd_s, hl]; rfl
  · have := hS i (by omega)
    rw [psh_ne (by omega)] at this
    exact this
  · match R, hR, hs1 with
    | [], _, _ => exact ⟨hm.1, trivial⟩
    | [y], _, hs1 => exact ⟨hs1.1, hm.1, trivial⟩
  · match R, hR, hc1 with
    | [], _, _ =>
      refine ⟨⟨?_, ?_⟩, trivial⟩
      · simp (disch := omega) only [zu_ne, zu_self]; exact upd_s _ _ _
      · simp (disch := omega) only [zu_ne, zu_self]; exact upd_s _ _ _
    | [y], _, hc1 =>
      have hl1 : [y].length = 1 := rfl
      refine ⟨⟨?_, ?_⟩, ⟨?_, ?_⟩, trivial⟩
      · simp (disch := omega) only [zu_ne, zu_self]; rw [upd_ne _ _ (by rw [hl1]; omega)]; exact hc1.1.1
      · simp (disch := omega) only [zu_ne, zu_self]; rw [upd_ne _ _ (by rw [hl1]; omega)]; exact hc1.1.2
      · simp (disch := omega) only [zu_ne, zu_self]; exact upd_s _ _ _
      · simp (disch := omega) only [zu_ne, zu_self]; exact upd_s _ _ _
  · rcases List.mem_append.mp hy with h | h
    · exact hR3 y h
    · rw [List.mem_singleton.mp h]; exact hx
theorem Fm.cadd {L z : Nat} {σ τ : Hp} (x y : Int32) : Fm L z σ τ (zu (zu (zu σ (L + 1) z x) (L + 2) z y) L 9 (nI (z + 1))) τ := by
  refine ⟨⟨((Ag.rf.zu (by simp)).zu (by simp)).zu (by simp), fun j hj => ?_⟩, LwF.rf, fun k hk => ⟨?_, ?_, rfl⟩⟩
  · rw [zu_self, upd_ne _ _ hj, zu_ne _ _ _ (by omega), zu_ne _ _ _ (by omega)]
  · simp (disch := omega) only [zu_ne, zu_self, upd_ne]
  · simp (disch := omega) only [zu_ne, zu_self, upd_ne]
theorem M_j38 {base K m p s : Nat} {b : Bool} {τ τ2 : Hp} (hcl : F_M_closesSums (b2 b) τ = some τ2) (e13 : τ2 0 13 = nI m) (hm : m < 260) (e7 : τ2 0 7 = nI p) : J_M_readsSum_38 (fun x1 σ => L_M_readsSum_14 J_M_readsSum_138 K x1 σ) (nI base) (nI s) (b2 b) τ = fsP base FU K (zu (zu (zu τ2 8 m (nI (en (s, 0)))) 0 13 (nI (m + 1))) 0 7 (nI (p + 1))) := by
  unfold J_M_readsSum_38
  rw [hcl, ob]
  simp (disch := omega) only [zu_ne, zu_self, upd_ne, e13, e7, nI_clamp, inb_nI, gd_tt, nI_1, en0]
  rfl
theorem Fm.mono {L a b : Nat} {σ τ σ' τ' : Hp} (h : Fm L b σ τ σ' τ') (hab : a ≤ b) : Fm L a σ τ σ' τ' := ⟨h.1, h.2.1, fun k hk => h.2.2 k (by omega)⟩
section
variable {L n o : Nat} {w : Nat → Int32}
theorem term_eq (hn : n ≤ 240) {fF : Int32 → Hp → Option (Int32 × Hp)} (hF : SpF L n w o fF) : SpT L n w o (F_X5_readTerm fF) := by
  intro p z m S σ τ N K base r hV hNT hbm hr hN hK
  have hL := hV.1.1
  have loop : ∀ (k p1 z1 : Nat) (R : List Nat) (σ1 τ1 : Hp) (K1 i NL : Nat), n - p1 ≤ k → k < NL → i ≤ p1 → Vw L n w p1 z1 o m S R σ1 τ1 → Fm L z σ τ σ1 τ1 → Cr L z z1 σ1 τ1 → Seg (σ1 (L + 1)) (σ1 (L + 2)) z (z1 + R.length) r (false :: r) → p < p1 → z ≤ z1 → z1 + R.length + p ≤ z + p1 → K + p ≤ K1 + p1 → R.length ≤ 1 → (∀ x ∈ R, clo false x) → LwX L σ τ (L_X5_readTerm_12 fF NL (nI o) (nI i) σ1) (afP base K1 τ1) ∨ LwY L n w o m S p z K base r (fun R p' => R.length ≤ 1 ∧ (∀ x ∈ R, clo false x) ∧ ¬ mul3 (wa w n p')) σ τ (L_X5_readTerm_12 fF NL (nI o) (nI i) σ1) (afP base K1 τ1) := by
    intro k
    induction k with
    | zero =>
      intro p1 z1 R σ1 τ1 K1 i NL hk hNL hi V1 F1 C1 G1 b1 b2' b3 b4 hR1 hRc
      obtain ⟨NL, rfl⟩ : ∃ N', NL = N' + 1 := ⟨NL - 1, by omega⟩
      obtain ⟨⟨-, -, tC, e23, -⟩, -, -, -, -, hpn, -⟩ := id V1
      have hw : wa w n p1 = -1 := wa_out (by omega)
      have hno : ¬ mul3 (wa w n p1) := by rw [hw]; unfold mul3; decide
      have e : L_X5_readTerm_12 fF (NL + 1) (nI o) (nI i) σ1 = some (1, σ1) := by
        show B_X5_readTerm_12 fF _ (nI o) (nI i) σ1 = _
        unfold B_X5_readTerm_12
        rw [C_here tC e23 hpn, ob, hw]
        dsimp only
        split
        · rfl
        · rw [if_neg (by decide), if_neg (by decide), if_neg (by decide)]
      exact Or.inr ⟨σ1, τ1, p1, z1, R, K1, e, rfl, V1, F1, C1, G1, ⟨b1, b2'⟩, b3, b4, ⟨hR1, hRc, hno⟩⟩
    | succ k ih =>
      intro p1 z1 R σ1 τ1 K1 i NL hk hNL hi V1 F1 C1 G1 b1 b2' b3 b4 hR1 hRc
      obtain ⟨NL, rfl⟩ : ∃ N', NL = N' + 1 := ⟨NL - 1, by omega⟩
      obtain ⟨⟨-, e60, tC, e23, e9⟩, ⟨tM, e7, e12, e11, e13⟩, ⟨-, -, -, hR2, -⟩, hz1, hmp, hpn, ho⟩ := id V1
      have eL : L_X5_readTerm_12 fF (NL + 1) (nI o) (nI i) σ1 = B_X5_readTerm_12 fF (fun x1 x2 σ => L_X5_readTerm_12 fF NL x1 x2 σ) (nI o) (nI i) σ1 := rfl
      by_cases hmul : mul3 (wa w n p1)
      rotate_left
      · have e : L_X5_readTerm_12 fF (NL + 1) (nI o) (nI i) σ1 = some (1, σ1) := by
          rw [eL]
          unfold B_X5_readTerm_12
          rw [C_here tC e23 hpn, ob]
          dsimp only
          split
          · rfl
          · rw [if_neg (fun z => hmul (Or.inl z)), if_neg (fun z => hmul (Or.inr (Or.inl z))), if_neg (fun z => hmul (Or.inr (Or.inr z)))]
        exact Or.inr ⟨σ1, τ1, p1, z1, R, K1, e, rfl, V1, F1, C1, G1, ⟨b1, b2'⟩, b3, b4, ⟨hR1, hRc, hmul⟩⟩
      have hlt : p1 < n := wa_lt (w := w) (by rcases hmul with h | h | h <;> rw [h] <;> decide)
      have e : L_X5_readTerm_12 fF (NL + 1) (nI o) (nI i) σ1 = J_X5_readTerm_47 fF (fun x1 x2 σ => L_X5_readTerm_12 fF NL x1 x2 σ) (nI o) (nI i) (wa w n p1) σ1 := by
        rw [eL]
        unfold B_X5_readTerm_12
        rw [if_neg (show ¬ (240 : Int32) ≤ nI i from nI_ge (b := 240) (by omega) (by omega)), C_here tC e23 hpn, ob]
        dsimp only
        by_cases x1 : wa w n p1 = 42
        · rw [if_pos x1]
        rw [if_neg x1]
        by_cases x2 : wa w n p1 = 47
        · rw [if_pos x2]
        rw [if_neg x2]
        by_cases x3 : wa w n p1 = 37
        · rw [if_pos x3]
        · exact absurd hmul (by rintro (h | h | h); exact x1 h; exact x2 h; exact x3 h)
      obtain ⟨K2, rfl⟩ : ∃ K2, K1 = K2 + 1 := ⟨K1 - 1, by omega⟩
      obtain ⟨s, hs1, hs2, hsx, hss⟩ := M_ssM hmul τ1
      obtain ⟨τ2, c1, V2, F2, C2⟩ := closes_eq hn hNT R z1 FU τ1 V1 hRc (FU_lt (by omega))
      obtain ⟨-, ⟨-, e72, e122, e112, e132⟩, -, -, hmp2, -, -⟩ := id V2
      have e132 : τ2 0 13 = nI m := e132
      obtain ⟨τ3, hτ3⟩ : ∃ τ3, τ3 = zu (zu (zu τ2 8 m (nI (en (s, 0)))) 0 13 (nI (m + 1))) 0 7 (nI (p1 + 1)) := ⟨_, rfl⟩
      have eaf : afP base (K2 + 1) τ1 = fsP base FU K2 τ3 := by
        show B_M_readsSum_14 _ (fun x1 σ => L_M_readsSum_14 J_M_readsSum_138 K2 x1 σ) (nI base) τ1 = _
        unfold B_M_readsSum_14
        rw [M_here tM e7 hpn, ob]
        dsimp only
        rw [hss, ob]
        dsimp only
        rw [if_neg (nI_m1 (by omega)), if_pos (show (4 : Int32) ≤ nI s from nI_le (a := 4) (by omega) (by omega)), hτ3]
        exact M_j38 (b := false) c1 e132 (by omega) e72
      rw [e, eaf]
      unfold J_X5_readTerm_47
      rw [e23, nI_1]
      have V3 : Vw L n w (p1 + 1) (z1 + R.length) o (m + 1) (psh S m (s, 0)) [] (zu σ1 23 3 (nI (p1 + 1))) τ3 := by
        refine V2.push hlt (e := (s, 0)) (by show s ≤ 14; omega) (by show 0 < 1048576; omega) ho ?_ ?_ ?_ ?_ ?_ ?_ ?_
        all_goals rw [hτ3]
        · rw [zu_self, upd_s]
        · simp (disch := omega) only [zu_ne, zu_self, upd_ne]
        · simp (disch := omega) only [zu_ne, zu_self, upd_ne]
        · simp (disch := omega) only [zu_ne, zu_self, upd_ne]; exact e112
        · simp (disch := omega) only [zu_ne, zu_self, upd_ne, upd_s]
        · simp (disch := omega) only [zu_ne, zu_self]
        · simp (disch := omega) only [zu_ne]
      have t37 : τ3 7 = τ2 7 := by rw [hτ3]; simp (disch := omega) only [zu_ne]
      have F3 : Fm L (z1 + R.length) σ1 τ2 (zu σ1 23 3 (nI (p1 + 1))) τ3 := by
        refine Fm.rf.at hL ?_ t37
        rw [hτ3]; exact ((LwF.rf.zuk (Or.inr rfl)).zu0 (by decide)).zu0 (by decide)
      have F03 : Fm L z σ τ (zu σ1 23 3 (nI (p1 + 1))) τ3 := (F1.tr F2 b2').tr F3 (by omega)
      rcases hF (p1 + 1) (z1 + R.length) (m + 1) (psh S m (s, 0)) (zu σ1 23 3 (nI (p1 + 1))) τ3 FU K2 base (false :: r) V3 (by omega) (by simp; omega) (by have : FU = 1000000 := rfl; omega) (by omega) with hx | ⟨s4, t4, p4, z4, R4, K4, g1, g2, V4, F4, C4, G4, ⟨g3, g3z⟩, g4, g5, g6⟩
      · left
        obtain ⟨f, s', t', h1, h2, h3⟩ := LwX.tr F03 hx
        exact ⟨f, s', t', by rw [h1, ob]; dsimp only; rw [if_pos rfl], h2, h3⟩
      have hR4 : R4 = [] := g6
      have hR40 : R4.length = 0 := by rw [hR4]; rfl
      rw [g1, g2, ob]
      dsimp only
      obtain ⟨⟨-, e604, -, -, e94⟩, -, ⟨-, -, -, hR24, -⟩, hz4, -, hpn4, -⟩ := id V4
      rw [if_neg (show ¬ (1 : Int32) = 0 by decide), e604, nI_clamp (by omega), gd_true (isL_of hL), C_add e94 (by omega), ob, nI_1, hsx]
      dsimp only
      have V5 := C_addV V4 (show 2 ≤ s ∧ s ≤ 6 by omega) (by omega) (by omega)
      have F5 : Fm L (z4 + R4.length) s4 t4 (zu (zu (zu s4 (L + 1) (z4 + R4.length) (sgn s)) (L + 2) (z4 + R4.length) 0) L 9 (nI (z4 + R4.length + 1))) t4 := Fm.cadd _ _
      have hl : (R4 ++ [s]).length = R4.length + 1 := by simp
      refine ih p4 z4 (R4 ++ [s]) _ t4 K4 (i + 1) NL (by omega) (by omega) (by omega) V5 ((F03.tr F4 (by omega)).tr F5 (by omega)) ?_ ?_ (by omega) (by omega) (by rw [hl]; omega) (by omega) (by rw [hl]; omega) (by intro x hx; rw [hR4] at hx; simp at hx; rw [hx]; exact Or.inl ⟨hs1, hs2⟩)
      · refine (((C1.tr F2 C2).tr (F3.tr F4 (Nat.le_refl _)) C4).tr (b := z4) (F5.mono (by omega)) ?_)
        intro k h1 h2; omega
      · rw [hl, show z4 + (R4.length + 1) = z4 + R4.length + 1 by omega]
        refine ((G1.fm ((F3.tr F4 (Nat.le_refl _)).tr F5 (by omega)) (Nat.le_refl _)).tr (G4.fm F5 (Nat.le_refl _))).tr (Seg.one (by simp; omega) (Or.inr (Or.inl ⟨?_, r, rfl, rfl⟩)))
        simp (disch := omega) only [zu_ne, zu_self, upd_s]
        exact (sgn_op (show 2 ≤ s ∧ s ≤ 6 by omega)).2
  unfold F_X5_readTerm
  rcases hF p z m S σ τ N K base r hV hbm (by omega) hN hK with hx | ⟨s1, t1, p1, z1, R, K1, g1, g2, V1, F1, C1, G1, ⟨g3, g3z⟩, g4, g5, g6⟩
  · left
    obtain ⟨f, s', t', h1, h2, h3⟩ := hx
    exact ⟨f, s', t', by rw [h1, ob]; dsimp only; rw [if_pos rfl], h2, h3⟩
  rw [g1, g2, ob]
  dsimp only
  rw [if_neg (show ¬ (1 : Int32) = 0 by decide)]
  exact loop (n - p1) p1 z1 R s1 t1 K1 0 FU (Nat.le_refl _) (FU_lt (by omega)) (by omega) V1 F1 C1 G1 g3 g3z g4 g5 (by rw [show R = [] from g6]; simp) (by rw [show R = [] from g6]; simp)
theorem amount_eq (hn : n ≤ 240) {fF : Int32 → Hp → Option (Int32 × Hp)} (hF : SpT L n w o fF) : SpA L n w o (F_X5_readAmount fF) := by
  intro p z m S σ τ N K base r hV hNT hbm hr hN hK
  have hL := hV.1.1
  have loop : ∀ (k p1 z1 : Nat) (R : List Nat) (σ1 τ1 : Hp) (K1 i NL : Nat), n - p1 ≤ k → k < NL → i ≤ p1 → Vw L n w p1 z1 o m S R σ1 τ1 → Fm L z σ τ σ1 τ1 → Cr L z z1 σ1 τ1 → Seg (σ1 (L + 1)) (σ1 (L + 2)) z (z1 + R.length) r (false :: r) → p < p1 → z ≤ z1 → z1 + R.length + p ≤ z + p1 → K + p ≤ K1 + p1 → (∀ x ∈ R, clo true x) → ¬ mul3 (wa w n p1) → LwX L σ τ (L_X5_readAmount_12 fF NL (nI o) (nI i) σ1) (afP base K1 τ1) ∨ LwY L n w o m S p z K base r (fun R p' => (∀ x ∈ R, clo true x) ∧ ¬ mul3 (wa w n p') ∧ ¬ add2 (wa w n p')) σ τ (L_X5_readAmount_12 fF NL (nI o) (nI i) σ1) (afP base K1 τ1) := by
    intro k
    induction k with
    | zero =>
      intro p1 z1 R σ1 τ1 K1 i NL hk hNL hi V1 F1 C1 G1 b1 b2' b3 b4 hRc hnm
      obtain ⟨NL, rfl⟩ : ∃ N', NL = N' + 1 := ⟨NL - 1, by omega⟩
      obtain ⟨⟨-, -, tC, e23, -⟩, -, -, -, -, hpn, -⟩ := id V1
      have hw : wa w n p1 = -1 := wa_out (by omega)
      have hno : ¬ add2 (wa w n p1) := by rw [hw]; unfold add2; decide
      have e : L_X5_readAmount_12 fF (NL + 1) (nI o) (nI i) σ1 = some (1, σ1) := by
        show B_X5_readAmount_12 fF _ (nI o) (nI i) σ1 = _
        unfold B_X5_readAmount_12
        rw [C_here tC e23 hpn, ob, hw]
        dsimp only
        split
        · rfl
        · rw [if_neg (by decide), if_neg (by decide)]
      exact Or.inr ⟨σ1, τ1, p1, z1, R, K1, e, rfl, V1, F1, C1, G1, ⟨b1, b2'⟩, b3, b4, ⟨hRc, hnm, hno⟩⟩
    | succ k ih =>
      intro p1 z1 R σ1 τ1 K1 i NL hk hNL hi V1 F1 C1 G1 b1 b2' b3 b4 hRc hnm
      obtain ⟨NL, rfl⟩ : ∃ N', NL = N' + 1 := ⟨NL - 1, by omega⟩
      obtain ⟨⟨-, e60, tC, e23, e9⟩, ⟨tM, e7, e12, e11, e13⟩, ⟨-, -, -, hR2, -⟩, hz1, hmp, hpn, ho⟩ := id V1
      have eL : L_X5_readAmount_12 fF (NL + 1) (nI o) (nI i) σ1 = B_X5_readAmount_12 fF (fun x1 x2 σ => L_X5_readAmount_12 fF NL x1 x2 σ) (nI o) (nI i) σ1 := rfl
      by_cases hmul : add2 (wa w n p1)
      rotate_left
      · have e : L_X5_readAmount_12 fF (NL + 1) (nI o) (nI i) σ1 = some (1, σ1) := by
          rw [eL]
          unfold B_X5_readAmount_12
          rw [C_here tC e23 hpn, ob]
          dsimp only
          split
          · rfl
          · rw [if_neg (fun z => hmul (Or.inl z)), if_neg (fun z => hmul (Or.inr z))]
        exact Or.inr ⟨σ1, τ1, p1, z1, R, K1, e, rfl, V1, F1, C1, G1, ⟨b1, b2'⟩, b3, b4, ⟨hRc, hnm, hmul⟩⟩
      have hlt : p1 < n := wa_lt (w := w) (by rcases hmul with h | h <;> rw [h] <;> decide)
      have e : L_X5_readAmount_12 fF (NL + 1) (nI o) (nI i) σ1 = J_X5_readAmount_41 fF (fun x1 x2 σ => L_X5_readAmount_12 fF NL x1 x2 σ) (nI o) (nI i) (wa w n p1) σ1 := by
        rw [eL]
        unfold B_X5_readAmount_12
        rw [if_neg (show ¬ (240 : Int32) ≤ nI i from nI_ge (b := 240) (by omega) (by omega)), C_here tC e23 hpn, ob]
        dsimp only
        by_cases x1 : wa w n p1 = 43
        · rw [if_pos x1]
        rw [if_neg x1]
        by_cases x2 : wa w n p1 = 45
        · rw [if_pos x2]
        · exact absurd hmul (by rintro (h | h); exact x1 h; exact x2 h)
      obtain ⟨K2, rfl⟩ : ∃ K2, K1 = K2 + 1 := ⟨K1 - 1, by omega⟩
      obtain ⟨s, hs1, hs2, hsx, hss⟩ := M_ssA hmul τ1
      obtain ⟨τ2, c1, V2, F2, C2⟩ := closes_eq hn hNT R z1 FU τ1 V1 hRc (FU_lt (by omega))
      obtain ⟨-, ⟨-, e72, e122, e112, e132⟩, -, -, hmp2, -, -⟩ := id V2
      have e132 : τ2 0 13 = nI m := e132
      obtain ⟨τ3, hτ3⟩ : ∃ τ3, τ3 = zu (zu (zu τ2 8 m (nI (en (s, 0)))) 0 13 (nI (m + 1))) 0 7 (nI (p1 + 1)) := ⟨_, rfl⟩
      have eaf : afP base (K2 + 1) τ1 = fsP base FU K2 τ3 := by
        show B_M_readsSum_14 _ (fun x1 σ => L_M_readsSum_14 J_M_readsSum_138 K2 x1 σ) (nI base) τ1 = _
        unfold B_M_readsSum_14
        rw [M_here tM e7 hpn, ob]
        dsimp only
        rw [hss, ob]
        dsimp only
        rw [if_neg (nI_m1 (by omega)), if_neg (show ¬ (4 : Int32) ≤ nI s from nI_ge (b := 4) (by omega) (by omega)), hτ3]
        exact M_j38 (b := true) c1 e132 (by omega) e72
      rw [e, eaf]
      unfold J_X5_readAmount_41
      rw [e23, nI_1]
      have V3 : Vw L n w (p1 + 1) (z1 + R.length) o (m + 1) (psh S m (s, 0)) [] (zu σ1 23 3 (nI (p1 + 1))) τ3 := by
        refine V2.push hlt (e := (s, 0)) (by show s ≤ 14; omega) (by show 0 < 1048576; omega) ho ?_ ?_ ?_ ?_ ?_ ?_ ?_
        all_goals rw [hτ3]
        · rw [zu_self, upd_s]
        · simp (disch := omega) only [zu_ne, zu_self, upd_ne]
        · simp (disch := omega) only [zu_ne, zu_self, upd_ne]
        · simp (disch := omega) only [zu_ne, zu_self, upd_ne]; exact e112
        · simp (disch := omega) only [zu_ne, zu_self, upd_ne, upd_s]
        · simp (disch := omega) only [zu_ne, zu_self]
        · simp (disch := omega) only [zu_ne]
      have t37 : τ3 7 = τ2 7 := by rw [hτ3]; simp (disch := omega) only [zu_ne]
      have F3 : Fm L (z1 + R.length) σ1 τ2 (zu σ1 23 3 (nI (p1 + 1))) τ3 := by
        refine Fm.rf.at hL ?_ t37
        rw [hτ3]; exact ((LwF.rf.zuk (Or.inr rfl)).zu0 (by decide)).zu0 (by decide)
      have F03 : Fm L z σ τ (zu σ1 23 3 (nI (p1 + 1))) τ3 := (F1.tr F2 b2').tr F3 (by omega)
      have nt : NT false (m + 1) (psh S m (s, 0)) := Or.inr (by
        rw [show m + 1 - 1 = m by omega, psh_s]
        rintro (⟨h1, h2⟩ | ⟨h, _⟩)
        · have : 4 ≤ s := h1
          omega
        · exact absurd h (by decide))
      rcases hF (p1 + 1) (z1 + R.length) (m + 1) (psh S m (s, 0)) (zu σ1 23 3 (nI (p1 + 1))) τ3 FU K2 base (false :: r) V3 nt (by omega) (by simp; omega) (by have : FU = 1000000 := rfl; omega) (by omega) with hx | ⟨s4, t4, p4, z4, R4, K4, g1, g2, V4, F4, C4, G4, ⟨g3, g3z⟩, g4, g5, g6⟩
      · left
        obtain ⟨f, s', t', h1, h2, h3⟩ := LwX.tr F03 hx
        exact ⟨f, s', t', by rw [h1, ob]; dsimp only; rw [if_pos rfl], h2, h3⟩
      obtain ⟨g61, g62, g63⟩ := g6
      rw [g1, g2, ob]
      dsimp only
      obtain ⟨⟨-, e604, -, -, e94⟩, -, ⟨-, -, -, hR24, -⟩, hz4, -, hpn4, -⟩ := id V4
      rw [if_neg (show ¬ (1 : Int32) = 0 by decide), e604, nI_clamp (by omega), gd_true (isL_of hL), C_add e94 (by omega), ob, nI_1, hsx]
      dsimp only
      have V5 := C_addV V4 (show 2 ≤ s ∧ s ≤ 6 by omega) g61 (by omega)
      have F5 : Fm L (z4 + R4.length) s4 t4 (zu (zu (zu s4 (L + 1) (z4 + R4.length) (sgn s)) (L + 2) (z4 + R4.length) 0) L 9 (nI (z4 + R4.length + 1))) t4 := Fm.cadd _ _
      have hl : (R4 ++ [s]).length = R4.length + 1 := by simp
      refine ih p4 z4 (R4 ++ [s]) _ t4 K4 (i + 1) NL (by omega) (by omega) (by omega) V5 ((F03.tr F4 (by omega)).tr F5 (by omega)) ?_ ?_ (by omega) (by omega) (by rw [hl]; omega) (by omega) (by
        intro x hx
        rcases List.mem_append.mp hx with h | h
        · rcases g62 x h with q | ⟨q, _⟩
          · exact Or.inl q
          · exact absurd q (by decide)
        · rw [List.mem_singleton.mp h]; exact Or.inr ⟨rfl, by omega⟩) g63
      · refine (((C1.tr F2 C2).tr (F3.tr F4 (Nat.le_refl _)) C4).tr (b := z4) (F5.mono (by omega)) ?_)
        intro k h1 h2; omega
      · rw [hl, show z4 + (R4.length + 1) = z4 + R4.length + 1 by omega]
        refine ((G1.fm ((F3.tr F4 (Nat.le_refl _)).tr F5 (by omega)) (Nat.le_refl _)).tr (G4.fm F5 (Nat.le_refl _))).tr (Seg.one (by simp; omega) (Or.inr (Or.inl ⟨?_, r, rfl, rfl⟩)))
        simp (disch := omega) only [zu_ne, zu_self, upd_s]
        exact (sgn_op (show 2 ≤ s ∧ s ≤ 6 by omega)).2
  unfold F_X5_readAmount
  rcases hF p z m S σ τ N K base r hV (by rcases hNT with h | h; exact Or.inl h; exact Or.inr (fun q => h (by rcases q with q | ⟨q, _⟩; exact Or.inl q; exact absurd q (by decide)))) hbm (by omega) hN hK with hx | ⟨s1, t1, p1, z1, R, K1, g1, g2, V1, F1, C1, G1, ⟨g3, g3z⟩, g4, g5, g6⟩
  · left
    obtain ⟨f, s', t', h1, h2, h3⟩ := hx
    exact ⟨f, s', t', by rw [h1, ob]; dsimp only; rw [if_pos rfl], h2, h3⟩
  rw [g1, g2, ob]
  dsimp only
  rw [if_neg (show ¬ (1 : Int32) = 0 by decide)]
  exact loop (n - p1) p1 z1 R s1 t1 K1 0 FU (Nat.le_refl _) (FU_lt (by omega)) (by omega) V1 F1 C1 G1 g3 g3z g4 g5 (fun x hx => by rcases g6.2.1 x hx with q | ⟨q, _⟩; exact Or.inl q; exact absurd q (by decide)) g6.2.2
theorem SpA_all (hn : n ≤ 240) (hb : ∀ i, i < n → ∃ r : Nat, r < 256 ∧ w i = nI r) : ∀ (d o k : Nat), o + d = 6 → SpA L n w o (G_X5_readAmount (3 * (d + 1) + k) 0) := by
  intro d
  induction d with
  | zero =>
    intro o k ho
    rw [show 3 * (0 + 1) + k = k + 1 + 1 + 1 by omega, G_X5_readAmount_0, G_X5_readAmount_2, G_X5_readAmount_1]
    exact amount_eq hn (term_eq hn (factor_eq hn hb (fun h => absurd h (by omega))))
  | succ d ih =>
    intro o k ho
    rw [show 3 * (d + 1 + 1) + k = 3 * (d + 1) + k + 1 + 1 + 1 by omega, G_X5_readAmount_0, G_X5_readAmount_2, G_X5_readAmount_1]
    exact amount_eq hn (term_eq hn (factor_eq hn hb (fun _ => ih (o + 1) k (by omega))))
/-- an amount, by both -/
theorem sum_eq (hn : n ≤ 240) (hb : ∀ i, i < n → ∃ r : Nat, r < 256 ∧ w i = nI r) {p z o m : Nat} {S : Nat → Nat × Nat} {σ τ : Hp} {r : List Bool} (hV : Vw L n w p z o m S [] σ τ) (hNT : NT true m S) (hr : r.length ≤ 2 * o + 1) : LwX L σ τ (D_X5_readAmount (nI o) σ) (F_M_readsSum τ) ∨ ∃ (σ' τ' : Hp) (p' z' : Nat), D_X5_readAmount (nI o) σ = some (1, σ') ∧ F_M_readsSum τ = some (1, τ') ∧ Vw L n w p' z' o m S [] σ' τ' ∧ Fm L z σ τ σ' τ' ∧ Cr L z z' σ' τ' ∧ Seg (σ' (L + 1)) (σ' (L + 2)) z z' r (false :: r) ∧ p < p' ∧ z ≤ z' ∧ z' + p ≤ z + p' := by
  have ho := hV.2.2.2.2.2.2
  have hFU : FU = 1000000 := rfl
  have e13 : τ 0 13 = nI m := hV.2.1.2.2.2.2
  have hA := SpA_all (L := L) hn hb (6 - o) o (40 - 3 * (6 - o + 1)) (by omega)
  rw [show 3 * (6 - o + 1) + (40 - 3 * (6 - o + 1)) = 40 by omega] at hA
  have eS : F_M_readsSum τ = fsP m FU FU τ := by
    unfold F_M_readsSum fsP
    rw [e13]
    rfl
  rw [eS]
  unfold D_X5_readAmount
  rcases hA p z m S σ τ FU FU m r hV hNT (Nat.le_refl _) hr (by omega) (by omega) with hx | ⟨s2, t2, p2, z2, R, K2, g1, g2, V2, F2, C2, G2, ⟨g3, g3z⟩, g4, g5, g6, g7, g8⟩
  · exact Or.inl hx
  right
  obtain ⟨K3, rfl⟩ : ∃ K3, K2 = K3 + 1 := ⟨K2 - 1, by have := V2.2.2.2.2.2.1; omega⟩
  obtain ⟨-, ⟨tM2, e72, e122, e112, e132⟩, ⟨-, -, -, hR2, -⟩, hz2, hmp2, hpn2, -⟩ := id V2
  have hon : F_M_hasOpenSum (nI m) t2 = some (0, t2) := by
    unfold F_M_hasOpenSum
    exact ho_no V2 hn (m + R.length - m) m FU rfl (Nat.le_refl _) (by omega) (FU_lt (by omega))
  obtain ⟨t3, k1, V3, F3, C3⟩ := closes_eq hn hNT R z2 FU t2 V2 g6 (FU_lt (by omega))
  have h138 : J_M_readsSum_138 (nI m) t2 = some (1, t3) := by
    unfold J_M_readsSum_138 F_M_closesSums
    rw [hon, ob]
    dsimp only
    rw [if_pos rfl, show L_M_closesSums_0 FU 1 t2 = _ from k1, ob]
  have eaf : afP m (K3 + 1) t2 = some (1, t3) := by
    show B_M_readsSum_14 _ (fun x1 σ => L_M_readsSum_14 J_M_readsSum_138 K3 x1 σ) (nI m) t2 = _
    unfold B_M_readsSum_14
    rw [M_here tM2 e72 hpn2, ob]
    dsimp only
    rw [M_ssN g7 g8, ob]
    dsimp only
    rw [if_pos rfl, M_here tM2 e72 hpn2, ob]
    dsimp only
    rw [hon, ob]
    dsimp only
    rw [if_pos rfl, h138, ite_self]
  exact ⟨s2, t3, p2, z2 + R.length, g1, g2.trans eaf, V3, F2.tr F3 g3z, C2.tr F3 C3, G2, g3, by omega, by omega⟩
end
