-- the law as a text: factors, terms, amounts
theorem M_opens {m o p x : Nat} {τ : Hp} (e11 : τ 0 11 = nI o) (ho : o < 6) (e13 : τ 0 13 = nI m) (hm : m < 260) (e7 : τ 0 7 = nI p) (a : Int32) (ha : a = nI x) : F_M_opens a τ = some (1, zu (zu (zu (zu τ 0 11 (nI (o + 1))) 8 m (nI (en (x, 0)))) 0 13 (nI (m + 1))) 0 7 (nI (p + 1))) := by
  subst ha
  unfold F_M_opens
  rw [if_neg (show ¬ τ 0 11 = (6 : Int32) by rw [e11]; exact nI_lit (k := 6) (by omega) (by omega) (by omega))]
  simp (disch := omega) only [zu_ne, zu_self, upd_s, upd_ne, e11, e13, e7, nI_clamp, inb_nI, gd_tt, nI_1, en0]
theorem M_opens6 {p : Nat} {τ : Hp} (e11 : τ 0 11 = nI 6) (e7 : τ 0 7 = nI p) (a : Int32) : F_M_opens a τ = some (0, zu τ 0 9 (-1000 * 5 - nI p)) := by
  unfold F_M_opens
  rw [if_pos (show τ 0 11 = (6 : Int32) from e11), M_wrA, ob, e7]
  dsimp only
  rw [gdz]
theorem M_ssN {x : Int32} (h1 : ¬ mul3 x) (h2 : ¬ add2 x) (τ : Hp) : F_M_sumSign x τ = some (-1, τ) := by
  unfold F_M_sumSign
  rw [if_neg (fun e => h2 (Or.inl e)), if_neg (fun e => h2 (Or.inr e)), if_neg (fun e => h1 (Or.inl e)), if_neg (fun e => h1 (Or.inr (Or.inl e))), if_neg (fun e => h1 (Or.inr (Or.inr e)))]
theorem M_ssM {x : Int32} (h : mul3 x) (τ : Hp) : ∃ s, 4 ≤ s ∧ s ≤ 6 ∧ x = sgn s ∧ F_M_sumSign x τ = some (nI s, τ) := by
  rcases h with rfl | rfl | rfl
  · exact ⟨4, by omega, by omega, rfl, rfl⟩
  · exact ⟨5, by omega, by omega, rfl, rfl⟩
  · exact ⟨6, by omega, by omega, rfl, rfl⟩
theorem M_ssA {x : Int32} (h : add2 x) (τ : Hp) : ∃ s, 2 ≤ s ∧ s ≤ 3 ∧ x = sgn s ∧ F_M_sumSign x τ = some (nI s, τ) := by
  rcases h with rfl | rfl
  · exact ⟨2, by omega, by omega, rfl, rfl⟩
  · exact ⟨3, by omega, by omega, rfl, rfl⟩
theorem Cr.at {L a z p : Nat} {σ τ τ2 : Hp} (h : Cr L a z σ τ) (hL : L = 42 ∨ L = 51) (h7 : τ2 7 = τ 7) : Cr L a z (zu σ 23 3 (nI p)) τ2 := fun k h1 h2 => by
  rw [zu_ne _ _ _ (by omega), zu_ne _ _ _ (by omega), h7]; exact h k h1 h2
theorem Seg.at {L a b p : Nat} {σ : Hp} {r r' : List Bool} (h : Seg (σ (L + 1)) (σ (L + 2)) a b r r') (hL : L = 42 ∨ L = 51) : Seg (zu σ 23 3 (nI p) (L + 1)) (zu σ 23 3 (nI p) (L + 2)) a b r r' := by
  rw [zu_ne _ _ _ (by omega), zu_ne _ _ _ (by omega)]; exact h
theorem C_closing {w : Nat → Int32} {n p : Nat} {σ : Hp} (h : TxC w n σ) (e : σ 23 3 = nI p) (hp : p ≤ n) (x : Int32) : F_X5_readClosing x σ = if wa w n p = x then some (1, zu σ 23 3 (nI (p + 1))) else some (0, zu σ 23 4 (-1000 * 1 - nI p)) := by
  unfold F_X5_readClosing
  rw [C_takes h e hp]
  by_cases q : wa w n p = x
  · rw [if_pos q, if_pos q, ob]
    dsimp only
    rw [if_neg (by decide)]
  · rw [if_neg q, if_neg q, ob]
    dsimp only
    rw [if_pos rfl, C_refu, ob, e]
    dsimp only
    rw [if_pos rfl]
section
variable {L n o : Nat} {w : Nat → Int32}
theorem factor_eq (hn : n ≤ 240) (hb : ∀ i, i < n → ∃ r : Nat, r < 256 ∧ w i = nI r) {fA : Int32 → Hp → Option (Int32 × Hp)} (hA : o < 6 → SpA L n w (o + 1) fA) : SpF L n w o (F_X5_readFactor fA) := by
  intro p z m S σ τ N K base r hV hbm hr hN hK
  obtain ⟨⟨hL, e60, tC, e23, e9⟩, ⟨tM, e7, e12, e11, e13⟩, ⟨hS, -⟩, hz, hmp, hpn, ho⟩ := id hV
  have e9 : σ L 9 = nI z := e9
  have e13 : τ 0 13 = nI m := e13
  have hz : z ≤ p := hz
  have ch := C_here tC e23 hpn
  have mh := M_here tM e7 hpn
  obtain ⟨N1, rfl⟩ : ∃ N1, N = N1 + 1 := ⟨N - 1, by omega⟩
  obtain ⟨cnt', hcnt⟩ : ∃ c : Int32 × Hp → Option (Int32 × Hp), c = fun q => if q.1 = 0 then some (0, q.2) else afP base K q.2 := ⟨_, rfl⟩
  have cnt0 : ∀ t, cnt' (0, t) = some (0, t) := fun t => by rw [hcnt]; dsimp only; rw [if_pos rfl]
  have cnt1 : ∀ t, cnt' (1, t) = afP base K t := fun t => by rw [hcnt]; dsimp only; rw [if_neg (by decide)]
  have efs : fsP base (N1 + 1) K τ = (B_M_readsFactor_0 J_M_readsFactor_20 (fun σ => L_M_readsFactor_0 J_M_readsFactor_20 N1 σ) τ).bind cnt' := by rw [hcnt]; rfl
  have efs1 : ∀ t, (L_M_readsFactor_0 J_M_readsFactor_20 N1 t).bind cnt' = fsP base N1 K t := fun t => by rw [hcnt]; rfl
  have isl : isL (Int32.toNatClampNeg (nI L)) = true := by rw [nI_clamp (by omega)]; exact isL_of hL
  have clL : Int32.toNatClampNeg (nI L) = L := nI_clamp (by omega)
  rw [efs]
  unfold F_X5_readFactor B_M_readsFactor_0
  rw [ch, mh, ob, ob]
  dsimp only
  by_cases c91 : wa w n p = 91
  · have hlt : p < n := wa_lt (w := w) (by rw [c91]; decide)
    rw [if_pos c91, if_pos c91]
    by_cases ho6 : o < 6
    rotate_left
    · have ho' : o = 6 := by omega
      rw [if_neg (show ¬ nI o < (6 : Int32) from nI_nlt (b := 6) (by omega) (by omega)), C_refu, ob, M_opens6 (by rw [e11, ho']) e7, ob]
      dsimp only
      rw [gdz, if_pos rfl, ob, cnt0]
      exact Or.inl ⟨-1000 * 5 - nI p, _, _, rfl, rfl, LwG.rf.z23 hL, by rw [zu_self, upd_s, e23], LwF.rf.zu0 (by decide), by rw [zu_self, upd_s]⟩
    rw [if_pos (show nI o < (6 : Int32) from nI_lt (b := 6) ho6 (by omega)), e23, nI_1, nI_1, M_opens (x := 14) e11 ho6 e13 (by omega) e7 14 rfl, ob]
    dsimp only
    rw [if_neg (show ¬ (1 : Int32) = 0 by decide), efs1]
    obtain ⟨τ1, hτ1⟩ : ∃ τ1, τ1 = zu (zu (zu (zu τ 0 11 (nI (o + 1))) 8 m (nI (en (14, 0)))) 0 13 (nI (m + 1))) 0 7 (nI (p + 1)) := ⟨_, rfl⟩
    rw [← hτ1]
    have V1 : Vw L n w (p + 1) z (o + 1) (m + 1) (psh S m (14, 0)) [] (zu σ 23 3 (nI (p + 1))) τ1 := by
      refine hV.push hlt (e := (14, 0)) (by show 14 ≤ 14; omega) (by show 0 < 1048576; omega) (by omega) ?_ ?_ ?_ ?_ ?_ ?_ ?_
      all_goals rw [hτ1]
      · rw [zu_self, upd_s]
      · simp (disch := omega) only [zu_ne, zu_self, upd_ne]
      · simp (disch := omega) only [zu_ne, zu_self, upd_ne]
      · simp (disch := omega) only [zu_ne, zu_self, upd_ne, upd_s]
      · simp (disch := omega) only [zu_ne, zu_self, upd_ne, upd_s]
      · simp (disch := omega) only [zu_ne, zu_self]
      · simp (disch := omega) only [zu_ne]
    have F1 : Fm L z σ τ (zu σ 23 3 (nI (p + 1))) τ1 := by
      refine Fm.rf.at hL ?_ ?_
      · rw [hτ1]; exact (((LwF.rf.zu0 (by decide)).zuk (Or.inr rfl)).zu0 (by decide)).zu0 (by decide)
      · rw [hτ1]; simp (disch := omega) only [zu_ne]
    have nt : NT true (m + 1) (psh S m (14, 0)) := Or.inr (by
      rw [show m + 1 - 1 = m by omega, psh_s]
      rintro (⟨h1, h2⟩ | ⟨_, h | h⟩)
      · exact absurd h2 (by decide)
      · exact absurd h (by decide)
      · exact absurd h (by decide))
    rcases hA ho6 (p + 1) z (m + 1) (psh S m (14, 0)) (zu σ 23 3 (nI (p + 1))) τ1 N1 K base r V1 nt (by omega) (by omega) (by omega) (by omega) with hx | ⟨s2, t2, p2, z2, R, K2, g1, g2, V2, F2, C2, G2, ⟨g3, g3z⟩, g4, g5, g6, g7, g8⟩
    · left
      obtain ⟨f, s', t', h1, h2, h3⟩ := LwX.tr F1 hx
      exact ⟨f, s', t', by rw [h1, ob]; dsimp only; rw [if_pos rfl], h2, h3⟩
    rw [g1, g2, ob]
    dsimp only
    obtain ⟨⟨-, -, tC2, e232, -⟩, ⟨tM2, e72, e122, e112, e132⟩, ⟨-, -, -, hR2, -⟩, hz2, hmp2, hpn2, -⟩ := id V2
    obtain ⟨K3, rfl⟩ : ∃ K3, K2 = K3 + 1 := ⟨K2 - 1, by omega⟩
    have mh2 := M_here tM2 e72 hpn2
    have eaf : afP base (K3 + 1) t2 = B_M_readsSum_14 J_M_readsSum_138 (fun x1 σ => L_M_readsSum_14 J_M_readsSum_138 K3 x1 σ) (nI base) t2 := rfl
    have hoy : F_M_hasOpenSum (nI base) t2 = some (1, t2) := by
      unfold F_M_hasOpenSum
      exact ho_yes V2 hn (j := m) (by omega) (by rw [psh_s]) (m - base) base FU rfl hbm (FU_lt (by omega))
    rw [if_neg (show ¬ (1 : Int32) = 0 by decide), C_closing tC2 e232 hpn2, eaf]
    unfold B_M_readsSum_14
    rw [mh2, ob]
    dsimp only
    rw [M_ssN g7 g8, ob]
    dsimp only
    rw [if_pos rfl, mh2, ob]
    dsimp only
    by_cases c93 : wa w n p2 = 93
    rotate_left
    · rw [if_neg c93, if_neg c93, ob]
      dsimp only
      rw [if_pos rfl]
      unfold J_M_readsSum_138
      rw [hoy, ob]
      dsimp only
      rw [if_neg (show ¬ (1 : Int32) = 0 by decide), M_wrA, ob]
      dsimp only
      rw [gdz]
      exact Or.inl ⟨-1000 * 1 - nI p2, _, _, rfl, rfl, (F1.1.tr F2.1).z23 hL, by rw [zu_self, upd_s], (F1.2.1.tr F2.2.1).zu0 (by decide), by rw [zu_self, upd_s, e72]⟩
    have hlt2 : p2 < n := wa_lt (w := w) (by rw [c93]; decide)
    rw [if_pos c93, if_pos c93, ob, hoy, ob]
    dsimp only
    rw [if_neg (show ¬ (1 : Int32) = 0 by decide), if_neg (show ¬ (1 : Int32) = 0 by decide)]
    obtain ⟨t3, k1, V3, F3, C3⟩ := closes_eq hn nt R z2 FU t2 V2 g6 (FU_lt (by omega))
    unfold F_M_closesSums
    rw [show L_M_closesSums_0 FU 1 t2 = _ from k1, ob]
    obtain ⟨-, ⟨-, e73, e123, e113, e133⟩, -⟩ := id V3
    have e133 : t3 0 13 = nI (m + 1) := e133
    simp (disch := omega) only [zu_ne, zu_self, upd_ne, upd_s, e133, e113, e73, nI_pred, nI_1]
    obtain ⟨t4, ht4⟩ : ∃ t4, t4 = zu (zu (zu t3 0 13 (nI m)) 0 11 (nI o)) 0 7 (nI (p2 + 1)) := ⟨_, rfl⟩
    rw [← ht4]
    have V4 : Vw L n w (p2 + 1) (z2 + R.length) o m S [] (zu s2 23 3 (nI (p2 + 1))) t4 := by
      refine V3.pop hlt2 (fun i hi => psh_ne (by omega)) ho ?_ ?_ ?_ ?_ ?_ ?_ ?_
      all_goals rw [ht4]
      · rw [zu_self, upd_s]
      · simp (disch := omega) only [zu_self, upd_ne]
      · simp (disch := omega) only [zu_self, upd_ne]
      · simp (disch := omega) only [zu_self, upd_ne, upd_s]
      · simp (disch := omega) only [zu_self, upd_ne, upd_s]
      · simp (disch := omega) only [zu_ne]
      · simp (disch := omega) only [zu_ne]
    have t47 : t4 7 = t3 7 := by rw [ht4]; simp (disch := omega) only [zu_ne]
    have F4 : Fm L z σ τ (zu s2 23 3 (nI (p2 + 1))) t4 := by
      refine ((F1.tr F2 (Nat.le_refl _)).tr F3 ?_).at hL ?_ t47
      · exact g3z
      · rw [ht4]; exact ((LwF.rf.zu0 (by decide)).zu0 (by decide)).zu0 (by decide)
    exact Or.inr ⟨zu s2 23 3 (nI (p2 + 1)), t4, p2 + 1, z2 + R.length, [], K3, rfl, rfl, V4, F4, (C2.tr F3 C3).at hL t47, G2.at hL, ⟨by omega, by omega⟩, by show z2 + R.length + 0 + p ≤ _; omega, by omega, rfl⟩
  · rw [if_neg c91, if_neg c91, C_digit tC e23 hpn, ob]
    dsimp only
    unfold J_M_readsFactor_20
    rw [M_isDigit tM e7 hpn, ob]
    dsimp only
    rw [b2_ite]
    by_cases hd : dgt (wa w n p) = true
    · have hlt := dgt_lt hd
      obtain ⟨d, hd9, ed', ed⟩ := dgt_of hd
      rw [if_pos hd, if_pos hd, ed, if_neg (nI_m1 (by omega))]
      unfold F_M_readsNumber
      rw [e7]
      have nq := number_C (m := 5) (by omega) (by omega) tC tM e23 e7 hpn hd (fun N t => L_M_readsNumber_10 J_M_readsNumber_27 N (nI p) t) (M_num5 hpn)
      have fT : ∀ {s'}, FrT σ s' → LwG L σ s' ∧ s' L 9 = nI z ∧ s' 60 1 = nI L := fun {s'} f => ⟨⟨fun k hk => f.1 k (fun e => hk (by rw [e]; simp)), fun j hj => by rw [f.1 L (by omega)]⟩, by rw [f.1 L (by omega)]; exact e9, by rw [f.1 60 (by decide)]; exact e60⟩
      have fN : ∀ {t'}, FrN [7, 9, 10] τ t' → LwF τ t' := fun {t'} f => ⟨fun k hk => f.1 k (fun e => hk (by rw [e]; decide)), fun j hj => f.2 j (by revert hj; simp only [List.mem_cons, List.not_mem_nil, or_false]; omega)⟩
      rcases nq with ⟨q, s', t', n1, n2, e1, e2, f1, f2, e3, e4⟩ | ⟨q, v, s', t', n1, n2, n3, e1, e2, f1, f2, e3, e4, e5, e6⟩
      · obtain ⟨y1, y2, y3⟩ := fT f1
        rw [show F_X8_number 5 σ = _ from e1, show L_M_readsNumber_10 J_M_readsNumber_27 FU (nI p) (zu τ 0 10 0) = _ from e2, ob, ob]
        dsimp only
        rw [if_pos rfl, ob, cnt0, y3, gd_true isl, clL, C_add y2 (by omega), ob]
        dsimp only
        rw [if_pos (by decide)]
        refine Or.inl ⟨-1000 * 2 - nI q, _, t', rfl, rfl, ⟨((y1.1.zu (by simp)).zu (by simp)).zu (by simp), fun j hj => ?_⟩, ?_, fN f2, e4⟩
        · rw [zu_self, upd_ne _ _ hj, zu_ne _ _ _ (by omega), zu_ne _ _ _ (by omega)]; exact y1.2 j hj
        · simp (disch := omega) only [zu_ne]; exact e3
      · obtain ⟨y1, y2, y3⟩ := fT f1
        rw [show F_X8_number 5 σ = _ from e1, show L_M_readsNumber_10 J_M_readsNumber_27 FU (nI p) (zu τ 0 10 0) = _ from e2, ob, ob]
        dsimp only
        have e12' : t' 0 12 = nI z := by rw [f2.2 12 (by decide)]; exact e12
        rw [if_neg (show ¬ (1 : Int32) = 0 by decide), y3, gd_true isl, clL, C_add y2 (by omega), ob, e5, M_notes e12' (by omega), ob, ob, cnt1]
        dsimp only
        rw [if_neg (nI_pos (by omega))]
        have V' : Vw L n w q z o m S [] s' t' := by
          refine ⟨⟨hL, y3, tC.fr f1, e3, y2⟩, ⟨tM.fr f2 (by decide), e4, e12', by rw [f2.2 11 (by decide)]; exact e11, by rw [f2.2 13 (by decide)]; exact e13⟩, ⟨fun i hi => by rw [f2.1 8 (by decide)]; exact hS i hi, trivial, trivial, by simp, by simp⟩, by show z ≤ q; omega, by omega, n2, ho⟩
        have F' : Fm L z σ τ s' t' := ⟨y1, fN f2, fun k hk => by rw [f1.1 (L + 1) (by omega), f1.1 (L + 2) (by omega), f2.1 7 (by decide)]; exact ⟨rfl, rfl, rfl⟩⟩
        refine Or.inr ⟨_, _, q, z + 1, [], K, rfl, rfl, V'.code (by omega) hn 110 (nI v) 0 (nI v), F'.tr (Fm.code hL 110 (nI v) 0 (nI v)) (Nat.le_refl _), Cr.code hL ⟨v, by omega, rfl, rfl, Or.inl rfl⟩, ?_, ⟨by omega, by omega⟩, by show z + 1 + 0 + p ≤ _; omega, by omega, rfl⟩
        refine Seg.one (by omega) (Or.inl ⟨Or.inl ?_, rfl⟩)
        simp (disch := omega) only [zu_ne, zu_self, upd_s]
    · rw [if_neg hd, if_neg hd, if_pos rfl, ch, ob, mh, ob]
      dsimp only
      rw [M_factOf, ob]
      dsimp only
      have bad : fac (wa w n p) = -1 → LwX L σ τ (J_X5_readFactor_134 fA (-1) σ) ((if fac (wa w n p) = -1 then ((F_M_wrongAt 1 (τ 0 7) τ).bind fun q66 => gd (isb q66.1) (some (q66.1, q66.2))) else ((F_M_notes 1 (fac (wa w n p)) τ).bind fun q73 => some (1, zu q73 0 7 (q73 0 7 + 1)))).bind cnt') := by
        intro hf
        rw [if_pos hf, M_wrA, ob]
        dsimp only
        rw [gdz, ob, cnt0]
        unfold J_X5_readFactor_134
        rw [if_neg (by decide), C_refu, ob]
        dsimp only
        rw [gdz]
        exact ⟨-1000 * 1 - nI p, _, _, rfl, rfl, LwG.rf.z23 hL, by rw [zu_self, upd_s, e23], LwF.rf.zu0 (by decide), by rw [zu_self, upd_s, e7]⟩
      by_cases hlt : p < n
      rotate_left
      · have hw : wa w n p = -1 := wa_out (by omega)
        rw [if_pos hw]
        exact Or.inl (bad (by rw [hw]; decide))
      obtain ⟨rr, hrr, er⟩ := hb p hlt
      have ew : wa w n p = nI rr := by rw [wa_in hlt, er]
      rw [if_neg (by rw [ew]; exact nI_m1 (by omega)), ch, ob]
      dsimp only
      rw [show sidx (UInt32.toInt32 (Int32.toUInt32 (wa w n p) % 65536)) = fac (wa w n p) by rw [ew, fac_sidx rr hrr]]
      rcases fac_v rr hrr with hf | ⟨hf1, hf2⟩
      · have hf' : fac (wa w n p) = -1 := by rw [ew]; exact hf
        have := bad hf'
        rw [hf'] at this ⊢
        exact Or.inl this
      obtain ⟨v, hv⟩ : ∃ v, v = (fac (nI rr)).toNatClampNeg := ⟨_, rfl⟩
      rw [← hv] at hf1 hf2
      rw [ew, hf2, if_neg (nI_m1 (by omega)), M_notes e12 (by omega), ob, ob, cnt1]
      unfold J_X5_readFactor_134
      rw [if_pos (nI_pos' (by omega)), e23, nI_1, zu_ne _ _ _ (by decide), e60, gd_true isl, clL, C_add (by rw [zu_ne _ _ _ (by omega)]; exact e9) (by omega), ob]
      dsimp only
      rw [show zu (zu τ 7 z (1048576 * 1 + nI v)) 0 12 (nI (z + 1)) 0 7 = nI p by simp (disch := omega) only [zu_ne, zu_self, upd_ne]; exact e7, nI_1]
      have V1 : Vw L n w (p + 1) z o m S [] (zu σ 23 3 (nI (p + 1))) (zu τ 0 7 (nI (p + 1))) := by
        refine ⟨⟨hL, by rw [zu_ne _ _ _ (by decide)]; exact e60, tC.fr (FrT.rf.zu (Or.inl rfl)), by rw [zu_self, upd_s], by rw [zu_ne _ _ _ (by omega)]; exact e9⟩, ⟨⟨tM.1, by rw [zu_self, upd_ne _ _ (by decide)]; exact tM.2.1, fun i hi => by rw [zu_ne _ _ _ (by decide)]; exact tM.2.2 i hi⟩, by rw [zu_self, upd_s], by rw [zu_self, upd_ne _ _ (by decide)]; exact e12, by rw [zu_self, upd_ne _ _ (by decide)]; exact e11, by rw [zu_self, upd_ne _ _ (by decide)]; exact e13⟩, ⟨fun i hi => by rw [zu_ne _ _ _ (by decide)]; exact hS i hi, trivial, trivial, by simp, by simp⟩, by show z ≤ p + 1; omega, by omega, by omega, ho⟩
      have F1 : Fm L z σ τ (zu σ 23 3 (nI (p + 1))) (zu τ 0 7 (nI (p + 1))) := Fm.rf.at hL (LwF.rf.zu0 (by decide)) (zu_ne _ _ _ (by decide))
      have eswap : zu (zu (zu τ 7 z (1048576 * 1 + nI v)) 0 12 (nI (z + 1))) 0 7 (nI (p + 1)) = zu (zu (zu τ 0 7 (nI (p + 1))) 7 z (1048576 * 1 + nI v)) 0 12 (nI (z + 1)) := by
        funext k i
        simp only [zu_ap, upd_ap]
        by_cases k0 : k = 0
        · simp only [k0, if_true, upd_ap]
          by_cases i7 : i = 7
          · simp [i7, upd_ap]
          · by_cases i12 : i = 12
            · simp [i12, upd_ap]
            · simp [i7, i12, upd_ap]
        · simp [k0]
      rw [eswap]
      refine Or.inr ⟨_, _, p + 1, z + 1, [], K, rfl, rfl, V1.code (by omega) hn 108 (nI v) 1 (nI v), F1.tr (Fm.code hL 108 (nI v) 1 (nI v)) (Nat.le_refl _), Cr.code hL ⟨v, by omega, rfl, rfl, Or.inr (Or.inl ⟨rfl, hf1⟩)⟩, ?_, ⟨by omega, by omega⟩, by show z + 1 + 0 + p ≤ _; omega, by omega, rfl⟩
      refine Seg.one (by omega) (Or.inl ⟨Or.inr ?_, rfl⟩)
      simp (disch := omega) only [zu_ne, zu_self, upd_s]
end
