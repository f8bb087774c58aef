-- the law as a text: the whole call
section
variable {L n p z i : Nat} {w : Nat → Int32} {σ0 τ0 σ τ : Hp}
theorem rule_eq (hn : n ≤ 240) (hb : ∀ i, i < n → ∃ r : Nat, r < 256 ∧ w i = nI r) (hV : Lv L n w σ0 τ0 p z i σ τ) (hi : i < 16) (hlt : p < n) {c : Int32} (hc : c = 98 ∨ c = 116 ∨ c = 119 ∨ c = 120) :
    RuX L σ0 τ0 (F_X5_readRule (nI i) c σ) (J_M_readsRule_39 c τ) ∨ ∃ (σ' τ' : Hp) (p' z' : Nat), F_X5_readRule (nI i) c σ = some (1, σ') ∧ J_M_readsRule_39 c τ = some (1, τ') ∧ Lv L n w σ0 τ0 p' z' (i + 1) σ' τ' ∧ p < p' := by
  obtain ⟨⟨gC, gM⟩, ⟨hL, e60, tC, e23, e9, e8⟩, ⟨tM, e7, e12, e14⟩, ⟨hz, hpn, hi16⟩, hru⟩ := hV
  have isl : isL (Int32.toNatClampNeg (nI L)) = true := by rw [nI_clamp (by omega)]; exact isL_of hL
  have clL : Int32.toNatClampNeg (nI L) = L := nI_clamp (by omega)
  have islL : isL L = true := isL_of hL
  unfold F_X5_readRule J_M_readsRule_39
  rw [if_neg (nI_pos (by omega)), if_pos (show nI i < (16 : Int32) from nI_lt (b := 16) hi (by omega)), if_neg (show ¬ τ 0 14 = (16 : Int32) by rw [e14]; exact nI_lit (k := 16) (by omega) (by omega) (by omega))]
  simp (disch := omega) only [zu_ne, zu_self, upd_ne, upd_s, e60, e23, e9, e14, e7, e12, clL, islL, gd_tt, inb_nI, nI_clamp, nI_1]
  obtain ⟨σ3, hσ3⟩ : ∃ σ3, σ3 = zu (zu (zu σ 23 3 (nI (p + 1))) (L + 3) i c) (L + 4) i (nI z) := ⟨_, rfl⟩
  obtain ⟨τ4, hτ4⟩ : ∃ τ4, τ4 = zu (zu (zu (zu (zu τ 9 i c) 0 7 (nI (p + 1))) 10 i (nI z)) 0 11 0) 0 13 0 := ⟨_, rfl⟩
  rw [← hσ3, ← hτ4]
  have gC3 : GC L σ0 σ3 := by rw [hσ3]; exact Ag.zu (Ag.zu (Ag.zu gC (by simp)) (by simp)) (by simp)
  have gM4 : GM τ0 τ4 := by rw [hτ4]; exact ((((gM.zk (by decide)).z0 (by decide)).zk (by decide)).z0 (by decide)).z0 (by decide)
  have s3k : ∀ k, k ≠ 23 → k ≠ L + 3 → k ≠ L + 4 → σ3 k = σ k := fun k h1 h2 h3 => by rw [hσ3, zu_ne _ _ _ h3, zu_ne _ _ _ h2, zu_ne _ _ _ h1]
  have t4k : ∀ k, k ≠ 0 → k ≠ 9 → k ≠ 10 → τ4 k = τ k := fun k h1 h2 h3 => by rw [hτ4]; simp (disch := omega) only [zu_ne]
  have t40 : ∀ j, j ≠ 7 → j ≠ 11 → j ≠ 13 → τ4 0 j = τ 0 j := fun j h1 h2 h3 => by rw [hτ4]; simp (disch := omega) only [zu_ne, zu_self, upd_ne]
  have V4 : Vw L n w (p + 1) z 0 0 (fun _ => (0, 0)) [] σ3 τ4 := by
    refine ⟨⟨hL, by rw [s3k 60 (by omega) (by omega) (by omega)]; exact e60, ⟨tC.1, ?_, fun j hj => by rw [s3k 24 (by omega) (by omega) (by omega)]; exact tC.2.2 j hj⟩, ?_, by rw [s3k L (by omega) (by omega) (by omega)]; exact e9⟩, ⟨⟨tM.1, by rw [t40 8 (by decide) (by decide) (by decide)]; exact tM.2.1, fun j hj => by rw [t4k 6 (by decide) (by decide) (by decide)]; exact tM.2.2 j hj⟩, ?_, by rw [t40 12 (by decide) (by decide) (by decide)]; exact e12, ?_, ?_⟩, ⟨fun j hj => absurd hj (by omega), trivial, trivial, by simp, by simp⟩, ?_, by omega, by omega, by omega⟩
    · rw [hσ3]; simp (disch := omega) only [zu_ne, zu_self, upd_ne]; exact tC.2.1
    · rw [hσ3]; simp (disch := omega) only [zu_ne, zu_self, upd_s]
    · rw [hτ4]; simp (disch := omega) only [zu_ne, zu_self, upd_ne, upd_s]
    · rw [hτ4]; simp (disch := omega) only [zu_ne, zu_self, upd_ne, upd_s]; rfl
    · rw [hτ4]; simp (disch := omega) only [zu_self, upd_s]; rfl
    · show z ≤ p + 1; omega
  have ru3 : ∀ j, j < i → RU L z j σ3 τ4 := fun j hj => by
    refine (hru j hj).keep (Nat.le_refl _) ?_ ?_ ?_ ?_ ?_ ?_ ?_ ?_ (fun k hk => ⟨?_, ?_, ?_⟩)
    · rw [hσ3]; simp (disch := omega) only [zu_ne, zu_self, upd_ne]
    · rw [hσ3]; simp (disch := omega) only [zu_ne, zu_self, upd_ne]
    · rw [s3k _ (by omega) (by omega) (by omega)]
    · rw [s3k _ (by omega) (by omega) (by omega)]
    · rw [hτ4]; simp (disch := omega) only [zu_ne, zu_self, upd_ne]
    · rw [hτ4]; simp (disch := omega) only [zu_ne, zu_self, upd_ne]
    · rw [t4k _ (by omega) (by omega) (by omega)]
    · rw [t4k _ (by omega) (by omega) (by omega)]
    · rw [s3k _ (by omega) (by omega) (by omega)]
    · rw [s3k _ (by omega) (by omega) (by omega)]
    · rw [t4k _ (by omega) (by omega) (by omega)]
  have r3 : σ3 (L + 3) i = c := by rw [hσ3]; simp (disch := omega) only [zu_ne, zu_self, upd_s]
  have r4 : σ3 (L + 4) i = nI z := by rw [hσ3]; simp (disch := omega) only [zu_self, upd_s]
  have r9 : τ4 9 i = c := by rw [hτ4]; simp (disch := omega) only [zu_ne, zu_self, upd_s]
  have r10 : τ4 10 i = nI z := by rw [hτ4]; simp (disch := omega) only [zu_ne, zu_self, upd_s]
  have r14 : τ4 0 14 = nI i := by rw [t40 14 (by decide) (by decide) (by decide)]; exact e14
  by_cases q : c = 120
  · rw [if_pos q, if_pos q]
    rcases half_eq hn hb V4 gC3 gM4 hi r14 (Nat.le_refl _) ru3 r3 r9 hc r4 r10 Cr.nil (Or.inl q) with h | ⟨s', t', p', z', h1, h2, h3, h4⟩
    · exact Or.inl h
    · exact Or.inr ⟨s', t', p', z', h1, h2, h3, by omega⟩
  rw [if_neg q, if_neg q]
  rcases sum_eq (r := []) hn hb V4 (Or.inl rfl) (by simp) with ⟨f, s', t', y1, y2, y3, y4, y5, y6⟩ | ⟨s5, t5, p5, z5, h1, h2, V5, F5, C5, G5, b1, b2', b3⟩
  · left
    rw [show D_X5_readAmount 0 σ3 = _ from y1, y2, ob, ob]
    dsimp only
    rw [if_pos rfl, if_pos rfl]
    exact ⟨f, s', t', rfl, rfl, gC3.lw y3, y4, gM4.lw y5, y6⟩
  rw [show D_X5_readAmount 0 σ3 = _ from h1, h2, ob, ob]
  dsimp only
  rw [if_neg (show ¬ (1 : Int32) = 0 by decide), if_neg (show ¬ (1 : Int32) = 0 by decide)]
  rcases half_eq (zs := z) (c := c) hn hb V5 (gC3.lw F5.1) (gM4.lw F5.2.1) hi (by rw [F5.2.1.2 14 (by decide)]; exact r14) b2' (fun j hj => (ru3 j hj).keep (Nat.le_refl _) (by rw [F5.row hL (by omega)]) (by rw [F5.row hL (by omega)]) (by rw [F5.row hL (by omega)]) (by rw [F5.row hL (by omega)]) (by rw [F5.rowM (by omega)]) (by rw [F5.rowM (by omega)]) (by rw [F5.rowM (by omega)]) (by rw [F5.rowM (by omega)]) F5.2.2) (by rw [F5.row hL (by omega)]; exact r3) (by rw [F5.rowM (by omega)]; exact r9) hc (by rw [F5.row hL (by omega)]; exact r4) (by rw [F5.rowM (by omega)]; exact r10) C5 (Or.inr G5) with h | ⟨s', t', p', z', h1, h2, h3, h4⟩
  · exact Or.inl h
  · exact Or.inr ⟨s', t', p', z', h1, h2, h3, by omega⟩
end
theorem l31z (K : Nat) (τ : Hp) : L_M_law_31 J_M_law_71 (K + 1) 0 τ = J_M_law_71 0 τ := by
  show B_M_law_31 _ _ 0 τ = _
  unfold B_M_law_31
  rw [if_pos rfl]
def LaX (L : Nat) (σ0 τ0 : Hp) (r r' : Option (Int32 × Hp)) : Prop := ∃ (f : Int32) (σ' τ' : Hp), r = some (0, σ') ∧ r' = J_M_law_71 0 τ' ∧ GC L σ0 σ' ∧ σ' 23 4 = f ∧ GM τ0 τ' ∧ τ' 0 9 = f
def LaY (L n : Nat) (w : Nat → Int32) (σ0 τ0 : Hp) (r r' : Option (Int32 × Hp)) : Prop := ∃ (p z i : Nat) (σ' τ' : Hp), r = some (1, σ') ∧ r' = J_M_law_71 1 τ' ∧ Lv L n w σ0 τ0 p z i σ' τ'
def lett (c : Int32) : Prop := c = 98 ∨ c = 116 ∨ c = 119 ∨ c = 120
theorem law_loop2 {L n : Nat} {w : Nat → Int32} {σ0 τ0 : Hp} (hn : n ≤ 240) (hb : ∀ i, i < n → ∃ r : Nat, r < 256 ∧ w i = nI r) :
    ∀ (k p z i : Nat) (σ τ : Hp) (N K : Nat) (cont : Int32 × Hp → Option (Int32 × Hp)), n - p ≤ k → k < N → k + 2 < K → Lv L n w σ0 τ0 p z i σ τ → (∀ b t, (b = 0 ∨ b = 1) → cont (b, t) = L_M_law_31 J_M_law_71 K b t) → LaX L σ0 τ0 (L_X5_readInto_22 J_X5_readInto_126 J_X5_readInto_80 J_X5_readInto_65 N (nI i) σ) ((F_M_readsRule τ).bind cont) ∨ LaY L n w σ0 τ0 (L_X5_readInto_22 J_X5_readInto_126 J_X5_readInto_80 J_X5_readInto_65 N (nI i) σ) ((F_M_readsRule τ).bind cont) := by
  intro k
  induction k with
  | zero =>
    intro p z i σ τ N K cont hk hN hK hV hct
    obtain ⟨N, rfl⟩ : ∃ N', N = N' + 1 := ⟨N - 1, by omega⟩
    obtain ⟨K, rfl⟩ : ∃ K', K = K' + 1 := ⟨K - 1, by omega⟩
    obtain ⟨⟨gC, gM⟩, ⟨hL, e60, tC, e23, e9, e8⟩, ⟨tM, e7, e12, e14⟩, ⟨hz, hpn, hi16⟩, hru⟩ := hV
    have e : wa w n p = -1 := wa_out (by omega)
    left
    show LaX L σ0 τ0 (B_X5_readInto_22 _ _ _ _ (nI i) σ) _
    unfold B_X5_readInto_22 F_M_readsRule
    rw [if_neg (show ¬ (16 : Int32) < nI i from nI_nlt (a := 16) (by omega) (by omega)), C_here tC e23 hpn, ob, M_here tM e7 hpn, ob]
    dsimp only
    rw [e, if_neg (by decide), if_neg (by decide), if_neg (by decide), if_neg (by decide), if_neg (by decide), if_neg (by decide), if_neg (by decide), if_neg (by decide)]
    unfold J_X5_readInto_65
    rw [C_refu, ob, M_wrA, ob]
    dsimp only
    rw [gdz, gdz, ob, hct 0 _ (Or.inl rfl), l31z]
    exact ⟨-1000 * 1 - nI p, _, _, rfl, rfl, Ag.zu gC (by simp), by rw [zu_self, upd_s, e23], gM.z0 (by decide), by rw [zu_self, upd_s, e7]⟩
  | succ k ih =>
    intro p z i σ τ N K cont hk hN hK hV hct
    obtain ⟨N, rfl⟩ : ∃ N', N = N' + 1 := ⟨N - 1, by omega⟩
    obtain ⟨K, rfl⟩ : ∃ K', K = K' + 1 := ⟨K - 1, by omega⟩
    obtain ⟨Lp, hLp⟩ : ∃ Lp, Lp = fun (x3 : Int32) (σ : Hp) => L_X5_readInto_22 J_X5_readInto_126 J_X5_readInto_80 J_X5_readInto_65 N x3 σ := ⟨_, rfl⟩
    have eL : L_X5_readInto_22 J_X5_readInto_126 J_X5_readInto_80 J_X5_readInto_65 (N + 1) (nI i) σ = B_X5_readInto_22 Lp J_X5_readInto_126 J_X5_readInto_80 J_X5_readInto_65 (nI i) σ := by rw [hLp]; rfl
    rw [eL]
    obtain ⟨⟨gC, gM⟩, ⟨hL, e60, tC, e23, e9, e8⟩, ⟨tM, e7, e12, e14⟩, ⟨hz, hpn, hi16⟩, hru⟩ := id hV
    have main : lett (wa w n p) → LaX L σ0 τ0 (J_X5_readInto_74 Lp J_X5_readInto_126 J_X5_readInto_80 (nI i) (wa w n p) σ) ((J_M_readsRule_39 (wa w n p) τ).bind cont) ∨ LaY L n w σ0 τ0 (J_X5_readInto_74 Lp J_X5_readInto_126 J_X5_readInto_80 (nI i) (wa w n p) σ) ((J_M_readsRule_39 (wa w n p) τ).bind cont) := by
      intro hlt
      have hpn' : p < n := wa_lt (w := w) (by rcases hlt with h | h | h | h <;> rw [h] <;> decide)
      unfold J_X5_readInto_74
      by_cases q : i = 16
      · left
        unfold J_X5_readInto_80 J_M_readsRule_39
        rw [if_pos (show nI i = (16 : Int32) by rw [q]; rfl), if_pos (show τ 0 14 = (16 : Int32) by rw [e14, q]; rfl), C_refu, ob, M_wrA, ob]
        dsimp only
        rw [gdz, gdz, ob, hct 0 _ (Or.inl rfl), l31z]
        exact ⟨-1000 * 4 - nI p, _, _, rfl, rfl, Ag.zu gC (by simp), by rw [zu_self, upd_s, e23], gM.z0 (by decide), by rw [zu_self, upd_s, e7]⟩
      rw [if_neg (show ¬ nI i = (16 : Int32) from nI_lit (k := 16) (by omega) (by omega) q)]
      rcases rule_eq hn hb hV (by omega) hpn' hlt with ⟨f, s', t', h1, h2, h3, h4, h5, h6⟩ | ⟨s', t', p', z', h1, h2, V', h4⟩
      · left
        rw [h1, h2, ob, ob, hct 0 _ (Or.inl rfl), l31z]
        dsimp only
        rw [if_pos rfl]
        exact ⟨f, s', t', rfl, rfl, h3, h4, h5, h6⟩
      rw [h1, h2, ob, ob, hct 1 _ (Or.inr rfl)]
      dsimp only
      obtain ⟨⟨gC', gM'⟩, ⟨-, e60', tC', e23', e9', e8'⟩, ⟨tM', e7', e12', e14'⟩, ⟨hz', hpn2, hi16'⟩, hru'⟩ := id V'
      rw [if_neg (show ¬ (1 : Int32) = 0 by decide), C_here tC' e23' hpn2, ob]
      dsimp only
      have eB : L_M_law_31 J_M_law_71 (K + 1) 1 t' = B_M_law_31 J_M_law_71 (fun x2 σ => L_M_law_31 J_M_law_71 K x2 σ) 1 t' := rfl
      rw [eB]
      unfold B_M_law_31
      rw [if_neg (show ¬ (1 : Int32) = 0 by decide), tM'.2.1, e7']
      by_cases c : p' < n
      rotate_left
      · rw [if_pos (wa_out (by omega)), if_pos (nI_le (by omega) (by omega))]
        exact Or.inr ⟨p', z', i + 1, s', t', rfl, rfl, V'⟩
      rw [if_neg (by
        obtain ⟨r, hr, er⟩ := hb p' c
        rw [wa_in c, er]; exact nI_m1 (by omega)), if_neg (nI_ge c (by omega)), C_takes tC' e23' hpn2, M_takes tM' e7' hpn2]
      by_cases c2 : wa w n p' = 59
      rotate_left
      · left
        rw [if_neg c2, if_neg c2, ob, ob]
        dsimp only
        rw [if_pos rfl, if_pos rfl]
        obtain ⟨K, rfl⟩ : ∃ K', K = K' + 1 := ⟨K - 1, by omega⟩
        rw [l31z]
        unfold J_X5_readInto_126
        rw [C_refu, ob]
        dsimp only
        rw [gdz]
        exact ⟨-1000 * 1 - nI p', _, _, rfl, rfl, Ag.zu gC' (by simp), by rw [zu_self, upd_s, e23'], gM'.z0 (by decide), by rw [zu_self, upd_s]⟩
      rw [if_pos c2, if_pos c2, ob, ob]
      dsimp only
      rw [if_neg (show ¬ (1 : Int32) = 0 by decide), if_neg (show ¬ (1 : Int32) = 0 by decide), nI_1, hLp]
      refine ih (p' + 1) z' (i + 1) (zu s' 23 3 (nI (p' + 1))) (zu t' 0 7 (nI (p' + 1))) N K (fun q56 => if q56.1 = 0 then L_M_law_31 J_M_law_71 K 0 q56.2 else L_M_law_31 J_M_law_71 K 1 q56.2) (by omega) (by omega) (by omega) ⟨⟨Ag.zu gC' (by simp), gM'.z0 (by decide)⟩, ⟨hL, by rw [zu_ne _ _ _ (by decide)]; exact e60', tC'.fr (FrT.rf.zu (Or.inl rfl)), by rw [zu_self, upd_s], by rw [zu_ne _ _ _ (by omega)]; exact e9', by rw [zu_ne _ _ _ (by omega)]; exact e8'⟩, ⟨⟨tM'.1, by rw [zu_self, upd_ne _ _ (by decide)]; exact tM'.2.1, fun j hj => by rw [zu_ne _ _ _ (by decide)]; exact tM'.2.2 j hj⟩, by rw [zu_self, upd_s], by rw [zu_self, upd_ne _ _ (by decide)]; exact e12', by rw [zu_self, upd_ne _ _ (by decide)]; exact e14'⟩, ⟨by omega, by omega, by omega⟩, fun j hj => ?_⟩ (fun b t hbb => ?_)
      · refine (hru' j hj).keep (Nat.le_refl _) ?_ ?_ ?_ ?_ ?_ ?_ ?_ ?_ (fun k _ => ⟨?_, ?_, ?_⟩)
        all_goals rw [zu_ne _ _ _ (by omega)]
      · rcases hbb with rfl | rfl
        · show (if (0 : Int32) = 0 then _ else _) = _
          rw [if_pos rfl]
        · show (if (1 : Int32) = 0 then _ else _) = _
          rw [if_neg (by decide)]
    unfold B_X5_readInto_22 F_M_readsRule
    rw [if_neg (show ¬ (16 : Int32) < nI i from nI_nlt (a := 16) (by omega) (by omega)), C_here tC e23 hpn, ob, M_here tM e7 hpn, ob]
    dsimp only
    by_cases d1 : wa w n p = 98
    · rw [if_pos d1, if_pos d1]; exact main (Or.inl d1)
    rw [if_neg d1, if_neg d1]
    by_cases d2 : wa w n p = 116
    · rw [if_pos d2, if_pos d2]; exact main (Or.inr (Or.inl d2))
    rw [if_neg d2, if_neg d2]
    by_cases d3 : wa w n p = 119
    · rw [if_pos d3, if_pos d3]; exact main (Or.inr (Or.inr (Or.inl d3)))
    rw [if_neg d3, if_neg d3]
    by_cases d4 : wa w n p = 120
    · rw [if_pos d4, if_pos d4]; exact main (Or.inr (Or.inr (Or.inr d4)))
    rw [if_neg d4, if_neg d4]
    unfold J_X5_readInto_65
    rw [C_refu, ob, M_wrA, ob]
    dsimp only
    rw [gdz, gdz, ob, hct 0 _ (Or.inl rfl), l31z]
    exact Or.inl ⟨-1000 * 1 - nI p, _, _, rfl, rfl, Ag.zu gC (by simp), by rw [zu_self, upd_s, e23], gM.z0 (by decide), by rw [zu_self, upd_s, e7]⟩
