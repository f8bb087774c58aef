-- how much more lemonade
theorem lvC_eq {o o' : Nat} {s s' : Hp} {g : Nat} (hg : g < 16) (h1 : s' (o' + 1) g = s (o + 1) g) (h4 : s' (o' + 4) g = s (o + 4) g) (h5 : ∀ i, i < 16 → s' (o' + 5) i = s (o + 5) i) (h22 : s' 22 = s 22) {i : Nat} (hi : i < 11) (n3 : i ≠ 3) (n4 : i ≠ 4) (n9 : i ≠ 9) (n10 : i ≠ 10) : lvC o' s' g i = lvC o s g i := by
  have b : ∀ q, q < 2 → bset (fun c => decide (s' (o' + 5) (8 * q + c) = 0)) = bset (fun c => decide (s (o + 5) (8 * q + c) = 0)) := fun q hq => bset_congr (fun c hc => by rw [h5 _ (by omega)])
  rcases (show i = 0 ∨ i = 1 ∨ i = 2 ∨ i = 5 ∨ i = 6 ∨ i = 7 ∨ i = 8 by omega) with rfl | rfl | rfl | rfl | rfl | rfl | rfl <;> simp only [lvC]
  · exact h1
  · exact h4
  · rw [b _ (by omega)]
  · rw [b _ (by omega)]
  · rw [b _ (by omega), h22]
theorem lvM_eq {t τ : Hp} (h1 : t 1 = τ 1) (h4 : t 4 = τ 4) (h5 : t 5 = τ 5) (g i : Nat) : lvM t g i = lvM τ g i := by
  unfold lvM
  rw [h1, sn_congr h1 h4 h5]
theorem next_C {o : Nat} {s : Hp} {r d : Nat} (h5 : s o 5 = nI r) (hr : r ≤ 5) (h6 : s o 6 = nI d) : ∃ s', F_X10_nextWatch o s = some s' ∧ Ag [o] s s' ∧ s' o 5 = nI (if r < 5 then r + 1 else 0) ∧ s' o 6 = nI (if r < 5 then d else d + 1) := by
  unfold F_X10_nextWatch
  simp only [zu_self, upd_s, h5, nI_1]
  have m : o ∈ [o] := by simp
  by_cases q : r < 5
  · rw [if_pos (show nI (r + 1) ≤ (5 : Int32) from nI_le (b := 5) (by omega) (by omega)), if_pos q, if_pos q]
    refine ⟨_, rfl, Ag.rf.zu m, by rw [zu_self, upd_s], by rw [zu_self, upd_ne _ _ (by decide)]; exact h6⟩
  · rw [if_neg (show ¬ nI (r + 1) ≤ (5 : Int32) from nI_ge (a := 5) (by omega) (by omega)), if_neg q, if_neg q]
    simp (disch := decide) only [upd_ne, h6, nI_1]
    refine ⟨_, rfl, ((Ag.rf.zu m).zu m).zu m, ?_, ?_⟩
    · simp (disch := decide) only [zu_self, upd_ne, upd_s]; rfl
    · simp (disch := decide) only [zu_self, upd_s]
theorem ol_un (N r1 r2 : Nat) (a b c : Int32) (σ : Hp) : L_X2_outlasts_3 (N + 1) r1 r2 a b c σ = B_X2_outlasts_3 (fun r1 r2 x3 x4 x5 σ => L_X2_outlasts_3 N r1 r2 x3 x4 x5 σ) r1 r2 a b c σ := rfl
theorem lw_un (N : Nat) (a b c d : Int32) (σ : Hp) : L_M_lastsWith_22 (N + 1) a b c d σ = B_M_lastsWith_22 (fun x2 x4 x5 x6 σ => L_M_lastsWith_22 N x2 x4 x5 x6 σ) a b c d σ := rfl
def olL (o L : Nat) : List Nat := [o, o + 2, o + 3, 26, L, L + 7, L + 8]
theorem ol_no {o L k : Nat} (h : k ≠ o ∧ k ≠ o + 2 ∧ k ≠ o + 3 ∧ k ≠ 26 ∧ k ≠ L ∧ k ≠ L + 7 ∧ k ≠ L + 8) : k ∉ olL o L := by
  simp only [olL, List.mem_cons, List.not_mem_nil, or_false]
  omega
def OlQ (o L : Nat) (s0 τ0 : Hp) (r r' : Option (Int32 × Hp)) : Prop := ∃ (b : Bool) (s t : Hp), r = some (b2 b, s) ∧ r' = some (b2 b, t) ∧ Ag (olL o L) s0 s ∧ (∀ j, j ≠ 10 → s L j = s0 L j) ∧ Ag [18, 19] τ0 t
/-- one goes on drinking and yawning -/
def OlI (o L g W D : Nat) (s0 τ0 : Hp) (k : Nat) (s : Hp) (p : Nat × Nat × Hp) : Prop := Ag (olL o L) s0 s ∧ (∀ j, j ≠ 10 → s L j = s0 L j) ∧ s (o + 2) g = nI p.1 ∧ s (o + 3) g = nI p.2.1 ∧ s o 5 = nI ((W + k) % 6) ∧ s o 6 = nI (D + (W + k) / 6) ∧ p.1 ≤ 99 ∧ p.2.1 ≤ 198 ∧ Ag [18, 19] τ0 p.2.2 ∧ ∀ i, i < 11 → i ≠ 3 → i ≠ 4 → i ≠ 9 → i ≠ 10 → p.2.2 19 i = lvM τ0 g i
theorem out_eq {o L g W D n : Nat} (ho : o = 13) (hL : L = 42 ∨ L = 51) (hg : g < 16) (hW : W ≤ 5) (hD : D ≤ 9999) (hn : n ≤ 60) {s0 τ0 : Hp} (hl : RLaw1 L s0 τ0) (h96 : τ0 1 96 = nI W) (h97 : τ0 1 97 = nI D) (hC : ∀ i, i < 11 → i ≠ 3 → i ≠ 4 → i ≠ 9 → i ≠ 10 → lvC o s0 g i = lvM τ0 g i) (s : Hp) (p : Nat × Nat × Hp) (hI : OlI o L g W D s0 τ0 0 s p) :
    OlQ o L s0 τ0 (L_X2_outlasts_3 FU o L (nI g) (nI n) 0 s) (L_M_lastsWith_22 FU (nI n) (nI p.2.1) (nI p.1) 0 p.2.2) := by
  refine lock (fun N i s => L_X2_outlasts_3 N o L (nI g) (nI n) (nI i) s) (fun N i (p : Nat × Nat × Hp) => L_M_lastsWith_22 N (nI n) (nI p.2.1) (nI p.1) (nI i) p.2.2) (OlI o L g W D s0 τ0) (OlQ o L s0 τ0) n ?_ ?_ n 0 FU FU s p (by omega) (by omega) (FU_lt (by omega)) (FU_lt (by omega)) hI
  · rintro N1 N2 s ⟨x, y, t⟩ ⟨f1, f2, f3, f4, f5, f6, f7, f8, f9, f10⟩
    rw [ol_un, lw_un]
    unfold B_X2_outlasts_3 B_M_lastsWith_22
    rw [if_pos (nI_le (Nat.le_refl n) (by omega)), if_pos (nI_le (Nat.le_refl n) (by omega))]
    exact ⟨true, s, t, rfl, rfl, f1, f2, f9⟩
  · rintro N1 N2 i s ⟨x, y, t⟩ hi ⟨f1, f2, f3, f4, f5, f6, f7, f8, f9, f10⟩
    dsimp only at f3 f4 f7 f8 f9 f10 ⊢
    have hW' : t 1 96 = nI W := by rw [f9 1 (by decide)]; exact h96
    have hD' : t 1 97 = nI D := by rw [f9 1 (by decide)]; exact h97
    have e6 : jrem (nI (W + i)) 6 = nI ((W + i) % 6) := jrem_nI (d := 6) (by omega) (by omega) (by omega)
    have ed : nI (W + i) / 6 = nI ((W + i) / 6) := pk_div (d := 6) (by omega) (by omega) (by omega)
    obtain ⟨t', ht'⟩ : ∃ t', t' = zu (zu (zu (zu t 19 3 (nI x)) 19 4 (nI y)) 19 9 (nI ((W + i) % 6))) 19 10 (jrem (nI (D + (W + i) / 6)) 100) := ⟨_, rfl⟩
    have tk : ∀ k, k ≠ 19 → t' k = t k := fun k hk => by rw [ht', zu_ne _ _ _ hk, zu_ne _ _ _ hk, zu_ne _ _ _ hk, zu_ne _ _ _ hk]
    have sk : ∀ k, k ∉ olL o L → s k = s0 k := f1
    have hl' : RLaw1 L s t' := hl.congr (f2 8 (by decide)) (fun j h1 h2 => sk _ (ol_no (by omega))) (by rw [tk 0 (by decide), f9 0 (by decide)]) (fun j h1 h2 => by rw [tk j (by omega), f9 j (by simp; omega)])
    have hv : ∀ q, q < 11 → lvC o s g q = t' 19 q := fun q hq => by
      by_cases n3 : q = 3
      · subst n3; rw [ht']; simp (disch := omega) only [zu_self, upd_ne, upd_s]; exact f3
      by_cases n4 : q = 4
      · subst n4; rw [ht']; simp (disch := omega) only [zu_self, upd_ne, upd_s]; exact f4
      by_cases n9 : q = 9
      · subst n9; rw [ht']; simp (disch := omega) only [zu_self, upd_ne, upd_s]; exact f5
      by_cases n10 : q = 10
      · subst n10; rw [ht']; simp (disch := omega) only [zu_self, upd_s]; show jrem (s o 6) 100 = _; rw [f6]
      rw [lvC_eq (o := o) (s := s0) hg (by rw [sk _ (ol_no (by omega))]) (by rw [sk _ (ol_no (by omega))]) (fun i _ => by rw [sk _ (ol_no (by omega))]) (sk _ (ol_no (by omega))) hq n3 n4 n9 n10, hC q hq n3 n4 n9 n10, ← f10 q hq n3 n4 n9 n10, ht']
      simp (disch := omega) only [zu_self, upd_ne]
    obtain ⟨b, th, σ', τ2, τ3, hb, hth, p1, p2, p3, p4, p5, p6, p7, p8, p9⟩ := drink_C (Or.inr ho) hL hg hl' hv f7 f3 (show y ≤ 1000 by omega) f4
    rw [ol_un, lw_un]
    unfold B_X2_outlasts_3 B_M_lastsWith_22
    rw [if_neg (nI_ge hi (by omega)), if_neg (nI_ge hi (by omega))]
    simp (disch := omega) only [v_3, v_4, v_9, v_10, k_3, k_4, k_9, k_10, i96, i97, c96, c97, gd_tt, zu_ne, hW', hD', nI_add, e6, ed]
    rw [← ht', p1, p4, ob, ob]
    try dsimp only
    rw [p2, ob]
    try dsimp only
    rw [nI_add, nl99, M_min (by omega) (by omega), ob]
    try dsimp only
    rw [gd_true (inbT hg (by omega)), nI_clamp (by omega), p6, upd_s]
    have ag' : Ag (olL o L) s0 σ' := fun k hk => by
      rw [p8 k (fun h => hk ?_)]
      · exact sk k hk
      · simp only [olL, List.mem_cons, List.not_mem_nil, or_false] at h ⊢
        omega
    have fl' : ∀ j, j ≠ 10 → σ' L j = s0 L j := fun j hj => (p9 j hj).trans (f2 j hj)
    have at3 : Ag [18, 19] τ0 τ3 := fun k hk => by
      simp only [List.mem_cons, List.not_mem_nil, or_false, not_or] at hk
      rw [p3 k (by simpa using hk.1), tk k hk.2, f9 k (by simp; omega)]
    by_cases q : th < y
    · rw [if_pos (show (0 : Int32) < nI (y - th) from nI_lt (a := 0) (by omega) (by omega)), pk_sub (show th ≤ y by omega), if_pos (show (0 : Int32) < nI (y - th) from nI_lt (a := 0) (by omega) (by omega))]
      obtain ⟨s', u1, u2, u3, u4⟩ := next_C (o := o) (s := σ') (r := (W + i) % 6) (d := D + (W + i) / 6) (by rw [p8 o (by simp; omega)]; exact f5) (by omega) (by rw [p8 o (by simp; omega)]; exact f6)
      rw [u1, ob, nI_1]
      have su : ∀ k, k ≠ o → s' k = σ' k := fun k hk => u2 k (by simpa using hk)
      refine Or.inr ⟨s', (min 99 (x + b), y - th, τ3), rfl, rfl, fun k hk => ?_, fun j hj => ?_, ?_, ?_, ?_, ?_, ?_, ?_, at3, fun q hq n3 n4 n9 n10 => ?_⟩
      · rw [su k (fun e => hk (by simp [olL, e]))]; exact ag' k hk
      · rw [su L (by omega)]; exact fl' j hj
      · rw [su _ (by omega), p5, upd_s]
      · rw [su _ (by omega), p6, upd_s]
      · rw [u3]; congr 1
        by_cases z : (W + i) % 6 < 5
        · rw [if_pos z]; omega
        · rw [if_neg z]; omega
      · rw [u4]; congr 1
        by_cases z : (W + i) % 6 < 5
        · rw [if_pos z]; omega
        · rw [if_neg z]; omega
      · show min 99 (x + b) ≤ 99; omega
      · show y - th ≤ 198; omega
      · show τ3 19 q = _
        rw [p3 19 (by decide), ht']
        simp (disch := omega) only [zu_self, upd_ne]
        exact f10 q hq n3 n4 n9 n10
    · have z0 : ¬ (0 : Int32) < nI y - nI th := by
        by_cases q2 : th = y
        · rw [q2, pk_sub (Nat.le_refl y), Nat.sub_self]; decide
        · exact Int32.not_lt.mpr (Int32.le_of_lt (pk_sneg (by omega) (by omega)))
      rw [if_neg (show ¬ (0 : Int32) < nI (y - th) by rw [show y - th = 0 by omega]; decide), if_neg z0]
      exact Or.inl ⟨false, σ', τ3, rfl, rfl, ag', fl', at3⟩
theorem las_un (N : Nat) (a b c : Int32) (σ : Hp) : L_V_lasts_58 (N + 1) a b c σ = B_V_lasts_58 (fun x3 x4 x5 σ => L_V_lasts_58 N x3 x4 x5 σ) a b c σ := rfl
theorem lam_un (N : Nat) (a b c : Int32) (σ : Hp) : L_M_lasts_45 (N + 1) a b c σ = B_M_lasts_45 (fun x3 x4 x5 σ => L_M_lasts_45 N x3 x4 x5 σ) a b c σ := rfl
def laL (L : Nat) : List Nat := [13, 14, 15, 16, 17, 18, 26, L, L + 7, L + 8]
theorem la_no {L k : Nat} (h : (k < 13 ∨ 18 < k) ∧ k ≠ 26 ∧ k ≠ L ∧ k ≠ L + 7 ∧ k ≠ L + 8) : k ∉ laL L := by
  simp only [laL, List.mem_cons, List.not_mem_nil, or_false]
  omega
theorem la_of {L k : Nat} (h : k ∉ laL L) : (k < 13 ∨ 18 < k) ∧ k ≠ 26 ∧ k ≠ L ∧ k ≠ L + 7 ∧ k ≠ L + 8 := by
  simp only [laL, List.mem_cons, List.not_mem_nil, or_false, not_or] at h
  omega
theorem sim_lasts {σ τ : Hp} (h : Rl σ τ) (a1 a2 a3 : Int32) : ∃ r σ' τ', F_V_lasts a1 a2 a3 σ = some (r, σ') ∧ F_M_lasts a1 a2 a3 τ = some (r, τ') ∧ Rl σ' τ' := by
  simp only [F_V_lasts, F_M_lasts, C_isGent h.1, M_isThere, V_within, M_in, ob, b2_ite]
  by_cases h1 : thr τ a1 a2 = true
  rotate_left
  · rw [if_neg h1, if_neg h1]; exact ⟨_, _, _, rfl, rfl, h⟩
  obtain ⟨si, c, hi, hc, rfl, rfl, ht⟩ := thr_nat h1
  obtain ⟨r1, r2, r3, -, r6, r7⟩ := id h
  obtain ⟨g, hgd⟩ : ∃ g, g = 8 * si + c := ⟨_, rfl⟩
  have hg : g < 16 := by omega
  rw [if_pos h1, if_pos h1, idxC, idxM, ← hgd, M_sitsIn hg, ob]
  rw [← hgd] at ht
  try dsimp only
  rw [b2_ite, sits_ite r1 hg]
  by_cases h2 : wi a3 1 60 = true
  rotate_left
  · rw [if_neg h2]
    by_cases q : σ (1 + 5) g = 0
    · rw [if_pos (decide_eq_true q), if_neg h2]; exact ⟨_, _, _, rfl, rfl, h⟩
    · rw [if_neg (by simp [q])]; exact ⟨_, _, _, rfl, rfl, h⟩
  obtain ⟨n, hn1, hn, rfl⟩ := wi_from (a := 1) (M := 60) (m := 1) (n := 60) (by decide) (by decide) h2
  rw [if_pos h2, if_pos h2, gd_true (inbT hg (by omega)), nI_clamp (by omega)]
  by_cases q : σ 6 g = 0
  rotate_left
  · rw [if_neg q, if_neg (by simp [show ¬ σ (1 + 5) g = 0 from q])]; exact ⟨_, _, _, rfl, rfl, h⟩
  rw [if_pos q, if_pos (decide_eq_true (show σ (1 + 5) g = 0 from q))]
  obtain ⟨sa, l1, l2, l3, l4⟩ := look_eq (o := 1) (by decide) (by decide) σ
  rw [l1, ob]
  have hRa : Rl sa τ := h.sc (S := [22]) (T := []) l2 Ag.rf (by decide) (by simp)
  have sgi : SgI 1 sa := by
    have bb : ∀ c e, bothV 1 sa c e = bothV 1 σ c e := fun c e => by
      unfold bothV visC
      rw [l2 (1 + 5) (by decide), l2 20 (by decide), l2 21 (by decide), l2 (1 + 4) (by decide)]
    exact ⟨fun c hc => by rw [l3 c hc]; exact bset_congr (fun e _ => (bb c e).symm), fun e he => by rw [l4 e he]; exact bset_congr (fun c _ => (bb c e).symm)⟩
  obtain ⟨R1, R2, R3, -, R6, R7⟩ := id hRa
  obtain ⟨L, hL, he, hl⟩ := R7.cases
  have hlv := lv_eq (o := 1) (by omega) R1 R2 sgi hg ht
  obtain ⟨G1, G2, G3, G4, G5, -, ⟨x0, hx0, ex0⟩, ⟨y0, hy0, ey0⟩, -⟩ := R1.1 g hg
  obtain ⟨⟨-, W, hW, eW⟩, ⟨-, D, hD, eD⟩, -, -⟩ := id R1.2
  obtain ⟨⟨T5, -⟩, ⟨T6, -⟩, -, -⟩ := id R1.2
  have fin : ∀ (v : Int32) (s t : Hp), Ag (laL L) sa s → (∀ j, j ≠ 10 → s L j = sa L j) → Ag [18, 19] τ t → Ok (some (v, s)) (some (v, t)) := by
    intro v s t a1 a2 a3
    refine ⟨v, s, t, rfl, rfl, hRa.eq ⟨fun k _ hk2 => ?_, fun _ => ?_, fun _ => ?_, ?_, ?_, ?_⟩ (EqM.of (a3.tr Ag.rf (T := []) _ (by decide) (by decide)))⟩
    · have := ls_lt hk2
      exact a1 k (la_no (by omega))
    · rw [a1 23 (la_no (by omega))]
    · exact a1 0 (la_no (by omega))
    · rw [a1 60 (la_no (by omega))]
    · rcases hL with rfl | rfl
      · exact a2 8 (by decide)
      · rw [a1 42 (la_no (by omega))]
    · rcases hL with rfl | rfl
      · rw [a1 51 (la_no (by omega))]
      · exact a2 8 (by decide)
  refine lock (fun N i s => L_V_lasts_58 N (nI n) (nI g) (nI i) s) (fun N i t => L_M_lasts_45 N (nI n) (nI g) (nI i) t) (fun _ s t => Ag (laL L) sa s ∧ (∀ j, j ≠ 10 → s L j = sa L j) ∧ Ag [18, 19] τ t) Ok 100 ?_ ?_ 100 0 FU FU sa τ (by omega) (by omega) (FU_lt (by omega)) (FU_lt (by omega)) ⟨Ag.rf, fun _ _ => rfl, Ag.rf⟩
  · rintro N1 N2 s t ⟨f1, f2, f3⟩
    rw [las_un, lam_un]
    unfold B_V_lasts_58 B_M_lasts_45
    rw [if_pos (by decide), if_pos (by decide)]
    exact fin _ s t f1 f2 f3
  · rintro N1 N2 i s t hi ⟨f1, f2, f3⟩
    rw [las_un, lam_un]
    unfold B_V_lasts_58 B_M_lasts_45
    rw [if_neg (show ¬ (99 : Int32) < nI i from nI_nlt (b := i) (a := 99) (by omega) (by omega)), if_neg (show ¬ (99 : Int32) < nI i from nI_nlt (b := i) (a := 99) (by omega) (by omega))]
    obtain ⟨s1, c1, cp⟩ := copy_eq 13 1 (by omega) s
    have cc := cp.2.2
    have t1 : t 1 = τ 1 := f3 1 (by decide)
    have e16 : s1 16 g = nI y0 := by
      have := cp.1 3 (by omega) (by omega) g hg
      rw [show s1 16 g = s1 (13 + 3) g from rfl, this, f1 (1 + 3) (la_no (by omega)), G3]; exact ey0
    rw [c1, ob]
    simp (disch := omega) only [idx48, inb_nI, gd_tt, nI_clamp]
    rw [t1, ey0, e16, nI_add, nI_1]
    obtain ⟨s2, hs2⟩ : ∃ s2, s2 = zu s1 16 g (nI (y0 + i)) := ⟨_, rfl⟩
    rw [← hs2]
    have s2k : ∀ k, (k < 13 ∨ 18 < k) → s2 k = s k := fun k hk => by rw [hs2, zu_ne _ _ _ (by omega), cc k (by omega)]
    have s2L : ∀ j, j ≠ 10 → s2 L j = sa L j := fun j hj => by rw [s2k L (by omega)]; exact f2 j hj
    have s2a : ∀ k, k ∉ laL L → s2 k = sa k := fun k hk => by rw [s2k k (la_of hk).1]; exact f1 k hk
    rw [s2a 0 (la_no (by omega)), he, gd_true (isL_of hL)]
    obtain ⟨tf, m1, m2, m3⟩ := M_feels hg t
    unfold F_X2_outlasts F_M_lastsWith
    rw [m1, ob, idx32, gd_true (inbT (show 32 + g < 100 by omega) (by omega)), nI_clamp (show 32 + g < 2 ^ 31 by omega), m2 1 (by decide), t1, ex0]
    have hlaw : RLaw1 L s2 t := hl.congr (s2L 8 (by decide)) (fun j h1 h2 => s2a _ (la_no (by omega))) (by rw [f3 0 (by decide)]) (fun j h1 h2 => f3 j (by simp; omega))
    have hC : ∀ q, q < 11 → q ≠ 3 → q ≠ 4 → q ≠ 9 → q ≠ 10 → lvC 13 s2 g q = lvM t g q := fun q hq n3 n4 n9 n10 => by
      rw [lvM_eq t1 (f3 4 (by decide)) (f3 5 (by decide)), ← hlv q hq]
      refine lvC_eq (o := 1) hg ?_ ?_ (fun z hz => ?_) (s2a 22 (la_no (by omega))) hq n3 n4 n9 n10
      · rw [hs2, zu_ne _ _ _ (by omega), cp.1 1 (by omega) (by omega) g hg, f1 (1 + 1) (la_no (by omega))]
      · rw [hs2, zu_ne _ _ _ (by omega), cp.1 4 (by omega) (by omega) g hg, f1 (1 + 4) (la_no (by omega))]
      · rw [hs2, zu_ne _ _ _ (by omega), cp.1 5 (by omega) (by omega) z hz, f1 (1 + 5) (la_no (by omega))]
    have key := out_eq (o := 13) (W := W) (D := D) (n := n) rfl hL hg hW hD hn hlaw (by rw [t1]; exact eW) (by rw [t1]; exact eD) hC s2 (x0, y0 + i, tf) ⟨Ag.rf, fun _ _ => rfl, ?_, ?_, ?_, ?_, hx0, by show y0 + i ≤ 198; omega, m2.tr Ag.rf (T := []) _ (by decide) (by decide), fun q hq _ _ _ _ => m3 q hq⟩
    · obtain ⟨b, s', t', u1, u2, u3, u4, u5⟩ := key
      dsimp only at u2
      rw [u1, u2, ob, ob]
      try dsimp only
      rw [b2_ite, b2_ite]
      have v1 : Ag (laL L) sa s' := fun k hk => by
        have := la_of hk
        rw [u3 k (ol_no (by omega))]; exact s2a k hk
      have v2 : ∀ j, j ≠ 10 → s' L j = sa L j := fun j hj => (u4 j hj).trans (s2L j hj)
      have v3 : Ag [18, 19] τ t' := f3.tr u5 _ (fun _ h => h) (fun _ h => h)
      cases b
      · rw [if_neg (by decide), if_neg (by decide)]
        exact Or.inr ⟨s', t', rfl, rfl, v1, v2, v3⟩
      · rw [if_pos rfl, if_pos rfl]
        exact Or.inl (fin _ s' t' v1 v2 v3)
    · rw [hs2, zu_ne _ _ _ (by omega), cp.1 2 (by omega) (by omega) g hg, f1 (1 + 2) (la_no (by omega)), G2]; exact ex0
    · show s2 16 g = _
      rw [hs2, zu_self, upd_s]
    · rw [hs2, zu_ne _ _ _ (by omega), cp.2.1 5 (by omega) (by omega), f1 1 (la_no (by omega)), T5, eW]
      congr 1; omega
    · rw [hs2, zu_ne _ _ _ (by omega), cp.2.1 6 (by omega) (by omega), f1 1 (la_no (by omega)), T6, eD]
      congr 1; omega
