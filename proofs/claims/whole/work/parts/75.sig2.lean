-- signals: items and rows of them
section
variable {n p q d : Nat} {σ0 τ0 σ τ : Hp} {S : Nat → Nat × Nat × Nat}
theorem sg49z (K : Nat) (a1 : Int32) (τ : Hp) : L_M_signals_49 J_M_signals_79 (K + 1) a1 0 τ = J_M_signals_79 a1 0 τ := by
  show B_M_signals_49 _ _ a1 0 τ = _
  unfold B_M_signals_49
  rw [if_pos rfl]
theorem lamp_eq {a1 v x6 : Int32} {K t p1 : Nat} {o : Nat → Int32 → Hp → Option (Int32 × Hp)} (hp : p ≤ p1) (hn : n ≤ 40) (hp1 : p1 < n) (hC : SgC n σ0 σ p1 q) (hM : SgM n τ0 τ p1 q d S) (hL : SgL q σ τ) (ht : 1 ≤ t) (ht9 : t ≤ 9) (hr : ∃ r : Nat, r ≤ 5 ∧ v = nI r) (hK : 100 ≤ K + p) (hd : d ≤ 2)
    (hv : (x6 = 46 ∧ v = 0) ∨ (x6 ≠ 46 ∧ v = x6 - 97 + 1)) :
    SgX a1 σ0 τ0 (J_X7_readItem_154 o 32 (nI p) (nI t) (nI q) x6 σ) ((J_M_readsItem_139 (nI p) (nI t) x6 τ).bind fun q => L_M_signals_49 J_M_signals_79 K a1 q.1 q.2) ∨ SgY a1 n σ0 τ0 d S p q K (fun _ => True) (J_X7_readItem_154 o 32 (nI p) (nI t) (nI q) x6 σ) ((J_M_readsItem_139 (nI p) (nI t) x6 τ).bind fun q => L_M_signals_49 J_M_signals_79 K a1 q.1 q.2) := by
  have hq60 := hL.1
  have hFU : FU = 1000000 := rfl
  obtain ⟨K1, hK1⟩ : ∃ K1, K = K1 + 1 := ⟨K - 1, by omega⟩
  have e1 : J_X7_readItem_154 o 32 (nI p) (nI t) (nI q) x6 σ = if nI q < (60 : Int32) then (gd (inb (nI q) 60) ((F_X7_repeat 32 (nI q) (nI t - 1) (zu (zu (zu σ 23 3 (nI (p1 + 1))) 33 q v) 32 1 (nI (q + 1)))).bind fun q225 => if q225.1 = 0 then ((F_X8_refuseAt (6 : Int32) (nI p) q225.2).bind fun q235 => if q235.1 = 0 then (some ((0 : Int32), q235.2)) else (some ((1 : Int32), q235.2))) else (some ((1 : Int32), q225.2)))) else some (0, zu (zu σ 23 3 (nI (p1 + 1))) 23 4 (-1000 * 6 - nI p)) := by
    unfold J_X7_readItem_154
    rw [zu_ne _ _ _ (by decide), hC.2.2.2, hC.2.2.1, nI_1, C_refA, ob]
    dsimp only
    rw [gdz]
    by_cases c : nI q < (60 : Int32)
    · rw [if_pos c, if_pos c]
      have c2 : J_X7_readItem_207 o 32 (nI p) (nI t) (nI q) v (nI q) (32 + 1) 60 (zu σ 23 3 (nI (p1 + 1))) = gd (inb (nI q) 60) ((F_X7_repeat 32 (nI q) (nI t - 1) (zu (zu (zu σ 23 3 (nI (p1 + 1))) 33 q v) 32 1 (nI (q + 1)))).bind fun q225 => if q225.1 = 0 then ((F_X8_refuseAt (6 : Int32) (nI p) q225.2).bind fun q235 => if q235.1 = 0 then (some ((0 : Int32), q235.2)) else (some ((1 : Int32), q235.2))) else (some ((1 : Int32), q225.2))) := by
        unfold J_X7_readItem_207
        rw [nI_clamp (by omega), zu_ne _ _ _ (show (32 : Nat) ≠ 32 + 1 by decide), zu_ne _ _ _ (by decide), hC.2.2.2, nI_1]
      rcases hv with ⟨h1, h2⟩ | ⟨h1, h2⟩
      · rw [if_pos h1]; rw [h2] at c2 ⊢; exact c2
      · rw [if_neg h1, ← h2]; exact c2
    · rw [if_neg c, if_neg c]
  have e2 : J_M_readsItem_139 (nI p) (nI t) x6 τ = if nI q + nI t ≤ (60 : Int32) then (gd (inb (nI q) 60) ((F_M_repeats (nI q) (nI t) (nI p) (zu (zu (zu τ 22 q v) 0 36 (nI (q + 1))) 0 7 (nI (p1 + 1)))).bind fun q212 => if q212.1 = 0 then (some ((0 : Int32), q212.2)) else (L_M_readsItem_220 FU q212.2))) else some (0, zu τ 0 9 (-1000 * 6 - nI p)) := by
    unfold J_M_readsItem_139
    rw [hM.2.2.2.1, M_wrA, ob]
    dsimp only
    rw [gdz]
    by_cases c : nI q + nI t ≤ (60 : Int32)
    · rw [if_pos c, if_pos c]
      have c2 : J_M_readsItem_182 (nI p) (nI t) v (nI q) τ = gd (inb (nI q) 60) ((F_M_repeats (nI q) (nI t) (nI p) (zu (zu (zu τ 22 q v) 0 36 (nI (q + 1))) 0 7 (nI (p1 + 1)))).bind fun q212 => if q212.1 = 0 then (some ((0 : Int32), q212.2)) else (L_M_readsItem_220 FU q212.2)) := by
        unfold J_M_readsItem_182
        rw [nI_clamp (by omega), zu_ne τ _ _ (show (0 : Nat) ≠ 22 by decide), hM.2.2.2.1, nI_1, zu_self (zu τ 22 q v), upd_ne _ _ (show (7 : Nat) ≠ 36 by decide), zu_ne τ _ _ (show (0 : Nat) ≠ 22 by decide), hM.2.1, nI_1, zu_self (zu (zu τ 22 q v) 0 36 (nI (q + 1))), upd_ne _ _ (show (36 : Nat) ≠ 7 by decide), zu_self (zu τ 22 q v), upd_s, nI_pred]
      rcases hv with ⟨h1, h2⟩ | ⟨h1, h2⟩
      · rw [if_pos h1]; rw [h2] at c2 ⊢; exact c2
      · rw [if_neg h1, ← h2]; exact c2
    · rw [if_neg c, if_neg c]
  rw [e1, e2, nI_add]
  by_cases c : q < 60
  rotate_left
  · rw [if_neg (show ¬ nI q < (60 : Int32) from nI_nlt (b := 60) (by omega) (by omega)), if_neg (show ¬ nI (q + t) ≤ (60 : Int32) from nI_ge (a := 60) (by omega) (by omega)), ob]
    exact Or.inl ⟨-1000 * 6 - nI p, _, _, K1, rfl, by rw [hK1], (hC.1.zu (by decide)).zu (by decide), by rw [zu_self, upd_s], hM.1.zu0 (by decide), by rw [zu_self, upd_s]⟩
  rw [if_pos (show nI q < (60 : Int32) from nI_lt (b := 60) c (by omega)), gd_true (inbT (show q < 60 from c) (by omega))]
  have hC2 : SgC n σ0 (zu (zu (zu σ 23 3 (nI (p1 + 1))) 33 q v) 32 1 (nI (q + 1))) (p1 + 1) (q + 1) := by
    refine ⟨((hC.1.zu (by decide)).zu (by decide)).zu (by decide), ?_, ?_, ?_⟩
    · rw [zu_ne _ _ _ (by decide), zu_ne _ _ _ (by decide), zu_self, upd_ne _ _ (by decide)]; exact hC.2.1
    · rw [zu_ne _ _ _ (by decide), zu_ne _ _ _ (by decide), zu_self, upd_s]
    · rw [zu_self, upd_s]
  have hM2 : SgM n τ0 (zu (zu (zu τ 22 q v) 0 36 (nI (q + 1))) 0 7 (nI (p1 + 1))) (p1 + 1) (q + 1) d S := by
    refine ⟨((hM.1.zuk (by decide) (by decide)).zu0 (by decide)).zu0 (by decide), ?_, ?_, ?_, ?_, fun k hk => ?_⟩
    · rw [zu_self, upd_s]
    · rw [zu_self, upd_ne _ _ (by decide), zu_self, upd_ne _ _ (by decide), zu_ne _ _ _ (by decide)]; exact hM.2.2.1
    · rw [zu_self, upd_ne _ _ (by decide), zu_self, upd_s]
    · rw [zu_self, upd_ne _ _ (by decide), zu_self, upd_ne _ _ (by decide), zu_ne _ _ _ (by decide)]; exact hM.2.2.2.2.1
    · simp (disch := omega) only [zu_ne]; exact hM.2.2.2.2.2 k hk
  have hL2 : SgL (q + 1) (zu (zu (zu σ 23 3 (nI (p1 + 1))) 33 q v) 32 1 (nI (q + 1))) (zu (zu (zu τ 22 q v) 0 36 (nI (q + 1))) 0 7 (nI (p1 + 1))) := by
    refine ⟨by omega, fun i hi => ?_⟩
    rw [zu_ne _ _ _ (by decide), zu_self, zu_ne _ _ _ (by decide), zu_ne _ _ _ (by decide), zu_ne _ _ _ (by decide), zu_self]
    by_cases e : i = q
    · rw [e, upd_s, upd_s]; exact ⟨rfl, hr⟩
    · rw [upd_ne _ _ e, upd_ne _ _ e]; exact hL.2 i (by omega)
  rcases rep_eq hC2 hM2 hL2 (f := q) (by omega) ht ht9 (nI p) with ⟨g1, σ', τ', g2, g3, g4, g5, g6⟩ | ⟨g1, g2, g3⟩
  · rw [show q + 1 - q = 1 by omega, Nat.one_mul] at g1 g4 g5 g6
    rw [if_pos (show nI (q + t) ≤ (60 : Int32) from nI_le (b := 60) g1 (by omega)), gd_true (inbT (show q < 60 from c) (by omega)), g2, g3, ob, ob]
    dsimp only
    rw [if_neg (by decide), if_neg (by decide)]
    exact Or.inr ⟨σ', τ', p1 + 1, q + t, FU, K, rfl, rfl, by omega, by omega, by omega, by omega, by omega, g4, g5, g6, trivial⟩
  · rw [show q + 1 - q = 1 by omega, Nat.one_mul] at g1
    rw [if_neg (show ¬ nI (q + t) ≤ (60 : Int32) from nI_ge (a := 60) (by omega) (by omega)), g2, ob, ob]
    dsimp only
    rw [if_pos rfl, C_refA, ob]
    dsimp only
    rw [if_pos rfl]
    exact Or.inl ⟨-1000 * 6 - nI p, _, _, K1, rfl, by rw [hK1], hC2.1.zu (by decide), by rw [zu_self, upd_s], hM.1.zu0 (by decide), by rw [zu_self, upd_s]⟩
/-- an item that begins with no sign of an item -/
theorem bad_M {w : Nat → Int32} {a1 : Int32} {K N : Nat} (hn : n ≤ 40) (hm : ∀ i, i < n → τ0 6 i &&& 255 = w i) (hp : p ≤ n) (hM : SgM n τ0 τ p q d S) (hw : wa w n p = -1 ∨ wa w n p = 41) : ∃ τ', sgII a1 (N + 1) K τ = L_M_signals_49 J_M_signals_79 K a1 0 τ' ∧ SgF τ0 τ' ∧ τ' 0 9 = -1000 * 1 - nI p := by
  have hM2 : SgM n τ0 (zu (zu τ 0 38 (nI p)) 0 39 1) p q d S := (hM.zux (by decide)).zux (by decide)
  have mh := M_here (hM2.tx hn hm) hM2.2.1 hp
  have c1 : ¬ wi (wa w n p) 50 57 = true := by rcases hw with e | e <;> rw [e] <;> decide
  have c2 : ¬ wa w n p = 40 := by rcases hw with e | e <;> rw [e] <;> decide
  have c3 : ¬ wa w n p = 46 := by rcases hw with e | e <;> rw [e] <;> decide
  have c4 : ¬ wi (wa w n p) 97 101 = true := by rcases hw with e | e <;> rw [e] <;> decide
  refine ⟨zu (zu (zu τ 0 38 (nI p)) 0 39 1) 0 9 (-1000 * 1 - nI p), ?_, hM2.1.zu0 (by decide), by rw [zu_self, upd_s]⟩
  unfold sgII F_M_readsTimes
  rw [hM.2.1, mh, ob]
  dsimp only
  rw [M_in, ob]
  dsimp only
  rw [b2_ite, if_neg c1, ob]
  have : L_M_readsItem_4 J_M_readsItem_97 J_M_readsItem_21 (N + 1) (zu (zu τ 0 38 (nI p)) 0 39 1) = some (0, zu (zu (zu τ 0 38 (nI p)) 0 39 1) 0 9 (-1000 * 1 - nI p)) := by
    show B_M_readsItem_4 _ _ _ _ = _
    unfold B_M_readsItem_4
    rw [mh, ob]
    dsimp only
    rw [if_neg c2]
    unfold J_M_readsItem_97
    rw [mh, ob]
    dsimp only
    rw [if_neg c3, M_in, ob]
    dsimp only
    rw [b2_ite, if_neg c4, M_wrA, ob]
    dsimp only
    rw [gdz, hM2.2.1]
  rw [this, ob]
/-- behind an item, where no round ends -/
theorem on_M {w : Nat → Int32} {a1 : Int32} {K M : Nat} (hn : n ≤ 40) (hm : ∀ i, i < n → τ0 6 i &&& 255 = w i) (hp : p ≤ n) (hM : SgM n τ0 τ p q d S) (hd : d ≤ 2) (hw : wa w n p = 41 → d = 0) : sgAI a1 (M + 1) (K + 1) τ = if p < n ∨ 0 < d then sgII a1 FU K τ else J_M_signals_79 a1 1 τ := by
  have mh := M_here (hM.tx hn hm) hM.2.1 hp
  unfold sgAI
  have : L_M_readsItem_220 (M + 1) τ = some (1, τ) := by
    show B_M_readsItem_220 _ τ = _
    unfold B_M_readsItem_220
    rw [mh, ob]
    dsimp only
    by_cases c : wa w n p = 41
    · rw [if_pos c, if_pos (show τ 0 37 ≤ 0 by rw [hM.2.2.2.2.1, hw c]; decide)]
    · rw [if_neg c]
  rw [this, ob]
  show B_M_signals_49 _ (fun x1 x3 σ => L_M_signals_49 J_M_signals_79 K x1 x3 σ) a1 1 τ = _
  unfold B_M_signals_49
  rw [if_neg (by decide), hM.2.1, hM.2.2.1, hM.2.2.2.2.1]
  have j : J_M_signals_71 (fun x1 x3 σ => L_M_signals_49 J_M_signals_79 K x1 x3 σ) a1 τ = sgII a1 FU K τ := rfl
  by_cases c : p < n
  · rw [if_pos (nI_lt c (by omega)), if_pos (Or.inl c), j]
  · rw [if_neg (nI_nlt (by omega) (by omega))]
    by_cases c2 : 0 < d
    · rw [if_neg (nI_nle c2 (by omega)), if_pos (Or.inr c2), j]
    · rw [if_pos (show nI d ≤ 0 by rw [show d = 0 by omega]; decide), if_neg (by omega)]
theorem item_eq {w : Nat → Int32} {a1 : Int32} {o : Nat → Int32 → Hp → Option (Int32 × Hp)} (hn : n ≤ 40) (hc : ∀ i, i < n → σ0 24 i = w i) (hm : ∀ i, i < n → τ0 6 i &&& 255 = w i) (hd : d ≤ 2)
    (ho : d < 2 → ∀ (S' : Nat → Nat × Nat × Nat) (p q : Nat) (σ τ : Hp) (N K : Nat), p ≤ n → SgC n σ0 σ p q → SgM n τ0 τ p q (d + 1) S' → SgL q σ τ → 5 ≤ N + (d + 1) → 100 ≤ K + p → SgX a1 σ0 τ0 (o 32 (nI (d + 1)) σ) (sgII a1 N K τ) ∨ SgY a1 n σ0 τ0 (d + 1) S' p q K (fun p' => wa w n p' = -1 ∨ wa w n p' = 41) (o 32 (nI (d + 1)) σ) (sgII a1 N K τ))
    (p q : Nat) (σ τ : Hp) (N K : Nat) (hp : p ≤ n) (hC : SgC n σ0 σ p q) (hM : SgM n τ0 τ p q d S) (hL : SgL q σ τ) (hN : 5 ≤ N + d) (hK : 100 ≤ K + p) : SgX a1 σ0 τ0 (F_X7_readItem o 32 (nI d) σ) (sgII a1 N K τ) ∨ SgY a1 n σ0 τ0 d S p q K (fun _ => True) (F_X7_readItem o 32 (nI d) σ) (sgII a1 N K τ) := by
  obtain ⟨t, p1, σ1, τ1, ht, ht9, hpp, hp1, i1, i2, C1, M1, L1, e38, e39⟩ := tms_eq hn hc hm hp hC hM hL
  obtain ⟨N1, rfl⟩ : ∃ N1, N = N1 + 1 := ⟨N - 1, by omega⟩
  obtain ⟨K1, rfl⟩ : ∃ K1, K = K1 + 1 := ⟨K - 1, by omega⟩
  have ch := C_here (C1.tx hn hc) C1.2.2.1 hp1
  have mh := M_here (M1.tx hn hm) M1.2.1 hp1
  have e7 := M1.2.1
  have e36 := M1.2.2.2.1
  have e37 := M1.2.2.2.2.1
  have eII : sgII a1 (N1 + 1) (K1 + 1) τ = (B_M_readsItem_4 J_M_readsItem_97 (fun σ => L_M_readsItem_4 J_M_readsItem_97 J_M_readsItem_21 N1 σ) J_M_readsItem_21 τ1).bind fun q => L_M_signals_49 J_M_signals_79 (K1 + 1) a1 q.1 q.2 := by
    unfold sgII
    rw [i2, ob]
    rfl
  rw [i1, eII]
  unfold J_X7_readItem_32 B_M_readsItem_4
  rw [ch, mh, ob, ob]
  dsimp only
  by_cases c : wa w n p1 = 40
  · have hlt : p1 < n := wa_lt (by rw [c]; decide)
    rw [if_pos c, if_pos c]
    by_cases hd2 : d < 2
    rotate_left
    · have : d = 2 := by omega
      subst this
      rw [if_neg (show ¬ nI 2 < (2 : Int32) by decide), if_pos (show τ1 0 37 = (2 : Int32) from e37), C_refu, ob]
      dsimp only
      rw [gdz]
      unfold J_M_readsItem_21
      rw [M_wrA, ob]
      dsimp only
      rw [gdz, ob]
      dsimp only
      exact Or.inl ⟨-1000 * 5 - nI p1, _, _, K1, rfl, rfl, C1.1.zu (by decide), by rw [zu_self, upd_s, C1.2.2.1], M1.1.zu0 (by decide), by rw [zu_self, upd_s, e7]⟩
    rw [if_pos (show nI d < (2 : Int32) from nI_lt (b := 2) hd2 (by omega)), if_neg (show ¬ τ1 0 37 = (2 : Int32) by rw [e37]; exact nI_lit (k := 2) (by omega) (by omega) (by omega))]
    simp (disch := omega) only [zu_ne, zu_self, upd_ne, upd_s, e37, e38, e39, e36, e7, C1.2.2.1, C1.2.2.2, nI_clamp, inb_nI, gd_tt, nI_1]
    obtain ⟨τ2, hτ2⟩ : ∃ τ2, τ2 = zu (zu (zu (zu (zu τ1 23 d (nI p)) 24 d (nI q)) 25 d (nI t)) 0 37 (nI (d + 1))) 0 7 (nI (p1 + 1)) := ⟨_, rfl⟩
    rw [← hτ2]
    have M2 : SgM n τ0 τ2 (p1 + 1) q (d + 1) (fun k => if k = d then (p, q, t) else S k) := by
      rw [hτ2]
      refine ⟨((((M1.1.zuk (by decide) (by decide)).zuk (by decide) (by decide)).zuk (by decide) (by decide)).zu0 (by decide)).zu0 (by decide), ?_, ?_, ?_, ?_, fun k hk => ?_⟩
      · rw [zu_self, upd_s]
      · simp (disch := omega) only [zu_ne, zu_self, upd_ne]; exact M1.2.2.1
      · simp (disch := omega) only [zu_ne, zu_self, upd_ne]; exact e36
      · simp (disch := omega) only [zu_ne, zu_self, upd_ne, upd_s]
      · simp (disch := omega) only [zu_ne, zu_self]
        by_cases e : k = d
        · rw [e, upd_s, upd_s, upd_s, if_pos rfl]; exact ⟨rfl, rfl, rfl⟩
        · rw [upd_ne _ _ e, upd_ne _ _ e, upd_ne _ _ e, if_neg e]; exact M1.2.2.2.2.2 k (by omega)
    have L2 : SgL q (zu σ1 23 3 (nI (p1 + 1))) τ2 := L1.st (by rw [zu_ne _ _ _ (by decide)]) (by rw [hτ2]; simp (disch := omega) only [zu_ne])
    have o2 := ho hd2 _ (p1 + 1) q (zu σ1 23 3 (nI (p1 + 1))) τ2 N1 (K1 + 1) (by omega) (C1.at (p1 + 1)) M2 L2 (by omega) (by omega)
    change SgX a1 σ0 τ0 _ (sgII a1 N1 (K1 + 1) τ2) ∨ SgY a1 n σ0 τ0 d S p q (K1 + 1) _ _ (sgII a1 N1 (K1 + 1) τ2)
    rcases o2 with ⟨f, s', t', K', h1, h2, h3⟩ | ⟨s', t', p', q', M', K', h1, h2, h3, h4, h5, h6, h7, h8, h9, h10, h11⟩
    · rw [h1, ob]
      exact Or.inl ⟨f, s', t', K', by dsimp only; rw [if_pos rfl], h2, h3⟩
    rw [h1, h2, ob]
    dsimp only
    rw [if_neg (show ¬ (1 : Int32) = 0 by decide), C_takes (h8.tx hn hc) h8.2.2.1 h4]
    obtain ⟨K2, rfl⟩ : ∃ K2, K' = K2 + 1 := ⟨K' - 1, by omega⟩
    obtain ⟨M2', rfl⟩ : ∃ M2', M' = M2' + 1 := ⟨M' - 1, by omega⟩
    rcases h11 with hw | hw
    · rw [if_neg (by rw [hw]; decide), ob]
      dsimp only
      rw [if_pos rfl, C_refu, ob]
      dsimp only
      rw [gdz, on_M hn hm h4 h9 (by omega) (fun e => absurd (hw.symm.trans e) (by decide)), if_pos (Or.inr (by omega))]
      obtain ⟨K3, rfl⟩ : ∃ K3, K2 = K3 + 1 := ⟨K2 - 1, by omega⟩
      obtain ⟨t3, g1, g2, g3⟩ := bad_M (a1 := a1) (K := K3 + 1) (N := FU - 1) hn hm h4 h9 (Or.inl hw)
      exact Or.inl ⟨-1000 * 1 - nI p', _, t3, K3, rfl, g1, h8.1.zu (by decide), by rw [zu_self, upd_s, h8.2.2.1], g2, g3⟩
    · have hlt' : p' < n := wa_lt (by rw [hw]; decide)
      rw [if_pos hw, ob]
      dsimp only
      rw [if_neg (show ¬ (1 : Int32) = 0 by decide)]
      have St := h9.2.2.2.2.2 d (by omega)
      simp only [if_true] at St
      have M3 : SgM n τ0 (zu (zu t' 0 7 (nI (p' + 1))) 0 37 (nI d)) (p' + 1) q' d S := by
        refine ⟨(h9.1.zu0 (by decide)).zu0 (by decide), ?_, ?_, ?_, ?_, fun k hk => ?_⟩
        · simp (disch := omega) only [zu_self, upd_ne, upd_s]
        · simp (disch := omega) only [zu_self, upd_ne]; exact h9.2.2.1
        · simp (disch := omega) only [zu_self, upd_ne]; exact h9.2.2.2.1
        · rw [zu_self, upd_s]
        · have := h9.2.2.2.2.2 k (by omega)
          simp only [if_neg (show ¬ k = d by omega)] at this
          simp (disch := omega) only [zu_ne]; exact this
      have L3 : SgL q' (zu s' 23 3 (nI (p' + 1))) (zu (zu t' 0 7 (nI (p' + 1))) 0 37 (nI d)) := h10.st (by rw [zu_ne _ _ _ (by decide)]) (by simp (disch := omega) only [zu_ne])
      have eAI : sgAI a1 (M2' + 1) (K2 + 1) t' = ((F_M_repeats (nI q) (nI t) (nI p) (zu (zu t' 0 7 (nI (p' + 1))) 0 37 (nI d))).bind fun q284 => if q284.1 = 0 then some (0, q284.2) else L_M_readsItem_220 M2' q284.2).bind fun q => L_M_signals_49 J_M_signals_79 (K2 + 1) a1 q.1 q.2 := by
        unfold sgAI
        congr 1
        show B_M_readsItem_220 (fun σ => L_M_readsItem_220 M2' σ) t' = _
        unfold B_M_readsItem_220
        rw [M_here (h9.tx hn hm) h9.2.1 h4, ob]
        dsimp only
        rw [if_pos hw, if_neg (show ¬ t' 0 37 ≤ 0 by rw [h9.2.2.2.2.1]; exact nI_nle (by omega) (by omega)), h9.2.1, nI_1]
        simp (disch := omega) only [zu_ne, zu_self, upd_ne, upd_s, h9.2.2.2.2.1, nI_pred, nI_clamp, inb_nI, gd_tt, St.1, St.2.1, St.2.2]
      rw [eAI]
      rcases rep_eq (h8.at (p' + 1)) M3 L3 (f := q) h5 ht ht9 (nI p) with ⟨g1, s4, t4, g2, g3, g4, g5, g6⟩ | ⟨g1, g2, g3⟩
      · rw [g2, g3, ob, ob]
        dsimp only
        rw [if_neg (show ¬ (1 : Int32) = 0 by decide), if_neg (show ¬ (1 : Int32) = 0 by decide)]
        exact Or.inr ⟨s4, t4, p' + 1, q + (q' - q) * t, M2', K2 + 1, rfl, rfl, by omega, by omega, by omega, by omega, by omega, g4, g5, g6, trivial⟩
      · rw [g2, g3, ob, ob]
        dsimp only
        rw [if_pos rfl, if_pos rfl, C_refA, ob, ob]
        dsimp only
        rw [if_pos rfl]
        exact Or.inl ⟨-1000 * 6 - nI p, _, _, K2, rfl, rfl, (h8.at (p' + 1)).1.zu (by decide), by rw [zu_self, upd_s], M3.1.zu0 (by decide), by rw [zu_self, upd_s]⟩
  · rw [if_neg c, if_neg c]
    unfold J_M_readsItem_97
    rw [mh, ob]
    dsimp only
    rw [e38, e39, C1.2.2.2]
    by_cases c1 : wa w n p1 = 46
    · have hlt : p1 < n := wa_lt (by rw [c1]; decide)
      rw [if_pos c1, if_pos c1]
      exact lamp_eq hpp hn hlt C1 M1 L1 ht ht9 ⟨0, by omega, rfl⟩ hK hd (Or.inl ⟨c1, rfl⟩)
    · rw [if_neg c1, if_neg c1, V_within, ob, M_in, ob]
      dsimp only
      rw [b2_ite, b2_ite]
      by_cases c2 : wi (wa w n p1) 97 101 = true
      · obtain ⟨j, h1, h2, e⟩ := wi_from (a := 97) (M := 101) (m := 97) (n := 101) (by decide) (by decide) c2
        have hlt : p1 < n := wa_lt (by rw [e]; exact nI_m1 (by omega))
        rw [if_pos c2, if_pos c2]
        refine lamp_eq hpp hn hlt C1 M1 L1 ht ht9 ⟨j - 97 + 1, by omega, ?_⟩ hK hd (Or.inr ⟨c1, rfl⟩)
        rw [e, show (97 : Int32) = nI 97 from rfl, pk_sub h1, nI_1]
      · rw [if_neg c2, if_neg c2, C_refu, ob, M_wrA, ob]
        dsimp only
        rw [gdz, gdz, ob]
        dsimp only
        exact Or.inl ⟨-1000 * 1 - nI p1, _, _, K1, rfl, rfl, C1.1.zu (by decide), by rw [zu_self, upd_s, C1.2.2.1], M1.1.zu0 (by decide), by rw [zu_self, upd_s, e7]⟩
theorem lamps_eq {w : Nat → Int32} {a1 : Int32} {o : Nat → Int32 → Hp → Option (Int32 × Hp)} (hn : n ≤ 40) (hc : ∀ i, i < n → σ0 24 i = w i) (hm : ∀ i, i < n → τ0 6 i &&& 255 = w i) (hd : d ≤ 2)
    (ho : ∀ (p q : Nat) (σ τ : Hp) (N K : Nat), p ≤ n → SgC n σ0 σ p q → SgM n τ0 τ p q d S → SgL q σ τ → 5 ≤ N + d → 100 ≤ K + p → SgX a1 σ0 τ0 (o 32 (nI d) σ) (sgII a1 N K τ) ∨ SgY a1 n σ0 τ0 d S p q K (fun _ => True) (o 32 (nI d) σ) (sgII a1 N K τ)) :
    ∀ (k p q : Nat) (σ τ : Hp) (N K i L : Nat), n - p ≤ k → k < L → i ≤ p → (i = 0 ∨ p < n) → p ≤ n → SgC n σ0 σ p q → SgM n τ0 τ p q d S → SgL q σ τ → 5 ≤ N + d → 100 ≤ K + p → SgX a1 σ0 τ0 (L_X7_readLamps_2 o L 32 (nI d) (nI i) σ) (sgII a1 N K τ) ∨ SgY a1 n σ0 τ0 d S p q K (fun p' => wa w n p' = -1 ∨ wa w n p' = 41) (L_X7_readLamps_2 o L 32 (nI d) (nI i) σ) (sgII a1 N K τ) := by
  intro k
  induction k with
  | zero =>
    intro p q σ τ N K i L hk hL hi hi2 hp hC hM hLl hN hK
    obtain ⟨L, rfl⟩ : ∃ L', L = L' + 1 := ⟨L - 1, by omega⟩
    have e : L_X7_readLamps_2 o (L + 1) 32 (nI d) (nI i) σ = B_X7_readLamps_2 o (fun r0 x2 x3 σ => L_X7_readLamps_2 o L r0 x2 x3 σ) 32 (nI d) (nI i) σ := rfl
    rw [e]
    unfold B_X7_readLamps_2
    rw [if_neg (show ¬ (40 : Int32) ≤ nI i from nI_ge (b := 40) (by omega) (by omega))]
    rcases ho p q σ τ N K hp hC hM hLl hN hK with ⟨f, s', t', K', h1, h2, h3⟩ | ⟨s', t', p', q', M', K', h1, h2, h3, h4, h5, h6, h7, h8, h9, h10, h11⟩
    · rw [h1, ob]
      exact Or.inl ⟨f, s', t', K', by dsimp only; rw [if_pos rfl], h2, h3⟩
    · omega
  | succ k ih =>
    intro p q σ τ N K i L hk hL hi hi2 hp hC hM hLl hN hK
    obtain ⟨L, rfl⟩ : ∃ L', L = L' + 1 := ⟨L - 1, by omega⟩
    have e : L_X7_readLamps_2 o (L + 1) 32 (nI d) (nI i) σ = B_X7_readLamps_2 o (fun r0 x2 x3 σ => L_X7_readLamps_2 o L r0 x2 x3 σ) 32 (nI d) (nI i) σ := rfl
    rw [e]
    unfold B_X7_readLamps_2
    rw [if_neg (show ¬ (40 : Int32) ≤ nI i from nI_ge (b := 40) (by omega) (by omega))]
    rcases ho p q σ τ N K hp hC hM hLl hN hK with ⟨f, s', t', K', h1, h2, h3⟩ | ⟨s', t', p', q', M', K', h1, h2, h3, h4, h5, h6, h7, h8, h9, h10, h11⟩
    · rw [h1, ob]
      exact Or.inl ⟨f, s', t', K', by dsimp only; rw [if_pos rfl], h2, h3⟩
    rw [h1, ob]
    dsimp only
    have ch := C_here (h8.tx hn hc) h8.2.2.1 h4
    rw [if_neg (show ¬ (1 : Int32) = 0 by decide), ch, ob]
    dsimp only
    by_cases c : wa w n p' = -1
    · rw [if_pos c]
      exact Or.inr ⟨s', t', p', q', M', K', rfl, h2, h3, h4, h5, h6, h7, h8, h9, h10, Or.inl c⟩
    rw [if_neg c, ch, ob]
    dsimp only
    by_cases c2 : wa w n p' = 41
    · rw [if_pos c2]
      exact Or.inr ⟨s', t', p', q', M', K', rfl, h2, h3, h4, h5, h6, h7, h8, h9, h10, Or.inr c2⟩
    rw [if_neg c2, nI_1, h2]
    have hlt := wa_lt c
    obtain ⟨K2, rfl⟩ : ∃ K2, K' = K2 + 1 := ⟨K' - 1, by omega⟩
    obtain ⟨M2, rfl⟩ : ∃ M2, M' = M2 + 1 := ⟨M' - 1, by omega⟩
    rw [on_M hn hm h4 h9 hd (fun e => absurd e c2), if_pos (Or.inl hlt)]
    have hFU : FU = 1000000 := rfl
    rcases ih p' q' s' t' FU K2 (i + 1) L (by omega) (by omega) (by omega) (Or.inr hlt) h4 h8 h9 h10 (by omega) (by omega) with g | ⟨s4, t4, p4, q4, M4, K4, g1, g2, g3, g4, g5, g6, g7, g8⟩
    · exact Or.inl g
    · exact Or.inr ⟨s4, t4, p4, q4, M4, K4, g1, g2, by omega, g4, by omega, g6, by omega, g8⟩
end
