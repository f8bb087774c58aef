-- signals
def SgC (n : Nat) (σ0 σ : Hp) (p q : Nat) : Prop := Ag [23, 32, 33] σ0 σ ∧ σ 23 2 = nI n ∧ σ 23 3 = nI p ∧ σ 32 1 = nI q
def SgF (τ0 τ : Hp) : Prop := (∀ k, k ∉ [0, 22, 23, 24, 25] → τ k = τ0 k) ∧ ∀ j, j ∉ [7, 8, 9, 12, 14, 36, 37, 38, 39] → τ 0 j = τ0 0 j
def SgM (n : Nat) (τ0 τ : Hp) (p q d : Nat) (S : Nat → Nat × Nat × Nat) : Prop := SgF τ0 τ ∧ τ 0 7 = nI p ∧ τ 0 8 = nI n ∧ τ 0 36 = nI q ∧ τ 0 37 = nI d ∧ ∀ k, k < d → τ 23 k = nI (S k).1 ∧ τ 24 k = nI (S k).2.1 ∧ τ 25 k = nI (S k).2.2
def SgL (q : Nat) (σ τ : Hp) : Prop := q ≤ 60 ∧ ∀ i, i < q → σ 33 i = τ 22 i ∧ ∃ r : Nat, r ≤ 5 ∧ σ 33 i = nI r
theorem SgF.zu0 {τ0 τ : Hp} (h : SgF τ0 τ) {i : Nat} {x : Int32} (hi : i ∈ [7, 8, 9, 12, 14, 36, 37, 38, 39]) : SgF τ0 (zu τ 0 i x) := ⟨fun k hk => by rw [zu_ne _ _ _ (fun e => hk (by rw [e]; decide))]; exact h.1 k hk, fun j hj => by rw [zu_self, upd_ne _ _ (fun e : j = i => hj (by rw [e]; exact hi))]; exact h.2 j hj⟩
theorem SgF.zuk {τ0 τ : Hp} (h : SgF τ0 τ) {c i : Nat} {x : Int32} (hc : c ∈ [22, 23, 24, 25]) (h0 : c ≠ 0) : SgF τ0 (zu τ c i x) := ⟨fun k hk => by rw [zu_ne _ _ _ (fun e => hk (by rw [e]; exact List.mem_cons_of_mem _ hc))]; exact h.1 k hk, fun j hj => by rw [zu_ne _ _ _ (Ne.symm h0)]; exact h.2 j hj⟩
section
variable {n p q d : Nat} {σ0 τ0 σ τ : Hp} {S : Nat → Nat × Nat × Nat}
theorem rep_eq (hC : SgC n σ0 σ p q) (hM : SgM n τ0 τ p q d S) (hL : SgL q σ τ) {f t : Nat} (hf : f ≤ q) (ht : 1 ≤ t) (ht9 : t ≤ 9) (x : Int32) :
    (f + (q - f) * t ≤ 60 ∧ ∃ σ' τ', F_X7_repeat 32 (nI f) (nI t - 1) σ = some (1, σ') ∧ F_M_repeats (nI f) (nI t) x τ = some (1, τ') ∧ SgC n σ0 σ' p (f + (q - f) * t) ∧ SgM n τ0 τ' p (f + (q - f) * t) d S ∧ SgL (f + (q - f) * t) σ' τ') ∨
    (¬ f + (q - f) * t ≤ 60 ∧ F_X7_repeat 32 (nI f) (nI t - 1) σ = some (0, σ) ∧ F_M_repeats (nI f) (nI t) x τ = some (0, zu τ 0 9 (-1000 * 6 - x))) := by
  obtain ⟨t', rfl⟩ : ∃ t', t = t' + 1 := ⟨t - 1, by omega⟩
  obtain ⟨len, hlen⟩ : ∃ len, len = q - f := ⟨_, rfl⟩
  obtain ⟨M, hMd⟩ : ∃ M, M = len * t' := ⟨_, rfl⟩
  have hm1 : (q - f) * (t' + 1) = M + len := by rw [← hlen, Nat.mul_succ, hMd]
  have hm2 : len * (t' + 1) = M + len := by rw [Nat.mul_succ, hMd]
  have hl60 : q ≤ 60 := hL.1
  have hMb : M ≤ 60 * 8 := by rw [hMd]; exact Nat.mul_le_mul (by omega) (by omega)
  have hq : f + len = q := by omega
  rw [hm1]
  unfold F_X7_repeat F_M_repeats
  rw [hC.2.2.2, hM.2.2.2.1, pk_sub hf, ← hlen, n1, pk_sub (show 1 ≤ t' + 1 by omega), show t' + 1 - 1 = t' by omega, pk_mul, pk_mul, ← hMd, hm2, nI_add, nI_add, if_neg (nI_pos (by omega)), if_neg (nI_pos (by omega))]
  by_cases c : f + (M + len) ≤ 60
  rotate_left
  · right
    rw [if_neg (show ¬ nI (q + M) ≤ (60 : Int32) from nI_ge (a := 60) (by omega) (by omega)), if_neg (show ¬ nI (f + (M + len)) ≤ (60 : Int32) from nI_ge (a := 60) (by omega) (by omega)), M_wrA, ob]
    dsimp only
    rw [gdz]
    exact ⟨c, rfl, rfl⟩
  left
  refine ⟨c, ?_⟩
  rw [if_pos (show nI (q + M) ≤ (60 : Int32) from nI_le (b := 60) (by omega) (by omega)), if_pos (show nI (f + (M + len)) ≤ (60 : Int32) from nI_le (b := 60) (by omega) (by omega)), show f + (M + len) = q + M by omega]
  have key := lock (fun N i s => L_X7_repeat_41 N 32 (nI M) (nI len) (nI i) s) (fun N i u => L_M_repeats_31 J_M_repeats_67 N (nI f) (nI (t' + 1)) (nI len) (nI (len + i)) u) (fun i s u => SgC n σ0 s p (q + i) ∧ SgM n τ0 u p q d S ∧ SgL (q + i) s u) (fun r r' => ∃ σ' τ', r = some (1, σ') ∧ r' = some (1, τ') ∧ SgC n σ0 σ' p (q + M) ∧ SgM n τ0 τ' p (q + M) d S ∧ SgL (q + M) σ' τ') M ?_ ?_ M 0 FU FU σ τ (by omega) (by omega) (FU_lt (by omega)) (FU_lt (by omega)) ⟨hC, hM, hL⟩
  · exact key
  · rintro N1 N2 s u ⟨a, b, c'⟩
    show ∃ σ' τ', B_X7_repeat_41 _ 32 (nI M) (nI len) (nI M) s = _ ∧ B_M_repeats_31 _ _ (nI f) (nI (t' + 1)) (nI len) (nI (len + M)) u = _ ∧ _
    unfold B_X7_repeat_41 B_M_repeats_31
    rw [if_pos (nI_le (Nat.le_refl _) (by omega)), pk_mul, hm2, if_pos (nI_le (by omega) (by omega))]
    unfold J_M_repeats_67
    rw [pk_mul, hm2, nI_add, show f + (M + len) = q + M by omega]
    refine ⟨_, _, rfl, rfl, a, ⟨b.1.zu0 (by decide), ?_, ?_, ?_, ?_, fun k hk => ?_⟩, ⟨by omega, fun i hi => ?_⟩⟩
    · rw [zu_self, upd_ne _ _ (by decide)]; exact b.2.1
    · rw [zu_self, upd_ne _ _ (by decide)]; exact b.2.2.1
    · rw [zu_self, upd_s]
    · rw [zu_self, upd_ne _ _ (by decide)]; exact b.2.2.2.2.1
    · rw [zu_ne _ _ _ (by decide), zu_ne _ _ _ (by decide), zu_ne _ _ _ (by decide)]; exact b.2.2.2.2.2 k hk
    · rw [zu_ne _ _ _ (by decide)]; exact c'.2 i hi
  · rintro N1 N2 i s u hi ⟨a, b, c'⟩
    have hlp : 0 < len := by
      rcases Nat.eq_zero_or_pos len with e | e
      · rw [hMd, e, Nat.zero_mul] at hi; omega
      · exact e
    right
    refine ⟨zu (zu s 33 (q + i) (s 33 (f + i))) 32 1 (nI (q + (i + 1))), zu u 22 (q + i) (u 22 (f + i)), ?_, ?_, ?_, ?_, ?_⟩
    · show B_X7_repeat_41 _ 32 (nI M) (nI len) (nI i) s = _
      unfold B_X7_repeat_41
      rw [if_neg (nI_ge hi (by omega)), a.2.2.2, pk_sub (by omega), show q + i - len = f + i by omega, gd_true (inbT (show f + i < 60 by omega) (by omega)), gd_true (inbT (show q + i < 60 by omega) (by omega)), nI_clamp (by omega), nI_clamp (by omega), zu_ne _ _ _ (by decide), a.2.2.2, nI_1, nI_1]
      rfl
    · show B_M_repeats_31 _ _ (nI f) (nI (t' + 1)) (nI len) (nI (len + i)) u = _
      unfold B_M_repeats_31
      rw [pk_mul, hm2, if_neg (nI_ge (by omega) (by omega)), nI_add, pk_sub (by omega), show f + (len + i) - len = f + i by omega, show f + (len + i) = q + i by omega, gd_true (inbT (show f + i < 60 by omega) (by omega)), gd_true (inbT (show q + i < 60 by omega) (by omega)), nI_clamp (by omega), nI_clamp (by omega), nI_1]
      rfl
    · refine ⟨(a.1.zu (by decide)).zu (by decide), ?_, ?_, ?_⟩
      · rw [zu_ne _ _ _ (by decide), zu_ne _ _ _ (by decide)]; exact a.2.1
      · rw [zu_ne _ _ _ (by decide), zu_ne _ _ _ (by decide)]; exact a.2.2.1
      · rw [zu_self, upd_s]
    · refine ⟨b.1.zuk (by decide) (by decide), ?_, ?_, ?_, ?_, fun k hk => ?_⟩
      · rw [zu_ne _ _ _ (by decide)]; exact b.2.1
      · rw [zu_ne _ _ _ (by decide)]; exact b.2.2.1
      · rw [zu_ne _ _ _ (by decide)]; exact b.2.2.2.1
      · rw [zu_ne _ _ _ (by decide)]; exact b.2.2.2.2.1
      · rw [zu_ne _ _ _ (by decide), zu_ne _ _ _ (by decide), zu_ne _ _ _ (by decide)]; exact b.2.2.2.2.2 k hk
    · refine ⟨by omega, fun j hj => ?_⟩
      rw [zu_ne _ _ _ (by decide), zu_self, zu_self]
      by_cases e : j = q + i
      · rw [e, upd_s, upd_s]; exact c'.2 (f + i) (by omega)
      · rw [upd_ne _ _ e, upd_ne _ _ e]; exact c'.2 j (by omega)
/-- the other's way from an item's beginning; from behind an item -/
def sgII (a1 : Int32) (N K : Nat) (τ : Hp) : Option (Int32 × Hp) := ((F_M_readsTimes τ).bind fun q1 => L_M_readsItem_4 J_M_readsItem_97 J_M_readsItem_21 N q1).bind fun q => L_M_signals_49 J_M_signals_79 K a1 q.1 q.2
def sgAI (a1 : Int32) (M K : Nat) (τ : Hp) : Option (Int32 × Hp) := (L_M_readsItem_220 M τ).bind fun q => L_M_signals_49 J_M_signals_79 K a1 q.1 q.2
/-- both refuse -/
def SgX (a1 : Int32) (σ0 τ0 : Hp) (r r' : Option (Int32 × Hp)) : Prop := ∃ (f : Int32) (σ' τ' : Hp) (K : Nat), r = some (0, σ') ∧ r' = L_M_signals_49 J_M_signals_79 (K + 1) a1 0 τ' ∧ Ag [23, 32, 33] σ0 σ' ∧ σ' 23 4 = f ∧ SgF τ0 τ' ∧ τ' 0 9 = f
/-- both are behind an item -/
def SgY (a1 : Int32) (n : Nat) (σ0 τ0 : Hp) (d : Nat) (S : Nat → Nat × Nat × Nat) (p q K : Nat) (E : Nat → Prop) (r r' : Option (Int32 × Hp)) : Prop := ∃ (σ' τ' : Hp) (p' q' M' K' : Nat), r = some (1, σ') ∧ r' = sgAI a1 M' K' τ' ∧ p < p' ∧ p' ≤ n ∧ q ≤ q' ∧ 10 + d ≤ M' ∧ K + p + 1 ≤ K' + p' ∧ SgC n σ0 σ' p' q' ∧ SgM n τ0 τ' p' q' d S ∧ SgL q' σ' τ' ∧ E p'
theorem SgC.tx {w : Nat → Int32} (h : SgC n σ0 σ p q) (hn : n ≤ 40) (hw : ∀ i, i < n → σ0 24 i = w i) : TxC w n σ := ⟨by omega, h.2.1, fun i hi => by rw [h.1 24 (by decide)]; exact hw i hi⟩
theorem SgM.tx {w : Nat → Int32} (h : SgM n τ0 τ p q d S) (hn : n ≤ 40) (hw : ∀ i, i < n → τ0 6 i &&& 255 = w i) : TxM w n τ := ⟨by omega, h.2.2.1, fun i hi => by rw [h.1.1 6 (by decide)]; exact hw i hi⟩
theorem SgM.zux (h : SgM n τ0 τ p q d S) {i : Nat} {x : Int32} (hi : i ∈ [9, 12, 14, 38, 39]) : SgM n τ0 (zu τ 0 i x) p q d S := by
  have hi' : i ∈ [7, 8, 9, 12, 14, 36, 37, 38, 39] := by
    revert hi; simp only [List.mem_cons, List.not_mem_nil, or_false]; omega
  have ne : i ≠ 7 ∧ i ≠ 8 ∧ i ≠ 36 ∧ i ≠ 37 := by
    revert hi; simp only [List.mem_cons, List.not_mem_nil, or_false]; omega
  refine ⟨h.1.zu0 hi', ?_, ?_, ?_, ?_, fun k hk => ?_⟩
  · rw [zu_self, upd_ne _ _ (by omega)]; exact h.2.1
  · rw [zu_self, upd_ne _ _ (by omega)]; exact h.2.2.1
  · rw [zu_self, upd_ne _ _ (by omega)]; exact h.2.2.2.1
  · rw [zu_self, upd_ne _ _ (by omega)]; exact h.2.2.2.2.1
  · rw [zu_ne _ _ _ (by decide), zu_ne _ _ _ (by decide), zu_ne _ _ _ (by decide)]; exact h.2.2.2.2.2 k hk
theorem SgM.at (h : SgM n τ0 τ p q d S) (p' : Nat) : SgM n τ0 (zu τ 0 7 (nI p')) p' q d S := by
  refine ⟨h.1.zu0 (by decide), by rw [zu_self, upd_s], ?_, ?_, ?_, fun k hk => ?_⟩
  · rw [zu_self, upd_ne _ _ (by decide)]; exact h.2.2.1
  · rw [zu_self, upd_ne _ _ (by decide)]; exact h.2.2.2.1
  · rw [zu_self, upd_ne _ _ (by decide)]; exact h.2.2.2.2.1
  · rw [zu_ne _ _ _ (by decide), zu_ne _ _ _ (by decide), zu_ne _ _ _ (by decide)]; exact h.2.2.2.2.2 k hk
theorem SgC.at (h : SgC n σ0 σ p q) (p' : Nat) : SgC n σ0 (zu σ 23 3 (nI p')) p' q := ⟨h.1.zu (by decide), by rw [zu_self, upd_ne _ _ (by decide)]; exact h.2.1, by rw [zu_self, upd_s], by rw [zu_ne _ _ _ (by decide)]; exact h.2.2.2⟩
theorem SgL.st (h : SgL q σ τ) {σ' τ' : Hp} (h1 : σ' 33 = σ 33) (h2 : τ' 22 = τ 22) : SgL q σ' τ' := ⟨h.1, fun i hi => by rw [h1, h2]; exact h.2 i hi⟩
theorem tms_eq {w : Nat → Int32} (hn : n ≤ 40) (hc : ∀ i, i < n → σ0 24 i = w i) (hm : ∀ i, i < n → τ0 6 i &&& 255 = w i) (hp : p ≤ n) (hC : SgC n σ0 σ p q) (hM : SgM n τ0 τ p q d S) (hL : SgL q σ τ) :
    ∃ (t p1 : Nat) (σ1 τ1 : Hp), 1 ≤ t ∧ t ≤ 9 ∧ p ≤ p1 ∧ p1 ≤ n ∧ (∀ o x, F_X7_readItem o 32 x σ = J_X7_readItem_32 o 32 x (nI p) (nI t) σ1) ∧ F_M_readsTimes τ = some τ1 ∧ SgC n σ0 σ1 p1 q ∧ SgM n τ0 τ1 p1 q d S ∧ SgL q σ1 τ1 ∧ τ1 0 38 = nI p ∧ τ1 0 39 = nI t := by
  have hM2 : SgM n τ0 (zu (zu τ 0 38 (nI p)) 0 39 1) p q d S := (hM.zux (by decide)).zux (by decide)
  have tC := hC.tx hn hc
  have tM := hM2.tx hn hm
  have mh := M_here tM hM2.2.1 hp
  have t22 : zu (zu τ 0 38 (nI p)) 0 39 1 22 = τ 22 := by rw [zu_ne _ _ _ (by decide), zu_ne _ _ _ (by decide)]
  have t38 : zu (zu τ 0 38 (nI p)) 0 39 1 0 38 = nI p := by rw [zu_self, upd_ne _ _ (by decide), zu_self, upd_s]
  have t39 : zu (zu τ 0 38 (nI p)) 0 39 1 0 39 = 1 := by rw [zu_self, upd_s]
  by_cases c : wi (wa w n p) 50 57 = true
  · obtain ⟨j, h1, h2, e⟩ := wi_from (a := 50) (M := 57) (m := 50) (n := 57) (by decide) (by decide) c
    have hlt : p < n := wa_lt (by rw [e]; exact nI_m1 (by omega))
    have hd : dgt (wa w n p) = true := by
      rw [e]; unfold dgt wi
      rw [decide_eq_true (show (48 : Int32) ≤ nI j from nI_le (a := 48) (by omega) (by omega)), decide_eq_true (show nI j ≤ (57 : Int32) from nI_le (b := 57) (by omega) (by omega))]; rfl
    refine ⟨j - 48, p + 1, zu σ 23 3 (nI (p + 1)), zu (zu (zu (zu τ 0 38 (nI p)) 0 39 1) 0 39 (nI (j - 48))) 0 7 (nI (p + 1)), by omega, by omega, by omega, by omega, fun o x => ?_, ?_, hC.at (p + 1), (hM2.zux (i := 39) (by decide)).at (p + 1), hL.st (by rw [zu_ne _ _ _ (by decide)]) (by rw [zu_ne _ _ _ (by decide), zu_ne _ _ _ (by decide)]; exact t22), ?_, ?_⟩
    · unfold F_X7_readItem
      rw [C_digit tC hC.2.2.1 hp, ob]
      dsimp only
      rw [if_pos hd, e, nl48, pk_sub (by omega), if_neg (show ¬ nI (j - 48) < (2 : Int32) from nI_nlt (b := 2) (by omega) (by omega)), C_digit tC hC.2.2.1 hp, ob]
      dsimp only
      rw [if_pos hd, e, nl48, pk_sub (by omega), hC.2.2.1, nI_1]
    · unfold F_M_readsTimes
      rw [hM.2.1, mh, ob]
      dsimp only
      rw [M_in, ob]
      dsimp only
      rw [b2_ite, if_pos c, mh, ob]
      dsimp only
      rw [e, nl48, pk_sub (by omega), zu_self (zu (zu τ 0 38 (nI p)) 0 39 1), upd_ne _ _ (by decide), hM2.2.1, nI_1]
    · rw [zu_self, upd_ne _ _ (by decide), zu_self, upd_ne _ _ (by decide)]; exact t38
    · rw [zu_self, upd_ne _ _ (by decide), zu_self, upd_s]
  · refine ⟨1, p, σ, zu (zu τ 0 38 (nI p)) 0 39 1, by omega, by omega, by omega, hp, fun o x => ?_, ?_, hC, hM2, hL.st rfl t22, t38, t39⟩
    · unfold F_X7_readItem
      rw [C_digit tC hC.2.2.1 hp, ob]
      dsimp only
      have : (if dgt (wa w n p) = true then wa w n p - 48 else -1) < (2 : Int32) := by
        by_cases hd : dgt (wa w n p) = true
        · obtain ⟨r, hr, e1, e2⟩ := dgt_of hd
          rw [if_pos hd, e2]
          refine nI_lt (b := 2) ?_ (by omega)
          by_cases h2 : r < 2
          · exact h2
          · exact absurd (by rw [e1]; unfold wi; rw [decide_eq_true (show (50 : Int32) ≤ nI (48 + r) from nI_le (a := 50) (by omega) (by omega)), decide_eq_true (show nI (48 + r) ≤ (57 : Int32) from nI_le (b := 57) (by omega) (by omega))]; rfl) c
        · rw [if_neg hd]; decide
      rw [if_pos this, hC.2.2.1]
      rfl
    · unfold F_M_readsTimes
      rw [hM.2.1, mh, ob]
      dsimp only
      rw [M_in, ob]
      dsimp only
      rw [b2_ite, if_neg c]
end
