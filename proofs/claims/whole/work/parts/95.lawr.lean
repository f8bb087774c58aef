-- the law as a text: rules
def GC (L : Nat) (σ0 σ : Hp) : Prop := Ag [23, L, L + 1, L + 2, L + 3, L + 4, L + 5, L + 6] σ0 σ
def GM (τ0 τ : Hp) : Prop := (∀ k, k ∉ [0, 7, 8, 9, 10, 11, 12] → τ k = τ0 k) ∧ ∀ j, j ∉ [7, 8, 9, 10, 11, 12, 13, 14] → τ 0 j = τ0 0 j
theorem GC.lw {L : Nat} {σ0 σ σ' : Hp} (h : GC L σ0 σ) (hf : LwG L σ σ') : GC L σ0 σ' := fun k hk => (hf.1 k (fun z => hk (by revert z; simp only [List.mem_cons, List.not_mem_nil, or_false]; omega))).trans (h k hk)
theorem GM.lw {τ0 τ τ' : Hp} (h : GM τ0 τ) (hf : LwF τ τ') : GM τ0 τ' := ⟨fun k hk => (hf.1 k (fun z => hk (by revert z; simp only [List.mem_cons, List.not_mem_nil, or_false]; omega))).trans (h.1 k hk), fun j hj => (hf.2 j (fun z => hj (by revert z; simp only [List.mem_cons, List.not_mem_nil, or_false]; omega))).trans (h.2 j hj)⟩
theorem GM.z0 {τ0 τ : Hp} (h : GM τ0 τ) {i : Nat} {x : Int32} (hi : i ∈ [7, 8, 9, 10, 11, 12, 13, 14]) : GM τ0 (zu τ 0 i x) := ⟨fun k hk => by rw [zu_ne _ _ _ (fun e => hk (by rw [e]; decide))]; exact h.1 k hk, fun j hj => by rw [zu_self, upd_ne _ _ (fun e : j = i => hj (by rw [e]; exact hi))]; exact h.2 j hj⟩
theorem GM.zk {τ0 τ : Hp} (h : GM τ0 τ) {c i : Nat} {x : Int32} (hc : c ∈ [7, 8, 9, 10, 11, 12]) : GM τ0 (zu τ c i x) := by
  have h0 : c ≠ 0 := by revert hc; simp only [List.mem_cons, List.not_mem_nil, or_false]; omega
  exact ⟨fun k hk => by rw [zu_ne _ _ _ (fun e => hk (by rw [e]; exact List.mem_cons_of_mem _ hc))]; exact h.1 k hk, fun j hj => by rw [zu_ne _ _ _ (Ne.symm h0)]; exact h.2 j hj⟩
def RU (L z j : Nat) (σ τ : Hp) : Prop := σ (L + 3) j = τ 9 j ∧ (σ (L + 3) j = 98 ∨ σ (L + 3) j = 116 ∨ σ (L + 3) j = 119 ∨ σ (L + 3) j = 120) ∧ ∃ a h e : Nat, a ≤ h ∧ h ≤ e ∧ e ≤ z ∧ σ (L + 4) j = nI a ∧ τ 10 j = nI a ∧ σ (L + 5) j = nI h ∧ τ 11 j = nI h ∧ σ (L + 6) j = nI e ∧ τ 12 j = nI e ∧ (∀ k, a ≤ k → k < e → cRel (σ (L + 1) k) (σ (L + 2) k) (τ 7 k)) ∧ (σ (L + 3) j = 120 ∨ Seg (σ (L + 1)) (σ (L + 2)) a h [] [false]) ∧ Seg (σ (L + 1)) (σ (L + 2)) h e [] [true]
theorem RU.keep {L z z' j : Nat} {σ τ σ' τ' : Hp} (h : RU L z j σ τ) (hz : z ≤ z') (h3 : σ' (L + 3) j = σ (L + 3) j) (h4 : σ' (L + 4) j = σ (L + 4) j) (h5 : σ' (L + 5) j = σ (L + 5) j) (h6 : σ' (L + 6) j = σ (L + 6) j) (t9 : τ' 9 j = τ 9 j) (t10 : τ' 10 j = τ 10 j) (t11 : τ' 11 j = τ 11 j) (t12 : τ' 12 j = τ 12 j) (hc : ∀ k, k < z → σ' (L + 1) k = σ (L + 1) k ∧ σ' (L + 2) k = σ (L + 2) k ∧ τ' 7 k = τ 7 k) : RU L z' j σ' τ' := by
  obtain ⟨a1, a2, a, hh, e, b1, b2', b3, b4, b5, b6, b7, b8, b9, c1, c2, c3⟩ := h
  unfold RU
  rw [h3, t9]
  refine ⟨a1, a2, a, hh, e, b1, b2', by omega, h4.trans b4, t10.trans b5, h5.trans b6, t11.trans b7, h6.trans b8, t12.trans b9, fun k k1 k2 => ?_, ?_, ?_⟩
  · obtain ⟨x1, x2, x3⟩ := hc k (by omega)
    rw [x1, x2, x3]; exact c1 k k1 k2
  · rcases c2 with c2 | c2
    · exact Or.inl c2
    · exact Or.inr (c2.congr (fun k _ k2 => ⟨(hc k (by omega)).1, (hc k (by omega)).2.1⟩))
  · exact c3.congr (fun k _ k2 => ⟨(hc k (by omega)).1, (hc k (by omega)).2.1⟩)
def Lv (L n : Nat) (w : Nat → Int32) (σ0 τ0 : Hp) (p z i : Nat) (σ τ : Hp) : Prop := (GC L σ0 σ ∧ GM τ0 τ) ∧ ((L = 42 ∨ L = 51) ∧ σ 60 1 = nI L ∧ TxC w n σ ∧ σ 23 3 = nI p ∧ σ L 9 = nI z ∧ σ L 8 = nI i) ∧ (TxM w n τ ∧ τ 0 7 = nI p ∧ τ 0 12 = nI z ∧ τ 0 14 = nI i) ∧ (z ≤ p ∧ p ≤ n ∧ i ≤ 16) ∧ ∀ j, j < i → RU L z j σ τ
def RuX (L : Nat) (σ0 τ0 : Hp) (r r' : Option (Int32 × Hp)) : Prop := ∃ (f : Int32) (σ' τ' : Hp), r = some (0, σ') ∧ r' = some (0, τ') ∧ GC L σ0 σ' ∧ σ' 23 4 = f ∧ GM τ0 τ' ∧ τ' 0 9 = f
theorem Fm.row {L a k : Nat} {σ τ σ' τ' : Hp} (h : Fm L a σ τ σ' τ') (hL : L = 42 ∨ L = 51) (hk : k = L + 3 ∨ k = L + 4 ∨ k = L + 5 ∨ k = L + 6) : σ' k = σ k := h.1.1 k (by simp only [List.mem_cons, List.not_mem_nil, or_false]; omega)
theorem Fm.rowM {L a k : Nat} {σ τ σ' τ' : Hp} (h : Fm L a σ τ σ' τ') (hk : k = 9 ∨ k = 10 ∨ k = 11 ∨ k = 12) : τ' k = τ k := h.2.1.1 k (by simp only [List.mem_cons, List.not_mem_nil, or_false]; omega)
section
variable {L n p z i : Nat} {w : Nat → Int32} {σ0 τ0 σ τ : Hp}
/-- the second half of a rule -/
theorem half_eq (hn : n ≤ 240) (hb : ∀ i, i < n → ∃ r : Nat, r < 256 ∧ w i = nI r) {S : Nat → Nat × Nat} {zs : Nat} {c : Int32} (hV : Vw L n w p z 0 0 S [] σ τ) (hGC : GC L σ0 σ) (hGM : GM τ0 τ) (hi : i < 16) (e14 : τ 0 14 = nI i) (hzs : zs ≤ z)
    (hru : ∀ j, j < i → RU L zs j σ τ) (h3 : σ (L + 3) i = c) (t9 : τ 9 i = c) (hc : c = 98 ∨ c = 116 ∨ c = 119 ∨ c = 120) (h4 : σ (L + 4) i = nI zs) (t10 : τ 10 i = nI zs) (hcr : Cr L zs z σ τ) (hsg : c = 120 ∨ Seg (σ (L + 1)) (σ (L + 2)) zs z [] [false]) :
    RuX L σ0 τ0 (J_X5_readRule_67 (nI i) σ) (J_M_readsRule_116 τ) ∨ ∃ (σ' τ' : Hp) (p' z' : Nat), J_X5_readRule_67 (nI i) σ = some (1, σ') ∧ J_M_readsRule_116 τ = some (1, τ') ∧ Lv L n w σ0 τ0 p' z' (i + 1) σ' τ' ∧ p < p' := by
  obtain ⟨⟨hL, e60, tC, e23, e9⟩, ⟨tM, e7, e12, e11, e13⟩, ⟨hS, -⟩, hz, hmp, hpn, ho⟩ := id hV
  have e9 : σ L 9 = nI z := e9
  have hz : z ≤ p := hz
  have hFU : FU = 1000000 := rfl
  have isl : isL (Int32.toNatClampNeg (nI L)) = true := by rw [nI_clamp (by omega)]; exact isL_of hL
  have clL : Int32.toNatClampNeg (nI L) = L := nI_clamp (by omega)
  unfold J_X5_readRule_67 J_M_readsRule_116
  rw [e60, gd_true isl, gd_true isl, clL, gd_true (inbT hi (by omega)), nI_clamp (by omega), e9, e14, gd_true (inbT hi (by omega)), nI_clamp (by omega), e12]
  obtain ⟨σ6, hσ6⟩ : ∃ σ6, σ6 = zu σ (L + 5) i (nI z) := ⟨_, rfl⟩
  obtain ⟨τ6, hτ6⟩ : ∃ τ6, τ6 = zu τ 11 i (nI z) := ⟨_, rfl⟩
  rw [← hσ6, ← hτ6]
  have s6k : ∀ k, k ≠ L + 5 → σ6 k = σ k := fun k hk => by rw [hσ6, zu_ne _ _ _ hk]
  have t6k : ∀ k, k ≠ 11 → τ6 k = τ k := fun k hk => by rw [hτ6, zu_ne _ _ _ hk]
  have tC6 : TxC w n σ6 := ⟨tC.1, by rw [s6k 23 (by omega)]; exact tC.2.1, fun j hj => by rw [s6k 24 (by omega)]; exact tC.2.2 j hj⟩
  have tM6 : TxM w n τ6 := ⟨tM.1, by rw [t6k 0 (by decide)]; exact tM.2.1, fun j hj => by rw [t6k 6 (by decide)]; exact tM.2.2 j hj⟩
  have e236 : σ6 23 3 = nI p := by rw [s6k 23 (by omega)]; exact e23
  have e76 : τ6 0 7 = nI p := by rw [t6k 0 (by decide)]; exact e7
  have gC6 : GC L σ0 σ6 := by rw [hσ6]; exact Ag.zu hGC (by simp)
  have gM6 : GM τ0 τ6 := by rw [hτ6]; exact hGM.zk (by decide)
  rw [C_takes tC6 e236 hpn]
  unfold F_M_readsCondition
  rw [M_here tM6 e76 hpn, ob]
  dsimp only
  by_cases c40 : wa w n p = 40
  rotate_left
  · rw [if_neg c40, if_neg c40, ob, M_wrA, ob]
    dsimp only
    rw [gdz, if_pos rfl, C_refu, ob, ob]
    dsimp only
    rw [gdz, if_pos rfl]
    exact Or.inl ⟨-1000 * 1 - nI p, _, _, rfl, rfl, Ag.zu gC6 (by simp), by rw [zu_self, upd_s, e236], gM6.z0 (by decide), by rw [zu_self, upd_s, e76]⟩
  have hlt : p < n := wa_lt (w := w) (by rw [c40]; decide)
  rw [if_pos c40, if_pos c40, ob]
  dsimp only
  rw [if_neg (show ¬ (1 : Int32) = 0 by decide)]
  obtain ⟨τa, hτa⟩ : ∃ τa, τa = zu (zu τ6 0 11 0) 0 13 0 := ⟨_, rfl⟩
  rw [← hτa]
  have tak : ∀ k, k ≠ 0 → τa k = τ6 k := fun k hk => by rw [hτa]; simp (disch := omega) only [zu_ne]
  have ta0 : ∀ j, j ≠ 11 → j ≠ 13 → τa 0 j = τ6 0 j := fun j h1 h2 => by rw [hτa]; simp (disch := omega) only [zu_self, upd_ne]
  have ta11 : τa 0 11 = nI 0 := by rw [hτa, zu_self, upd_ne _ _ (by decide), zu_self, upd_s]; rfl
  have ta13 : τa 0 13 = nI 0 := by rw [hτa, zu_self, upd_s]; rfl
  have Va : Vw L n w p z 0 0 S [] σ6 τa := ⟨⟨hL, by rw [s6k 60 (by omega)]; exact e60, tC6, e236, by rw [s6k L (by omega)]; exact e9⟩, ⟨⟨tM.1, by rw [ta0 8 (by decide) (by decide)]; exact tM6.2.1, fun j hj => by rw [tak 6 (by decide)]; exact tM6.2.2 j hj⟩, by rw [ta0 7 (by decide) (by decide)]; exact e76, by rw [ta0 12 (by decide) (by decide), t6k 0 (by decide)]; exact e12, ta11, ta13⟩, ⟨fun j hj => absurd hj (by omega), trivial, trivial, by simp, by simp⟩, hz, by omega, hpn, by omega⟩
  rw [M_opens (x := 13) (o := 0) (m := 0) (p := p) ta11 (by omega) ta13 (by omega) (by rw [ta0 7 (by decide) (by decide)]; exact e76) 13 rfl, ob]
  dsimp only
  rw [if_neg (show ¬ (1 : Int32) = 0 by decide)]
  obtain ⟨τ7, hτ7⟩ : ∃ τ7, τ7 = zu (zu (zu (zu τa 0 11 (nI (0 + 1))) 8 0 (nI (en (13, 0)))) 0 13 (nI (0 + 1))) 0 7 (nI (p + 1)) := ⟨_, rfl⟩
  rw [← hτ7]
  have V7 : Vw L n w (p + 1) z 1 1 (psh S 0 (13, 0)) [] (zu σ6 23 3 (nI (p + 1))) τ7 := by
    refine Va.push hlt (e := (13, 0)) (by show 13 ≤ 14; omega) (by show 0 < 1048576; omega) (by omega) ?_ ?_ ?_ ?_ ?_ ?_ ?_
    all_goals rw [hτ7]
    · rw [zu_self, upd_s]
    · simp (disch := omega) only [zu_ne, zu_self, upd_ne]
    · simp (disch := omega) only [zu_ne, zu_self, upd_ne]
    · simp (disch := omega) only [zu_ne, zu_self, upd_ne, upd_s]
    · simp (disch := omega) only [zu_ne, zu_self, upd_ne, upd_s]
    · simp (disch := omega) only [zu_ne, zu_self]
    · simp (disch := omega) only [zu_ne]
  have t7k : ∀ k, k ≠ 0 → k ≠ 8 → τ7 k = τ6 k := fun k h1 h2 => by rw [hτ7]; simp (disch := omega) only [zu_ne]; exact tak k h1
  have gC7 : GC L σ0 (zu σ6 23 3 (nI (p + 1))) := Ag.zu gC6 (by simp)
  have gM7 : GM τ0 τ7 := by
    rw [hτ7, hτa]; exact (((((gM6.z0 (by decide)).z0 (by decide)).z0 (by decide)).zk (by decide)).z0 (by decide)).z0 (by decide)
  have e147 : τ7 0 14 = nI i := by
    rw [hτ7, hτa]; simp (disch := omega) only [zu_ne, zu_self, upd_ne]; rw [t6k 0 (by decide)]; exact e14
  have hCh := (cond_all (L := L) hn hb 5 1 (by omega) 40 (by omega)).2 (by omega)
  have ecs : L_M_readsCondition_40 J_M_readsCondition_170 FU τ7 = csP FU τ7 := rfl
  rw [ecs]
  unfold D_X5_readChoice
  rcases hCh (p + 1) z 1 (psh S 0 (13, 0)) (zu σ6 23 3 (nI (p + 1))) τ7 FU V7 (by omega) (by rw [show (1 : Nat) - 1 = 0 from rfl, psh_s]) (by omega) with ⟨f, s', t', y1, y2, y3, y4, y5, y6⟩ | ⟨s8, t8, p8, z8, M8, N8, J, g1, g2, V8, hJ, F8, G8, b1, b2', b3, b4, b5, b6, b7⟩
  · left
    rw [show G_X5_readChoice 40 0 1 (zu σ6 23 3 (nI (p + 1))) = _ from y1, y2, ob, ob]
    dsimp only
    rw [if_pos rfl, if_pos rfl]
    exact ⟨f, s', t', rfl, rfl, gC7.lw y3, y4, gM7.lw y5, y6⟩
  obtain ⟨⟨-, -, tC8, e238, -⟩, -, -, ⟨hz8, -, hpn8, -⟩, -⟩ := id V8
  obtain ⟨M8, rfl⟩ : ∃ M', M8 = M' + 1 := ⟨M8 - 1, by omega⟩
  rw [show G_X5_readChoice 40 0 1 (zu σ6 23 3 (nI (p + 1))) = _ from g1, g2, ob]
  dsimp only
  rw [if_neg (show ¬ (1 : Int32) = 0 by decide), C_closing tC8 e238 hpn8]
  by_cases c41 : wa w n p8 = 41
  rotate_left
  · left
    rw [if_neg c41, cl_bad V8 c41 b6 b7, ob, ob]
    dsimp only
    rw [if_pos rfl, if_pos rfl]
    exact ⟨-1000 * 1 - nI p8, _, _, rfl, rfl, Ag.zu (gC7.lw F8.1) (by simp), by rw [zu_self, upd_s], (gM7.lw F8.2.1).z0 (by decide), by rw [zu_self, upd_s]⟩
  right
  obtain ⟨t9', V9, F9, e9'⟩ := cl_close (M := M8) (N := N8) hn V8 c41 (Or.inr (by
      rw [show (0 : Nat) + 1 - 1 = 0 from rfl, psh_s]
      rintro (h | ⟨_, h⟩)
      · exact absurd h (by decide)
      · exact absurd h (by decide))) hJ
  rw [if_pos rfl] at e9'
  rw [if_pos c41, e9', ob, ob]
  dsimp only
  obtain ⟨⟨-, e609, tC9, e239, e99⟩, ⟨tM9, e79, e129, -, -⟩, -, ⟨hz9, -, hpn9, -⟩, -⟩ := id V9
  have F79 := F8.tr F9 (Nat.le_refl _)
  have e149 : t9' 0 14 = nI i := by rw [F79.2.1.2 14 (by decide)]; exact e147
  rw [if_neg (show ¬ (1 : Int32) = 0 by decide), if_neg (show ¬ (1 : Int32) = 0 by decide), e609, gd_true isl, gd_true isl, clL, gd_true (inbT hi (by omega)), e99, e149, gd_true (inbT hi (by omega)), nI_clamp (by omega), e129]
  rw [zu_ne _ _ _ (show (60 : Nat) ≠ L + 6 by omega), e609, gd_true isl, clL, zu_ne _ _ _ (show (0 : Nat) ≠ 12 by decide), e149, nI_1]
  have hcodes : ∀ k, k < z → zu s8 23 3 (nI (p8 + 1)) (L + 1) k = σ (L + 1) k ∧ zu s8 23 3 (nI (p8 + 1)) (L + 2) k = σ (L + 2) k ∧ t9' 7 k = τ 7 k := fun k hk => by
    obtain ⟨x1, x2, x3⟩ := F79.2.2 k hk
    rw [x1, x2, x3, zu_ne _ _ _ (by omega), zu_ne _ _ _ (by omega), s6k _ (by omega), s6k _ (by omega), t7k 7 (by decide) (by decide), t6k 7 (by decide)]
    exact ⟨rfl, rfl, rfl⟩
  obtain ⟨s9, hs9⟩ : ∃ s9, s9 = zu s8 23 3 (nI (p8 + 1)) := ⟨_, rfl⟩
  rw [← hs9] at hcodes F79 F9 V9 e609 tC9 e239 e99 ⊢
  have rowC : ∀ k, k = L + 3 ∨ k = L + 4 ∨ k = L + 6 → s9 k = σ k := fun k hk => by
    rw [F79.row hL (by omega), zu_ne _ _ _ (by omega), s6k k (by omega)]
  have rowC5 : s9 (L + 5) = upd (σ (L + 5)) i (nI z) := by
    rw [F79.row hL (by omega), zu_ne _ _ _ (by omega), hσ6, zu_self]
  have rowM : ∀ k, k = 9 ∨ k = 10 ∨ k = 12 → t9' k = τ k := fun k hk => by
    rw [F79.rowM (by omega), t7k k (by omega) (by omega), t6k k (by omega)]
  have rowM11 : t9' 11 = upd (τ 11) i (nI z) := by
    rw [F79.rowM (by omega), t7k 11 (by omega) (by omega), hτ6, zu_self]
  refine ⟨_, _, p8 + 1, z8, rfl, rfl, ⟨⟨Ag.zu (Ag.zu (gC7.lw F79.1) (by simp)) (by simp), ((gM7.lw F79.2.1).zk (by decide)).z0 (by decide)⟩, ⟨hL, ?_, ⟨tC9.1, ?_, fun j hj => ?_⟩, ?_, ?_, ?_⟩, ⟨⟨tM9.1, ?_, fun j hj => ?_⟩, ?_, ?_, ?_⟩, ⟨by omega, hpn9, by omega⟩, fun j hj => ?_⟩, by omega⟩
  · simp (disch := omega) only [zu_ne]; exact e609
  · simp (disch := omega) only [zu_ne]; exact tC9.2.1
  · simp (disch := omega) only [zu_ne]; exact tC9.2.2 j hj
  · simp (disch := omega) only [zu_ne]; exact e239
  · rw [zu_self, upd_ne _ _ (by decide), zu_ne _ _ _ (by omega)]; exact e99
  · rw [zu_self, upd_s]
  · simp (disch := omega) only [zu_ne, zu_self, upd_ne]; exact tM9.2.1
  · simp (disch := omega) only [zu_ne]; exact tM9.2.2 j hj
  · simp (disch := omega) only [zu_ne, zu_self, upd_ne]; exact e79
  · simp (disch := omega) only [zu_ne, zu_self, upd_ne]; exact e129
  · rw [zu_self, upd_s]
  · by_cases q : j = i
    · subst q
      unfold RU
      simp (disch := omega) only [zu_ne, zu_self, upd_s]
      rw [rowC (L + 3) (by omega), rowC (L + 4) (by omega), rowC5, upd_s, rowM 9 (by omega), rowM 10 (by omega), rowM11, upd_s, h3, t9, h4, t10]
      refine ⟨rfl, hc, zs, z, z8, hzs, by omega, Nat.le_refl _, rfl, rfl, rfl, rfl, rfl, rfl, fun k k1 k2 => ?_, ?_, ?_⟩
      · by_cases qk : k < z
        · obtain ⟨x1, x2, x3⟩ := hcodes k qk
          rw [x1, x2, x3]; exact hcr k k1 qk
        · exact V9.cr k (by omega) k2
      · rcases hsg with h | h
        · exact Or.inl h
        · exact Or.inr (h.congr (fun k _ k2 => ⟨(hcodes k k2).1, (hcodes k k2).2.1⟩))
      · rw [hs9]; exact G8.at hL
    · refine (hru j (by omega)).keep (by omega) ?_ ?_ ?_ ?_ ?_ ?_ ?_ ?_ (fun k hk => ?_)
      · simp (disch := omega) only [zu_ne]; rw [rowC _ (by omega)]
      · simp (disch := omega) only [zu_ne]; rw [rowC _ (by omega)]
      · simp (disch := omega) only [zu_ne]; rw [rowC5, upd_ne _ _ q]
      · simp (disch := omega) only [zu_ne, zu_self]; rw [upd_ne _ _ q, rowC _ (by omega)]
      · simp (disch := omega) only [zu_ne]; rw [rowM _ (by omega)]
      · simp (disch := omega) only [zu_ne]; rw [rowM _ (by omega)]
      · simp (disch := omega) only [zu_ne]; rw [rowM11, upd_ne _ _ q]
      · simp (disch := omega) only [zu_ne, zu_self]; rw [upd_ne _ _ q, rowM _ (by omega)]
      · simp (disch := omega) only [zu_ne]; exact hcodes k (by omega)
end
