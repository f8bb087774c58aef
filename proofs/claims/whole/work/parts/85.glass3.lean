-- glasses: the whole call
theorem nI_m2 {i : Nat} (h : i < 2 ^ 31) : ¬ nI i = -2 := fun e => by
  have h1 := congrArg Int32.toInt e
  rw [nI_toInt h] at h1
  have h2 : Int32.toInt (-2) = -2 := by decide
  omega
section
variable {n m : Nat} {s : Hp}
theorem lp_step {c f e : Nat} (hn : n < 256) (hm : m < 256) (e2 : s 36 2 = nI n) (e3 : s 36 3 = nI m) (T : TbWA (bt (nI n)) (bt (nI m)) (gph n m) (gph m n) (s 37)) (hc : c < 8) (hf : f ≤ 8) (he : e < 8) (k16 : Int32 → Int32 → Int32 → Hp → Option (Int32 × Hp)) : B_X3_leastPartner_16 k16 (nI c) (nI f) (nI e) s = if bt (nI m) e = true ∧ ab c e + Wg (bt (nI n)) (bt (nI m)) (gph n m) (gph m n) (c + 1) (e + 1) = Wg (bt (nI n)) (bt (nI m)) (gph n m) (gph m n) c f then some (nI e, s) else if ¬ bt (nI m) e = true ∨ gph m n = true then k16 (nI c) (nI f) (nI (e + 1)) s else some (8, s) := by
  have j71 : J_X3_leastPartner_71 k16 (nI c) (nI f) (nI e) s = if ¬ bt (nI m) e = true ∨ gph m n = true then k16 (nI c) (nI f) (nI (e + 1)) s else some (8, s) := by
    unfold J_X3_leastPartner_71
    rw [e2, e3, X3_may hm hn (by omega), ob]
    dsimp only
    rw [b2_ite, nI_1]
    by_cases h : ¬ bt (nI m) e = true ∨ gph m n = true
    · rw [if_pos (decide_eq_true h), if_pos h]
    · rw [if_neg (by simpa using h), if_neg h]
  unfold B_X3_leastPartner_16
  rw [if_neg (show ¬ (8 : Int32) ≤ nI e from nI_ge (b := 8) (by omega) (by omega)), e3, X3_sits _ (by omega), ob]
  dsimp only
  rw [b2_ite]
  by_cases h1 : bt (nI m) e = true
  rotate_left
  · rw [if_neg h1, if_neg (fun z => h1 z.1)]
    exact j71
  rw [if_pos h1]
  simp (disch := omega) only [nl9, inb_nI, gd_tt, nI_clamp, nI_1, nI_add, pk_mul]
  have w1 := W_le (H := bt (nI n)) (A := bt (nI m)) (ph := gph n m) (pa := gph m n) (c + 1) (e + 1) (by omega) (by omega)
  have w2 := W_le (H := bt (nI n)) (A := bt (nI m)) (ph := gph n m) (pa := gph m n) c f (by omega) (by omega)
  have a1 := ab_le (show c ≤ 8 by omega) (show e ≤ 8 by omega)
  rw [show (c + 1) * 9 + e + 1 = 9 * (c + 1) + (e + 1) by omega, show c * 9 + f = 9 * c + f by omega, T (c + 1) (e + 1) (by omega) (by omega), T c f (by omega) hf, jabs_ab c (by omega) e (by omega), nI_add]
  by_cases h2 : ab c e + Wg (bt (nI n)) (bt (nI m)) (gph n m) (gph m n) (c + 1) (e + 1) = Wg (bt (nI n)) (bt (nI m)) (gph n m) (gph m n) c f
  · rw [if_pos (by rw [h2]), if_pos ⟨h1, h2⟩]
  · rw [if_neg (nI_lit (by omega) (by omega) h2), if_neg (fun z => h2 z.2)]
    exact j71
theorem lp_un (N : Nat) (a b c : Int32) (s : Hp) : L_X3_leastPartner_16 (N + 1) a b c s = B_X3_leastPartner_16 (fun x1 x2 x3 σ => L_X3_leastPartner_16 N x1 x2 x3 σ) a b c s := rfl
theorem lp_8 (N : Nat) (a b : Int32) (s : Hp) : L_X3_leastPartner_16 (N + 1) a b (nI 8) s = some (8, s) := by
  rw [lp_un]; unfold B_X3_leastPartner_16; rw [if_pos (by decide)]
theorem lp_take {c f e : Nat} (hn : n < 256) (hm : m < 256) (e2 : s 36 2 = nI n) (e3 : s 36 3 = nI m) (T : TbWA (bt (nI n)) (bt (nI m)) (gph n m) (gph m n) (s 37)) (hc : c < 8) (hf : f ≤ 8) (he : e < 8) (hA : bt (nI m) e = true) (h1 : ab c e + Wg (bt (nI n)) (bt (nI m)) (gph n m) (gph m n) (c + 1) (e + 1) = Wg (bt (nI n)) (bt (nI m)) (gph n m) (gph m n) c f) (h2 : ∀ x, f ≤ x → x < e → bt (nI m) x = true → gph m n = true ∧ ¬ ab c x + Wg (bt (nI n)) (bt (nI m)) (gph n m) (gph m n) (c + 1) (x + 1) = Wg (bt (nI n)) (bt (nI m)) (gph n m) (gph m n) c f) : ∀ (k x N : Nat), e - x = k → f ≤ x → x ≤ e → k < N → L_X3_leastPartner_16 N (nI c) (nI f) (nI x) s = some (nI e, s) := by
  intro k
  induction k with
  | zero =>
    intro x N hk hx hxe hN
    obtain ⟨N, rfl⟩ : ∃ N', N = N' + 1 := ⟨N - 1, by omega⟩
    obtain rfl : x = e := by omega
    rw [lp_un, lp_step hn hm e2 e3 T hc hf he, if_pos ⟨hA, h1⟩]
  | succ k ih =>
    intro x N hk hx hxe hN
    obtain ⟨N, rfl⟩ : ∃ N', N = N' + 1 := ⟨N - 1, by omega⟩
    rw [lp_un, lp_step hn hm e2 e3 T hc hf (show x < 8 by omega), if_neg (fun z => (h2 x hx (by omega) z.1).2 z.2), if_pos (by
      by_cases q : bt (nI m) x = true
      · exact Or.inr (h2 x hx (by omega) q).1
      · exact Or.inl q)]
    exact ih (x + 1) N (by omega) (by omega) (by omega) (by omega)
theorem lp_none {c f : Nat} (hn : n < 256) (hm : m < 256) (e2 : s 36 2 = nI n) (e3 : s 36 3 = nI m) (T : TbWA (bt (nI n)) (bt (nI m)) (gph n m) (gph m n) (s 37)) (hc : c < 8) (hf : f ≤ 8) (h2 : ∀ x, f ≤ x → x < 8 → bt (nI m) x = true → (∀ y, f ≤ y → y < x → bt (nI m) y = true → gph m n = true) → ¬ ab c x + Wg (bt (nI n)) (bt (nI m)) (gph n m) (gph m n) (c + 1) (x + 1) = Wg (bt (nI n)) (bt (nI m)) (gph n m) (gph m n) c f) : ∀ (k x N : Nat), 8 - x = k → f ≤ x → x ≤ 8 → (∀ y, f ≤ y → y < x → bt (nI m) y = true → gph m n = true) → k < N → L_X3_leastPartner_16 N (nI c) (nI f) (nI x) s = some (8, s) := by
  intro k
  induction k with
  | zero =>
    intro x N hk hx hx8 _ hN
    obtain ⟨N, rfl⟩ : ∃ N', N = N' + 1 := ⟨N - 1, by omega⟩
    obtain rfl : x = 8 := by omega
    exact lp_8 _ _ _ _
  | succ k ih =>
    intro x N hk hx hx8 hr hN
    obtain ⟨N, rfl⟩ : ∃ N', N = N' + 1 := ⟨N - 1, by omega⟩
    rw [lp_un, lp_step hn hm e2 e3 T hc hf (show x < 8 by omega), if_neg (fun z => h2 x hx (by omega) z.1 hr z.2)]
    by_cases q : ¬ bt (nI m) x = true ∨ gph m n = true
    · rw [if_pos q]
      refine ih (x + 1) N (by omega) (by omega) (by omega) (fun y h1 h3 hy => ?_) (by omega)
      by_cases e : y = x
      · rcases q with q | q
        · exact absurd (e ▸ hy) q
        · exact q
      · exact hr y h1 (by omega) hy
    · rw [if_neg q]
theorem lp_tot {c f : Nat} (hn : n < 256) (hm : m < 256) (e2 : s 36 2 = nI n) (e3 : s 36 3 = nI m) (T : TbWA (bt (nI n)) (bt (nI m)) (gph n m) (gph m n) (s 37)) (hc : c < 8) (hf : f ≤ 8) : ∃ e, e ≤ 8 ∧ F_X3_leastPartner (nI c) (nI f) s = some (nI e, s) := by
  have key : ∀ (k x N : Nat), 8 - x = k → x ≤ 8 → k < N → ∃ e, e ≤ 8 ∧ L_X3_leastPartner_16 N (nI c) (nI f) (nI x) s = some (nI e, s) := by
    intro k
    induction k with
    | zero =>
      intro x N hk hx hN
      obtain ⟨N, rfl⟩ : ∃ N', N = N' + 1 := ⟨N - 1, by omega⟩
      obtain rfl : x = 8 := by omega
      exact ⟨8, by omega, lp_8 _ _ _ _⟩
    | succ k ih =>
      intro x N hk hx hN
      obtain ⟨N, rfl⟩ : ∃ N', N = N' + 1 := ⟨N - 1, by omega⟩
      rw [lp_un, lp_step hn hm e2 e3 T hc hf (show x < 8 by omega)]
      split
      · exact ⟨x, by omega, rfl⟩
      · split
        · exact ih (x + 1) N (by omega) (by omega) (by omega)
        · exact ⟨8, by omega, rfl⟩
  unfold F_X3_leastPartner
  rw [X3_sits _ (by omega), ob]
  dsimp only
  rw [b2_ite]
  split
  · exact key (8 - f) f FU rfl hf (FU_lt (by omega))
  · exact ⟨8, by omega, rfl⟩
/-- a step of the row of those who give -/
theorem c62_step {c f e N : Nat} (hc : c < 8) (he : e ≤ 8) (h : F_X3_leastPartner (nI c) (nI f) s = some (nI e, s)) : L_X3_carry_62 (N + 1) (nI f) (nI c) s = L_X3_carry_62 N (nI (if e = 8 then f else e + 1)) (nI (c + 1)) (zu s 38 c (nI e)) := by
  show B_X3_carry_62 (fun x3 x4 σ => L_X3_carry_62 N x3 x4 σ) (nI f) (nI c) s = _
  unfold B_X3_carry_62
  rw [if_neg (show ¬ (8 : Int32) ≤ nI c from nI_ge (b := 8) (by omega) (by omega)), h, ob]
  dsimp only
  simp (disch := omega) only [inb_nI, gd_tt, nI_clamp, nI_1, zu_self, upd_s]
  by_cases q : e = 8
  · rw [if_pos (show nI e = (8 : Int32) by rw [q]; rfl), if_pos q]
  · rw [if_neg (show ¬ nI e = (8 : Int32) from nI_lit (k := 8) (by omega) (by omega) q), if_neg q]
end
theorem c62_rest {n m : Nat} (hn : n < 256) (hm : m < 256) : ∀ (k c f N : Nat) (s : Hp), 8 - c = k → c ≤ 8 → f ≤ 9 → k < N → s 36 2 = nI n → s 36 3 = nI m → TbWA (bt (nI n)) (bt (nI m)) (gph n m) (gph m n) (s 37) → f ≤ 8 → ∃ s', L_X3_carry_62 N (nI f) (nI c) s = some s' ∧ Ag [38] s s' ∧ ∀ i, i < c → s' 38 i = s 38 i := by
  intro k
  induction k with
  | zero =>
    intro c f N s hk hc hf hN e2 e3 T hf8
    obtain ⟨N, rfl⟩ : ∃ N', N = N' + 1 := ⟨N - 1, by omega⟩
    obtain rfl : c = 8 := by omega
    refine ⟨s, ?_, Ag.rf, fun _ _ => rfl⟩
    show B_X3_carry_62 _ _ (nI 8) s = _
    unfold B_X3_carry_62
    rw [if_pos (by decide)]
  | succ k ih =>
    intro c f N s hk hc hf hN e2 e3 T hf8
    obtain ⟨N, rfl⟩ : ∃ N', N = N' + 1 := ⟨N - 1, by omega⟩
    obtain ⟨e, he, h⟩ := lp_tot hn hm e2 e3 T (show c < 8 by omega) hf8
    rw [c62_step (by omega) he h]
    obtain ⟨s', h1, h2, h3⟩ := ih (c + 1) (if e = 8 then f else e + 1) N (zu s 38 c (nI e)) (by omega) (by omega) (by split <;> omega) (by omega) (by rw [zu_ne _ _ _ (by decide)]; exact e2) (by rw [zu_ne _ _ _ (by decide)]; exact e3) (by rw [zu_ne _ _ _ (by decide)]; exact T) (by split <;> omega)
    refine ⟨s', h1, fun k hk => ?_, fun i hi => ?_⟩
    · rw [h2 k hk, zu_ne _ _ _ (by simpa using hk)]
    · rw [h3 i (by omega), zu_self, upd_ne _ _ (by omega)]
section
variable {n m : Nat} {t : Hp}
theorem g105_step {c st e : Nat} {x1 : Int32} (T : TbUA (bt (nI n)) (nI m) (t 27)) (hc : c < 8) (hs : st < 256) (he : e < 8) (k202 : Int32 → Int32 → Int32 → Int32 → Int32 → Int32 → Hp → Option (Int32 × Hp)) (k105 : Int32 → Int32 → Int32 → Int32 → Int32 → Int32 → Int32 → Hp → Option (Int32 × Hp)) : (bt (nI n) c = true ∧ Fs (nI m) (nI st) e = true ∧ Ug (bt (nI n)) (c + 1) (rm (Fs (nI m) (nI st)) e) + ab c e = Ug (bt (nI n)) c (Fs (nI m) (nI st)) → B_M_glasses_105 k202 k105 x1 (nI n) (nI m) (nI st) (-2) (nI c) (nI e) t = k105 x1 (nI n) (nI m) (nI st) (nI e) (nI c) (nI (e + 1)) t) ∧ (¬ (bt (nI n) c = true ∧ Fs (nI m) (nI st) e = true ∧ Ug (bt (nI n)) (c + 1) (rm (Fs (nI m) (nI st)) e) + ab c e = Ug (bt (nI n)) c (Fs (nI m) (nI st))) → B_M_glasses_105 k202 k105 x1 (nI n) (nI m) (nI st) (-2) (nI c) (nI e) t = k105 x1 (nI n) (nI m) (nI st) (-2) (nI c) (nI (e + 1)) t) := by
  obtain ⟨H, hH⟩ : ∃ H, H = bt (nI n) := ⟨_, rfl⟩
  rw [← hH] at T ⊢
  unfold B_M_glasses_105
  rw [if_neg (show ¬ (8 : Int32) ≤ nI e from nI_ge (b := 8) (by omega) (by omega)), if_pos rfl, M_has _ (by omega), ob]
  dsimp only
  rw [b2_ite, ← hH, nI_1]
  by_cases h1 : H c = true
  rotate_left
  · rw [if_neg h1]
    exact ⟨fun z => absurd z.1 h1, fun _ => rfl⟩
  rw [if_pos h1, M_has _ (by omega), ob]
  dsimp only
  rw [b2_ite, show bt (nI m &&& (nI st ^^^ -1)) e = Fs (nI m) (nI st) e from rfl]
  by_cases h2 : Fs (nI m) (nI st) e = true
  rotate_left
  · rw [if_neg h2]
    exact ⟨fun z => absurd z.2.1 h2, fun _ => rfl⟩
  rw [if_pos h2, M_size (by omega) (by omega), ob]
  dsimp only
  obtain ⟨o1, o2⟩ := or_nat st hs e he
  have ue : Ug H (c + 1) (Fs (nI m) (nI st ||| ((1 : Int32) <<< (nI e &&& 31)))) = Ug H (c + 1) (rm (Fs (nI m) (nI st)) e) := U_ext (fun x hx => by rw [Fs_or (by omega) hx])
  rw [o2] at ue ⊢
  obtain ⟨s', hs'⟩ : ∃ s', s' = (nI st ||| ((1 : Int32) <<< (nI e &&& 31))).toNatClampNeg := ⟨_, rfl⟩
  rw [← hs'] at ue o1 ⊢
  simp (disch := omega) only [nl256, inb_nI, gd_tt, nI_clamp, nI_1, nI_add, pk_mul]
  have b1 := Ug_le8 (H := H) (c + 1) (Fs (nI m) (nI s'))
  have b3 := Ug_le8 (H := H) c (Fs (nI m) (nI st))
  have a1 := ab_le (show c ≤ 8 by omega) (show e ≤ 8 by omega)
  rw [T (c + 1) s' (by omega) o1, T c st (by omega) hs, nI_add, ue]
  rw [ue] at b1
  by_cases h3 : Ug H (c + 1) (rm (Fs (nI m) (nI st)) e) + ab c e = Ug H c (Fs (nI m) (nI st))
  · rw [if_pos (by rw [h3])]
    exact ⟨fun _ => rfl, fun z => absurd ⟨h1, h2, h3⟩ z⟩
  · rw [if_neg (nI_lit (by omega) (by omega) h3)]
    exact ⟨fun z => absurd z.2.2 h3, fun _ => rfl⟩
theorem g105_un (k202 : Int32 → Int32 → Int32 → Int32 → Int32 → Int32 → Hp → Option (Int32 × Hp)) (N : Nat) (x1 x2 x3 x4 x5 x6 x7 : Int32) (t : Hp) : L_M_glasses_105 k202 (N + 1) x1 x2 x3 x4 x5 x6 x7 t = B_M_glasses_105 k202 (fun x1 x2 x3 x4 x5 x6 x7 σ => L_M_glasses_105 k202 N x1 x2 x3 x4 x5 x6 x7 σ) x1 x2 x3 x4 x5 x6 x7 t := rfl
theorem g105_take {c st e : Nat} {x1 : Int32} (T : TbUA (bt (nI n)) (nI m) (t 27)) (hc : c < 8) (hs : st < 256) (he : e < 8) (hH : bt (nI n) c = true) (hF : Fs (nI m) (nI st) e = true) (hU : Ug (bt (nI n)) (c + 1) (rm (Fs (nI m) (nI st)) e) + ab c e = Ug (bt (nI n)) c (Fs (nI m) (nI st))) (hl : ∀ x, x < e → Fs (nI m) (nI st) x = true → ¬ Ug (bt (nI n)) (c + 1) (rm (Fs (nI m) (nI st)) x) + ab c x = Ug (bt (nI n)) c (Fs (nI m) (nI st))) (k202 : Int32 → Int32 → Int32 → Int32 → Int32 → Int32 → Hp → Option (Int32 × Hp)) : ∀ (k x N : Nat), e - x = k → x ≤ e → k + 1 < N → L_M_glasses_105 k202 N x1 (nI n) (nI m) (nI st) (-2) (nI c) (nI x) t = k202 x1 (nI n) (nI m) (nI st) (nI e) (nI c) t := by
  intro k
  induction k with
  | zero =>
    intro x N hk hx hN
    obtain ⟨N, rfl⟩ : ∃ N', N = N' + 2 := ⟨N - 2, by omega⟩
    obtain rfl : x = e := by omega
    rw [g105_un, (g105_step T hc hs he _ _).1 ⟨hH, hF, hU⟩, g105_un]
    unfold B_M_glasses_105
    rw [if_neg (nI_m2 (show x < 2 ^ 31 by omega)), ite_self]
  | succ k ih =>
    intro x N hk hx hN
    obtain ⟨N, rfl⟩ : ∃ N', N = N' + 1 := ⟨N - 1, by omega⟩
    rw [g105_un, (g105_step T hc hs (show x < 8 by omega) _ _).2 (fun z => hl x (by omega) z.2.1 z.2.2)]
    exact ih (x + 1) N (by omega) (by omega) (by omega)
theorem g105_none {c st : Nat} {x1 : Int32} (T : TbUA (bt (nI n)) (nI m) (t 27)) (hc : c < 8) (hs : st < 256) (hl : bt (nI n) c = true → ∀ x, x < 8 → Fs (nI m) (nI st) x = true → ¬ Ug (bt (nI n)) (c + 1) (rm (Fs (nI m) (nI st)) x) + ab c x = Ug (bt (nI n)) c (Fs (nI m) (nI st))) (k202 : Int32 → Int32 → Int32 → Int32 → Int32 → Int32 → Hp → Option (Int32 × Hp)) : ∀ (k x N : Nat), 8 - x = k → x ≤ 8 → k < N → L_M_glasses_105 k202 N x1 (nI n) (nI m) (nI st) (-2) (nI c) (nI x) t = k202 x1 (nI n) (nI m) (nI st) (-2) (nI c) t := by
  intro k
  induction k with
  | zero =>
    intro x N hk hx hN
    obtain ⟨N, rfl⟩ : ∃ N', N = N' + 1 := ⟨N - 1, by omega⟩
    obtain rfl : x = 8 := by omega
    rw [g105_un]
    unfold B_M_glasses_105
    rw [if_pos (by decide)]
  | succ k ih =>
    intro x N hk hx hN
    obtain ⟨N, rfl⟩ : ∃ N', N = N' + 1 := ⟨N - 1, by omega⟩
    rw [g105_un, (g105_step T hc hs (show x < 8 by omega) _ _).2 (fun z => hl z.1 x (by omega) z.2.1 z.2.2)]
    exact ih (x + 1) N (by omega) (by omega) (by omega)
end
theorem Jg.ext {H A : Nat → Bool} {c f : Nat} {F F' : Nat → Bool} (h : Jg H A c F f) (hf : f ≤ 8) (he : ∀ x, x < 8 → F x = F' x) : Jg H A c F' f := by
  refine ⟨fun x h1 h2 => by rw [← he x h2]; exact h.1 x h1 h2, fun e h1 h2 => ?_⟩
  rw [← he e (by omega)] at h2
  obtain ⟨p, e', a1, a2, a3, a4, a5⟩ := h.2 e h1 h2
  refine ⟨p, e', a1, a2, a3, by rw [← he e' a3]; exact a4, ?_⟩
  have u1 : Ug H c F' = Ug H c F := U_ext (fun x hx => by rw [he x hx])
  have u2 : Ug H c (ad (rm F' e) e') = Ug H c (ad (rm F e) e') := U_ext (fun x hx => by rw [ad_t, rm_t, ad_t, rm_t, he x hx])
  rw [u1, u2]
  exact a5
theorem Bal_0 {n m : Nat} : Bal (bt (nI n)) (bt (nI m)) (gph n m) (gph m n) 0 0 := by
  unfold Bal gph
  simp only [decide_eq_true_eq, decide_eq_false_iff_not]
  omega
theorem sim_glasses {σ τ : Hp} (h : Rl σ τ) (a1 : Int32) : ∃ r σ' τ', F_V_glasses a1 σ = some (r, σ') ∧ F_M_glasses a1 τ = some (r, τ') ∧ Rl σ' τ' := by
  have core : (wi a1 0 7 = true ∨ wi a1 100 101 = true) → ∃ r σ' τ', J_V_glasses_23 a1 σ = some (r, σ') ∧ J_M_glasses_23 a1 τ = some (r, τ') ∧ Rl σ' τ' := by
    intro ha
    unfold J_V_glasses_23 J_M_glasses_23
    have cb0 := C_bits 1 0 (by omega) 0 σ
    have cb1 := C_bits 1 1 (by omega) 0 σ
    have ms0 := M_setOf 0 (by omega) 0 τ
    have ms1 := M_setOf 1 (by omega) 0 τ
    rw [← set_eq h.1 0 (by omega) 0 (by decide)] at ms0
    rw [← set_eq h.1 1 (by omega) 0 (by decide)] at ms1
    obtain ⟨n, hn, en⟩ := bset_nat (fun c => decide (σ (1 + 5) (8 * 0 + c) = 0))
    obtain ⟨m, hm, em⟩ := bset_nat (fun c => decide (σ (1 + 5) (8 * 1 + c) = 0))
    rw [en] at cb0 ms0
    rw [em] at cb1 ms1
    rw [show F_X10_bits 1 0 0 σ = _ from cb0, show F_M_setOf 0 0 τ = _ from ms0, ob, ob]
    dsimp only
    rw [show F_X10_bits 1 1 0 σ = _ from cb1, show F_M_setOf 1 0 τ = _ from ms1, ob, ob]
    dsimp only
    obtain ⟨t, t1, t2, t3⟩ := M_lays (τ := τ) hn hm
    unfold F_X3_carry
    obtain ⟨s, s1, s2, s3⟩ := C_carry (σ := zu (zu σ 36 2 (nI n)) 36 3 (nI m)) hn hm (by rw [zu_self, upd_ne _ _ (by decide), zu_self, upd_s]) (by rw [zu_self, upd_s]) J_X3_carry_57
    rw [s1, t1, ob]
    have E2 : s 36 2 = nI n := by rw [s2 36 (by decide), zu_self, upd_ne _ _ (by decide), zu_self, upd_s]
    have E3 : s 36 3 = nI m := by rw [s2 36 (by decide), zu_self, upd_s]
    have sAg : ∀ k, k ∉ [36, 37] → s k = σ k := fun k hk => by
      have : k ≠ 36 ∧ k ≠ 37 := by revert hk; simp
      rw [s2 k (by simp; omega), zu_ne _ _ _ this.1, zu_ne _ _ _ this.1]
    have fin : ∀ s', Ag [38] s s' → Rl s' t := fun s' q => h.sc (S := [36, 37, 38]) (T := [27]) (fun k hk => by
      have : k ≠ 36 ∧ k ≠ 37 ∧ k ≠ 38 := by revert hk; simp
      rw [q k (by simp; omega), sAg k (by simp; omega)]) t2 (by decide) (by decide)
    unfold J_X3_carry_57
    have hb0 := Bal_0 (n := n) (m := m)
    have hJ0 : Jg (bt (nI n)) (bt (nI m)) 0 (Fs (nI m) (nI 0)) 0 := (J_0 (H := bt (nI n)) (A := bt (nI m))).ext (by omega) (fun x hx => (Fs_0 (a := nI m) (e := x) (by omega)).symm)
    have hFU : FU = 1000000 := rfl
    have hW := Bal_W hb0 (by omega) (by omega)
    have hN := J_N hJ0
    have hi := N_hi (H := bt (nI n)) (A := bt (nI m)) _ 0 0 rfl (by omega) (by omega)
    have cl1 := cnt_le (bt (nI n)) 0
    have cl2 := cnt_le (bt (nI m)) 0
    have t0 : t 27 (Int32.toNatClampNeg 0) = nI (Ng (bt (nI n)) (bt (nI m)) 0 0) := by
      have := t3 0 0 (by omega) (by omega)
      rw [hN] at this
      exact this
    have s0 : s 37 (Int32.toNatClampNeg 0) = nI (Wg (bt (nI n)) (bt (nI m)) (gph n m) (gph m n) 0 0) := s3 0 0 (by omega) (by omega)
    by_cases q : a1 = 100
    · subst q
      obtain ⟨s', r1, r2, r3⟩ := c62_rest hn hm 8 0 0 FU s rfl (by omega) (by omega) (FU_lt (by omega)) E2 E3 s3 (by omega)
      rw [show L_X3_carry_62 FU 0 0 s = _ from r1, ob, if_pos rfl, if_pos rfl]
      unfold F_X3_apart
      rw [gd_true (show inb 0 81 = true from rfl), gd_true (show inb 0 2304 = true from rfl), ob, r2 37 (by decide), s0, t0, nl1000, jrem_nI (by omega) (by omega) (by omega)]
      refine ⟨nI (Wg (bt (nI n)) (bt (nI m)) (gph n m) (gph m n) 0 0), s', t, rfl, ?_, fin s' r2⟩
      rw [show Ng (bt (nI n)) (bt (nI m)) 0 0 % 1000 = Wg (bt (nI n)) (bt (nI m)) (gph n m) (gph m n) 0 0 by omega]
    by_cases q2 : a1 = 101
    · subst q2
      obtain ⟨s', r1, r2, r3⟩ := c62_rest hn hm 8 0 0 FU s rfl (by omega) (by omega) (FU_lt (by omega)) E2 E3 s3 (by omega)
      rw [show L_X3_carry_62 FU 0 0 s = _ from r1, ob, if_neg (show ¬ (101 : Int32) = 100 by decide), if_pos rfl, if_neg (show ¬ (101 : Int32) = 100 by decide), if_pos rfl]
      unfold F_X3_twos
      rw [r2 36 (by decide), E2, C_bitCount hn, ob]
      dsimp only
      rw [r2 36 (by decide), E3, C_bitCount hm, ob, M_bits, ob, ob]
      dsimp only
      rw [gd_true (show inb 0 2304 = true from rfl), t0, nl1000, pk_div (by omega) (by omega) (by omega), pop_cnt n hn, pop_cnt m hm, jmin_nI (by omega) (by omega), pk_sub (by omega)]
      refine ⟨nI (min (cnt (bt (nI n)) 0) (cnt (bt (nI m)) 0)), s', t, rfl, ?_, fin s' r2⟩
      rw [show cnt (bt (nI n)) 0 - Ng (bt (nI n)) (bt (nI m)) 0 0 / 1000 = min (cnt (bt (nI n)) 0) (cnt (bt (nI m)) 0) by omega]
    rw [if_neg q, if_neg q2]
    have ha7 : wi a1 0 7 = true := by
      rcases ha with ha | ha
      · exact ha
      · obtain ⟨j, h1, h2, e⟩ := wi_from (a := 100) (M := 101) (m := 100) (n := 101) (by decide) (by decide) ha
        rcases (show j = 100 ∨ j = 101 by omega) with rfl | rfl
        · exact absurd e q
        · exact absurd e q2
    obtain ⟨w, hw, rfl⟩ := wi_nat (M := 7) (n := 7) (by decide) ha7
    have key : ∃ (s' : Hp) (x5 : Int32), L_X3_carry_62 FU 0 0 s = some s' ∧ L_M_glasses_92 FU (nI w) (nI n) (nI m) 0 (-2) 0 t = some (x5, t) ∧ Ag [38] s s' ∧ ((x5 = -2 ∧ s' 38 w = 8) ∨ ∃ e, e < 8 ∧ x5 = nI e ∧ s' 38 w = nI e) := by
      have run : ∀ c, c ≤ w + 1 → ∃ (f st : Nat) (s' : Hp) (x5 : Int32), L_X3_carry_62 FU 0 0 s = L_X3_carry_62 (FU - c) (nI f) (nI c) s' ∧ L_M_glasses_92 FU (nI w) (nI n) (nI m) 0 (-2) 0 t = L_M_glasses_92 (FU - c) (nI w) (nI n) (nI m) (nI st) x5 (nI c) t ∧ f ≤ 8 ∧ st < 256 ∧ Jg (bt (nI n)) (bt (nI m)) c (Fs (nI m) (nI st)) f ∧ Bal (bt (nI n)) (bt (nI m)) (gph n m) (gph m n) c f ∧ Ag [38] s s' ∧ (0 < c → (x5 = -2 ∧ s' 38 (c - 1) = 8) ∨ ∃ e, e < 8 ∧ x5 = nI e ∧ s' 38 (c - 1) = nI e) := by
        intro c
        induction c with
        | zero => intro _; exact ⟨0, 0, s, -2, rfl, rfl, by omega, by omega, hJ0, hb0, Ag.rf, fun z => absurd z (by omega)⟩
        | succ c ih =>
          intro hc1
          obtain ⟨f, st, s', x5, g1, g2, g3, g4, g5, g6, g7, -⟩ := ih (by omega)
          have hc : c < 8 := by omega
          have E2' : s' 36 2 = nI n := by rw [g7 36 (by decide)]; exact E2
          have E3' : s' 36 3 = nI m := by rw [g7 36 (by decide)]; exact E3
          have T' : TbWA (bt (nI n)) (bt (nI m)) (gph n m) (gph m n) (s' 37) := by rw [g7 37 (by decide)]; exact s3
          obtain ⟨K, hK⟩ : ∃ K, FU - c = K + 1 := ⟨FU - c - 1, by omega⟩
          have hK2 : FU - (c + 1) = K := by omega
          have lp0 : F_X3_leastPartner (nI c) (nI f) s' = if bt (nI n) c = true then L_X3_leastPartner_16 FU (nI c) (nI f) (nI f) s' else some (8, s') := by
            unfold F_X3_leastPartner
            rw [E2', X3_sits _ (by omega), ob]
            dsimp only
            rw [b2_ite]
          have ref0 : L_M_glasses_92 (K + 1) (nI w) (nI n) (nI m) (nI st) x5 (nI c) t = L_M_glasses_105 (J_M_glasses_202 (fun x1 x2 x3 x4 x5 x6 σ => L_M_glasses_92 K x1 x2 x3 x4 x5 x6 σ)) FU (nI w) (nI n) (nI m) (nI st) (-2) (nI c) 0 t := by
            show B_M_glasses_92 _ (nI w) (nI n) (nI m) (nI st) x5 (nI c) t = _
            unfold B_M_glasses_92
            rw [if_neg (nI_nlt (by omega) (by omega))]
          rw [hK] at g1 g2
          rw [hK2, g1, g2, ref0]
          have none : ∀ (F2 : Jg (bt (nI n)) (bt (nI m)) (c + 1) (Fs (nI m) (nI st)) f) (B2 : Bal (bt (nI n)) (bt (nI m)) (gph n m) (gph m n) (c + 1) f), F_X3_leastPartner (nI c) (nI f) s' = some (nI 8, s') → L_M_glasses_105 (J_M_glasses_202 (fun x1 x2 x3 x4 x5 x6 σ => L_M_glasses_92 K x1 x2 x3 x4 x5 x6 σ)) FU (nI w) (nI n) (nI m) (nI st) (-2) (nI c) 0 t = J_M_glasses_202 (fun x1 x2 x3 x4 x5 x6 σ => L_M_glasses_92 K x1 x2 x3 x4 x5 x6 σ) (nI w) (nI n) (nI m) (nI st) (-2) (nI c) t → ∃ (f' st' : Nat) (s'' : Hp) (x5' : Int32), L_X3_carry_62 (K + 1) (nI f) (nI c) s' = L_X3_carry_62 K (nI f') (nI (c + 1)) s'' ∧ L_M_glasses_105 (J_M_glasses_202 (fun x1 x2 x3 x4 x5 x6 σ => L_M_glasses_92 K x1 x2 x3 x4 x5 x6 σ)) FU (nI w) (nI n) (nI m) (nI st) (-2) (nI c) 0 t = L_M_glasses_92 K (nI w) (nI n) (nI m) (nI st') x5' (nI (c + 1)) t ∧ f' ≤ 8 ∧ st' < 256 ∧ Jg (bt (nI n)) (bt (nI m)) (c + 1) (Fs (nI m) (nI st')) f' ∧ Bal (bt (nI n)) (bt (nI m)) (gph n m) (gph m n) (c + 1) f' ∧ Ag [38] s s'' ∧ (0 < c + 1 → (x5' = -2 ∧ s'' 38 (c + 1 - 1) = 8) ∨ ∃ e, e < 8 ∧ x5' = nI e ∧ s'' 38 (c + 1 - 1) = nI e) := by
            intro F2 B2 l1 l2
            refine ⟨f, st, zu s' 38 c (nI 8), -2, ?_, ?_, g3, g4, F2, B2, g7.zu (by decide), fun _ => Or.inl ⟨rfl, ?_⟩⟩
            · rw [c62_step hc (by omega) l1, if_pos rfl]
            · rw [l2]
              unfold J_M_glasses_202
              rw [if_pos (by decide), nI_1]
            · rw [show c + 1 - 1 = c by omega, zu_self, upd_s]; rfl
          by_cases hH : bt (nI n) c = true
          rotate_left
          · obtain ⟨F2, B2⟩ := g_pass hc hH g5 g6
            exact none F2 B2 (by rw [lp0, if_neg hH]; rfl) (g105_none t3 hc g4 (fun z => absurd z hH) _ 8 0 FU rfl (by omega) (FU_lt (by omega)))
          rcases g_step hc g3 hH g5 g6 with ⟨e, p1, p2, p3, p4, p5, p6, p7, p8, p9, p10⟩ | ⟨p1, p2, p3, p4⟩
          · have l1 : F_X3_leastPartner (nI c) (nI f) s' = some (nI e, s') := by
              rw [lp0, if_pos hH]
              exact lp_take hn hm E2' E3' T' hc g3 p2 p3 p7 p8 (e - f) f FU rfl (Nat.le_refl _) p1 (FU_lt (by omega))
            have l2 := g105_take (x1 := nI w) t3 hc g4 p2 hH p4 p5 p6 (J_M_glasses_202 (fun x1 x2 x3 x4 x5 x6 σ => L_M_glasses_92 K x1 x2 x3 x4 x5 x6 σ)) e 0 FU (by omega) (by omega) (FU_lt (by omega))
            obtain ⟨o1, o2⟩ := or_nat st g4 e p2
            refine ⟨e + 1, (nI st ||| ((1 : Int32) <<< (nI e &&& 31))).toNatClampNeg, zu s' 38 c (nI e), nI e, ?_, ?_, by omega, o1, ?_, p10, g7.zu (by decide), fun _ => Or.inr ⟨e, p2, rfl, ?_⟩⟩
            · rw [c62_step hc (by omega) l1, if_neg (by omega)]
            · rw [show L_M_glasses_105 (J_M_glasses_202 (fun x1 x2 x3 x4 x5 x6 σ => L_M_glasses_92 K x1 x2 x3 x4 x5 x6 σ)) FU (nI w) (nI n) (nI m) (nI st) (-2) (nI c) 0 t = _ from l2]
              unfold J_M_glasses_202
              rw [if_neg (nI_pos (by omega)), nI_1, ← o2]
            · rw [← o2]
              exact p9.ext (by omega) (fun x hx => (Fs_or p2 hx).symm)
            · rw [show c + 1 - 1 = c by omega, zu_self, upd_s]
          · exact none p3 p4 (by rw [lp0, if_pos hH]; exact lp_none hn hm E2' E3' T' hc g3 p2 (8 - f) f FU rfl (Nat.le_refl _) g3 (fun y h1 h2 => absurd h2 (by omega)) (FU_lt (by omega))) (g105_none t3 hc g4 (fun _ => p1) _ 8 0 FU rfl (by omega) (FU_lt (by omega)))
      obtain ⟨f, st, s', x5, g1, g2, g3, g4, g5, g6, g7, g8⟩ := run (w + 1) (Nat.le_refl _)
      have E2' : s' 36 2 = nI n := by rw [g7 36 (by decide)]; exact E2
      have E3' : s' 36 3 = nI m := by rw [g7 36 (by decide)]; exact E3
      have T' : TbWA (bt (nI n)) (bt (nI m)) (gph n m) (gph m n) (s' 37) := by rw [g7 37 (by decide)]; exact s3
      obtain ⟨s4, r1, r2, r3⟩ := c62_rest hn hm (8 - (w + 1)) (w + 1) f (FU - (w + 1)) s' rfl (by omega) (by omega) (by omega) E2' E3' T' g3
      obtain ⟨K, hK⟩ : ∃ K, FU - (w + 1) = K + 1 := ⟨FU - (w + 1) - 1, by omega⟩
      refine ⟨s4, x5, g1.trans r1, ?_, fun k hk => by rw [r2 k hk]; exact g7 k hk, ?_⟩
      · rw [g2, hK]
        show B_M_glasses_92 _ (nI w) (nI n) (nI m) (nI st) x5 (nI (w + 1)) t = _
        unfold B_M_glasses_92
        rw [if_pos (nI_lt (by omega) (by omega))]
      · have := g8 (by omega)
        rw [show w + 1 - 1 = w by omega] at this
        rw [r3 w (by omega)]
        exact this
    obtain ⟨s', x5, k1, k2, k3, k4⟩ := key
    rw [k1, k2, ob, if_neg q, if_neg q2, gd_true (inbT (show w < 8 by omega) (by omega)), nI_clamp (by omega)]
    rcases k4 with ⟨r1, r2⟩ | ⟨e, r0, r1, r2⟩
    · rw [if_pos r2, r1]
      exact ⟨-2, s', t, rfl, rfl, fin s' k3⟩
    · rw [if_neg (by rw [r2]; exact nI_lit (k := 8) (by omega) (by omega) (by omega)), r2, r1, gd_true (inbT (show w < 8 by omega) (by omega))]
      exact ⟨nI e, s', t, rfl, rfl, fin s' k3⟩
  unfold F_V_glasses F_M_glasses
  simp only [V_within, M_in, ob, b2_ite]
  by_cases h1 : wi a1 0 7 = true
  · rw [if_pos h1, if_pos h1]
    exact core (Or.inl h1)
  · rw [if_neg h1, if_neg h1]
    by_cases h2 : wi a1 100 101 = true
    · rw [if_pos h2, if_pos h2]
      exact core (Or.inr h2)
    · rw [if_neg h2, if_neg h2]
      exact ⟨-1, σ, τ, rfl, rfl, h⟩
