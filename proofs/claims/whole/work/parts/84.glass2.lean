-- glasses: the other's table
def Fs (a s : Int32) : Nat → Bool := fun e => bt (a &&& (s ^^^ -1)) e
theorem Fs_t {a s : Int32} {e : Nat} (he : e < 32) : Fs a s e = (bt a e && !bt s e) := by
  unfold Fs
  rw [b_and, b_xor, b_m1 e he]
  cases bt a e <;> cases bt s e <;> rfl
theorem Fs_0 {a : Int32} {e : Nat} (he : e < 32) : Fs a 0 e = bt a e := by
  rw [Fs_t he]
  have : ∀ e, e < 32 → bt 0 e = false := by decide
  rw [this e he]
  cases bt a e <;> rfl
theorem Fs_or {a s : Int32} {x e : Nat} (hx : x < 8) (he : e < 8) : Fs a (s ||| ((1 : Int32) <<< (nI x &&& 31))) e = rm (Fs a s) x e := by
  unfold rm
  rw [Fs_t (by omega), Fs_t (by omega), b_or, bt_bit (by omega) (by omega)]
  cases bt a e <;> cases bt s e <;> cases decide (e = x) <;> rfl
theorem or_nat : ∀ s, s < 256 → ∀ e, e < 8 → (nI s ||| ((1 : Int32) <<< (nI e &&& 31))).toNatClampNeg < 256 ∧ nI s ||| ((1 : Int32) <<< (nI e &&& 31)) = nI (nI s ||| ((1 : Int32) <<< (nI e &&& 31))).toNatClampNeg := by decide +kernel
def TbU (H : Nat → Bool) (a : Int32) (T : Nat → Int32) (c s : Nat) : Prop := ∀ p q, p ≤ 8 → q < 256 → (c < p ∨ (p = c ∧ q < s)) → T (256 * p + q) = nI (Ug H p (Fs a (nI q)))
def TbUA (H : Nat → Bool) (a : Int32) (T : Nat → Int32) : Prop := ∀ p q, p ≤ 8 → q < 256 → T (256 * p + q) = nI (Ug H p (Fs a (nI q)))
theorem TbU.up {H : Nat → Bool} {a : Int32} {T : Nat → Int32} {c s : Nat} (h : TbU H a T c s) (hs : s < 256) : TbU H a (upd T (256 * c + s) (nI (Ug H c (Fs a (nI s))))) c (s + 1) := by
  intro p q hp hq hh
  by_cases e : 256 * p + q = 256 * c + s
  · have e1 : p = c := by omega
    have e2 : q = s := by omega
    rw [e1, e2]
    exact upd_s _ _ _
  · rw [upd_ne _ _ e]
    refine h p q hp hq ?_
    by_cases q1 : p = c
    · right; refine ⟨q1, ?_⟩; rw [q1] at e; omega
    · left; omega
theorem nl2048 : (2048 : Int32) = nI 2048 := rfl
theorem nlm1000 : (1000 : Int32) = nI 1000 := rfl
section
variable {n m : Nat} {τ t : Hp}
/-- one more to choose from -/
theorem M_in80 {c s : Nat} (hc : c < 8) (hs : s < 256) (T : TbU (bt (nI n)) (nI m) (t 27) c s) (k153 : Int32 → Int32 → Int32 → Int32 → Int32 → Hp → Option Hp) :
    ∀ (k e N : Nat), 8 - e = k → e ≤ 8 → k < N → L_M_laysGlasses_80 k153 N (nI n) (nI m) (nI c) (nI s) (nI (gO (bt (nI n)) (Ug (bt (nI n)) (c + 1)) c (Fs (nI m) (nI s)) e)) (nI e) t = k153 (nI n) (nI m) (nI c) (nI s) (nI (Ug (bt (nI n)) c (Fs (nI m) (nI s)))) t := by
  obtain ⟨H, hH⟩ : ∃ H, H = bt (nI n) := ⟨_, rfl⟩
  rw [← hH] at T ⊢
  intro k
  induction k with
  | zero =>
    intro e N hk he hN
    obtain ⟨N, rfl⟩ : ∃ N', N = N' + 1 := ⟨N - 1, by omega⟩
    obtain rfl : e = 8 := by omega
    show B_M_laysGlasses_80 _ _ _ _ _ _ _ _ t = _
    unfold B_M_laysGlasses_80
    rw [if_pos (by decide), U_s hc]
  | succ k ih =>
    intro e N hk he hN
    obtain ⟨N, rfl⟩ : ∃ N', N = N' + 1 := ⟨N - 1, by omega⟩
    show B_M_laysGlasses_80 _ (fun x1 x2 x3 x4 x5 x6 σ => L_M_laysGlasses_80 k153 N x1 x2 x3 x4 x5 x6 σ) _ _ _ _ _ _ t = _
    unfold B_M_laysGlasses_80
    rw [if_neg (show ¬ (8 : Int32) ≤ nI e from nI_ge (b := 8) (by omega) (by omega)), M_has _ (by omega), ob]
    dsimp only
    rw [b2_ite, ← hH, nI_1]
    have e0 : gO H (Ug H (c + 1)) c (Fs (nI m) (nI s)) (e + 1) = if H c = true ∧ Fs (nI m) (nI s) e = true then min (gO H (Ug H (c + 1)) c (Fs (nI m) (nI s)) e) (Ug H (c + 1) (rm (Fs (nI m) (nI s)) e) + ab c e) else gO H (Ug H (c + 1)) c (Fs (nI m) (nI s)) e := rfl
    by_cases h1 : H c = true
    rotate_left
    · rw [if_neg h1]
      rw [if_neg (fun z => h1 z.1)] at e0
      rw [← e0]
      exact ih (e + 1) N (by omega) (by omega) (by omega)
    rw [if_pos h1, M_has _ (by omega), ob]
    dsimp only
    rw [b2_ite, show bt (nI m &&& (nI s ^^^ -1)) e = Fs (nI m) (nI s) e from rfl]
    by_cases h2 : Fs (nI m) (nI s) e = true
    rotate_left
    · rw [if_neg h2]
      rw [if_neg (fun z => h2 z.2)] at e0
      rw [← e0]
      exact ih (e + 1) N (by omega) (by omega) (by omega)
    rw [if_pos h2, M_size (by omega) (by omega), ob]
    dsimp only
    obtain ⟨o1, o2⟩ := or_nat s hs e (by omega)
    have ue : Ug H (c + 1) (Fs (nI m) (nI s ||| ((1 : Int32) <<< (nI e &&& 31)))) = Ug H (c + 1) (rm (Fs (nI m) (nI s)) e) := U_ext (fun x hx => by rw [Fs_or (by omega) hx])
    rw [o2] at ue ⊢
    obtain ⟨s', hs'⟩ : ∃ s', s' = (nI s ||| ((1 : Int32) <<< (nI e &&& 31))).toNatClampNeg := ⟨_, rfl⟩
    rw [← hs'] at ue o1 ⊢
    simp (disch := omega) only [nl256, inb_nI, gd_tt, nI_clamp, nI_1, nI_add, pk_mul]
    have b1 := Ug_le8 (H := H) (c + 1) (Fs (nI m) (nI s'))
    have b2' := gO_le0 (H := H) (V := Ug H (c + 1)) (c := c) (F := Fs (nI m) (nI s)) e
    have b3 := Ug_le8 (H := H) (c + 1) (Fs (nI m) (nI s))
    have b4 : pen H c ≤ 1000 := by unfold pen; split <;> omega
    have a1 := ab_le (show c ≤ 8 by omega) (show e ≤ 8 by omega)
    rw [T (c + 1) s' (by omega) o1 (Or.inl (by omega)), nI_add, M_min (by omega) (by omega), ob]
    dsimp only
    rw [if_pos ⟨h1, h2⟩, ← ue] at e0
    rw [← e0]
    exact ih (e + 1) N (by omega) (by omega) (by omega)
theorem M_lays (hn : n < 256) (hm : m < 256) : ∃ t, F_M_laysGlasses (nI n) (nI m) τ = some t ∧ Ag [27] τ t ∧ TbUA (bt (nI n)) (nI m) (t 27) := by
  obtain ⟨H, hH⟩ : ∃ H, H = bt (nI n) := ⟨_, rfl⟩
  rw [← hH]
  unfold F_M_laysGlasses
  have first : ∃ t, L_M_laysGlasses_2 J_M_laysGlasses_26 FU (nI n) (nI m) 0 τ = J_M_laysGlasses_26 (nI n) (nI m) t ∧ Ag [27] τ t ∧ ∀ q, q < 256 → t 27 (2048 + q) = 0 := by
    refine lone (fun N q t => L_M_laysGlasses_2 J_M_laysGlasses_26 N (nI n) (nI m) (nI q) t) (fun q t => Ag [27] τ t ∧ ∀ x, x < q → t 27 (2048 + x) = 0) (fun r => ∃ t, r = J_M_laysGlasses_26 (nI n) (nI m) t ∧ Ag [27] τ t ∧ ∀ q, q < 256 → t 27 (2048 + q) = 0) 256 ?_ ?_ 256 0 FU τ (by omega) (by omega) (FU_lt (by omega)) ⟨Ag.rf, fun x hx => absurd hx (by omega)⟩
    · rintro N t ⟨h1, h2⟩
      show ∃ t', B_M_laysGlasses_2 _ _ _ _ (nI 256) t = _ ∧ _
      unfold B_M_laysGlasses_2
      rw [if_pos (by decide)]
      exact ⟨t, rfl, h1, h2⟩
    · rintro N q t hq ⟨h1, h2⟩
      right
      refine ⟨zu t 27 (2048 + q) 0, ?_, h1.zu (by decide), fun x hx => ?_⟩
      · show B_M_laysGlasses_2 _ _ _ _ (nI q) t = _
        unfold B_M_laysGlasses_2
        rw [if_neg (show ¬ (256 : Int32) ≤ nI q from nI_ge (b := 256) (by omega) (by omega)), nl2048, nI_add, gd_true (inbT (show 2048 + q < 2304 by omega) (by omega)), nI_clamp (by omega), nI_1]
      · rw [zu_self]
        by_cases e : x = q
        · rw [e, upd_s]
        · rw [upd_ne _ _ (by omega)]; exact h2 x (by omega)
  obtain ⟨t0, f1, f2, f3⟩ := first
  rw [f1]
  unfold J_M_laysGlasses_26
  have := dloop (fun N x s => L_M_laysGlasses_29 N (nI n) (nI m) x s) (fun i s => Ag [27] τ s ∧ ∀ p q, p ≤ 8 → q < 256 → i ≤ p → s 27 (256 * p + q) = nI (Ug H p (Fs (nI m) (nI q)))) (fun r => ∃ s, r = some s ∧ Ag [27] τ s ∧ TbUA H (nI m) (s 27)) 8 ?_ ?_ 8 FU t0 (Nat.le_refl _) (FU_lt (by omega)) ⟨f2, fun p q hp hq h => by
    obtain rfl : p = 8 := by omega
    rw [U_8 (Nat.le_refl 8), show 256 * 8 + q = 2048 + q by omega, f3 q hq]; rfl⟩
  · exact this
  · rintro N s ⟨a, b⟩
    show ∃ s', B_M_laysGlasses_29 _ _ _ (-1) s = _ ∧ _
    unfold B_M_laysGlasses_29
    rw [if_pos (by decide)]
    exact ⟨s, rfl, a, fun p q hp hq => b p q hp hq (by omega)⟩
  · rintro N i s hi ⟨a, b⟩
    have inner := lone (fun M q s => L_M_laysGlasses_36 (J_M_laysGlasses_174 (fun x1 x2 x3 σ => L_M_laysGlasses_29 N x1 x2 x3 σ)) M (nI n) (nI m) (nI i) (nI q) s) (fun q s => Ag [27] τ s ∧ TbU H (nI m) (s 27) i q) (fun r => ∃ s, r = L_M_laysGlasses_29 N (nI n) (nI m) (dn i) s ∧ Ag [27] τ s ∧ ∀ p q, p ≤ 8 → q < 256 → i ≤ p → s 27 (256 * p + q) = nI (Ug H p (Fs (nI m) (nI q)))) 256 ?_ ?_ 256 0 FU s (by omega) (by omega) (FU_lt (by omega)) ⟨a, fun p q hp hq h => b p q hp hq (by omega)⟩
    · obtain ⟨s', h1, h2, h3⟩ := inner
      refine ⟨s', ?_, h2, h3⟩
      show B_M_laysGlasses_29 _ _ _ (nI i) s = _
      unfold B_M_laysGlasses_29
      rw [if_neg (nI_pos (by omega))]
      exact h1
    · rintro M s ⟨a, b⟩
      show ∃ s', B_M_laysGlasses_36 _ _ _ _ (nI i) (nI 256) s = _ ∧ _
      unfold B_M_laysGlasses_36
      rw [if_pos (by decide)]
      refine ⟨s, ?_, a, fun p q hp hq h => b p q hp hq (by omega)⟩
      unfold J_M_laysGlasses_174
      rw [dn_m1]
    · rintro M q s hq ⟨a, b⟩
      right
      refine ⟨zu s 27 (256 * i + q) (nI (Ug H i (Fs (nI m) (nI q)))), ?_, a.zu (by decide), ?_⟩
      · show B_M_laysGlasses_36 _ (fun x1 x2 x3 x4 σ => L_M_laysGlasses_36 (J_M_laysGlasses_174 (fun x1 x2 x3 σ => L_M_laysGlasses_29 N x1 x2 x3 σ)) M x1 x2 x3 x4 σ) _ _ (nI i) (nI q) s = _
        unfold B_M_laysGlasses_36
        rw [if_neg (show ¬ (256 : Int32) ≤ nI q from nI_ge (b := 256) (by omega) (by omega)), M_has _ (by omega), ob]
        dsimp only
        rw [b2_ite, ← hH]
        simp (disch := omega) only [nl256, inb_nI, gd_tt, nI_clamp, nI_1, nI_add, pk_mul]
        rw [b (i + 1) q (by omega) hq (Or.inl (by omega))]
        have key : ∀ (k36 : Int32 → Int32 → Int32 → Int32 → Hp → Option Hp), (if H i = true then L_M_laysGlasses_80 (J_M_laysGlasses_153 k36) FU (nI n) (nI m) (nI i) (nI q) (nI (Ug H (i + 1) (Fs (nI m) (nI q))) + 1000) 0 s else L_M_laysGlasses_80 (J_M_laysGlasses_153 k36) FU (nI n) (nI m) (nI i) (nI q) (nI (Ug H (i + 1) (Fs (nI m) (nI q))) + 0) 0 s) = k36 (nI n) (nI m) (nI i) (nI (q + 1)) (zu s 27 (256 * i + q) (nI (Ug H i (Fs (nI m) (nI q))))) := by
          intro k36
          have h80 := M_in80 (n := n) (m := m) (t := s) hi hq (by rw [← hH]; exact b) (J_M_laysGlasses_153 k36) 8 0 FU rfl (by omega) (FU_lt (by omega))
          rw [← hH] at h80
          have h153 : J_M_laysGlasses_153 k36 (nI n) (nI m) (nI i) (nI q) (nI (Ug H i (Fs (nI m) (nI q)))) s = k36 (nI n) (nI m) (nI i) (nI (q + 1)) (zu s 27 (256 * i + q) (nI (Ug H i (Fs (nI m) (nI q))))) := by
            unfold J_M_laysGlasses_153
            simp (disch := omega) only [nl256, inb_nI, gd_tt, nI_clamp, nI_1, nI_add, pk_mul]
          have e0 : gO H (Ug H (i + 1)) i (Fs (nI m) (nI q)) 0 = Ug H (i + 1) (Fs (nI m) (nI q)) + pen H i := rfl
          rw [e0] at h80
          unfold pen at h80
          by_cases hh : H i = true
          · rw [if_pos hh] at h80 ⊢
            rw [nlm1000, nI_add]
            exact h80.trans h153
          · rw [if_neg hh] at h80 ⊢
            rw [n0, nI_add]
            exact h80.trans h153
        exact key _
      · rw [zu_self]; exact b.up hq
end
