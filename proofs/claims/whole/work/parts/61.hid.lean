-- hidden, ants
theorem and_or (x y z : Int32) : (x ||| y) &&& z = (x &&& z) ||| (y &&& z) := b_ext (fun i hi => by
  rw [b_and, b_or, b_or, b_and, b_and]
  cases bt x i <;> cases bt y i <;> cases bt z i <;> rfl)
theorem z_and (z : Int32) : 0 &&& z = 0 := b_ext (fun i hi => by rw [b_and, b_0]; rfl)
theorem bset_0 : bset (fun _ => false) = 0 := by decide
/-- one set of those who go in, both sides -/
theorem hid_in {σ τ s : Hp} (hw : RWar 1 1 σ τ) (hsg : SgR 1 s τ) (x1 x2 x3 x4 x5 x6 : Int32) (hx2 : x2 = bset (fun c => decide (τ 1 (8 * 0 + c) = 1) && decide (τ 1 (80 + (8 * 0 + c)) = 0))) (far : Int32) (hfar : far = bset (fun c => decide (τ 1 (8 * 1 + c) = 1) && decide (τ 1 (80 + (8 * 1 + c)) = 0))) (K : Int32 → Int32 → Int32 → Int32 → Int32 → Int32 → Int32 → Hp → Option (Int32 × Hp)) :
    ∃ (v : Int32) (P : Nat → Bool), F_X9_seenBy (x2 &&& (x6 ^^^ -1)) s = some (v, s) ∧ L_M_hidden_57 K FU x1 x2 x3 x4 x5 x6 0 0 τ = K x1 x2 x3 x4 x5 x6 (bset P) τ ∧ v &&& far = bset P := by
  unfold F_X9_seenBy
  refine lock (fun N c acc => L_X9_seenBy_4 N (x2 &&& (x6 ^^^ -1)) acc (nI c) s) (fun N c acc => L_M_hidden_57 K N x1 x2 x3 x4 x5 x6 acc (nI c) τ) (fun c a b => ∃ P, b = bset P ∧ a &&& far = bset P) (fun r r' => ∃ (v : Int32) (P : Nat → Bool), r = some (v, s) ∧ r' = K x1 x2 x3 x4 x5 x6 (bset P) τ ∧ v &&& far = bset P) 8 ?_ ?_ 8 0 FU FU 0 0 (by omega) (by omega) (FU_lt (by omega)) (FU_lt (by omega)) ⟨fun _ => false, by rw [bset_0], by rw [z_and, bset_0]⟩
  · rintro N1 N2 a _ ⟨P, rfl, ha⟩
    simp only [L_X9_seenBy_4, B_X9_seenBy_4, L_M_hidden_57, B_M_hidden_57]
    rw [if_pos (by decide), if_pos (by decide)]
    exact ⟨a, P, rfl, rfl, ha⟩
  · rintro N1 N2 c a _ hc ⟨P, rfl, ha⟩
    right
    simp only [L_X9_seenBy_4, B_X9_seenBy_4, L_M_hidden_57, B_M_hidden_57, M_has _ (show c < 32 by omega), M_seenBy (show c < 16 by omega), has_ite _ (show c < 32 by omega), ob, b2_ite, nI_1]
    rw [if_neg (show ¬ (8 : Int32) ≤ nI c from nI_ge (b := 8) (by omega) (by omega)), if_neg (show ¬ (8 : Int32) ≤ nI c from nI_ge (b := 8) (by omega) (by omega)), gd_true (inbT (show c < 16 by omega) (by omega)), nI_clamp (by omega)]
    by_cases p : bt (x2 &&& (x6 ^^^ -1)) c = true
    · rw [if_pos p, if_pos p]
      have ht : τ 1 c = 1 := by
        rw [b_and, hx2, bt_bset _ (by omega)] at p
        simp only [Bool.and_eq_true, decide_eq_true_eq] at p
        have := p.1.2.1
        rwa [show 8 * 0 + c = c by omega] at this
      have hs := hsg c (by omega) ht
      rw [show c / 8 = 0 by omega, show (1 : Nat) - 0 = 1 from rfl, ← hfar] at hs
      have e : sn τ c = bset (fun e => (decide (τ 1 (8 + e) = 1) && decide (τ 1 (80 + (8 + e)) = 0)) && vis τ c e) := by
        unfold sn; rw [if_pos hc]; rfl
      refine ⟨a ||| s 22 c, bset P ||| sn τ c, rfl, rfl, fun q => P q || ((decide (τ 1 (8 + q) = 1) && decide (τ 1 (80 + (8 + q)) = 0)) && vis τ c q), ?_, ?_⟩
      · rw [e, bset_or]
      · rw [and_or, ha, hs, e, bset_or]
    · rw [if_neg p, if_neg p]
      exact ⟨a, bset P, rfl, rfl, P, rfl, ha⟩
theorem M_bitsB (P : Nat → Bool) (τ : Hp) : ∃ m : Nat, m ≤ 8 ∧ F_M_bits (bset P) τ = some (nI m, τ) ∧ ∀ σ, F_J6_bitCount (bset P) σ = some (nI m, σ) := by
  obtain ⟨n, hn, e⟩ := bset_nat P
  obtain ⟨m, hm, e2⟩ := popn_nat n hn
  refine ⟨m, hm, ?_, fun σ => ?_⟩
  · rw [M_bits, e, e2]
  · rw [e, C_bitCount hn, e2]
theorem bits_n {n : Nat} (hn : n < 256) : ∃ m : Nat, m ≤ 8 ∧ (∀ τ, F_M_bits (nI n) τ = some (nI m, τ)) ∧ ∀ σ, F_J6_bitCount (nI n) σ = some (nI m, σ) := by
  obtain ⟨m, hm, e2⟩ := popn_nat n hn
  exact ⟨m, hm, fun τ => by rw [M_bits, e2], fun σ => by rw [C_bitCount hn, e2]⟩
theorem popn_0 : popn (nI 0) = nI 0 := by decide
theorem zero_nand (x : Int32) : nI 0 &&& x = 0 := z_and x
theorem sim_hidden {σ τ : Hp} (h : Rl σ τ) (a1 : Int32) : ∃ r σ' τ', F_V_hidden a1 σ = some (r, σ') ∧ F_M_hidden a1 τ = some (r, τ') ∧ Rl σ' τ' := by
  obtain ⟨r1, r2, -⟩ := id h
  obtain ⟨s, l1, l2, l3, l4⟩ := look_eq (o := 1) (by decide) (by decide) σ
  have hsg := look_rel (o := 1) (by decide) (by decide) r1 r2 l3 l4
  have hrs : Rl s τ := h.sc (S := [22]) (T := []) l2 Ag.rf (by decide) (by simp)
  have cb0 : F_X10_bits 1 0 0 s = _ := C_bits 1 0 (by omega) 0 s
  have cb1 : F_X10_bits 1 1 0 s = _ := C_bits 1 1 (by omega) 0 s
  have mb0 : F_M_setOf 0 0 τ = _ := M_setOf 0 (by omega) 0 τ
  simp only [F_V_hidden, F_M_hidden, V_within, M_in, ob, b2_ite, l1, cb0, cb1, mb0]
  by_cases h1 : wi a1 0 2 = true
  · simp only [if_pos h1]
    rw [set_eq hrs.1 0 (by omega) 0 (by decide), set_eq hrs.1 1 (by omega) 0 (by decide)]
    obtain ⟨x2, hx2⟩ : ∃ x, x = bset (fun c => decide (τ 1 (8 * 0 + c) = 1) && decide (τ 1 (80 + (8 * 0 + c)) = 0)) := ⟨_, rfl⟩
    obtain ⟨far, hfar⟩ : ∃ x, x = bset (fun c => decide (τ 1 (8 * 1 + c) = 1) && decide (τ 1 (80 + (8 * 1 + c)) = 0)) := ⟨_, rfl⟩
    rw [← hx2, ← hfar]
    refine Ok.of hrs ?_
    refine lock (fun N i (a : Int32 × Int32 × Int32) => L_V_hidden_55 J_V_hidden_127 N a1 x2 far a.1 a.2.1 a.2.2 (nI i) s) (fun N i (b : Int32 × Int32 × Int32) => L_M_hidden_31 J_M_hidden_140 N a1 x2 b.2.1 b.2.2 b.1 (nI i) τ) (fun i a b => a.2 = b.2 ∧ ((i = 0 ∧ a.1 = nI 17 ∧ b.1 = nI 1000000) ∨ (0 < i ∧ ∃ l : Nat, l ≤ 16 ∧ a.1 = nI l ∧ b.1 = nI l))) (Sm s τ) 256 ?_ ?_ 256 0 FU FU (17, 0, 0) (1000000, 0, 0) (by omega) (by omega) (FU_lt (by omega)) (FU_lt (by omega)) ⟨rfl, Or.inl ⟨rfl, rfl, rfl⟩⟩
    · rintro N1 N2 ⟨a, b⟩ ⟨a', b'⟩ ⟨rfl, h2⟩
      rcases h2 with ⟨h2, -⟩ | ⟨-, l, hl, rfl, rfl⟩
      · omega
      · simp only [L_V_hidden_55, B_V_hidden_55, L_M_hidden_31, B_M_hidden_31, J_V_hidden_127, J_M_hidden_140]
        rw [if_pos (show (256 : Int32) ≤ nI 256 by decide), if_pos (show (256 : Int32) ≤ nI 256 by decide)]
        by_cases q0 : a1 = 0
        · rw [if_pos q0, if_pos q0]; exact ⟨_, rfl, rfl⟩
        · rw [if_neg q0, if_neg q0]
          by_cases q1 : a1 = 1
          · rw [if_pos q1, if_pos q1]; exact ⟨_, rfl, rfl⟩
          · rw [if_neg q1, if_neg q1]; exact ⟨_, rfl, rfl⟩
    · rintro N1 N2 i ⟨a, b⟩ ⟨a', b'⟩ hi ⟨rfl, h2⟩
      right
      simp only [L_V_hidden_55, B_V_hidden_55, L_M_hidden_31, B_M_hidden_31]
      rw [if_neg (show ¬ (256 : Int32) ≤ nI i from nI_ge (b := 256) (by omega) (by omega)), if_neg (show ¬ (256 : Int32) ≤ nI i from nI_ge (b := 256) (by omega) (by omega))]
      by_cases p : nI i &&& (x2 ^^^ -1) = 0
      · rw [if_pos p, if_pos p]
        obtain ⟨v, P, k1, k2, k3⟩ := hid_in r1 hsg a1 x2 b.1 b.2 a' (nI i) hx2 far hfar (J_M_hidden_95 (fun x1 x2 x3 x4 x5 x6 σ => L_M_hidden_31 J_M_hidden_140 N2 x1 x2 x3 x4 x5 x6 σ))
        obtain ⟨m, hm, m1, m2⟩ := M_bitsB P τ
        obtain ⟨w, hw, w1, w2⟩ := bits_n hi
        rw [k1, k2]
        simp only [J_M_hidden_95, ob, k3, m1, m2, w1, w2, nI_add, nI_1]
        have hw0 : i = 0 → w = 0 := fun e => by
          have := w1 τ
          rw [e, M_bits, popn_0] at this
          exact ((nI_eq (by omega) (by omega)).mp (congrArg Prod.fst (Option.some.inj this))).symm
        rcases h2 with ⟨h2, rfl, rfl⟩ | ⟨h2, l, hl, rfl, rfl⟩
        · rw [if_neg (nI_ge (show w + m < 17 by omega) (by omega)), if_pos (nI_lt (show w + m < 1000000 by omega) (by omega))]
          exact ⟨(nI (w + m), nI i, bset P), (nI (w + m), nI i, bset P), rfl, rfl, rfl, Or.inr ⟨by omega, w + m, by omega, rfl, rfl⟩⟩
        · by_cases q : l ≤ w + m
          · rw [if_pos (nI_le q (by omega)), if_neg (nI_nlt q (by omega))]
            exact ⟨(nI l, b), (nI l, b), rfl, rfl, rfl, Or.inr ⟨by omega, l, hl, rfl, rfl⟩⟩
          · rw [if_neg (nI_ge (by omega) (by omega)), if_pos (nI_lt (by omega) (by omega))]
            exact ⟨(nI (w + m), nI i, bset P), (nI (w + m), nI i, bset P), rfl, rfl, rfl, Or.inr ⟨by omega, w + m, by omega, rfl, rfl⟩⟩
      · rw [if_neg p, if_neg p, nI_1]
        refine ⟨(a, b), (a', b), rfl, rfl, rfl, ?_⟩
        rcases h2 with ⟨h2, -⟩ | ⟨h2, l, hl, rfl, rfl⟩
        · subst h2; exact absurd (zero_nand _) p
        · exact Or.inr ⟨by omega, l, hl, rfl, rfl⟩
  · simp only [if_neg h1]
    exact ⟨-1, σ, τ, rfl, rfl, h⟩
-- ants
def eaU (b : Nat → Nat) (f : Nat) : Nat → Nat
  | 0 => b f
  | k + 1 => eaU b f k + b (f + (k + 1))
def eaD (b : Nat → Nat) (f : Nat) : Nat → Nat
  | 0 => b f
  | k + 1 => eaD b f k + b (f - (k + 1))
/-- when the ants are there -/
def ea (b : Nat → Nat) (f c : Nat) : Nat := if f ≤ c then eaU b f (c - f) else eaD b f (f - c)
theorem eaU_le {b : Nat → Nat} {f : Nat} (hb : ∀ c, c < 8 → b c ≤ 99) : ∀ k, f + k < 8 → eaU b f k ≤ 99 * (k + 1) := by
  intro k
  induction k with
  | zero => intro h; simpa [eaU] using hb f (by omega)
  | succ k ih => intro h; have := ih (by omega); have := hb (f + (k + 1)) (by omega); simp only [eaU]; omega
theorem eaD_le {b : Nat → Nat} {f : Nat} (hf : f < 8) (hb : ∀ c, c < 8 → b c ≤ 99) : ∀ k, k ≤ f → eaD b f k ≤ 99 * (k + 1) := by
  intro k
  induction k with
  | zero => intro h; simpa [eaD] using hb f (by omega)
  | succ k ih => intro h; have := ih (by omega); have := hb (f - (k + 1)) (by omega); simp only [eaD]; omega
theorem ea_le {b : Nat → Nat} {f : Nat} (hf : f < 8) (hb : ∀ c, c < 8 → b c ≤ 99) (c : Nat) (hc : c < 8) : ea b f c ≤ 792 := by
  unfold ea
  by_cases h : f ≤ c
  · rw [if_pos h]; have := eaU_le (f := f) hb (c - f) (by omega); omega
  · rw [if_neg h]; have := eaD_le hf hb (f - c) (by omega); omega
theorem ea_f (b : Nat → Nat) (f : Nat) : ea b f f = b f := by simp [ea, eaU]
theorem ea_up (b : Nat → Nat) {f c : Nat} (h : f ≤ c) : ea b f (c + 1) = ea b f c + b (c + 1) := by
  unfold ea
  rw [if_pos (by omega), if_pos h, show c + 1 - f = (c - f) + 1 by omega]
  simp only [eaU]
  rw [show f + (c - f + 1) = c + 1 by omega]
theorem ea_dn (b : Nat → Nat) {f c : Nat} (h : c < f) : ea b f c = ea b f (c + 1) + b c := by
  unfold ea
  rw [if_neg (by omega), show f - c = (f - (c + 1)) + 1 by omega]
  simp only [eaD]
  rw [show f - (f - (c + 1) + 1) = c by omega]
  by_cases h2 : f ≤ c + 1
  · rw [if_pos h2, show f = c + 1 by omega]; simp [eaU, eaD]
  · rw [if_neg h2]
theorem ants_up {σ τ : Hp} {b : Nat → Nat} {f : Nat} (hf : f < 8) (hτ : ∀ c, c < 8 → τ 6 c &&& 255 = nI (b c)) (x2 : Int32) (K1 K2 : Int32 → Int32 → Hp → Option (Int32 × Hp)) (s t : Hp) (hs : Ag [41] σ s) (ht : Ag [37] τ t) (h1 : ∀ c, c < 8 → s 41 c = nI (b c)) (h2 : t 37 f = nI (b f)) :
    ∃ s' t', L_V_ants_113 K1 FU (nI f) x2 (nI (f + 1)) s = K1 (nI f) x2 s' ∧ L_M_ants_82 K2 FU (nI f) x2 (nI (f + 1)) t = K2 (nI f) x2 t' ∧ Ag [41] σ s' ∧ Ag [37] τ t' ∧ (∀ c, c < f → s' 41 c = nI (b c)) ∧ ∀ c, f ≤ c → c < 8 → s' 41 c = nI (ea b f c) ∧ t' 37 c = nI (ea b f c) := by
  refine lock (fun N j s => L_V_ants_113 K1 N (nI f) x2 (nI (f + 1 + j)) s) (fun N j t => L_M_ants_82 K2 N (nI f) x2 (nI (f + 1 + j)) t) (fun j s t => Ag [41] σ s ∧ Ag [37] τ t ∧ (∀ c, c < 8 → (c < f ∨ f + 1 + j ≤ c) → s 41 c = nI (b c)) ∧ ∀ c, f ≤ c → c < f + 1 + j → s 41 c = nI (ea b f c) ∧ t 37 c = nI (ea b f c)) (fun r r' => ∃ s' t', r = K1 (nI f) x2 s' ∧ r' = K2 (nI f) x2 t' ∧ Ag [41] σ s' ∧ Ag [37] τ t' ∧ (∀ c, c < f → s' 41 c = nI (b c)) ∧ ∀ c, f ≤ c → c < 8 → s' 41 c = nI (ea b f c) ∧ t' 37 c = nI (ea b f c)) (7 - f) ?_ ?_ (7 - f) 0 FU FU s t (by omega) (by omega) (FU_lt (by omega)) (FU_lt (by omega)) ⟨hs, ht, fun c hc _ => h1 c hc, fun c hc hc2 => ?_⟩
  · rintro N1 N2 s t ⟨g1, g2, g3, g4⟩
    simp only [L_V_ants_113, B_V_ants_113, L_M_ants_82, B_M_ants_82]
    rw [if_pos (show (8 : Int32) ≤ nI (f + 1 + (7 - f)) from nI_le (a := 8) (by omega) (by omega)), if_pos (show (8 : Int32) ≤ nI (f + 1 + (7 - f)) from nI_le (a := 8) (by omega) (by omega))]
    exact ⟨s, t, rfl, rfl, g1, g2, fun c hc => g3 c (by omega) (Or.inl hc), fun c hc hc2 => g4 c hc (by omega)⟩
  · rintro N1 N2 j s t hj ⟨g1, g2, g3, g4⟩
    right
    have e1 : nI (f + 1 + j) - 1 = nI (f + j) := by rw [show f + 1 + j = (f + j) + 1 by omega, nI_pred]
    have p1 := g3 (f + 1 + j) (by omega) (Or.inr (by omega))
    have p2 := g4 (f + j) (by omega) (by omega)
    have p3 : t 6 (f + 1 + j) &&& 255 = nI (b (f + 1 + j)) := by rw [g2 6 (by decide), hτ _ (by omega)]
    have p4 := ea_up b (f := f) (c := f + j) (by omega)
    simp only [L_V_ants_113, B_V_ants_113, L_M_ants_82, B_M_ants_82, e1, M_octet (show f + 1 + j < 260 by omega), ob]
    rw [if_neg (show ¬ (8 : Int32) ≤ nI (f + 1 + j) from nI_ge (b := 8) (by omega) (by omega)), if_neg (show ¬ (8 : Int32) ≤ nI (f + 1 + j) from nI_ge (b := 8) (by omega) (by omega))]
    simp (disch := omega) only [inb_nI, gd_tt, nI_clamp, nI_1, p1, p2.1, p2.2, p3, nI_add]
    refine ⟨_, _, rfl, rfl, g1.zu (by decide), g2.zu (by decide), fun c hc hc2 => ?_, fun c hc hc2 => ?_⟩
    · rw [zu_self, upd_ap, if_neg (by omega)]; exact g3 c hc (by omega)
    · rw [zu_self, upd_ap, zu_self, upd_ap]
      by_cases q : c = f + 1 + j
      · rw [if_pos q, if_pos q, q, show f + 1 + j = f + j + 1 by omega, p4, show f + j + 1 = f + 1 + j by omega]
        exact ⟨by rw [Nat.add_comm], rfl⟩
      · rw [if_neg q, if_neg q]; exact g4 c hc (by omega)
  · rw [show c = f by omega, ea_f]; exact ⟨h1 f hf, h2⟩
theorem ants_dn {σ τ : Hp} {b : Nat → Nat} {f : Nat} (hf : f < 8) (hτ : ∀ c, c < 8 → τ 6 c &&& 255 = nI (b c)) (x2 : Int32) (K1 K2 : Int32 → Hp → Option (Int32 × Hp)) (s t : Hp) (hs : Ag [41] σ s) (ht : Ag [37] τ t) (h1 : ∀ c, c < f → s 41 c = nI (b c)) (h2 : ∀ c, f ≤ c → c < 8 → s 41 c = nI (ea b f c) ∧ t 37 c = nI (ea b f c)) :
    ∃ s' t', L_V_ants_150 K1 FU x2 (nI f - 1) s = K1 x2 s' ∧ L_M_ants_118 K2 FU x2 (nI f - 1) t = K2 x2 t' ∧ Ag [41] σ s' ∧ Ag [37] τ t' ∧ ∀ c, c < 8 → s' 41 c = nI (ea b f c) ∧ t' 37 c = nI (ea b f c) := by
  have st : ∀ j, j < f → nI (f - j) - 1 = nI (f - j - 1) := fun j hj => by rw [show f - j = (f - j - 1) + 1 by omega, nI_pred]; congr 1
  refine lock (fun N j s => L_V_ants_150 K1 N x2 (nI (f - j) - 1) s) (fun N j t => L_M_ants_118 K2 N x2 (nI (f - j) - 1) t) (fun j s t => Ag [41] σ s ∧ Ag [37] τ t ∧ (∀ c, c < f - j → s 41 c = nI (b c)) ∧ ∀ c, f - j ≤ c → c < 8 → s 41 c = nI (ea b f c) ∧ t 37 c = nI (ea b f c)) (fun r r' => ∃ s' t', r = K1 x2 s' ∧ r' = K2 x2 t' ∧ Ag [41] σ s' ∧ Ag [37] τ t' ∧ ∀ c, c < 8 → s' 41 c = nI (ea b f c) ∧ t' 37 c = nI (ea b f c)) f ?_ ?_ f 0 FU FU s t (by omega) (by omega) (FU_lt (by omega)) (FU_lt (by omega)) ⟨hs, ht, fun c hc => h1 c (by omega), fun c hc hc2 => h2 c (by omega) hc2⟩
  · rintro N1 N2 s t ⟨g1, g2, g3, g4⟩
    simp only [L_V_ants_150, B_V_ants_150, L_M_ants_118, B_M_ants_118]
    rw [show f - f = 0 by omega, if_pos (show nI 0 - 1 < 0 by decide), if_pos (show nI 0 - 1 < 0 by decide)]
    exact ⟨s, t, rfl, rfl, g1, g2, fun c hc => g4 c (by omega) hc⟩
  · rintro N1 N2 j s t hj ⟨g1, g2, g3, g4⟩
    right
    have e2 : nI (f - j - 1) + -1 = nI (f - (j + 1)) - 1 := by
      rw [show f - j - 1 = f - (j + 1) by omega, Int32.sub_eq_add_neg]
    have p1 := g3 (f - j - 1) (by omega)
    have p2 := g4 (f - j) (by omega) (by omega)
    have p3 : t 6 (f - j - 1) &&& 255 = nI (b (f - j - 1)) := by rw [g2 6 (by decide), hτ _ (by omega)]
    have p4 := ea_dn b (f := f) (c := f - j - 1) (by omega)
    rw [show f - j - 1 + 1 = f - j by omega] at p4
    simp only [L_V_ants_150, B_V_ants_150, L_M_ants_118, B_M_ants_118, st j hj, M_octet (show f - j - 1 < 260 by omega), ob]
    rw [if_neg (nI_pos (by omega)), if_neg (nI_pos (by omega)), e2]
    simp (disch := omega) only [inb_nI, gd_tt, nI_clamp, nI_1, show f - j - 1 + 1 = f - j by omega, p1, p2.1, p2.2, p3, nI_add]
    refine ⟨_, _, rfl, rfl, g1.zu (by decide), g2.zu (by decide), fun c hc => ?_, fun c hc hc2 => ?_⟩
    · rw [zu_self, upd_ap, if_neg (by omega)]; exact g3 c (by omega)
    · rw [zu_self, upd_ap, zu_self, upd_ap]
      by_cases q : c = f - j - 1
      · rw [if_pos q, if_pos q, q, p4]
        exact ⟨by rw [Nat.add_comm], rfl⟩
      · rw [if_neg q, if_neg q]; exact g4 c (by omega) hc2
/-- which chair is the last -/
theorem ants_last {s : Hp} {b : Nat → Nat} {f : Nat} (hf : f < 8) (hb : ∀ c, c < 8 → 1 ≤ b c ∧ b c ≤ 99) (h : ∀ c, c < 8 → s 41 c = nI (ea b f c)) : L_V_ants_199 FU 0 1 s = some (if ea b f 7 ≤ ea b f 0 then 0 else 7, s) := by
  have hle := fun c hc => ea_le hf (fun c hc => (hb c hc).2) c hc
  have up : ∀ c d, f ≤ c → c ≤ d → d < 8 → ea b f c ≤ ea b f d ∧ (c < d → ea b f c < ea b f d) := by
    intro c d h1 h2
    obtain ⟨k, rfl⟩ : ∃ k, d = c + k := ⟨d - c, by omega⟩
    clear h2
    induction k with
    | zero => intro _; exact ⟨Nat.le_refl _, fun h => absurd h (by omega)⟩
    | succ k ih =>
      intro h3
      have i1 := ih (by omega)
      have i2 := ea_up b (f := f) (c := c + k) (by omega)
      have i3 := (hb (c + k + 1) (by omega)).1
      rw [show c + (k + 1) = c + k + 1 by omega]
      omega
  have dn : ∀ d, d ≤ f → ea b f d ≤ ea b f 0 := by
    intro d
    induction d with
    | zero => intro _; exact Nat.le_refl _
    | succ d ih =>
      intro h3
      have i1 := ih (by omega)
      have i2 := ea_dn b (f := f) (c := d) (by omega)
      omega
  refine lone (fun N j (a : Nat) => L_V_ants_199 N (nI a) (nI (1 + j)) s) (fun j a => a < 1 + j ∧ a < 8 ∧ (∀ c, c < 1 + j → ea b f c ≤ ea b f a) ∧ (a = 0 ∨ (f < a ∧ ea b f 0 < ea b f a))) (fun r => r = some (if ea b f 7 ≤ ea b f 0 then 0 else 7, s)) 7 ?_ ?_ 7 0 FU 0 (by omega) (by omega) (FU_lt (by omega)) ⟨by omega, by omega, fun c hc => by rw [show c = 0 by omega]; exact Nat.le_refl _, Or.inl rfl⟩
  · rintro N a ⟨g1, g2, g3, g4⟩
    simp only [L_V_ants_199, B_V_ants_199]
    rw [if_pos (show (8 : Int32) ≤ nI (1 + 7) by decide)]
    have g7 := g3 7 (by omega)
    rcases g4 with rfl | ⟨g4, g5⟩
    · rw [if_pos g7]; rfl
    · by_cases q : a = 7
      · subst q; rw [if_neg (by omega)]; rfl
      · have := (up a 7 (by omega) (by omega) (by omega)).2 (by omega)
        omega
  · rintro N j a hj ⟨g1, g2, g3, g4⟩
    right
    simp only [L_V_ants_199, B_V_ants_199]
    have l1 := hle (1 + j) (by omega)
    have l2 := hle a (by omega)
    rw [if_neg (show ¬ (8 : Int32) ≤ nI (1 + j) from nI_ge (b := 8) (by omega) (by omega))]
    simp (disch := omega) only [inb_nI, gd_tt, nI_clamp, nI_1, h (1 + j) (by omega), h a (by omega), nI_leI]
    by_cases q : ea b f (1 + j) ≤ ea b f a
    · rw [if_pos q]
      refine ⟨a, rfl, by omega, g2, fun c hc => ?_, g4⟩
      by_cases q2 : c = 1 + j
      · rw [q2]; exact q
      · exact g3 c (by omega)
    · rw [if_neg q]
      refine ⟨1 + j, rfl, by omega, by omega, fun c hc => ?_, Or.inr ⟨?_, ?_⟩⟩
      · by_cases q2 : c = 1 + j
        · rw [q2]; exact Nat.le_refl _
        · have := g3 c (by omega); omega
      · by_cases q2 : f < 1 + j
        · exact q2
        · have := dn (1 + j) (by omega)
          have := g3 0 (by omega)
          omega
      · have := g3 0 (by omega); omega
theorem ants_rd {σ τ : Hp} (h : Rl σ τ) {f : Nat} (hf : f < 8) (x2 : Int32) : (∃ (b : Nat → Nat) (s : Hp), (∀ c, c < 8 → 1 ≤ b c ∧ b c ≤ 99) ∧ (∀ c, c < 8 → τ 6 c &&& 255 = nI (b c)) ∧ Ag [41] σ s ∧ (∀ c, c < 8 → s 41 c = nI (b c)) ∧ L_V_ants_39 J_V_ants_94 FU (nI f) x2 1 0 σ = J_V_ants_94 (nI f) x2 1 s ∧ L_M_ants_38 J_M_ants_67 FU (nI f) x2 0 (zu τ 0 6 0) = J_M_ants_67 (nI f) x2 (zu τ 0 6 0)) ∨ (∃ s, Ag [41] σ s ∧ L_V_ants_39 J_V_ants_94 FU (nI f) x2 1 0 σ = J_V_ants_94 (nI f) x2 0 s ∧ L_M_ants_38 J_M_ants_67 FU (nI f) x2 0 (zu τ 0 6 0) = some (-2, zu τ 0 6 0)) := by
  obtain ⟨⟨n, hn, e1, e2⟩, hb⟩ := id h.2.2.1
  have hV : ∃ s' g, Ag [41] σ s' ∧ (∀ c, c < 8 → s' 41 c = σ 24 c) ∧ (g = true ↔ ∀ c, c < 8 → wi (σ 24 c) 1 99 = true) ∧ L_V_ants_39 J_V_ants_94 FU (nI f) x2 1 0 σ = J_V_ants_94 (nI f) x2 (b2 g) s' := by
    refine lone (fun N c (a : Bool × Hp) => L_V_ants_39 J_V_ants_94 N (nI f) x2 (b2 a.1) (nI c) a.2) (fun c a => Ag [41] σ a.2 ∧ (∀ q, q < c → a.2 41 q = σ 24 q) ∧ (a.1 = true ↔ ∀ q, q < c → wi (σ 24 q) 1 99 = true)) (fun r => ∃ s' g, Ag [41] σ s' ∧ (∀ c, c < 8 → s' 41 c = σ 24 c) ∧ (g = true ↔ ∀ c, c < 8 → wi (σ 24 c) 1 99 = true) ∧ r = J_V_ants_94 (nI f) x2 (b2 g) s') 8 ?_ ?_ 8 0 FU (true, σ) (by omega) (by omega) (FU_lt (by omega)) ⟨Ag.rf, fun q hq => absurd hq (by omega), by simp⟩
    · rintro N ⟨g, s⟩ ⟨h1, h2, h3⟩
      simp only [L_V_ants_39, B_V_ants_39]
      rw [if_pos (by decide)]
      exact ⟨s, g, h1, h2, h3, rfl⟩
    · rintro N c ⟨g, s⟩ hc ⟨h1, h2, h3⟩
      have h1 : Ag [41] σ s := h1
      have h2 : ∀ q, q < c → s 41 q = σ 24 q := h2
      have h3 : g = true ↔ ∀ q, q < c → wi (σ 24 q) 1 99 = true := h3
      right
      have q1 : s 24 c = σ 24 c := by rw [h1 24 (by decide)]
      simp only [L_V_ants_39, B_V_ants_39, C_byteAt (show c < 260 by omega), ob, V_within, b2_ite]
      rw [if_neg (show ¬ (8 : Int32) ≤ nI c from nI_ge (b := 8) (by omega) (by omega))]
      simp (disch := omega) only [inb_nI, gd_tt, nI_clamp, nI_1, q1]
      have h1' : Ag [41] σ (zu s 41 c (σ 24 c)) := h1.zu (by decide)
      have h2' : ∀ q, q < c + 1 → zu s 41 c (σ 24 c) 41 q = σ 24 q := fun q hq => by
        rw [zu_self, upd_ap]
        by_cases e : q = c
        · rw [if_pos e, e]
        · rw [if_neg e]; exact h2 q (by omega)
      rw [show zu s 41 c (σ 24 c) 41 c = σ 24 c from h2' c (by omega)]
      cases g
      · rw [if_neg (by decide)]
        refine ⟨(false, zu s 41 c (σ 24 c)), rfl, h1', h2', ?_⟩
        constructor
        · intro hh; exact absurd (show false = true from hh) (by decide)
        · intro hh; exact h3.mpr (fun q hq => hh q (by omega))
      · rw [if_pos rfl]
        by_cases p : wi (σ 24 c) 1 99 = true
        · rw [if_pos p]
          refine ⟨(true, zu s 41 c (σ 24 c)), rfl, h1', h2', ⟨fun _ q hq => ?_, fun _ => rfl⟩⟩
          by_cases e : q = c
          · rw [e]; exact p
          · exact h3.mp rfl q (by omega)
        · rw [if_neg p]
          refine ⟨(false, zu s 41 c (σ 24 c)), rfl, h1', h2', ?_⟩
          constructor
          · intro hh; exact absurd (show false = true from hh) (by decide)
          · intro hh; exact absurd (hh c (by omega)) p
  obtain ⟨s, g, s1, s2, sg, s3⟩ := hV
  have hM : ((∀ c, c < 8 → wi (σ 24 c) 1 99 = true) ∧ L_M_ants_38 J_M_ants_67 FU (nI f) x2 0 (zu τ 0 6 0) = J_M_ants_67 (nI f) x2 (zu τ 0 6 0)) ∨ ((¬ ∀ c, c < 8 → wi (σ 24 c) 1 99 = true) ∧ L_M_ants_38 J_M_ants_67 FU (nI f) x2 0 (zu τ 0 6 0) = some (-2, zu τ 0 6 0)) := by
    refine lone (fun N c (_ : Unit) => L_M_ants_38 J_M_ants_67 N (nI f) x2 (nI c) (zu τ 0 6 0)) (fun c _ => ∀ q, q < c → wi (σ 24 q) 1 99 = true) (fun r => ((∀ c, c < 8 → wi (σ 24 c) 1 99 = true) ∧ r = J_M_ants_67 (nI f) x2 (zu τ 0 6 0)) ∨ ((¬ ∀ c, c < 8 → wi (σ 24 c) 1 99 = true) ∧ r = some (-2, zu τ 0 6 0))) 8 ?_ ?_ 8 0 FU () (by omega) (by omega) (FU_lt (by omega)) (fun q hq => absurd hq (by omega))
    · rintro N _ hh
      simp only [L_M_ants_38, B_M_ants_38]
      rw [if_pos (show (8 : Int32) ≤ nI 8 by decide)]
      exact Or.inl ⟨hh, rfl⟩
    · rintro N c _ hc hh
      have e6 : zu τ 0 6 0 6 c &&& 255 = σ 24 c := by rw [zu_ne _ _ _ (by decide), (hb c (by omega)).1]
      simp only [L_M_ants_38, B_M_ants_38, M_octet (show c < 260 by omega), M_in, ob, b2_ite, e6, nI_1]
      rw [if_neg (show ¬ (8 : Int32) ≤ nI c from nI_ge (b := 8) (by omega) (by omega))]
      by_cases p : wi (σ 24 c) 1 99 = true
      · rw [if_pos p]
        refine Or.inr ⟨(), rfl, fun q hq => ?_⟩
        by_cases e : q = c
        · rw [e]; exact p
        · exact hh q (by omega)
      · rw [if_neg p]
        exact Or.inl (Or.inr ⟨fun hall => p (hall c hc), rfl⟩)
  rcases hM with ⟨p, hM⟩ | ⟨p, hM⟩
  · left
    have : ∀ c, c < 8 → ∃ r : Nat, 1 ≤ r ∧ r ≤ 99 ∧ σ 24 c = nI r := fun c hc => by
      obtain ⟨j, h1, h2, h3⟩ := wi_from (a := 1) (M := 99) (m := 1) (n := 99) (by decide) (by decide) (p c hc)
      exact ⟨j, h1, h2, h3⟩
    refine ⟨fun c => (σ 24 c).toNatClampNeg, s, fun c hc => ?_, fun c hc => ?_, s1, fun c hc => ?_, ?_, hM⟩
    · obtain ⟨r, h1, h2, h3⟩ := this c hc
      show 1 ≤ (σ 24 c).toNatClampNeg ∧ (σ 24 c).toNatClampNeg ≤ 99
      rw [h3, nI_clamp (by omega)]; exact ⟨h1, h2⟩
    · obtain ⟨r, h1, h2, h3⟩ := this c hc
      show τ 6 c &&& 255 = nI (σ 24 c).toNatClampNeg
      rw [← (hb c (by omega)).1, h3, nI_clamp (by omega)]
    · obtain ⟨r, h1, h2, h3⟩ := this c hc
      show s 41 c = nI (σ 24 c).toNatClampNeg
      rw [s2 c hc, h3, nI_clamp (by omega)]
    · rw [s3, sg.mpr p]; rfl
  · right
    refine ⟨s, s1, ?_, hM⟩
    cases g
    · rw [s3]; rfl
    · exact absurd (sg.mp rfl) p
theorem sim_ants {σ τ : Hp} (h : Rl σ τ) (a1 a2 : Int32) : ∃ r σ' τ', F_V_ants a1 a2 σ = some (r, σ') ∧ F_M_ants a1 a2 τ = some (r, τ') ∧ Rl σ' τ' := by
  obtain ⟨⟨n, hn, e1, e2⟩, hb⟩ := id h.2.2.1
  have ch : F_X8_has 8 σ = _ := C_has (k := 8) e1 hn (by omega)
  simp only [F_V_ants, F_M_ants, V_within, M_in, ob, b2_ite, ch, decide_eq_true_eq, e2]
  by_cases h1 : wi a1 0 7 = true
  · by_cases h2 : wi a2 0 8 = true
    · simp only [if_pos h1, if_pos h2]
      obtain ⟨f, hf, rfl⟩ := wi_nat (M := 7) (n := 7) (by decide) h1
      obtain ⟨w, hw, rfl⟩ := wi_nat (M := 8) (n := 8) (by decide) h2
      by_cases h3 : 8 ≤ n
      · rw [if_pos h3, if_pos (show (8 : Int32) ≤ nI n from nI_le (a := 8) h3 (by omega))]
        rcases ants_rd h (show f < 8 by omega) (nI w) with ⟨b, s, q1, q2, q3, q4, q5, q6⟩ | ⟨s, q3, q5, q6⟩
        · rw [q5, q6]
          have tz : ∀ c, c < 8 → zu τ 0 6 0 6 c &&& 255 = nI (b c) := fun c hc => by rw [zu_ne _ _ _ (by decide)]; exact q2 c hc
          simp only [J_V_ants_94, J_M_ants_67, F_X8_clear, ob, M_octet (show f < 260 by omega), if_neg (show ¬ (1 : Int32) = 0 by decide), tz f (by omega)]
          rw [gd_true (inbT (show f < 8 by omega) (by omega)), nI_clamp (by omega), nI_1]
          obtain ⟨s', t', k1, k2, k3, k4, k5, k6⟩ := ants_up (σ := zu σ 23 1 0) (τ := zu τ 0 6 0) (b := b) (show f < 8 by omega) tz (nI w) J_V_ants_145 J_M_ants_114 (zu s 23 1 0) (zu (zu τ 0 6 0) 37 f (nI (b f))) (fun k hk => by
              by_cases e : k = 23
              · subst e; rw [zu_self, zu_self, q3 23 (by decide)]
              · rw [zu_ne _ _ _ e, zu_ne _ _ _ e, q3 k hk]) (Ag.rf.zu (by decide)) (fun c hc => by rw [zu_ne _ _ _ (by decide)]; exact q4 c hc) (by rw [zu_self, upd_ap, if_pos rfl])
          rw [k1, k2]
          simp only [J_V_ants_145, J_M_ants_114]
          obtain ⟨s2, t2, m1, m2, m3, m4, m5⟩ := ants_dn (σ := zu σ 23 1 0) (τ := zu τ 0 6 0) (b := b) (show f < 8 by omega) tz (nI w) J_V_ants_180 J_M_ants_148 s' t' k3 k4 k5 k6
          rw [m1, m2]
          have hr : Rl s2 t2 := h.clear.sc (S := [41]) (T := [37]) m3 m4 (by decide) (by decide)
          unfold J_V_ants_180 J_M_ants_148
          by_cases p : w < 8
          · rw [if_neg (show ¬ (8 : Int32) ≤ nI w from nI_ge (b := 8) p (by omega)), if_neg (show ¬ (8 : Int32) ≤ nI w from nI_ge (b := 8) p (by omega))]
            simp (disch := omega) only [inb_nI, gd_tt, nI_clamp]
            rw [(m5 w p).1, (m5 w p).2]
            exact ⟨_, s2, t2, rfl, rfl, hr⟩
          · rw [if_pos (show (8 : Int32) ≤ nI w from nI_le (a := 8) (by omega) (by omega)), if_pos (show (8 : Int32) ≤ nI w from nI_le (a := 8) (by omega) (by omega)), ants_last (by omega) q1 (fun c hc => (m5 c hc).1)]
            rw [gd_true (by decide), gd_true (by decide), show Int32.toNatClampNeg 7 = 7 from rfl, show Int32.toNatClampNeg 0 = 0 from rfl, (m5 7 (by omega)).2, (m5 0 (by omega)).2]
            have l7 := ea_le (b := b) (f := f) (by omega) (fun c hc => (q1 c hc).2) 7 (by omega)
            have l0 := ea_le (b := b) (f := f) (by omega) (fun c hc => (q1 c hc).2) 0 (by omega)
            by_cases p2 : ea b f 7 ≤ ea b f 0
            · rw [if_pos p2, if_pos (nI_le p2 (by omega))]
              exact ⟨_, s2, t2, rfl, rfl, hr⟩
            · rw [if_neg p2, if_neg (nI_ge (by omega) (by omega))]
              exact ⟨_, s2, t2, rfl, rfl, hr⟩
        · rw [q5, q6]
          simp only [J_V_ants_94, F_X8_clear, ob, if_pos (show (0 : Int32) = 0 from rfl)]
          refine ⟨-2, _, _, rfl, rfl, (h.clear).sc (S := [41]) (T := []) (fun k hk => ?_) Ag.rf (by decide) (by simp)⟩
          by_cases e : k = 23
          · subst e; rw [zu_self, zu_self, q3 23 (by decide)]
          · rw [zu_ne _ _ _ e, zu_ne _ _ _ e, q3 k hk]
      · rw [if_neg h3, if_neg (show ¬ (8 : Int32) ≤ nI n from nI_ge (b := 8) (by omega) (by omega))]
        exact ⟨-1, σ, τ, rfl, rfl, h⟩
    · simp only [if_pos h1, if_neg h2]
      exact ⟨-1, σ, τ, rfl, rfl, h⟩
  · simp only [if_neg h1]
    exact ⟨-1, σ, τ, rfl, rfl, h⟩
