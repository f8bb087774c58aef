-- bridge: the class plays
def bI (b : Option (Nat × Nat)) : Int32 := match b with
  | none => -1
  | some x => nI x.1
section
variable {cd : Nat → Nat} {tr : Nat} {dl : Nat → Bool}
def LayOk (cd : Nat → Nat) (tr : Nat) (dl : Nat → Bool) (f : Int32 → Int32 → Int32 → Int32 → Int32 → Hp → Option (Int32 × Hp)) (r : Nat) : Prop := ∀ (left : Nat → Bool) (x : Int32) (s laid led high : Nat) (σ : Hp), CC cd tr dl σ → Bm x left → (∀ i, left i = true → dl i = true) → left s = true → laid ≤ 3 → (0 < laid → dl led = true ∧ dl high = true) → c12 left 12 = r + 1 → f x (nI s) (nI laid) (nI led) (nI high) σ = some (nI (lv cd tr r left s laid led high), σ)
def PbOk (cd : Nat → Nat) (tr : Nat) (dl : Nat → Bool) (f : Int32 → Int32 → Int32 → Int32 → Int32 → Hp → Option (Int32 × Hp)) (r : Nat) : Prop := ∀ (left : Nat → Bool) (x : Int32) (pl laid led high : Nat) (σ : Hp), CC cd tr dl σ → Bm x left → (∀ i, left i = true → dl i = true) → pl < 4 → laid ≤ 3 → (0 < laid → dl led = true ∧ dl high = true) → c12 left 12 = r → f x (nI pl) (nI laid) (nI led) (nI high) σ = some (nI (vl (bv cd tr r left pl laid led high)), σ)
theorem lay_C {f : Int32 → Int32 → Int32 → Int32 → Int32 → Hp → Option (Int32 × Hp)} {r : Nat} (hr : r ≤ 12) (hf : PbOk cd tr dl f r) : LayOk cd tr dl (F_X0_lay f) r := by
  intro left x s laid led high σ hC hB hld hs hl hlh hc
  obtain ⟨s12, -, -⟩ := hC.2.2 s (hld s hs)
  have hB' := hB.rmv s12
  have hld' : ∀ i, rm left s i = true → dl i = true := fun i hi => hld i (rm_t.mp hi).1
  have hc' : c12 (rm left s) 12 = r := by
    have := c12_rm hs 12
    rw [if_pos s12] at this
    omega
  have j32 : ∀ (h' l' : Nat), dl h' = true → dl l' = true → J_X0_lay_32 f x (nI s) (nI laid) (nI l') (nI h') σ = some (nI (if laid < 3 then vl (bv cd tr r (rm left s) ((s / 3 + 1) % 4) (laid + 1) l' h') else (if (h' / 3) % 2 = 0 then 1 else 0) + (if r = 0 then 0 else vl (bv cd tr r (rm left s) (h' / 3) 0 0 0))), σ) := by
    intro h' l' hh hl'
    obtain ⟨h12, -, -⟩ := hC.2.2 h' hh
    unfold J_X0_lay_32
    rw [nl3, pk_div (by omega) (by omega) (by omega), pk_div (by omega) (by omega) (by omega)]
    by_cases q : laid < 3
    · rw [if_neg (nI_ge q (by omega)), if_pos q, nI_1, nI_1, nl4, jrem_nI (by omega) (by omega) (by omega), hf (rm left s) _ ((s / 3 + 1) % 4) (laid + 1) l' h' σ hC hB' hld' (by omega) (by omega) (fun _ => ⟨hl', hh⟩) hc', ob]
    · rw [if_pos (nI_le (by omega) (by omega)), if_neg q, nl2, jrem_nI (by omega) (by omega) (by omega)]
      have j87 : ∀ wn : Nat, wn ≤ 1 → J_X0_lay_87 f (x &&& (((1 : Int32) <<< (nI s &&& 31)) ^^^ (-1 : Int32))) (nI (h' / 3)) (nI wn) σ = some (nI (wn + (if r = 0 then 0 else vl (bv cd tr r (rm left s) (h' / 3) 0 0 0))), σ) := by
        intro wn hwn
        unfold J_X0_lay_87
        by_cases q2 : r = 0
        · rw [if_pos (hB'.zero.mpr (by rw [hc', q2])), if_pos q2]; rfl
        · have := hf (rm left s) _ (h' / 3) 0 0 0 σ hC hB' hld' (by omega) (by omega) (fun z => absurd z (by omega)) hc'
          rw [if_neg (fun e => q2 (by rw [← hc']; exact hB'.zero.mp e)), if_neg q2, show f (x &&& (((1 : Int32) <<< (nI s &&& 31)) ^^^ (-1 : Int32))) (nI (h' / 3)) 0 0 0 σ = _ from this, ob, nI_add]
      by_cases q3 : (h' / 3) % 2 = 0
      · rw [if_pos (by rw [q3]; rfl), if_pos q3]; exact j87 1 (by omega)
      · rw [if_neg (nI_ne0 (by omega) (by omega)), if_neg q3]; exact j87 0 (by omega)
  have ev : lv cd tr r left s laid led high = if laid < 3 then vl (bv cd tr r (rm left s) ((s / 3 + 1) % 4) (laid + 1) (ledN laid s led) (higN cd tr laid s high)) else (if (higN cd tr laid s high / 3) % 2 = 0 then 1 else 0) + (if r = 0 then 0 else vl (bv cd tr r (rm left s) (higN cd tr laid s high / 3) 0 0 0)) := rfl
  rw [ev]
  unfold F_X0_lay
  by_cases q : laid = 0
  · subst q
    rw [if_pos (by rfl)]
    unfold J_X0_lay_10 J_X0_lay_26
    rw [if_pos (by rfl), show ledN 0 s led = s from rfl, show higN cd tr 0 s high = s by unfold higN; rw [if_pos (Or.inl rfl)]]
    exact j32 s s (hld s hs) (hld s hs)
  · obtain ⟨d1, d2⟩ := hlh (by omega)
    rw [if_neg (nI_ne0 (by omega) (by omega))]
    unfold J_X0_lay_10 J_X0_lay_26
    rw [if_neg (nI_ne0 (by omega) (by omega)), X0_beats hC (hld s hs) d2, ob, show ledN laid s led = led by unfold ledN; rw [if_neg q]]
    dsimp only
    rw [b2_ite]
    by_cases q2 : bts cd tr s high = true
    · rw [if_pos q2, show higN cd tr laid s high = s by unfold higN; rw [if_pos (Or.inr q2)]]
      exact j32 s led (hld s hs) d1
    · rw [if_neg q2, show higN cd tr laid s high = high by unfold higN; rw [if_neg (by simp [q, q2])]]
      exact j32 high led d2 d1
theorem pb_un (f : Int32 → Int32 → Int32 → Int32 → Int32 → Hp → Option (Int32 × Hp)) (k129 : Int32 → Hp → Option (Int32 × Hp)) (N : Nat) (a b c d e g h i : Int32) (σ : Hp) : L_X0_playBest_34 f k129 (N + 1) a b c d e g h i σ = B_X0_playBest_34 f k129 (fun x1 x2 x3 x4 x5 x6 x7 x8 σ => L_X0_playBest_34 f k129 N x1 x2 x3 x4 x5 x6 x7 x8 σ) a b c d e g h i σ := rfl
theorem pb_loop {f : Int32 → Int32 → Int32 → Int32 → Int32 → Hp → Option (Int32 × Hp)} {V : Nat → Nat} {left : Nat → Bool} {x : Int32} {pl laid led high : Nat} {σ : Hp} (hC : CC cd tr dl σ) (hB : Bm x left) (hld : ∀ i, left i = true → dl i = true) (hp : pl < 4) (hl : laid ≤ 3) (hlh : 0 < laid → dl led = true ∧ dl high = true) (hV : ∀ s, left s = true → f x (nI s) (nI laid) (nI led) (nI high) σ = some (nI (V s), σ) ∧ V s < 50) : F_X0_playBest f x (nI pl) (nI laid) (nI led) (nI high) σ = some (nI (vl (f3 cd V left pl laid led 3 0 none)), σ) := by
  obtain ⟨fol, hfol⟩ : ∃ fol : Bool, fol = (!decide (laid = 0) && hasS cd left pl (cd led / 13)) := ⟨_, rfl⟩
  have e24 : F_X0_playBest f x (nI pl) (nI laid) (nI led) (nI high) σ = J_X0_playBest_24 f x (nI pl) (nI laid) (nI led) (nI high) (b2 fol) σ := by
    unfold F_X0_playBest J_X0_playBest_23
    by_cases q : laid = 0
    · rw [if_pos (show nI laid ≤ 0 by rw [q]; decide), hfol, q]; rfl
    · obtain ⟨d1, -⟩ := hlh (by omega)
      obtain ⟨y1, y2, y3⟩ := hC.2.2 led d1
      rw [if_neg (nI_nle (by omega) (by omega)), X0_suit hC d1, ob]
      dsimp only
      rw [X0_hasS hC hB hld hp (by omega), ob]
      dsimp only
      rw [b2_ite, hfol, decide_eq_false q]
      by_cases q2 : hasS cd left pl (cd led / 13) = true
      · rw [if_pos q2, q2]; rfl
      · rw [if_neg q2]
        simp only [Bool.not_eq_true] at q2
        rw [q2]; rfl
  have loop : ∀ (j k N : Nat) (b : Option (Nat × Nat)), k + j = 3 → j < N → vl b < 50 → L_X0_playBest_34 f (J_X0_playBest_129 f) N x (nI pl) (nI laid) (nI led) (nI high) (b2 fol) (bI b) (nI (3 * pl + k)) σ = some (nI (vl (f3 cd V left pl laid led j k b)), σ) := by
    intro j
    induction j with
    | zero =>
      intro k N b hk hN hb
      obtain ⟨N, rfl⟩ : ∃ N', N = N' + 1 := ⟨N - 1, by omega⟩
      rw [pb_un]
      unfold B_X0_playBest_34 J_X0_playBest_129
      rw [nl3, pk_mul, nI_add, if_pos (nI_le (by omega) (by omega))]
      show some (jmax 0 (bI b), σ) = some (nI (vl b), σ)
      match b, hb with
      | none, _ => rfl
      | some y, hb =>
        show some (jmax (nI 0) (nI y.1), σ) = _
        have hb' : y.1 < 50 := hb
        rw [jmax_nI (by omega) (by omega), Nat.zero_max]; rfl
    | succ j ih =>
      intro k N b hk hN hb
      obtain ⟨N, rfl⟩ : ∃ N', N = N' + 1 := ⟨N - 1, by omega⟩
      have nxt : L_X0_playBest_34 f (J_X0_playBest_129 f) N x (nI pl) (nI laid) (nI led) (nI high) (b2 fol) (bI b) (nI (3 * pl + (k + 1))) σ = some (nI (vl (f3 cd V left pl laid led j (k + 1) b)), σ) := ih (k + 1) N b (by omega) (by omega) hb
      have ef : f3 cd V left pl laid led (j + 1) k b = f3 cd V left pl laid led j (k + 1) (if alw cd left pl laid led k = true then bt2 pl b (V (3 * pl + k)) (cd (3 * pl + k)) else b) := rfl
      rw [pb_un, ef]
      unfold B_X0_playBest_34
      rw [nl3, pk_mul, nI_add, if_neg (nI_ge (by omega) (by omega)), if_neg (show ¬ Int32.ofNat 12 ≤ nI (3 * pl + k) from nI_ge (b := 12) (by omega) (by omega)), X0_left hB (by omega), ob]
      dsimp only
      rw [b2_ite, b2_ite, nI_1]
      by_cases h1 : left (3 * pl + k) = true
      rotate_left
      · rw [if_neg h1, if_neg (show ¬ alw cd left pl laid led k = true by unfold alw; simp [h1])]
        exact nxt
      rw [if_pos h1]
      obtain ⟨v1, v2⟩ := hV _ h1
      have j83 : J_X0_playBest_83 f (fun x1 x2 x3 x4 x5 x6 x7 x8 σ => L_X0_playBest_34 f (J_X0_playBest_129 f) N x1 x2 x3 x4 x5 x6 x7 x8 σ) x (nI pl) (nI laid) (nI led) (nI high) (b2 fol) (bI b) (nI (3 * pl + k)) σ = some (nI (vl (f3 cd V left pl laid led j (k + 1) (bt2 pl b (V (3 * pl + k)) (cd (3 * pl + k))))), σ) := by
        have fin := fun b' hb' => ih (k + 1) N b' (by omega) (by omega) hb'
        unfold J_X0_playBest_83
        rw [v1, ob]
        dsimp only
        rw [nI_1]
        match b, hb with
        | none, _ =>
          rw [if_pos (by rfl)]
          exact fin (some (V (3 * pl + k), cd (3 * pl + k))) v2
        | some y, hb =>
          have hb' : y.1 < 50 := hb
          rw [if_neg (show ¬ bI (some y) = -1 from nI_m1 (by omega)), show bI (some y) = nI y.1 from rfl, X0_better hp (by omega) (by omega), ob]
          dsimp only
          rw [b2_ite]
          unfold bt2
          dsimp only
          by_cases q1 : bet pl (V (3 * pl + k)) y.1 = true
          · rw [if_pos q1, if_pos (Or.inl q1)]
            exact fin (some (V (3 * pl + k), cd (3 * pl + k))) v2
          · rw [if_neg q1]
            by_cases q2 : V (3 * pl + k) = y.1 ∧ cd (3 * pl + k) < y.2
            · rw [if_pos (Or.inr q2)]
              have := fin (some (V (3 * pl + k), cd (3 * pl + k))) v2
              rw [show bI (some (V (3 * pl + k), cd (3 * pl + k))) = nI y.1 by show nI (V (3 * pl + k)) = nI y.1; rw [q2.1]] at this
              exact this
            · rw [if_neg (by rintro (z | z); exact q1 z; exact q2 z)]
              exact fin (some y) hb
      by_cases h2 : fol = true
      rotate_left
      · have : alw cd left pl laid led k = true := by
          unfold alw
          rw [h1]
          simp only [Bool.not_eq_true] at h2
          rw [hfol] at h2
          revert h2
          cases decide (laid = 0) <;> cases hasS cd left pl (cd led / 13) <;> simp
        rw [if_neg h2, if_pos this]
        exact j83
      have hf2 := h2
      rw [hfol] at hf2
      simp only [Bool.and_eq_true, Bool.not_eq_true', decide_eq_false_iff_not] at hf2
      obtain ⟨d1, -⟩ := hlh (by omega)
      obtain ⟨y1, y2, y3⟩ := hC.2.2 led d1
      obtain ⟨z1, z2, z3⟩ := hC.2.2 _ (hld _ h1)
      rw [if_pos h2, X0_suit hC (hld _ h1), ob]
      dsimp only
      rw [X0_suit hC d1, ob]
      dsimp only
      by_cases h3 : cd (3 * pl + k) / 13 = cd led / 13
      · rw [if_pos (by rw [h3]), if_pos (show alw cd left pl laid led k = true by unfold alw; simp [h1, h3])]
        exact j83
      · rw [if_neg (nI_lit (by omega) (by omega) h3), if_neg (show ¬ alw cd left pl laid led k = true by unfold alw; simp [h1, h3, hf2.1, hf2.2])]
        exact nxt
  rw [e24]
  unfold J_X0_playBest_24
  rw [nl3, pk_mul, show pl * 3 = 3 * pl + 0 by omega]
  exact loop 3 0 FU none rfl (FU_lt (by omega)) (by show 0 < 50; omega)
theorem pb_C {f : Int32 → Int32 → Int32 → Int32 → Int32 → Hp → Option (Int32 × Hp)} {r : Nat} (hr : r ≤ 12) (hf : ∀ q, q + 1 = r → LayOk cd tr dl f q) : PbOk cd tr dl (F_X0_playBest f) r := by
  intro left x pl laid led high σ hC hB hld hp hl hlh hc
  match r, hr, hf, hc with
  | 0, _, _, hc =>
    have no : ∀ i, left i = true → False := fun i hi => by
      have h12 := (hC.2.2 i (hld i hi)).1
      have := c12_0 12 hc i h12
      rw [hi] at this
      exact absurd this (by decide)
    rw [pb_loop (V := fun _ => 0) hC hB hld hp hl hlh (fun s hs => (no s hs).elim)]
    have na : ∀ k, ¬ alw cd left pl laid led k = true := fun k z => by
      unfold alw at z
      rw [Bool.and_eq_true] at z
      exact no _ z.1
    show some (nI (vl (f3 cd (fun _ => 0) left pl laid led 3 0 none)), σ) = _
    simp only [f3, if_neg (na _)]
    rfl
  | q + 1, hr, hf, hc =>
    rw [pb_loop (V := fun s => lvF cd tr (bv cd tr q) q left s laid led high) hC hB hld hp hl hlh (fun s hs => ⟨hf q rfl left x s laid led high σ hC hB hld hs hl hlh hc, ?_⟩)]
    · rfl
    · have := lv_le (cd := cd) (tr := tr) q left s laid led high
      unfold lv at this
      show lvF cd tr (bv cd tr q) q left s laid led high < 50
      omega
theorem G_all : ∀ (r g : Nat), r ≤ 12 → 2 * r + 1 ≤ g → PbOk cd tr dl (G_X0_lay g 1) r ∧ (2 * r + 2 ≤ g → LayOk cd tr dl (G_X0_lay g 0) r) := by
  intro r
  induction r with
  | zero =>
    intro g _ hg
    have pb : ∀ g, 1 ≤ g → PbOk cd tr dl (G_X0_lay g 1) 0 := fun g hg => by
      obtain ⟨g, rfl⟩ : ∃ g', g = g' + 1 := ⟨g - 1, by omega⟩
      rw [G_X0_lay_1]
      exact pb_C (by omega) (fun q hq => absurd hq (by omega))
    refine ⟨pb g (by omega), fun hg2 => ?_⟩
    obtain ⟨g, rfl⟩ : ∃ g', g = g' + 1 := ⟨g - 1, by omega⟩
    rw [G_X0_lay_0]
    exact lay_C (by omega) (pb g (by omega))
  | succ r ih =>
    intro g hr hg
    have pb : ∀ g, 2 * (r + 1) + 1 ≤ g → PbOk cd tr dl (G_X0_lay g 1) (r + 1) := fun g hg => by
      obtain ⟨g, rfl⟩ : ∃ g', g = g' + 1 := ⟨g - 1, by omega⟩
      rw [G_X0_lay_1]
      refine pb_C (by omega) (fun q hq => ?_)
      obtain rfl : q = r := by omega
      exact (ih g (by omega) (by omega)).2 (by omega)
    refine ⟨pb g hg, fun hg2 => ?_⟩
    obtain ⟨g, rfl⟩ : ∃ g', g = g' + 1 := ⟨g - 1, by omega⟩
    rw [G_X0_lay_0]
    exact lay_C (by omega) (pb g (by omega))
end
