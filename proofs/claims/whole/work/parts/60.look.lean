-- who is seen: lookAround, seenBy, chairIs, hidden
theorem fill_eq (k n : Nat) (hn : n < 1000) (x : Int32) (σ : Hp) : F_J7_fill k n x σ = some (zr σ k (fun j => if j < n then x else σ k j)) := by
  unfold F_J7_fill
  refine lone (fun N i s => L_J7_fill_5 N k n x (nI i) (Int32.ofNat n) s) (fun i s => s = zr σ k (fun j => if j < i then x else σ k j)) (fun r => r = some (zr σ k (fun j => if j < n then x else σ k j))) n ?_ ?_ n 0 FU σ (by omega) (by omega) (FU_lt (by omega)) ?_
  · rintro N s rfl
    simp only [L_J7_fill_5, B_J7_fill_5]
    rw [if_pos (show Int32.ofNat n ≤ nI n from nI_le (Nat.le_refl n) (by omega))]
  · rintro N i s hi rfl
    right
    simp only [L_J7_fill_5, B_J7_fill_5]
    rw [if_neg (show ¬ Int32.ofNat n ≤ nI i from nI_ge hi (by omega)), gd_true (inbT hi (by omega)), nI_clamp (by omega), nI_1]
    refine ⟨_, rfl, ?_⟩
    rw [zu_zr]
    congr 1
    funext j
    rw [upd_ap]
    by_cases q : j = i
    · rw [if_pos q, if_pos (by omega)]
    · rw [if_neg q]
      by_cases q2 : j < i
      · rw [if_pos q2, if_pos (by omega)]
      · rw [if_neg q2, if_neg (by omega)]
  · have : (fun j => if j < 0 then x else σ k j) = σ k := by funext j; rw [if_neg (by omega)]
    rw [this, zr_id]
/-- two chairs that are taken see each other -/
def bothV (o : Nat) (σ : Hp) (c e : Nat) : Bool := (!decide (σ (o + 5) c = 3)) && (!decide (σ (o + 5) (8 + e) = 3)) && visC o σ c e
/-- what the sights are when the pairs before (c, e) have been looked at -/
def Sgt (o : Nat) (σ : Hp) (c e : Nat) (s : Hp) : Prop := Ag [22] σ s ∧ (∀ c', c' < 8 → ∀ i, i < 32 → bt (s 22 c') i = (decide (i < 8) && bothV o σ c' i && (decide (c' < c) || (decide (c' = c) && decide (i < e))))) ∧ (∀ e', e' < 8 → ∀ i, i < 32 → bt (s 22 (8 + e')) i = (decide (i < 8) && bothV o σ i e' && (decide (i < c) || (decide (i = c) && decide (e' < e)))))
theorem bt_bit {c i : Nat} (hc : c < 32) (hi : i < 32) : bt ((1 : Int32) <<< (nI c &&& 31)) i = decide (i = c) := by
  rw [b_shl c hc 1 hi]
  by_cases h : c ≤ i
  · rw [bt_1 (i - c) (by omega)]
    by_cases h2 : i = c
    · subst h2; simp
    · simp [h, h2, show ¬ i - c = 0 by omega]
  · simp [h, show ¬ i = c by omega]
theorem Sgt.skip {o : Nat} {σ : Hp} {c e : Nat} {s : Hp} (h : Sgt o σ c e s) (hb : bothV o σ c e = false) : Sgt o σ c (e + 1) s := by
  obtain ⟨h1, h2, h3⟩ := h
  refine ⟨h1, fun c' hc' i hi => ?_, fun e' he' i hi => ?_⟩
  · rw [h2 c' hc' i hi]
    by_cases q : c' = c
    · subst q
      by_cases q2 : i = e
      · subst q2; simp [hb]
      · by_cases q3 : i < e
        · simp [q3, show i < e + 1 by omega]
        · simp [q3, show ¬ i < e + 1 by omega]
    · simp [q]
  · rw [h3 e' he' i hi]
    by_cases q : i = c
    · subst q
      by_cases q2 : e' = e
      · subst q2; simp [hb]
      · by_cases q3 : e' < e
        · simp [q3, show e' < e + 1 by omega]
        · simp [q3, show ¬ e' < e + 1 by omega]
    · simp [q]
theorem Sgt.mark {o : Nat} {σ : Hp} {c e : Nat} (hc : c < 8) (he : e < 8) {s : Hp} (h : Sgt o σ c e s) (hb : bothV o σ c e = true) : Sgt o σ c (e + 1) (zu (zu s 22 c (s 22 c ||| (1 : Int32) <<< (nI e &&& 31))) 22 (8 + e) (zu s 22 c (s 22 c ||| (1 : Int32) <<< (nI e &&& 31)) 22 (8 + e) ||| (1 : Int32) <<< (nI c &&& 31))) := by
  obtain ⟨h1, h2, h3⟩ := h
  refine ⟨(h1.zu (by decide)).zu (by decide), fun c' hc' i hi => ?_, fun e' he' i hi => ?_⟩
  · rw [zu_self, upd_ap, if_neg (by omega), zu_self, upd_ap]
    by_cases q : c' = c
    · subst q
      rw [if_pos rfl, b_or, h2 c' hc' i hi, bt_bit (by omega) hi]
      by_cases q2 : i = e
      · subst q2; simp [hb, he]
      · by_cases q3 : i < e
        · simp [q2, q3, show i < e + 1 by omega]
        · simp [q2, q3, show ¬ i < e + 1 by omega]
    · rw [if_neg q, h2 c' hc' i hi]
      simp [q]
  · rw [zu_self, upd_ap]
    by_cases q2 : e' = e
    · subst q2
      rw [if_pos rfl, zu_self, upd_ap, if_neg (by omega), b_or, h3 e' he' i hi, bt_bit (by omega) hi]
      by_cases q : i = c
      · subst q; simp [hb, hc]
      · simp [q]
    · rw [if_neg (by omega), zu_self, upd_ap, if_neg (by omega), h3 e' he' i hi]
      by_cases q : i = c
      · subst q
        by_cases q3 : e' < e
        · simp [q3, show e' < e + 1 by omega]
        · simp [q3, show ¬ e' < e + 1 by omega]
      · simp [q]
theorem Sgt.next {o : Nat} {σ : Hp} {c : Nat} {s : Hp} (h : Sgt o σ c 8 s) : Sgt o σ (c + 1) 0 s := by
  obtain ⟨h1, h2, h3⟩ := h
  refine ⟨h1, fun c' hc' i hi => ?_, fun e' he' i hi => ?_⟩
  · rw [h2 c' hc' i hi]
    by_cases q : c' = c
    · subst q
      by_cases q2 : i < 8
      · simp [q2]
      · simp [q2]
    · by_cases q2 : c' < c
      · simp [q2, show c' < c + 1 by omega]
      · simp [q, q2, show ¬ c' < c + 1 by omega]
  · rw [h3 e' he' i hi]
    by_cases q : i = c
    · subst q; simp [he']
    · by_cases q2 : i < c
      · simp [q2, show i < c + 1 by omega]
      · simp [q, q2, show ¬ i < c + 1 by omega]
theorem Ag.vis {o : Nat} (ho : o + 4 ≠ 22) {σ s : Hp} (h : Ag [22] σ s) (c e : Nat) : visC o s c e = visC o σ c e := by
  unfold visC
  rw [h 20 (by decide), h 21 (by decide), h (o + 4) (by simpa using ho)]
theorem look_in {o : Nat} (ho : o + 4 ≠ 22) (ho5 : o + 5 ≠ 22) {σ : Hp} {c : Nat} (hc : c < 8) (K : Nat → Int32 → Hp → Option Hp) (s : Hp) (hs : Sgt o σ c 0 s) : ∃ s', L_X9_lookAround_18 K FU o (nI c) 0 s = K o (nI c) s' ∧ Sgt o σ c 8 s' := by
  refine lone (fun N e s => L_X9_lookAround_18 K N o (nI c) (nI e) s) (fun e s => Sgt o σ c e s) (fun r => ∃ s', r = K o (nI c) s' ∧ Sgt o σ c 8 s') 8 ?_ ?_ 8 0 FU s (by omega) (by omega) (FU_lt (by omega)) hs
  · intro N s hs
    simp only [L_X9_lookAround_18, B_X9_lookAround_18]
    rw [if_pos (by decide)]
    exact ⟨s, rfl, hs⟩
  · intro N e s he hs
    right
    have e8 : (8 : Int32) + nI e = nI (8 + e) := by rw [n8, nI_add]
    have h5 : s (o + 5) = σ (o + 5) := hs.1 (o + 5) (by simpa using ho5)
    simp only [L_X9_lookAround_18, B_X9_lookAround_18, J_X9_lookAround_52, J_X9_lookAround_51, e8, C_sighted o c e hc he, ob, b2_ite, hs.1.vis ho, h5]
    rw [if_neg (show ¬ (8 : Int32) ≤ nI e from nI_ge (b := 8) (by omega) (by omega))]
    simp (disch := omega) only [inb_nI, gd_tt, nI_clamp, nI_1, if_neg (show ¬ (1 : Int32) = 0 by decide), if_pos (show (0 : Int32) = 0 from rfl)]
    by_cases p1 : σ (o + 5) c = 3
    · rw [if_pos p1]
      exact ⟨s, rfl, hs.skip (by simp [bothV, p1])⟩
    · rw [if_neg p1]
      by_cases p2 : σ (o + 5) (8 + e) = 3
      · rw [if_pos p2]
        exact ⟨s, rfl, hs.skip (by simp [bothV, p2])⟩
      · rw [if_neg p2]
        by_cases p3 : visC o σ c e = true
        · rw [if_pos p3]
          exact ⟨_, rfl, hs.mark hc he (by simp [bothV, p1, p2, p3])⟩
        · rw [if_neg p3]
          exact ⟨s, rfl, hs.skip (by simp [bothV, p3])⟩
theorem look_eq {o : Nat} (ho : o + 4 ≠ 22) (ho5 : o + 5 ≠ 22) (σ : Hp) : ∃ s, F_X9_lookAround o σ = some s ∧ Ag [22] σ s ∧ (∀ c, c < 8 → s 22 c = bset (fun e => bothV o σ c e)) ∧ ∀ e, e < 8 → s 22 (8 + e) = bset (fun c => bothV o σ c e) := by
  unfold F_X9_lookAround
  rw [fill_eq 22 16 (by omega), ob]
  have key : ∃ s, L_X9_lookAround_10 FU o 0 (zr σ 22 (fun j => if j < 16 then 0 else σ 22 j)) = some s ∧ Sgt o σ 8 0 s := by
    refine lone (fun N c s => L_X9_lookAround_10 N o (nI c) s) (fun c s => Sgt o σ c 0 s) (fun r => ∃ s, r = some s ∧ Sgt o σ 8 0 s) 8 ?_ ?_ 8 0 FU (zr σ 22 (fun j => if j < 16 then 0 else σ 22 j)) (by omega) (by omega) (FU_lt (by omega)) ?_
    · intro N s hs
      simp only [L_X9_lookAround_10, B_X9_lookAround_10]
      rw [if_pos (by decide)]
      exact ⟨s, rfl, hs⟩
    · intro N c s hc hs
      right
      simp only [L_X9_lookAround_10, B_X9_lookAround_10]
      rw [if_neg (show ¬ (8 : Int32) ≤ nI c from nI_ge (b := 8) (by omega) (by omega))]
      obtain ⟨s', k1, k2⟩ := look_in ho ho5 hc (J_X9_lookAround_102 (fun r1 x2 σ => L_X9_lookAround_10 N r1 x2 σ)) s hs
      rw [k1]
      simp only [J_X9_lookAround_102, nI_1]
      exact ⟨s', rfl, k2.next⟩
    · refine ⟨Ag.rf.zr (by decide), fun c' hc' i hi => ?_, fun e' he' i hi => ?_⟩
      · rw [zr_self, if_pos (by omega), b_0]; simp
      · rw [zr_self, if_pos (by omega), b_0]; simp
  obtain ⟨s, k1, k2, k3, k4⟩ := key
  refine ⟨s, k1, k2, fun c hc => b_ext (fun i hi => ?_), fun e he => b_ext (fun i hi => ?_)⟩
  · rw [k3 c hc i hi, bt_bset _ hi]; simp [hc]
  · rw [k4 e he i hi, bt_bset _ hi]
    by_cases q : i < 8
    · simp [q]
    · simp [q]
/-- what the reference calls seen -/
def snC (τ : Hp) (c : Nat) : Int32 := bset (fun e => (decide (τ 1 (8 + e) = 1) && decide (τ 1 (80 + (8 + e)) = 0)) && vis τ c e)
def snE (τ : Hp) (e : Nat) : Int32 := bset (fun c => (decide (τ 1 c = 1) && decide (τ 1 (80 + c) = 0)) && vis τ c e)
def sn (τ : Hp) (g : Nat) : Int32 := if g < 8 then snC τ g else snE τ (g - 8)
theorem M_seenBy {g : Nat} (hg : g < 16) (τ : Hp) : F_M_seenBy (nI g) τ = some (sn τ g, τ) := by
  have e0 : nI g / 8 = nI (g / 8) := pk_div (d := 8) (by omega) (by omega) (by omega)
  unfold F_M_seenBy sn
  rw [e0, one_sub (by omega), M_setOf (1 - g / 8) (by omega), ob]
  dsimp only
  by_cases h : g < 8
  · rw [if_pos h]
    unfold snC
    have : g / 8 = 0 := by omega
    rw [this]
    exact loopU (fun N e acc => L_M_seenBy_20 N (nI g) (nI 0) (bset (fun c => decide (τ 1 (8 * (1 - 0) + c) = 1) && decide (τ 1 (80 + (8 * (1 - 0) + c)) = 0))) acc (nI e) τ) (fun e acc => if ((decide (τ 1 (8 + e) = 1) && decide (τ 1 (80 + (8 + e)) = 0)) && vis τ g e) = true then acc ||| ((1 : Int32) <<< (nI e &&& 31)) else acc) (fun acc => some (acc, τ)) 8
      (fun N acc => by simp only [L_M_seenBy_20, B_M_seenBy_20]; rw [if_pos (by decide)])
      (fun N e acc he => by
        simp only [L_M_seenBy_20, B_M_seenBy_20, J_M_seenBy_85, J_M_seenBy_84, J_M_seenBy_54, M_has _ (show e < 32 by omega), ob, b2_ite, M_seesOne g e h he, bt_bset _ (show e < 32 by omega)]
        rw [if_neg (show ¬ (8 : Int32) ≤ nI e from nI_ge (b := 8) (by omega) (by omega)), if_pos (show nI 0 = (0 : Int32) from rfl)]
        simp only [nI_1, if_neg (show ¬ (1 : Int32) = 0 by decide), if_pos (show (0 : Int32) = 0 from rfl), decide_eq_true (show e < 8 from he), Bool.true_and, show 8 * (1 - 0) + e = 8 + e from by omega]
        cases (decide (τ 1 (8 + e) = 1) && decide (τ 1 (80 + (8 + e)) = 0)) <;> cases vis τ g e <;> rfl) 8 0 FU 0 (by omega) (by omega) (FU_lt (by omega))
  · rw [if_neg h]
    unfold snE
    have : g / 8 = 1 := by omega
    rw [this]
    have e8 : nI g - 8 = nI (g - 8) := pk_sub (b := 8) (by omega)
    exact loopU (fun N e acc => L_M_seenBy_20 N (nI g) (nI 1) (bset (fun c => decide (τ 1 (8 * (1 - 1) + c) = 1) && decide (τ 1 (80 + (8 * (1 - 1) + c)) = 0))) acc (nI e) τ) (fun e acc => if ((decide (τ 1 e = 1) && decide (τ 1 (80 + e) = 0)) && vis τ e (g - 8)) = true then acc ||| ((1 : Int32) <<< (nI e &&& 31)) else acc) (fun acc => some (acc, τ)) 8
      (fun N acc => by simp only [L_M_seenBy_20, B_M_seenBy_20]; rw [if_pos (by decide)])
      (fun N e acc he => by
        simp only [L_M_seenBy_20, B_M_seenBy_20, J_M_seenBy_85, J_M_seenBy_84, J_M_seenBy_54, M_has _ (show e < 32 by omega), ob, b2_ite, e8, M_seesOne e (g - 8) he (show g - 8 < 8 by omega), bt_bset _ (show e < 32 by omega)]
        rw [if_neg (show ¬ (8 : Int32) ≤ nI e from nI_ge (b := 8) (by omega) (by omega)), if_neg (show ¬ nI 1 = (0 : Int32) by decide)]
        simp only [nI_1, if_neg (show ¬ (1 : Int32) = 0 by decide), if_pos (show (0 : Int32) = 0 from rfl), decide_eq_true (show e < 8 from he), Bool.true_and, show 8 * (1 - 1) + e = e from by omega]
        cases (decide (τ 1 e = 1) && decide (τ 1 (80 + e) = 0)) <;> cases vis τ e (g - 8) <;> rfl) 8 0 FU 0 (by omega) (by omega) (FU_lt (by omega))
/-- the class's sights against what the reference calls seen -/
def SgR (o : Nat) (σ τ : Hp) : Prop := ∀ g, g < 16 → τ 1 g = 1 → σ 22 g &&& bset (fun c => decide (τ 1 (8 * (1 - g / 8) + c) = 1) && decide (τ 1 (80 + (8 * (1 - g / 8) + c)) = 0)) = sn τ g
theorem look_rel {o : Nat} (ho : o + 4 ≠ 22) (ho5 : o + 5 ≠ 22) {σ τ s : Hp} (hw : RWar o 1 σ τ) (hv : RVal σ τ) (h1 : ∀ c, c < 8 → s 22 c = bset (fun e => bothV o σ c e)) (h2 : ∀ e, e < 8 → s 22 (8 + e) = bset (fun c => bothV o σ c e)) : SgR o s τ := by
  intro g hg ht
  have th : ∀ q, q < 16 → (!decide (σ (o + 5) q = 3)) = decide (τ 1 q = 1) := fun q hq => (hw.1 q hq).there
  unfold sn
  by_cases h : g < 8
  · rw [if_pos h, h1 g h, bset_and, show g / 8 = 0 by omega]
    unfold snC
    refine bset_congr (fun e he => ?_)
    rw [bothV, th g hg, th (8 + e) (by omega), vis_eq hw hv h he, ht, show 8 * (1 - 0) + e = 8 + e by omega]
    cases decide (τ 1 (8 + e) = 1) <;> cases vis τ g e <;> cases decide (τ 1 (80 + (8 + e)) = 0) <;> rfl
  · rw [if_neg h]
    have hg8 : 8 + (g - 8) = g := by omega
    have := h2 (g - 8) (by omega)
    rw [hg8] at this
    rw [this, bset_and, show g / 8 = 1 by omega]
    unfold snE
    refine bset_congr (fun c hc => ?_)
    rw [bothV, th c (by omega), hg8, th g hg, vis_eq hw hv hc (show g - 8 < 8 by omega), ht, show 8 * (1 - 1) + c = c by omega]
    cases decide (τ 1 c = 1) <;> cases vis τ c (g - 8) <;> cases decide (τ 1 (80 + c) = 0) <;> rfl
theorem sim_chairIs {σ τ : Hp} (h : Rl σ τ) (a1 a2 a3 : Int32) : ∃ r σ' τ', F_V_chairIs a1 a2 a3 σ = some (r, σ') ∧ F_M_chairIs a1 a2 a3 τ = some (r, τ') ∧ Rl σ' τ' := by
  obtain ⟨r1, r2, -⟩ := id h
  obtain ⟨s, l1, l2, l3, l4⟩ := look_eq (o := 1) (by decide) (by decide) σ
  have hsg := look_rel (o := 1) (by decide) (by decide) r1 r2 l3 l4
  simp only [F_V_chairIs, F_M_chairIs, C_isGent r1, M_isThere, ob, b2_ite, l1]
  by_cases h1 : thr τ a1 a2 = true
  · obtain ⟨i, c, hi, hc, rfl, rfl, ht⟩ := thr_nat h1
    have hg := r1.1 (8 * i + c) (by omega)
    have hrs : Rl s τ := h.sc (S := [22]) (T := []) l2 Ag.rf (by decide) (by simp)
    simp only [if_pos h1, idxC, idxM, idx16, idx32, idx48, idx64, idx80, one_sub hi, C_bits 1 (1 - i) (show 1 - i < 2 by omega), C_eye i hi, M_seenBy (show 8 * i + c < 16 by omega), M_eyeOf (8 * i + c) (show 8 * i + c < 16 by omega), ob]
    simp (disch := omega) only [inb_nI, gd_tt, nI_clamp]
    obtain ⟨g1, g2, g3, g4, g5, -⟩ := hg
    by_cases q0 : a3 = 0
    · simp only [if_pos q0]; exact ⟨_, σ, τ, rfl, by rw [show σ 2 (8 * i + c) = _ from g1], h⟩
    simp only [if_neg q0]
    by_cases q1 : a3 = 1
    · simp only [if_pos q1]; exact ⟨_, σ, τ, rfl, by rw [show σ 3 (8 * i + c) = _ from g2], h⟩
    simp only [if_neg q1]
    by_cases q2 : a3 = 2
    · simp only [if_pos q2]; exact ⟨_, σ, τ, rfl, by rw [show σ 4 (8 * i + c) = _ from g3], h⟩
    simp only [if_neg q2]
    by_cases q3 : a3 = 3
    · simp only [if_pos q3]; exact ⟨_, σ, τ, rfl, by rw [show σ 5 (8 * i + c) = _ from g4], h⟩
    simp only [if_neg q3]
    by_cases q4 : a3 = 4
    · simp only [if_pos q4]
      rcases g5 with ⟨-, g5, -⟩ | ⟨g5, -⟩
      · exact ⟨_, σ, τ, rfl, by rw [show σ 6 (8 * i + c) = _ from g5], h⟩
      · rw [ht] at g5; exact absurd g5 (by decide)
    simp only [if_neg q4]
    by_cases q5 : a3 = 5
    · simp only [if_pos q5]
      refine ⟨_, s, τ, rfl, ?_, hrs⟩
      have := hsg (8 * i + c) (by omega) ht
      rw [show (8 * i + c) / 8 = i by omega] at this
      rw [← this, set_eq hrs.1 (1 - i) (by omega) 0 (by decide)]
    simp only [if_neg q5]
    by_cases q6 : a3 = 6
    · simp only [if_pos q6]
      refine ⟨_, σ, τ, rfl, ?_, h⟩
      unfold eyM
      rw [show (8 * i + c) / 8 = i by omega, (r2.2 i hi).1, show σ 5 (8 * i + c) = _ from g4]
    simp only [if_neg q6]
    exact ⟨_, σ, τ, rfl, rfl, h⟩
  · simp only [if_neg h1]
    exact ⟨-1, σ, τ, rfl, rfl, h⟩
