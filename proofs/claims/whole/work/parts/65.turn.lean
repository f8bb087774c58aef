-- a turn of one gentleman
def fwL (o L : Nat) : List Nat := [o, o + 2, o + 3, o + 5, 26, 27, L, L + 7, L + 8]
/-- what a run of watches may change in the class -/
def FrW (o L : Nat) (σ σ' : Hp) : Prop := Ag (fwL o L) σ σ' ∧ ∀ j, j ≠ 10 → σ' L j = σ L j
theorem FrW.rf {o L : Nat} {σ : Hp} : FrW o L σ σ := ⟨Ag.rf, fun _ _ => rfl⟩
theorem FrW.tr {o L : Nat} {a b c : Hp} (h : FrW o L a b) (g : FrW o L b c) : FrW o L a c := ⟨h.1.tr g.1 _ (fun _ h => h) (fun _ h => h), fun j hj => (g.2 j hj).trans (h.2 j hj)⟩
theorem FrW.zu {o L : Nat} {σ σ' : Hp} (h : FrW o L σ σ') {k i : Nat} {x : Int32} (hk : k ∈ fwL o L) (hL : L ≠ k) : FrW o L σ (zu σ' k i x) := ⟨h.1.zu hk, fun j hj => by rw [zu_ne _ _ _ hL]; exact h.2 j hj⟩
theorem FrW.ofC {o L : Nat} {σ σ' : Hp} (h : FrC L σ σ') : FrW o L σ σ' := ⟨fun k hk => h.1 k (fun e => hk (by simp [fwL, e])) (fun e => hk (by simp [fwL, e])), h.2⟩
/-- what a run of watches may change in the reference -/
def FrM (τ τ' : Hp) : Prop := Ag [0, 1, 18, 19, 26] τ τ' ∧ (∀ j, j < 40 ∨ 45 < j → τ' 0 j = τ 0 j) ∧ ∀ j, j < 16 ∨ 100 ≤ j → τ' 1 j = τ 1 j
theorem FrM.rf {τ : Hp} : FrM τ τ := ⟨Ag.rf, fun _ _ => rfl, fun _ _ => rfl⟩
theorem FrM.tr {a b c : Hp} (h : FrM a b) (g : FrM b c) : FrM a c := ⟨h.1.tr g.1 _ (fun _ h => h) (fun _ h => h), fun j hj => (g.2.1 j hj).trans (h.2.1 j hj), fun j hj => (g.2.2 j hj).trans (h.2.2 j hj)⟩
theorem FrM.of18 {τ τ' : Hp} (h : Ag [18] τ τ') : FrM τ τ' := ⟨h.tr Ag.rf (S := [18]) (T := []) _ (by decide) (by decide), fun j _ => by rw [h 0 (by decide)], fun j _ => by rw [h 1 (by decide)]⟩
theorem FrM.of19 {τ τ' : Hp} (h : Ag [19] τ τ') : FrM τ τ' := ⟨h.tr Ag.rf (S := [19]) (T := []) _ (by decide) (by decide), fun j _ => by rw [h 0 (by decide)], fun j _ => by rw [h 1 (by decide)]⟩
theorem FrM.zu1 {τ τ' : Hp} (h : FrM τ τ') {i : Nat} {x : Int32} (hi : 16 ≤ i ∧ i < 100) : FrM τ (zu τ' 1 i x) := ⟨h.1.zu (by decide), fun j hj => by rw [zu_ne _ _ _ (by decide)]; exact h.2.1 j hj, fun j hj => by rw [zu_self, upd_ne _ _ (by omega)]; exact h.2.2 j hj⟩
theorem FrM.zu0 {τ τ' : Hp} (h : FrM τ τ') {i : Nat} {x : Int32} (hi : 40 ≤ i ∧ i ≤ 45) : FrM τ (zu τ' 0 i x) := ⟨h.1.zu (by decide), fun j hj => by rw [zu_self, upd_ne _ _ (by omega)]; exact h.2.1 j hj, fun j hj => by rw [zu_ne _ _ _ (by decide)]; exact h.2.2 j hj⟩
theorem FrM.zu26 {τ τ' : Hp} (h : FrM τ τ') {i : Nat} {x : Int32} : FrM τ (zu τ' 26 i x) := ⟨h.1.zu (by decide), fun j hj => by rw [zu_ne _ _ _ (by decide)]; exact h.2.1 j hj, fun j hj => by rw [zu_ne _ _ _ (by decide)]; exact h.2.2 j hj⟩
/-- what came of the watches, in both -/
def RunR (o : Nat) (σ τ : Hp) : Prop := σ 26 2 = τ 0 40 ∧ σ 26 3 = τ 0 41 ∧ σ 26 4 = τ 0 42 ∧ ((σ 26 5 = -1 ∧ τ 0 43 = -1) ∨ ∃ g m : Nat, g < 16 ∧ 1 ≤ m ∧ m ≤ 120 ∧ σ 26 5 = nI g ∧ τ 0 43 = nI g ∧ σ 27 g = nI m ∧ τ 0 44 = nI m ∧ σ (o + 5) g = 2) ∧ ∀ g, g < 16 → ((σ 27 g = 0 ∧ τ 26 g = -2) ∨ ∃ m : Nat, 1 ≤ m ∧ m ≤ 120 ∧ σ 27 g = nI m ∧ τ 26 g = nI m)
theorem RunR.congr {o : Nat} {σ σ' τ τ' : Hp} (h : RunR o σ τ) (e1 : σ' 26 2 = τ' 0 40) (e2 : σ' 26 3 = τ' 0 41) (e3 : σ' 26 4 = τ' 0 42) (h5 : σ' 26 5 = σ 26 5) (h27 : σ' 27 = σ 27) (ho : ∀ i, σ (o + 5) i = 2 → σ' (o + 5) i = 2) (t43 : τ' 0 43 = τ 0 43) (t44 : τ' 0 44 = τ 0 44) (t26 : τ' 26 = τ 26) : RunR o σ' τ' := by
  obtain ⟨-, -, -, q4, q5⟩ := h
  refine ⟨e1, e2, e3, ?_, ?_⟩
  · rw [h5, h27, t43, t44]
    rcases q4 with q4 | ⟨g, m, a1, a2, a3, a4, a5, a6, a7, a8⟩
    · exact Or.inl q4
    · exact Or.inr ⟨g, m, a1, a2, a3, a4, a5, a6, a7, ho g a8⟩
  · rw [h27, t26]; exact q5
/-- the midst of a run of watches -/
def Wt (o L : Nat) (σ0 τ0 σ τ : Hp) : Prop := FrW o L σ0 σ ∧ FrM τ0 τ ∧ RWar o 1 σ τ ∧ RunR o σ τ
def Cxt (o L : Nat) (σ0 τ0 : Hp) : Prop := (o = 1 ∨ o = 13) ∧ (L = 42 ∨ L = 51) ∧ RVal σ0 τ0 ∧ RLaw1 L σ0 τ0 ∧ SgI o σ0 ∧ RWar o 1 σ0 τ0
theorem RWar.pt {o : Nat} {σ σ' τ τ' : Hp} (h : RWar o 1 σ τ) (g : Nat) (hs : ∀ j, 1 ≤ j → j ≤ 5 → ∀ i, i < 16 → i ≠ g → σ' (o + j) i = σ (o + j) i) (ht : ∀ j, j < 96 → j % 16 ≠ g → τ' 1 j = τ 1 j) (hG : RG o 1 σ' τ' g) (hT : RT o 1 σ' τ') : RWar o 1 σ' τ' := by
  refine ⟨fun i hi => ?_, hT⟩
  by_cases q : i = g
  · subst q; exact hG
  · have := h.1 i hi
    unfold RG at *
    rw [hs 1 (by omega) (by omega) i hi q, hs 2 (by omega) (by omega) i hi q, hs 3 (by omega) (by omega) i hi q, hs 4 (by omega) (by omega) i hi q, hs 5 (by omega) (by omega) i hi q, ht i (by omega) (by omega), ht (16 + i) (by omega) (by omega), ht (32 + i) (by omega) (by omega), ht (48 + i) (by omega) (by omega), ht (64 + i) (by omega) (by omega), ht (80 + i) (by omega) (by omega)]
    exact this
theorem SgI.fr {o : Nat} {σ σ' τ τ' : Hp} (h : SgI o σ) (hw : RWar o 1 σ τ) (hw' : RWar o 1 σ' τ') (h22 : σ' 22 = σ 22) (h20 : σ' 20 = σ 20) (h21 : σ' 21 = σ 21) (h4 : σ' (o + 4) = σ (o + 4)) (ht : ∀ j, j < 16 → τ' 1 j = τ 1 j) : SgI o σ' := by
  have key : ∀ c e, c < 8 → e < 8 → bothV o σ' c e = bothV o σ c e := fun c e hc he => by
    unfold bothV visC
    rw [(hw'.1 c (by omega)).there, (hw'.1 (8 + e) (by omega)).there, (hw.1 c (by omega)).there, (hw.1 (8 + e) (by omega)).there, ht c (by omega), ht (8 + e) (by omega), h20, h21, h4]
  refine ⟨fun c hc => ?_, fun e he => ?_⟩
  · rw [h22, h.1 c hc]; exact bset_congr (fun e he => (key c e hc he).symm)
  · rw [h22, h.2 e he]; exact bset_congr (fun c hc => (key c e hc he).symm)
theorem fw_no {o L k : Nat} (h : k ≠ o ∧ k ≠ o + 2 ∧ k ≠ o + 3 ∧ k ≠ o + 5 ∧ k ≠ 26 ∧ k ≠ 27 ∧ k ≠ L ∧ k ≠ L + 7 ∧ k ≠ L + 8) : k ∉ fwL o L := by
  simp only [fwL, List.mem_cons, List.not_mem_nil, or_false]
  omega
theorem fw_yes {o L k : Nat} (h : k = o ∨ k = o + 2 ∨ k = o + 3 ∨ k = o + 5 ∨ k = 26 ∨ k = 27 ∨ k = L ∨ k = L + 7 ∨ k = L + 8) : k ∈ fwL o L := by
  simp only [fwL, List.mem_cons, List.not_mem_nil, or_false]
  exact h
section
variable {o L : Nat} {σ0 τ0 σ τ : Hp}
theorem Wt.val (c : Cxt o L σ0 τ0) (w : Wt o L σ0 τ0 σ τ) : RVal σ τ := by
  obtain ⟨ho, hL, hv, -⟩ := c
  exact hv.congr (w.1.1 20 (fw_no (by omega))) (w.1.1 21 (fw_no (by omega))) (w.2.1.1 5 (by decide)) (w.2.1.1 4 (by decide))
theorem Wt.law (c : Cxt o L σ0 τ0) (w : Wt o L σ0 τ0 σ τ) : RLaw1 L σ τ := by
  obtain ⟨ho, hL, -, hl, -⟩ := c
  exact hl.congr (w.1.2 8 (by decide)) (fun j h1 h2 => w.1.1 _ (fw_no (by omega))) (w.2.1.2.1 15 (by omega)) (fun j h1 h2 => w.2.1.1 j (by simp; omega))
theorem Wt.sg (c : Cxt o L σ0 τ0) (w : Wt o L σ0 τ0 σ τ) : SgI o σ := by
  obtain ⟨ho, hL, -, -, hs, hw⟩ := c
  exact hs.fr hw w.2.2.1 (w.1.1 22 (fw_no (by omega))) (w.1.1 20 (fw_no (by omega))) (w.1.1 21 (fw_no (by omega))) (w.1.1 (o + 4) (fw_no (by omega))) (fun j hj => w.2.1.2.2 j (Or.inl hj))
theorem Wt.lv (c : Cxt o L σ0 τ0) (w : Wt o L σ0 τ0 σ τ) {g : Nat} (hg : g < 16) (ht : τ 1 g = 1) (i : Nat) (hi : i < 11) : lvC o σ g i = lvM τ g i := by
  have ho := c.1
  exact lv_eq (by omega) w.2.2.1 (w.val c) (w.sg c) hg ht i hi
theorem drink_C (ho : o = 1 ∨ o = 13) (hL : L = 42 ∨ L = 51) {g : Nat} (hg : g < 16) {τ1 : Hp} (hl : RLaw1 L σ τ1) (hv : ∀ i, i < 11 → lvC o σ g i = τ1 19 i) {x y : Nat} (hx : x ≤ 99) (ex : σ (o + 2) g = nI x) (hy : y ≤ 1000) (ey : σ (o + 3) g = nI y) :
    ∃ (b t : Nat) (σ' τ2 τ3 : Hp), b ≤ 99 ∧ t ≤ 99 ∧ F_M_byLaw 98 99 τ1 = some (nI b, τ2) ∧ F_M_byLaw 116 99 τ2 = some (nI t, τ3) ∧ Ag [18] τ1 τ3 ∧ F_X2_drinkAndYawn o L (nI g) σ = some σ' ∧ σ' (o + 2) = upd (σ (o + 2)) g (nI (min 99 (x + b))) ∧ σ' (o + 3) = upd (σ (o + 3)) g (nI (y - t)) ∧ σ' 26 = upd (σ 26) 4 (σ 26 4 + nI (min y t)) ∧ (∀ k, k ∉ [o + 2, o + 3, 26, L, L + 7, L + 8] → σ' k = σ k) ∧ ∀ j, j ≠ 10 → σ' L j = σ L j := by
  obtain ⟨s1, a1, a2, a3⟩ := C_look (o := o) (L := L) (by omega) hL hg σ
  have l1 : RLaw1 L s1 τ1 := hl.congr (by rw [a2 L (by simp)]) (fun j h1 h2 => a2 _ (by simp; omega)) rfl (fun _ _ _ => rfl)
  obtain ⟨b, s2, τ2, hb, p1, p2, p3, p4⟩ := amt_eq l1 (fun i hi => by rw [a3 i hi]; exact hv i hi) (ch := 98) (by decide) (B := 99) (by omega)
  have l2 : RLaw1 L s2 τ2 := l1.fr p3 p4
  obtain ⟨t, s3, τ3, ht, r1, r2, r3, r4⟩ := amt_eq l2 (fun i hi => by rw [p3.1 _ (by omega) (by omega), p4 19 (by decide), a3 i hi]; exact hv i hi) (ch := 116) (by decide) (B := 99) (by omega)
  rw [← nl99] at p1 p2 r1 r2
  have f1 : ∀ k, k ≠ L + 7 → s1 k = σ k := fun k hk => a2 k (by simpa using hk)
  have f2 : ∀ k, k ≠ L → k ≠ L + 7 → k ≠ L + 8 → s2 k = σ k := fun k h1 h2 h3 => (p3.1 k h1 h3).trans (f1 k h2)
  have f3 : ∀ k, k ≠ L → k ≠ L + 7 → k ≠ L + 8 → s3 k = σ k := fun k h1 h2 h3 => (r3.1 k h1 h3).trans (f2 k h1 h2 h3)
  have e1 : s3 (o + 2) g = nI x := by rw [f3 _ (by omega) (by omega) (by omega)]; exact ex
  have e2 : s2 (o + 3) g = nI y := by rw [f2 _ (by omega) (by omega) (by omega)]; exact ey
  have e3 : s3 (o + 3) g = nI y := by rw [f3 _ (by omega) (by omega) (by omega)]; exact ey
  have e4 : s3 26 4 = σ 26 4 := by rw [f3 _ (by omega) (by omega) (by omega)]
  have q1 : jmin 99 (nI x + nI b) = nI (min 99 (x + b)) := by rw [nI_add, nl99, jmin_nI (by omega) (by omega)]
  have q2 : jmin (nI y) (nI t) = nI (min y t) := jmin_nI (by omega) (by omega)
  have q3 : nI y - nI (min y t) = nI (y - t) := by
    rw [pk_sub (by omega)]; congr 1; omega
  refine ⟨b, t, zu (zu (zu s3 (o + 2) g (nI (min 99 (x + b)))) (o + 3) g (nI (y - t))) 26 4 (σ 26 4 + nI (min y t)), τ2, τ3, hb, ht, p2, r2, p4.tr r4 _ (fun _ h => h) (fun _ h => h), ?_, ?_, ?_, ?_, fun k hk => ?_, fun j hj => ?_⟩
  · unfold F_X2_drinkAndYawn
    simp (disch := omega) only [a1, ob, p1, r1, inb_nI, gd_tt, nI_clamp, zu_ne, e1, e2, e3, e4, q1, q2, q3]
  · rw [zu_ne _ _ _ (by omega), zu_ne _ _ _ (by omega), zu_self, f3 _ (by omega) (by omega) (by omega)]
  · rw [zu_ne _ _ _ (by omega), zu_self, zu_ne _ _ _ (by omega), f3 _ (by omega) (by omega) (by omega)]
  · rw [zu_self, zu_ne _ _ _ (by omega), zu_ne _ _ _ (by omega), f3 _ (by omega) (by omega) (by omega)]
  · simp only [List.mem_cons, List.not_mem_nil, or_false, not_or] at hk
    rw [zu_ne _ _ _ (by omega), zu_ne _ _ _ (by omega), zu_ne _ _ _ (by omega), f3 _ (by omega) (by omega) (by omega)]
  · rw [zu_ne _ _ _ (by omega), zu_ne _ _ _ (by omega), zu_ne _ _ _ (by omega), r3.2 j hj, p3.2 j hj, f1 L (by omega)]
/-- the second half of a turn in the reference -/
def tlM (a1 : Int32) (σ : Hp) : Option Hp := (F_M_feels a1 σ).bind fun q99 => gd (inb ((32 : Int32) + a1) 100) (if (q99 1 (Int32.toNatClampNeg ((32 : Int32) + a1))) = (99 : Int32) then (J_M_turnOf_137   a1 q99) else (gd (inb ((48 : Int32) + a1) 100) (if (q99 1 (Int32.toNatClampNeg ((48 : Int32) + a1))) = 0 then (J_M_turnOf_137   a1 q99) else ((F_M_holdsAny (120 : Int32) q99).bind fun q131 => if q131.1 = 0 then ((F_M_byLaw (119 : Int32) (10 : Int32) q131.2).bind fun q148 => (F_M_draws  q148.2).bind fun q154 => gd (inb (99 : Int32) 100) (if (jrem (q154 1 (Int32.toNatClampNeg (99 : Int32))) (10 : Int32)) < q148.1 then (gd (inb ((80 : Int32) + a1) 100) (some (zu (zu q154 1 (Int32.toNatClampNeg ((80 : Int32) + a1)) (1 : Int32)) 0 41 (((zu q154 1 (Int32.toNatClampNeg ((80 : Int32) + a1)) (1 : Int32)) 0 41) + (1 : Int32))))) else (some q154))) else (J_M_turnOf_137   a1 q131.2)))))
theorem max0 {y t : Nat} (hy : y ≤ 1000) (ht : t ≤ 1000) (τ : Hp) : F_M_max 0 (nI y - nI t) τ = some (nI (y - t), τ) := by
  unfold F_M_max
  by_cases h : t ≤ y
  · rw [pk_sub h, if_pos (nI_pos' (by omega))]
  · rw [if_neg (Int32.not_le.mpr (pk_sneg (by omega) (by omega))), show y - t = 0 by omega]; rfl
/-- what a turn leaves of the reference's watch, day and who lost -/
def Kp (τ τ' : Hp) : Prop := τ' 0 45 = τ 0 45 ∧ τ' 1 96 = τ 1 96 ∧ τ' 1 97 = τ 1 97 ∧ τ' 1 98 = τ 1 98
theorem drink_eq (c : Cxt o L σ0 τ0) (w : Wt o L σ0 τ0 σ τ) {g : Nat} (hg : g < 16) (ht : τ 1 g = 1) : ∃ σ' τ', F_X2_drinkAndYawn o L (nI g) σ = some σ' ∧ F_M_turnOf (nI g) τ = tlM (nI g) τ' ∧ Wt o L σ0 τ0 σ' τ' ∧ Kp τ τ' ∧ τ' 1 (80 + g) = τ 1 (80 + g) := by
  have ho := c.1
  have hL := c.2.1
  obtain ⟨t1, a1, a2, a3⟩ := M_feels hg τ
  have hlv := w.lv c hg ht
  have hl := w.law c
  obtain ⟨w1, w2, w3, w4⟩ := w
  have hG := w3.1 g hg
  obtain ⟨g1, g2, g3, g4, g5, g6, ⟨x, hx, ex⟩, ⟨y, hy, ey⟩, g9⟩ := id hG
  obtain ⟨b, t, σ', τ2, τ3, hb, htt, p1, p2, p3, p4, p5, p6, p7, p8, p9⟩ := drink_C ho hL hg (τ1 := t1) (hl.congr rfl (fun _ _ _ => rfl) (by rw [a2 0 (by decide)]) (fun j h1 h2 => a2 j (by simp; omega))) (fun i hi => by rw [a3 i hi]; exact hlv i hi) hx (g2.trans ex) (show y ≤ 1000 by omega) (g3.trans ey)
  have k1 : τ3 1 = τ 1 := (p3 1 (by decide)).trans (a2 1 (by decide))
  have k0 : τ3 0 = τ 0 := (p3 0 (by decide)).trans (a2 0 (by decide))
  have q1 : ∀ t, F_M_min 99 (nI x + nI b) t = some (nI (min 99 (x + b)), t) := fun t => by rw [nI_add, nl99, M_min (by omega) (by omega)]
  have q3 : τ 0 42 + nI y - nI (y - t) = τ 0 42 + nI (min y t) := by
    rw [show nI y = nI (min y t) + nI (y - t) by rw [nI_add]; congr 1; omega, ← Int32.add_assoc, Int32.add_sub_cancel]
  have u1 : τ3 1 (32 + g) = nI x := by rw [k1]; exact ex
  have u2 : τ3 1 (48 + g) = nI y := by rw [k1]; exact ey
  have u3 : τ3 0 42 = τ 0 42 := by rw [k0]
  refine ⟨σ', zu (zu (zu τ3 1 (32 + g) (nI (min 99 (x + b)))) 1 (48 + g) (nI (y - t))) 0 42 (τ 0 42 + nI (min y t)), p4, ?_, ⟨?_, ?_, ?_, ?_⟩, ⟨?_, ?_, ?_, ?_⟩, ?_⟩
  · unfold F_M_turnOf tlM
    simp (disch := omega) only [a1, ob, p1, p2, idx32, idx48, inb_nI, gd_tt, nI_clamp, u1, u2, q1, max0, zu_self, zu_ne, upd_s, u3, q3]
  · refine w1.tr ⟨fun k hk => p8 k (fun h => hk ?_), p9⟩
    simp only [fwL, List.mem_cons, List.not_mem_nil, or_false] at h ⊢
    omega
  · exact ((((w2.tr (FrM.of19 a2)).tr (FrM.of18 p3)).zu1 (by omega)).zu1 (by omega)).zu0 (by omega)
  · refine w3.pt g (fun j h1 h2 i hi hne => ?_) (fun j h1 h2 => ?_) ?_ ?_
    · by_cases j2 : j = 2
      · subst j2; rw [p5, upd_ne _ _ hne]
      · by_cases j3 : j = 3
        · subst j3; rw [p6, upd_ne _ _ hne]
        · rw [p8 _ (by simp; omega)]
    · rw [zu_ne _ _ _ (by decide), zu_self, upd_ne _ _ (by omega), zu_self, upd_ne _ _ (by omega), k1]
    · unfold RG at *
      rw [p5, p6, upd_s, upd_s, p8 (o + 1) (by simp; omega), p8 (o + 4) (by simp; omega), p8 (o + 5) (by simp; omega)]
      simp (disch := omega) only [zu_ne, zu_self, upd_s, upd_ne, k1]
      exact ⟨g1, trivial, trivial, g4, g5, g6, ⟨_, by omega, rfl⟩, ⟨_, by omega, rfl⟩, g9⟩
    · have := w3.2
      unfold RT at *
      rw [p8 o (by simp; omega)]
      simp (disch := omega) only [zu_ne, zu_self, upd_ne, k1]
      exact this
  · obtain ⟨r1, r2, r3, -⟩ := id w4
    have n26 : ∀ i, i ≠ 4 → σ' 26 i = σ 26 i := fun i hi => by rw [p7, upd_ne _ _ hi]
    refine w4.congr ?_ ?_ ?_ (n26 5 (by decide)) (p8 27 (by simp; omega)) (fun i hi => by rw [p8 (o + 5) (by simp; omega)]; exact hi) ?_ ?_ ?_
    · rw [n26 2 (by decide), zu_self, upd_ne _ _ (by decide), zu_ne _ _ _ (by decide), zu_ne _ _ _ (by decide), k0]; exact r1
    · rw [n26 3 (by decide), zu_self, upd_ne _ _ (by decide), zu_ne _ _ _ (by decide), zu_ne _ _ _ (by decide), k0]; exact r2
    · rw [p7, upd_s, zu_self, upd_s, r3]
    · rw [zu_self, upd_ne _ _ (by decide), zu_ne _ _ _ (by decide), zu_ne _ _ _ (by decide), k0]
    · rw [zu_self, upd_ne _ _ (by decide), zu_ne _ _ _ (by decide), zu_ne _ _ _ (by decide), k0]
    · rw [zu_ne _ _ _ (by decide), zu_ne _ _ _ (by decide), zu_ne _ _ _ (by decide)]; exact (p3 26 (by decide)).trans (a2 26 (by decide))
  · rw [zu_self, upd_ne _ _ (by decide), zu_ne _ _ _ (by decide), zu_ne _ _ _ (by decide), k0]
  · rw [zu_ne _ _ _ (by decide), zu_self, upd_ne _ _ (by omega), zu_self, upd_ne _ _ (by omega), k1]
  · rw [zu_ne _ _ _ (by decide), zu_self, upd_ne _ _ (by omega), zu_self, upd_ne _ _ (by omega), k1]
  · rw [zu_ne _ _ _ (by decide), zu_self, upd_ne _ _ (by omega), zu_self, upd_ne _ _ (by omega), k1]
  · rw [zu_ne _ _ _ (by decide), zu_self, upd_ne _ _ (by omega), zu_self, upd_ne _ _ (by omega), k1]
end
