-- the law as a text: conditions
def csP (N : Nat) (τ : Hp) : Option (Int32 × Hp) := L_M_readsCondition_40 J_M_readsCondition_170 N τ
def clP (M N : Nat) (τ : Hp) : Option (Int32 × Hp) := L_M_readsCondition_92 (J_M_readsCondition_152 (fun σ => L_M_readsCondition_40 J_M_readsCondition_170 N σ) J_M_readsCondition_170) M τ
def Vn (L n : Nat) (w : Nat → Int32) (a p z o m : Nat) (S : Nat → Nat × Nat) (k : Nat) (σ τ : Hp) : Prop :=
  ((L = 42 ∨ L = 51) ∧ σ 60 1 = nI L ∧ TxC w n σ ∧ σ 23 3 = nI p ∧ σ L 9 = nI z) ∧
  (TxM w n τ ∧ τ 0 7 = nI p ∧ τ 0 12 = nI (z + k) ∧ τ 0 11 = nI o ∧ τ 0 13 = nI m) ∧
  (∀ i, i < m → τ 8 i = nI (en (S i)) ∧ (S i).1 ≤ 14 ∧ (S i).2 < 1048576) ∧
  (z + k ≤ p ∧ m ≤ p ∧ p ≤ n ∧ o ≤ 6) ∧ Cr L a z σ τ ∧ ∀ i, i < k → τ 7 (z + i) = 1048576 * 10 + 0
theorem Vn.vj {L n a p z o m : Nat} {w : Nat → Int32} {S : Nat → Nat × Nat} {σ τ : Hp} (h : Vn L n w a p z o m S 0 σ τ) : Vj L n w a p z o m S [] σ τ := Vj.of ⟨h.1, h.2.1, ⟨h.2.2.1, trivial, trivial, by simp, by simp⟩, h.2.2.2.1⟩ h.2.2.2.2.1
theorem Vn.not {L n a p z o m k : Nat} {w : Nat → Int32} {S : Nat → Nat × Nat} {σ τ : Hp} (h : Vn L n w a p z o m S (k + 1) σ τ) : Vn L n w a p (z + 1) o m S k (zu (zu (zu σ (L + 1) z 33) (L + 2) z 0) L 9 (nI (z + 1))) τ := by
  obtain ⟨⟨hL, e60, tC, e23, e9⟩, ⟨tM, e7, e12, e11, e13⟩, hS, ⟨hz, hmp, hpn, ho⟩, hcr, hk⟩ := h
  refine ⟨⟨hL, ?_, ⟨tC.1, ?_, fun i hi => ?_⟩, ?_, ?_⟩, ⟨tM, e7, by rw [e12]; congr 1; omega, e11, e13⟩, hS, ⟨by omega, hmp, hpn, ho⟩, ?_, fun i hi => ?_⟩
  · simp (disch := omega) only [zu_ne]; exact e60
  · simp (disch := omega) only [zu_ne]; exact tC.2.1
  · simp (disch := omega) only [zu_ne]; exact tC.2.2 i hi
  · simp (disch := omega) only [zu_ne]; exact e23
  · rw [zu_self, upd_s]
  · intro x h1 h2
    by_cases q : x = z
    · rw [q]
      simp (disch := omega) only [zu_ne, zu_self, upd_s]
      have := hk 0 (by omega)
      rw [Nat.add_zero] at this
      rw [this]
      exact ⟨0, by omega, rfl, rfl, Or.inr (Or.inr (Or.inl ⟨by simp, rfl⟩))⟩
    · simp (disch := omega) only [zu_ne, zu_self, upd_ne]
      exact hcr x h1 (by omega)
  · have := hk (i + 1) (by omega)
    rw [show z + 1 + i = z + (i + 1) by omega]; exact this
theorem zu_sw3 (X : Hp) (z : Nat) (c b d : Int32) : zu (zu (zu X 7 z c) 0 12 b) 0 7 d = zu (zu (zu X 0 7 d) 7 z c) 0 12 b := by
  funext k i
  simp only [zu_ap, upd_ap]
  by_cases k0 : k = 0
  · simp only [k0, if_true, upd_ap]
    by_cases i7 : i = 7
    · simp [i7, upd_ap]
    · by_cases i12 : i = 12
      · simp [i12, upd_ap]
      · simp [i7, i12, upd_ap]
  · simp [k0]
section
variable {L n : Nat} {w : Nat → Int32}
/-- a jump's target is known: the class writes it -/
theorem Vj.jump {a p z1 z4 o m x : Nat} {S : Nat → Nat × Nat} {J : List (Nat × Nat)} {s4 t4 : Hp} (h : Vj L n w (z1 + 1) p z4 o (m + 1) (psh S m (x, z1)) J s4 t4) (hJ : J.length ≤ 1) (hx : x = 11 ∨ x = 12) (ha : a ≤ z1) (hz : z1 < z4) (hcr : Cr L a z1 s4 t4) (h1 : s4 (L + 1) z1 = jc x) (h7 : t4 7 z1 = nI (en (x, 0))) : Vj L n w a p z4 o m S (J ++ [(x, z1)]) (zu s4 (L + 2) z1 (nI z4)) t4 := by
  obtain ⟨⟨hL, e60, tC, e23, e9⟩, ⟨tM, e7, e12, e11, e13⟩, ⟨hS, hs, hjo, hJ2, hpw⟩, ⟨hzp, hmp, hpn, ho⟩, hc⟩ := h
  have hl : (J ++ [(x, z1)]).length = J.length + 1 := by simp
  have hm := hS m (by omega)
  rw [psh_s] at hm
  refine ⟨⟨hL, ?_, ⟨tC.1, ?_, fun i hi => ?_⟩, ?_, ?_⟩, ⟨tM, e7, e12, e11, by rw [e13, hl]; congr 1; omega⟩, ⟨fun i hi => ?_, ?_, fun y hy => ?_, by rw [hl]; omega, ?_⟩, ⟨hzp, by omega, hpn, ho⟩, fun k k1 k2 k3 => ?_⟩
  · rw [zu_ne _ _ _ (by omega)]; exact e60
  · rw [zu_ne _ _ _ (by omega)]; exact tC.2.1
  · rw [zu_ne _ _ _ (by omega)]; exact tC.2.2 i hi
  · rw [zu_ne _ _ _ (by omega)]; exact e23
  · rw [zu_ne _ _ _ (by omega)]; exact e9
  · have := hS i (by omega)
    rw [psh_ne (by omega)] at this
    exact this
  · match J, hJ, hs with
    | [], _, _ => exact ⟨hm.1, trivial⟩
    | [y], _, hs => exact ⟨hs.1, hm.1, trivial⟩
  · rcases List.mem_append.mp hy with hy | hy
    · obtain ⟨y1, y2, y3, y4, y5, y6⟩ := hjo y hy
      refine ⟨y1, by omega, y3, ?_, ?_, y6⟩
      · rw [zu_ne _ _ _ (by omega)]; exact y4
      · rw [zu_self, upd_ne _ _ (by omega)]; exact y5
    · rw [List.mem_singleton.mp hy]
      refine ⟨hx, ha, hz, ?_, ?_, h7⟩
      · rw [zu_ne _ _ _ (by omega)]; exact h1
      · rw [zu_self]; exact upd_s _ _ _
  · rw [List.pairwise_append]
    refine ⟨hpw, List.pairwise_singleton _ _, fun y hy q hq => ?_⟩
    rw [List.mem_singleton.mp hq]
    have := (hjo y hy).2.1
    show y.2 ≠ z1
    omega
  · have kz : z1 ≠ k := k3 (x, z1) (by simp)
    rw [zu_ne _ _ _ (by omega), zu_self, upd_ne _ _ (by omega)]
    by_cases q : k < z1
    · exact hcr k k1 q
    · exact hc k (by omega) k2 (fun y hy => k3 y (by simp [hy]))
theorem C_jump {z1 z4 : Nat} {s4 : Hp} (e9 : s4 L 9 = nI z4) (hz : z1 < 240) : F_X4_jumpHere L (nI z1) s4 = some (zu s4 (L + 2) z1 (nI z4)) := by
  unfold F_X4_jumpHere
  rw [if_neg (nI_pos (by omega)), if_neg (show ¬ (240 : Int32) ≤ nI z1 from nI_ge (b := 240) hz (by omega)), gd_true (inbT hz (by omega)), nI_clamp (by omega), e9]
theorem Fm.jump {z1 : Nat} {s4 t4 : Hp} {y : Int32} : Fm L z1 s4 t4 (zu s4 (L + 2) z1 y) t4 := by
  refine ⟨⟨Ag.rf.zu (by simp), fun j hj => by rw [zu_ne _ _ _ (by omega)]⟩, LwF.rf, fun k hk => ⟨by rw [zu_ne _ _ _ (by omega)], by rw [zu_self, upd_ne _ _ (by omega)], rfl⟩⟩
/-- at & and | -/
theorem cl_jump {a p z o m M N x : Nat} {S : Nat → Nat × Nat} {J : List (Nat × Nat)} {σ τ : Hp} (hn : n ≤ 240) (hV : Vj L n w a p z o m S J σ τ) {b : Bool} (hb : (b = false ∧ wa w n p = 38 ∧ x = 11) ∨ (b = true ∧ wa w n p = 124 ∧ x = 12)) (hNL : NL b m S) (hJ : ∀ y ∈ J, lnd b y.1) : ∃ τ2, Vj L n w a p z o m S [] σ τ2 ∧ Fm L a σ τ σ τ2 ∧ clP (M + 1) N τ = csP N (zu (zu (zu (zu (zu τ2 8 m (nI (en (x, z)))) 0 13 (nI (m + 1))) 7 z (1048576 * nI x + 0)) 0 12 (nI (z + 1))) 0 7 (nI (p + 1))) := by
  obtain ⟨-, ⟨tM, e7, -⟩, ⟨-, -, -, hJ2, -⟩, ⟨hz, hmp, hpn, -⟩, -⟩ := id hV
  obtain ⟨τ2, g1, g2, g3⟩ := lands_eq hn hNL J FU τ hV hJ (FU_lt (by omega))
  obtain ⟨-, ⟨tM2, e72, e122, -, e132⟩, -⟩ := id g2
  have e132 : τ2 0 13 = nI m := e132
  refine ⟨τ2, g2, g3, ?_⟩
  have mh := M_here tM e7 hpn
  have mh2 := M_here tM2 e72 hpn
  show B_M_readsCondition_92 _ _ τ = _
  unfold B_M_readsCondition_92
  rw [mh, ob]
  dsimp only
  have n41 : ¬ wa w n p = 41 := by rcases hb with ⟨_, h, _⟩ | ⟨_, h, _⟩ <;> rw [h] <;> decide
  rw [if_neg n41]
  have hl : ∀ k40, J_M_readsCondition_195 k40 (b2 b) τ = J_M_readsCondition_215 k40 (nI x) τ2 := by
    intro k40
    unfold J_M_readsCondition_195 F_M_lands
    rw [g1, ob, mh2, ob]
    dsimp only
    rcases hb with ⟨_, h, rfl⟩ | ⟨_, h, rfl⟩
    · rw [if_pos h]; rfl
    · rw [if_neg (by rw [h]; decide)]; rfl
  have h180 : ∀ k40, J_M_readsCondition_180 k40 τ = J_M_readsCondition_215 k40 (nI x) τ2 := by
    intro k40
    rw [← hl k40]
    unfold J_M_readsCondition_180
    rw [mh, ob]
    dsimp only
    rcases hb with ⟨rfl, h, _⟩ | ⟨rfl, h, _⟩
    · rw [if_neg (by rw [h]; decide)]; rfl
    · rw [if_pos h]; rfl
  unfold J_M_readsCondition_152
  rw [mh, ob]
  dsimp only
  have : (if wa w n p = 38 then J_M_readsCondition_180 (fun σ => L_M_readsCondition_40 J_M_readsCondition_170 N σ) τ else (F_M_here τ).bind fun q162 => if q162.1 = 124 then J_M_readsCondition_180 (fun σ => L_M_readsCondition_40 J_M_readsCondition_170 N σ) q162.2 else J_M_readsCondition_170 q162.2) = J_M_readsCondition_215 (fun σ => L_M_readsCondition_40 J_M_readsCondition_170 N σ) (nI x) τ2 := by
    rcases hb with ⟨_, h, _⟩ | ⟨_, h, _⟩
    · rw [if_pos h]; exact h180 _
    · rw [if_neg (by rw [h]; decide), mh, ob]
      dsimp only
      rw [if_pos h]; exact h180 _
  rw [this]
  unfold J_M_readsCondition_215
  rw [M_jumps (x := x) e132 (by omega) e122 (by omega) e72 (nI x) rfl, ob]
  rfl
/-- behind a piece, at a sign that doesn't belong there -/
theorem cl_bad {a p z o m M N : Nat} {S : Nat → Nat × Nat} {J : List (Nat × Nat)} {σ τ : Hp} (hV : Vj L n w a p z o m S J σ τ) (h1 : ¬ wa w n p = 41) (h2 : ¬ wa w n p = 38) (h3 : ¬ wa w n p = 124) : clP (M + 1) N τ = some (0, zu τ 0 9 (-1000 * 1 - nI p)) := by
  obtain ⟨-, ⟨tM, e7, -⟩, -, ⟨hz, hmp, hpn, -⟩, -⟩ := id hV
  have mh := M_here tM e7 hpn
  show B_M_readsCondition_92 _ _ τ = _
  unfold B_M_readsCondition_92 J_M_readsCondition_152 J_M_readsCondition_170
  rw [mh, ob]
  dsimp only
  rw [if_neg h1, mh, ob]
  dsimp only
  rw [if_neg h2, mh, ob]
  dsimp only
  rw [if_neg h3, M_wrA, ob, e7]
  dsimp only
  rw [gdz]
/-- at a closing bracket -/
theorem cl_close {a p z o m M N : Nat} {S : Nat → Nat × Nat} {J : List (Nat × Nat)} {σ τ : Hp} (hn : n ≤ 240) (hV : Vj L n w a p z (o + 1) (m + 1) S J σ τ) (h41 : wa w n p = 41) (hNL : NL true (m + 1) S) (hJ : ∀ y ∈ J, lnd true y.1) : ∃ τ3, Vj L n w a (p + 1) z o m S [] (zu σ 23 3 (nI (p + 1))) τ3 ∧ Fm L a σ τ (zu σ 23 3 (nI (p + 1))) τ3 ∧ clP (M + 1) N τ = if m = 0 then some (1, τ3) else (F_M_endsPiece τ3).bind fun q => clP M N q := by
  obtain ⟨⟨hL, -⟩, ⟨tM, e7, -⟩, ⟨-, -, -, hJ2, -⟩, ⟨hz, hmp, hpn, ho⟩, -⟩ := id hV
  have hlt : p < n := wa_lt (w := w) (by rw [h41]; decide)
  obtain ⟨τ2, g1, g2, g3⟩ := lands_eq hn hNL J FU τ hV hJ (FU_lt (by omega))
  obtain ⟨-, ⟨tM2, e72, e122, e112, e132⟩, -⟩ := id g2
  have e132 : τ2 0 13 = nI (m + 1) := e132
  obtain ⟨τ3, hτ3⟩ : ∃ τ3, τ3 = zu (zu (zu τ2 0 13 (nI m)) 0 11 (nI o)) 0 7 (nI (p + 1)) := ⟨_, rfl⟩
  have t37 : τ3 7 = τ2 7 := by rw [hτ3]; simp (disch := omega) only [zu_ne]
  have V3 : Vw L n w (p + 1) z o m S [] (zu σ 23 3 (nI (p + 1))) τ3 := by
    refine g2.vw.pop hlt (fun i hi => rfl) (by omega) ?_ ?_ ?_ ?_ ?_ ?_ ?_
    all_goals rw [hτ3]
    · rw [zu_self, upd_s]
    · simp (disch := omega) only [zu_self, upd_ne]
    · simp (disch := omega) only [zu_self, upd_ne]
    · simp (disch := omega) only [zu_self, upd_ne, upd_s]
    · simp (disch := omega) only [zu_self, upd_ne, upd_s]
    · simp (disch := omega) only [zu_ne]
    · simp (disch := omega) only [zu_ne]
  refine ⟨τ3, Vj.of V3 (g2.cr.at hL t37), ?_, ?_⟩
  · refine g3.at hL ?_ t37
    rw [hτ3]; exact ((LwF.rf.zu0 (by decide)).zu0 (by decide)).zu0 (by decide)
  · show B_M_readsCondition_92 _ (fun σ => L_M_readsCondition_92 _ M σ) τ = _
    unfold B_M_readsCondition_92 F_M_lands
    rw [M_here tM e7 hpn, ob]
    dsimp only
    rw [if_pos h41, show L_M_lands_0 FU 1 τ = _ from g1, ob]
    simp (disch := omega) only [zu_self, upd_ne, upd_s, e132, e112, e72, nI_pred, nI_1]
    rw [← hτ3]
    by_cases q : m = 0
    · rw [if_pos (by rw [q]; rfl), if_pos q]
    · rw [if_neg (nI_ne0 (by omega) (by omega)), if_neg q]; rfl
end
