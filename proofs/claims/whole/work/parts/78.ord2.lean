-- orders: lines
theorem plc_t {x : Int32} (h : wi x 48 55 = true) : ∃ c : Nat, c < 8 ∧ x = nI (48 + c) ∧ x - 48 = nI c ∧ (if dgt x = true then x - 48 else -1) = nI c := by
  obtain ⟨j, h1, h2, e⟩ := wi_from (a := 48) (M := 55) (m := 48) (n := 55) (by decide) (by decide) h
  have hd : dgt x = true := by
    rw [e]; unfold dgt wi
    rw [decide_eq_true (show (48 : Int32) ≤ nI j from nI_le (a := 48) (by omega) (by omega)), decide_eq_true (show nI j ≤ (57 : Int32) from nI_le (b := 57) (by omega) (by omega))]; rfl
  have es : x - 48 = nI (j - 48) := by rw [e, nl48, pk_sub h1]
  exact ⟨j - 48, by omega, by rw [e]; congr 1; omega, es, by rw [if_pos hd, es]⟩
theorem plc_f {x : Int32} (h : ¬ wi x 48 55 = true) : ¬ wi (if dgt x = true then x - 48 else -1) 0 7 = true := by
  by_cases hd : dgt x = true
  · obtain ⟨r, hr, e1, e2⟩ := dgt_of hd
    rw [if_pos hd, e2]
    intro h2
    obtain ⟨j, hj, e⟩ := wi_nat (M := 7) (n := 7) (by decide) h2
    have : r = j := (nI_eq (by omega) (by omega)).mp e
    refine h ?_
    rw [e1]; unfold wi
    rw [decide_eq_true (show (48 : Int32) ≤ nI (48 + r) from nI_le (a := 48) (by omega) (by omega)), decide_eq_true (show nI (48 + r) ≤ (55 : Int32) from nI_le (b := 55) (by omega) (by omega))]; rfl
  · rw [if_neg hd]; decide
/-- both refuse; both are behind a line -/
def LnX (σ0 τ0 : Hp) (r r' : Option (Int32 × Hp)) : Prop := ∃ (f : Int32) (σ' τ' : Hp), r = some (0, σ') ∧ r' = some (0, τ') ∧ Ag [13, 14, 15, 16, 17, 18, 23, 25] σ0 σ' ∧ σ' 23 4 = f ∧ OrF τ0 τ' ∧ τ' 0 9 = f
def LnY (n : Nat) (σ0 τ0 : Hp) (p l l' : Nat) (r r' : Option (Int32 × Hp)) : Prop := ∃ (p' : Nat) (σ' τ' : Hp), r = some (1, σ') ∧ r' = some (1, τ') ∧ p < p' ∧ p' ≤ n ∧ OrC n σ0 σ' p' l ∧ OrM τ0 τ' p' l' ∧ RWar 13 1 σ' τ'
theorem wrapB {r : Option (Int32 × Hp)} {b : Int32} {s : Hp} (h : r = some (b, s)) (hb : b = 0 ∨ b = 1) : (r.bind fun q => gd (isb q.1) (some (q.1, q.2))) = some (b, s) := by
  rw [h, ob]
  dsimp only
  rcases hb with rfl | rfl
  · rw [gdz]
  · rw [gdo]
section
variable {n p l l' : Nat} {σ0 τ0 σ τ : Hp} {w : Nat → Int32}
theorem LnX.wrap {r r' : Option (Int32 × Hp)} (h : LnX σ0 τ0 r r') : LnX σ0 τ0 (r.bind fun q => gd (isb q.1) (some (q.1, q.2))) r' := by
  obtain ⟨f, s, t, h1, h2⟩ := h
  exact ⟨f, s, t, wrapB h1 (Or.inl rfl), h2⟩
theorem LnY.wrap {r r' : Option (Int32 × Hp)} (h : LnY n σ0 τ0 p l l' r r') : LnY n σ0 τ0 p l l' (r.bind fun q => gd (isb q.1) (some (q.1, q.2))) r' := by
  obtain ⟨f, s, t, h1, h2⟩ := h
  exact ⟨f, s, t, wrapB h1 (Or.inr rfl), h2⟩
theorem LnX.wrapM {r r' : Option (Int32 × Hp)} (h : LnX σ0 τ0 r r') : LnX σ0 τ0 r (r'.bind fun q => gd (isb q.1) (some (q.1, q.2))) := by
  obtain ⟨f, s, t, h1, h2, h3⟩ := h
  exact ⟨f, s, t, h1, wrapB h2 (Or.inl rfl), h3⟩
theorem LnY.wrapM {r r' : Option (Int32 × Hp)} (h : LnY n σ0 τ0 p l l' r r') : LnY n σ0 τ0 p l l' r (r'.bind fun q => gd (isb q.1) (some (q.1, q.2))) := by
  obtain ⟨f, s, t, h1, h2, h3⟩ := h
  exact ⟨f, s, t, h1, wrapB h2 (Or.inr rfl), h3⟩
theorem OrC.wr (h : OrC n σ0 σ p l) {c i : Nat} {x : Int32} (hc : c ∈ [14, 15, 16, 17, 18]) : OrC n σ0 (zu σ c i x) p l := by
  have hne : c ≠ 23 ∧ c ≠ 25 := by revert hc; simp only [List.mem_cons, List.not_mem_nil, or_false]; omega
  have hin : c ∈ [13, 14, 15, 16, 17, 18, 23, 25] := by revert hc; simp only [List.mem_cons, List.not_mem_nil, or_false]; omega
  exact ⟨h.1.zu hin, by rw [zu_ne _ _ _ (by omega)]; exact h.2.1, by rw [zu_ne _ _ _ (by omega)]; exact h.2.2.1, by rw [zu_ne _ _ _ (by omega)]; exact h.2.2.2⟩
theorem OrM.wr (h : OrM τ0 τ p l) {i : Nat} {x : Int32} : OrM τ0 (zu τ 1 i x) p l := ⟨h.1.zu1, by rw [zu_ne _ _ _ (by decide)]; exact h.2.1, by rw [zu_ne _ _ _ (by decide)]; exact h.2.2⟩
theorem gift_eq {g : Nat} {x : Int32} (hn : n ≤ 120) (hc : ∀ i, i < n → σ0 24 i = w i) (h8 : τ0 0 8 = nI n) (hm : ∀ i, i < n → τ0 6 i &&& 255 = w i) (hp : p ≤ n) (hC : OrC n σ0 σ p l) (hM : OrM τ0 τ p l') (hW : RWar 13 1 σ τ) (hg : g < 16) (hx : x = 76 ∨ x = 67) : LnX σ0 τ0 (F_X6_readGift 13 (nI g) x σ) (J_M_readsDeed_72 (nI g) x (nI p) τ) ∨ LnY n σ0 τ0 p l l' (F_X6_readGift 13 (nI g) x σ) (J_M_readsDeed_72 (nI g) x (nI p) τ) := by
  have tC := hC.tx hn hc
  have tM := hM.tx hn h8 hm
  unfold F_X6_readGift J_M_readsDeed_72 F_M_readsAmount
  rw [M_isDigit tM hM.2.1 hp, ob]
  dsimp only
  rw [b2_ite]
  by_cases hd : dgt (wa w n p) = true
  rotate_left
  · rw [if_neg hd, M_wrA, ob]
    dsimp only
    rw [gdz, ob]
    have : F_X8_number 2 σ = some (-1, zu σ 23 4 (-1000 * 1 - nI p)) := by
      unfold F_X8_number
      rw [C_digit tC hC.2.2.1 hp, ob]
      dsimp only
      rw [if_neg hd, if_pos rfl, C_refu, ob, hC.2.2.1]
    rw [this, ob]
    dsimp only
    rw [if_pos rfl, if_pos rfl]
    exact Or.inl ⟨-1000 * 1 - nI p, _, _, rfl, rfl, hC.1.zu (by decide), by rw [zu_self, upd_s], hM.1.zu0 (by decide), by rw [zu_self, upd_s, hM.2.1]⟩
  · rw [if_pos hd, hM.2.1]
    have nq := number_C (m := 2) (by omega) (by omega) tC tM hC.2.2.1 hM.2.1 hp hd (fun N t => L_M_readsAmount_27 J_M_readsAmount_44 N (nI p) t) (M_num2 hp)
    rcases nq with ⟨q, s', t', n1, n2, e1, e2, f1, f2, e3, e4⟩ | ⟨q, v, s', t', n1, n2, n3, e1, e2, f1, f2, e3, e4, e5, e6⟩
    · rw [show F_X8_number 2 σ = _ from e1, show L_M_readsAmount_27 J_M_readsAmount_44 FU (nI p) (zu τ 0 10 0) = _ from e2, ob, ob]
      dsimp only
      rw [if_pos rfl, if_pos rfl]
      exact Or.inl ⟨_, s', t', rfl, rfl, agT hC.1 f1 (by decide), e3, hM.1.fr f2, e4⟩
    · rw [show F_X8_number 2 σ = _ from e1, show L_M_readsAmount_27 J_M_readsAmount_44 FU (nI p) (zu τ 0 10 0) = _ from e2, ob, ob]
      dsimp only
      have C' := hC.fr f1 e3
      have M' := hM.fr f2 e4
      have W' : RWar 13 1 s' t' := hW.congr (fun j hj => f1.1 _ (by omega)) (f2.1 1 (by decide))
      rw [if_neg (nI_m1 (by omega)), if_neg (show ¬ (1 : Int32) = 0 by decide)]
      simp only [e5]
      obtain ⟨a1, a2, a3, a4, a5, a6, a7, ⟨y, hy, ey⟩, a9⟩ := W'.1 g hg
      unfold J_M_readsDeed_103
      rw [e5]
      rcases hx with rfl | rfl
      · rw [if_pos rfl, if_neg (by decide), if_neg (by decide)]
        simp (disch := omega) only [idx48, inb_nI, gd_tt, nI_clamp]
        rw [a3, ey, nI_add, nl99, M_min (by omega) (by omega), jmin_nI (by omega) (by omega), ob]
        dsimp only
        exact Or.inr ⟨q, _, _, rfl, rfl, by omega, n2, C'.wr (by decide), M'.wr, W'.lem hg (by omega)⟩
      · rw [if_neg (by decide), if_pos rfl, if_pos rfl]
        by_cases h9 : v ≤ 9
        · rw [if_pos (show nI v ≤ (9 : Int32) from nI_le (b := 9) h9 (by omega)), if_pos (show nI v ≤ (9 : Int32) from nI_le (b := 9) h9 (by omega))]
          simp (disch := omega) only [idx64, inb_nI, gd_tt, nI_clamp]
          exact Or.inr ⟨q, _, _, rfl, rfl, by omega, n2, C'.wr (by decide), M'.wr, W'.cus hg h9⟩
        · rw [if_neg (show ¬ nI v ≤ (9 : Int32) from nI_ge (a := 9) (by omega) (by omega)), if_neg (show ¬ nI v ≤ (9 : Int32) from nI_ge (a := 9) (by omega) (by omega)), C_refA, M_wrA, ob, ob]
          dsimp only
          rw [gdz, gdz]
          exact Or.inl ⟨-1000 * 3 - nI p, _, _, rfl, rfl, C'.1.zu (by decide), by rw [zu_self, upd_s, hC.2.2.1], M'.1.zu0 (by decide), by rw [zu_self, upd_s]⟩
theorem line_eq {s : Nat} (hs : s < 2) (hn : n ≤ 120) (hc : ∀ i, i < n → σ0 24 i = w i) (h8 : τ0 0 8 = nI n) (hm : ∀ i, i < n → τ0 6 i &&& 255 = w i) (hp : p < n) (hC : OrC n σ0 σ p l) (hM : OrM τ0 τ p l) (hW : RWar 13 1 σ τ) (hl : l < 20) :
    LnX σ0 τ0 (F_X6_readLine 13 (nI s) (zu σ 23 3 (nI (p + 1)))) (J_M_readsLine_27 (nI s) τ) ∨ LnY n σ0 τ0 p l (l + 1) (F_X6_readLine 13 (nI s) (zu σ 23 3 (nI (p + 1)))) (J_M_readsLine_27 (nI s) τ) := by
  have C1 := hC.at (p + 1)
  have M1 := hM.at (p + 1)
  have tC1 := C1.tx hn hc
  have tM1 := M1.tx hn h8 hm
  have W1 : RWar 13 1 (zu σ 23 3 (nI (p + 1))) (zu τ 0 7 (nI (p + 1))) := hW.congr (fun j hj => zu_ne _ _ _ (by omega)) (zu_ne _ _ _ (by decide))
  have mh := M_here tM1 M1.2.1 (show p + 1 ≤ n by omega)
  have hpl : F_M_readsPlace (zu τ 0 7 (nI (p + 1))) = if wi (wa w n (p + 1)) 48 55 = true then some (1, zu (zu τ 0 7 (nI (p + 1))) 0 10 (wa w n (p + 1) - 48)) else some (0, zu (zu τ 0 7 (nI (p + 1))) 0 9 (-1000 * 1 - nI (p + 1))) := by
    unfold F_M_readsPlace
    rw [mh, ob]
    dsimp only
    rw [M_in, ob]
    dsimp only
    rw [b2_ite, M_wrA, ob, mh, ob]
    dsimp only
    rw [gdz, M1.2.1]
  unfold F_X6_readLine J_M_readsLine_27
  rw [C_digit tC1 C1.2.2.1 (by omega), ob]
  dsimp only
  rw [V_within, ob]
  dsimp only
  rw [b2_ite, if_neg (nI_m1 (by omega)), if_neg (show ¬ τ 0 29 = (20 : Int32) by rw [hM.2.2]; exact nI_lit (k := 20) (by omega) (by omega) (by omega)), hM.2.1, nI_1, hpl]
  by_cases c1 : wi (wa w n (p + 1)) 48 55 = true
  rotate_left
  · rw [if_neg (plc_f c1), if_neg c1, C_refu, ob, ob]
    dsimp only
    rw [gdz, if_pos rfl]
    exact Or.inl ⟨-1000 * 1 - nI (p + 1), _, _, rfl, rfl, C1.1.zu (by decide), by rw [zu_self, upd_s, C1.2.2.1], M1.1.zu0 (by decide), by rw [zu_self, upd_s]⟩
  obtain ⟨c, hc8, ex, exs, exd⟩ := plc_t c1
  have hlt1 : p + 1 < n := wa_lt (w := w) (by rw [ex]; exact nI_m1 (by omega))
  obtain ⟨g, hgd⟩ : ∃ g, g = 8 * s + c := ⟨_, rfl⟩
  have hg : g < 16 := by omega
  have wi7 : wi (nI c) 0 7 = true := by
    have : ∀ c : Nat, c < 8 → wi (nI c) 0 7 = true := by decide
    exact this c hc8
  rw [exd, if_pos wi7, if_pos c1, ob, exs]
  dsimp only
  rw [if_neg (show ¬ (1 : Int32) = 0 by decide), M_isThere, ob]
  dsimp only
  have t10 : zu (zu τ 0 7 (nI (p + 1))) 0 10 (nI c) 0 10 = nI c := by rw [zu_self, upd_s]
  have t1 : zu (zu τ 0 7 (nI (p + 1))) 0 10 (nI c) 1 = τ 1 := by rw [zu_ne _ _ _ (by decide), zu_ne _ _ _ (by decide)]
  have hthr : thr (zu (zu τ 0 7 (nI (p + 1))) 0 10 (nI c)) (nI s) (nI c) = decide (τ 1 g = 1) := by
    unfold thr
    rw [isCh_of hs hc8, idxM, nI_clamp (by omega), ← hgd, t1, Bool.true_and]
  rw [t10, hthr, b2_ite, idxC, ← hgd, gd_true (inbT hg (by omega)), nI_clamp (by omega)]
  have hst := (W1.1 g hg).there
  have e18 : zu σ 23 3 (nI (p + 1)) (13 + 5) g = σ (13 + 5) g := by rw [zu_ne _ _ _ (by decide)]
  have et1 : zu τ 0 7 (nI (p + 1)) 1 g = τ 1 g := by rw [zu_ne _ _ _ (by decide)]
  rw [et1] at hst
  by_cases c2 : τ 1 g = 1
  rotate_left
  · have : zu σ 23 3 (nI (p + 1)) (13 + 5) g = 3 := by
      have h2 : decide (τ 1 g = 1) = false := decide_eq_false c2
      rw [h2] at hst
      simpa using hst
    rw [if_pos this, if_neg (by simp [c2]), C_refu, ob, M_wrA, ob]
    dsimp only
    rw [gdz, gdz]
    exact Or.inl ⟨-1000 * 7 - nI (p + 1), _, _, rfl, rfl, C1.1.zu (by decide), by rw [zu_self, upd_s, C1.2.2.1], (M1.1.zu0 (by decide)).zu0 (by decide), by rw [zu_self, upd_s, zu_self, upd_ne _ _ (by decide), zu_self, upd_s]⟩
  have hns : ¬ zu σ 23 3 (nI (p + 1)) (13 + 5) g = 3 := by
    have h2 : decide (τ 1 g = 1) = true := decide_eq_true c2
    rw [h2] at hst
    simpa using hst
  rw [if_neg hns, if_pos (decide_eq_true c2)]
  rw [C1.2.2.1, nI_1]
  have C2 := C1.at (p + 2)
  have t7 : zu (zu τ 0 7 (nI (p + 1))) 0 10 (nI c) 0 7 = nI (p + 1) := by rw [zu_self, upd_ne _ _ (by decide), zu_self, upd_s]
  have t29 : zu (zu (zu τ 0 7 (nI (p + 1))) 0 10 (nI c)) 0 7 (nI (p + 2)) 0 29 = nI l := by simp (disch := omega) only [zu_self, upd_ne]; exact hM.2.2
  rw [t7, nI_1, t29, nI_1]
  obtain ⟨τ2, hτ2⟩ : ∃ τ2, τ2 = zu (zu (zu (zu τ 0 7 (nI (p + 1))) 0 10 (nI c)) 0 7 (nI (p + 2))) 0 29 (nI (l + 1)) := ⟨_, rfl⟩
  obtain ⟨σ2, hσ2⟩ : ∃ σ2, σ2 = zu (zu σ 23 3 (nI (p + 1))) 23 3 (nI (p + 2)) := ⟨_, rfl⟩
  rw [show p + 1 + 1 = p + 2 from rfl, ← hτ2, ← hσ2]
  rw [← hσ2] at C2
  have M2 : OrM τ0 τ2 (p + 2) (l + 1) := by
    rw [hτ2]
    refine ⟨((M1.1.zu0 (by decide)).zu0 (by decide)).zu0 (by decide), ?_, ?_⟩
    · simp (disch := omega) only [zu_self, upd_ne, upd_s]
    · rw [zu_self, upd_s]
  have W2 : RWar 13 1 σ2 τ2 := by
    refine hW.congr (fun j hj => ?_) ?_
    · rw [hσ2, zu_ne _ _ _ (by omega), zu_ne _ _ _ (by omega)]
    · rw [hτ2]; simp (disch := omega) only [zu_ne]
  have t210 : τ2 0 10 = nI c := by rw [hτ2]; simp (disch := omega) only [zu_self, upd_ne, upd_s]
  have t2g : τ2 1 g = 1 := by rw [hτ2]; simp (disch := omega) only [zu_ne]; exact c2
  rw [t210, idxM, ← hgd]
  have tC2 := C2.tx hn hc
  have tM2 := M2.tx hn h8 hm
  have ch2 := C_here tC2 C2.2.2.1 (show p + 2 ≤ n by omega)
  have mh2 := M_here tM2 M2.2.1 (show p + 2 ≤ n by omega)
  unfold F_M_readsDeed
  rw [ch2, ob, mh2, ob]
  dsimp only
  rw [C2.2.2.1, nI_1]
  have C3 := C2.at (p + 3)
  have M3 := M2.at (p + 3)
  have W3 : RWar 13 1 (zu σ2 23 3 (nI (p + 3))) (zu τ2 0 7 (nI (p + 3))) := W2.congr (fun j hj => zu_ne _ _ _ (by omega)) (zu_ne _ _ _ (by decide))
  rw [show p + 2 + 1 = p + 3 from rfl]
  have up : ∀ {r r'}, LnX σ0 τ0 r r' ∨ LnY n σ0 τ0 (p + 3) l (l + 1) r r' → LnX σ0 τ0 r r' ∨ LnY n σ0 τ0 p l (l + 1) r r' := by
    rintro r r' (h | ⟨p', s', t', h1, h2, h3, h4⟩)
    · exact Or.inl h
    · exact Or.inr ⟨p', s', t', h1, h2, by omega, h4⟩
  have wrapCM : ∀ {r r'}, (LnX σ0 τ0 r r' ∨ LnY n σ0 τ0 p l (l + 1) r r') → LnX σ0 τ0 (r.bind fun q => gd (isb q.1) (some (q.1, q.2))) (r'.bind fun q => gd (isb q.1) (some (q.1, q.2))) ∨ LnY n σ0 τ0 p l (l + 1) (r.bind fun q => gd (isb q.1) (some (q.1, q.2))) (r'.bind fun q => gd (isb q.1) (some (q.1, q.2))) := by
    rintro r r' (h | h)
    · exact Or.inl h.wrap.wrapM
    · exact Or.inr h.wrap.wrapM
  have wrapM : ∀ {r r'}, (LnX σ0 τ0 r r' ∨ LnY n σ0 τ0 p l (l + 1) r r') → LnX σ0 τ0 r (r'.bind fun q => gd (isb q.1) (some (q.1, q.2))) ∨ LnY n σ0 τ0 p l (l + 1) r (r'.bind fun q => gd (isb q.1) (some (q.1, q.2))) := by
    rintro r r' (h | h)
    · exact Or.inl h.wrapM
    · exact Or.inr h.wrapM
  have j72 : ∀ x : Int32, (x = 76 ∨ x = 67) → J_M_readsDeed_45 (nI g) x τ2 = J_M_readsDeed_72 (nI g) x (nI (p + 3)) (zu τ2 0 7 (nI (p + 3))) := by
    intro x hx
    unfold J_M_readsDeed_45
    rw [M2.2.1, nI_1, zu_self, upd_s]
    rcases hx with rfl | rfl
    · rw [if_pos rfl]
    · rw [if_neg (by decide), if_pos rfl]
  by_cases d67 : wa w n (p + 2) = 67
  · have hlt2 : p + 2 < n := wa_lt (w := w) (by rw [d67]; decide)
    rw [d67, if_pos rfl, if_neg (by decide), if_pos rfl, j72 67 (Or.inr rfl)]
    exact wrapCM (up (gift_eq hn hc h8 hm (by omega) C3 M3 W3 hg (Or.inr rfl)))
  by_cases d76 : wa w n (p + 2) = 76
  · have hlt2 : p + 2 < n := wa_lt (w := w) (by rw [d76]; decide)
    rw [d76, if_neg (by decide), if_neg (by decide), if_neg (by decide), if_pos rfl, if_pos rfl, j72 76 (Or.inl rfl)]
    exact wrapCM (up (gift_eq hn hc h8 hm (by omega) C3 M3 W3 hg (Or.inl rfl)))
  by_cases d71 : wa w n (p + 2) = 71
  · have hlt2 : p + 2 < n := wa_lt (w := w) (by rw [d71]; decide)
    rw [d71, if_neg (by decide), if_pos rfl, if_neg (by decide), if_neg (by decide), if_pos rfl]
    refine wrapCM ?_
    unfold J_M_readsDeed_45 F_X6_readChange F_M_readsPlace
    rw [if_neg (by decide), if_neg (by decide), if_pos rfl, M2.2.1, nI_1, C_digit (C3.tx hn hc) C3.2.2.1 (by omega), ob]
    dsimp only
    have mh3 := M_here (M3.tx hn h8 hm) M3.2.1 (show p + 3 ≤ n by omega)
    rw [V_within, ob, mh3, ob]
    dsimp only
    rw [M_in, ob]
    dsimp only
    rw [b2_ite, b2_ite]
    by_cases c3 : wi (wa w n (p + 3)) 48 55 = true
    rotate_left
    · rw [if_neg (plc_f c3), if_neg c3, C_refu, ob, M_wrA, ob]
      dsimp only
      rw [gdz, gdz, ob]
      dsimp only
      rw [if_pos rfl]
      exact Or.inl ⟨-1000 * 1 - nI (p + 3), _, _, rfl, rfl, C3.1.zu (by decide), by rw [zu_self, upd_s, C3.2.2.1], M3.1.zu0 (by decide), by rw [zu_self, upd_s, M3.2.1]⟩
    obtain ⟨c', hc8', ex', exs', exd'⟩ := plc_t c3
    have hlt3 : p + 3 < n := wa_lt (w := w) (by rw [ex']; exact nI_m1 (by omega))
    have wi7' : wi (nI c') 0 7 = true := by
      have : ∀ c : Nat, c < 8 → wi (nI c) 0 7 = true := by decide
      exact this c' hc8'
    have gdiv : nI g / 8 * 8 = nI (8 * s) := by
      rw [nl8, pk_div (by omega) (by omega) (by omega), pk_mul]
      congr 1
      omega
    rw [exd', if_pos wi7', if_pos c3, mh3, ob, ob]
    dsimp only
    rw [if_neg (show ¬ (1 : Int32) = 0 by decide), exs', gdiv]
    simp (disch := omega) only [zu_self, upd_ne, upd_s, nI_add, nI_1]
    obtain ⟨s4, u1, u2, u3, u4, u5, u6⟩ := change_eq hg (show 8 * s + c' < 16 by omega) (zu (zu σ2 23 3 (nI (p + 3))) 23 3 (nI (p + 4)))
    obtain ⟨t4, v1, v2, v3⟩ := changes_eq hg (show 8 * s + c' < 16 by omega) (zu (zu (zu τ2 0 7 (nI (p + 3))) 0 10 (nI c')) 0 7 (nI (p + 4)))
    rw [show p + 3 + 1 = p + 4 from rfl, u1, v1, ob, ob]
    have C4 := C3.at (p + 4)
    have M4 : OrM τ0 (zu (zu (zu τ2 0 7 (nI (p + 3))) 0 10 (nI c')) 0 7 (nI (p + 4))) (p + 4) (l + 1) := by
      refine ⟨(M3.1.zu0 (by decide)).zu0 (by decide), by rw [zu_self, upd_s], ?_⟩
      simp (disch := omega) only [zu_self, upd_ne]; exact M2.2.2
    have W4 : RWar 13 1 (zu (zu σ2 23 3 (nI (p + 3))) 23 3 (nI (p + 4))) (zu (zu (zu τ2 0 7 (nI (p + 3))) 0 10 (nI c')) 0 7 (nI (p + 4))) := W3.congr (fun j hj => zu_ne _ _ _ (by omega)) (by simp (disch := omega) only [zu_ne])
    refine Or.inr ⟨p + 4, s4, t4, rfl, rfl, by omega, by omega, ⟨fun k hk => ?_, ?_, ?_, ?_⟩, ⟨⟨fun k hk => ?_, fun j hj => ?_⟩, ?_, ?_⟩, W4.swap hg (by omega) u2 u3 u4 u5 u6 v2⟩
    · rw [u6 k (by revert hk; simp only [List.mem_cons, List.not_mem_nil, or_false]; omega)]; exact C4.1 k hk
    · rw [u6 23 (by decide)]; exact C4.2.1
    · rw [u6 23 (by decide)]; exact C4.2.2.1
    · rw [u6 25 (by decide)]; exact C4.2.2.2
    · rw [v3 k (by revert hk; simp only [List.mem_cons, List.not_mem_nil, or_false]; omega)]; exact M4.1.1 k hk
    · rw [v3 0 (by decide)]; exact M4.1.2 j hj
    · rw [v3 0 (by decide)]; exact M4.2.1
    · rw [v3 0 (by decide)]; exact M4.2.2
  by_cases d73 : wa w n (p + 2) = 73
  · have hlt2 : p + 2 < n := wa_lt (w := w) (by rw [d73]; decide)
    rw [d73, if_neg (by decide), if_neg (by decide), if_pos rfl, if_neg (by decide), if_neg (by decide), if_neg (by decide), if_pos rfl]
    refine wrapM ?_
    unfold J_M_readsDeed_45
    rw [if_neg (by decide), if_neg (by decide), if_neg (by decide), if_pos rfl, M2.2.1, nI_1]
    simp (disch := omega) only [idx80, inb_nI, gd_tt, nI_clamp]
    exact Or.inr ⟨p + 3, _, _, rfl, rfl, by omega, by omega, C3.wr (by decide), M3.wr, W3.sta hg (by rw [zu_ne _ _ _ (by decide)]; exact t2g) (Or.inr (Or.inr rfl))⟩
  by_cases d79 : wa w n (p + 2) = 79
  · have hlt2 : p + 2 < n := wa_lt (w := w) (by rw [d79]; decide)
    rw [d79, if_neg (by decide), if_neg (by decide), if_neg (by decide), if_neg (by decide), if_pos rfl, if_neg (by decide), if_neg (by decide), if_neg (by decide), if_neg (by decide), if_pos rfl]
    refine wrapM ?_
    have g1 : zu τ2 0 7 (nI (p + 3)) 1 g = 1 := by rw [zu_ne _ _ _ (by decide)]; exact t2g
    unfold J_M_readsDeed_45 F_M_comesOut J_M_comesOut_23 J_X6_readLine_256
    rw [if_neg (by decide), if_neg (by decide), if_neg (by decide), if_neg (by decide), M2.2.1, nI_1]
    simp (disch := omega) only [idx80, idx32, inb_nI, gd_tt, nI_clamp]
    obtain ⟨a1, a2, a3, a4, a5, a6, ⟨y, hy, ey⟩, a8, a9⟩ := W3.1 g hg
    have a5' : zu σ2 23 3 (nI (p + 3)) (13 + 5) g = zu τ2 0 7 (nI (p + 3)) 1 (80 + g) := by
      rcases a5 with ⟨_, h, _⟩ | ⟨h, _⟩
      · exact h
      · exact absurd (g1.symm.trans h) (by decide)
    by_cases c4 : zu τ2 0 7 (nI (p + 3)) 1 (80 + g) = 2
    · rw [if_pos (show zu σ2 23 3 (nI (p + 3)) (13 + 5) g = 2 from a5'.trans c4), if_pos c4, ob]
      refine Or.inr ⟨p + 3, _, _, rfl, rfl, by omega, by omega, (C3.wr (by decide)).wr (by decide), M3.wr.wr, (W3.bor (v := 0) hg (by omega)).sta hg ?_ (Or.inl rfl)⟩
      rw [zu_self, upd_ne _ _ (by omega)]; exact g1
    · rw [if_neg (show ¬ zu σ2 23 3 (nI (p + 3)) (13 + 5) g = 2 from fun e => c4 (a5'.symm.trans e)), if_neg c4, ob]
      have es : zu (zu σ2 23 3 (nI (p + 3))) (13 + 2) g (zu σ2 23 3 (nI (p + 3)) (13 + 2) g) = zu σ2 23 3 (nI (p + 3)) := by
        funext k i
        rw [zu_ap]
        by_cases e : k = 13 + 2
        · rw [if_pos e, upd_ap, e]
          by_cases e2 : i = g
          · rw [if_pos e2, e2]
          · rw [if_neg e2]
        · rw [if_neg e]
      rw [es]
      exact Or.inr ⟨p + 3, _, _, rfl, rfl, by omega, by omega, C3.wr (by decide), M3.wr, W3.sta hg g1 (Or.inl rfl)⟩
  · rw [if_neg d67, if_neg d71, if_neg d73, if_neg d76, if_neg d79, if_neg d76, if_neg d67, if_neg d71, if_neg d73, if_neg d79, C_refu, ob, M_wrA, ob]
    dsimp only
    rw [gdz, gdz, ob]
    dsimp only
    rw [gdz]
    exact Or.inl ⟨-1000 * 1 - nI (p + 2), _, _, rfl, rfl, C2.1.zu (by decide), by rw [zu_self, upd_s, C2.2.2.1], M2.1.zu0 (by decide), by rw [zu_self, upd_s, M2.2.1]⟩
end
