-- orders: what a line does
def OrC (n : Nat) (σ0 σ : Hp) (p l : Nat) : Prop := Ag [13, 14, 15, 16, 17, 18, 23, 25] σ0 σ ∧ σ 23 2 = nI n ∧ σ 23 3 = nI p ∧ σ 25 1 = nI l
def OrF (τ0 τ : Hp) : Prop := (∀ k, k ∉ [0, 1] → τ k = τ0 k) ∧ ∀ j, j ∉ [7, 9, 10, 29] → τ 0 j = τ0 0 j
def OrM (τ0 τ : Hp) (p l : Nat) : Prop := OrF τ0 τ ∧ τ 0 7 = nI p ∧ τ 0 29 = nI l
theorem OrF.zu0 {τ0 τ : Hp} (h : OrF τ0 τ) {i : Nat} {x : Int32} (hi : i ∈ [7, 9, 10, 29]) : OrF τ0 (zu τ 0 i x) := ⟨fun k hk => by rw [zu_ne _ _ _ (fun e => hk (by rw [e]; decide))]; exact h.1 k hk, fun j hj => by rw [zu_self, upd_ne _ _ (fun e : j = i => hj (by rw [e]; exact hi))]; exact h.2 j hj⟩
theorem OrF.zu1 {τ0 τ : Hp} (h : OrF τ0 τ) {i : Nat} {x : Int32} : OrF τ0 (zu τ 1 i x) := ⟨fun k hk => by rw [zu_ne _ _ _ (fun e => hk (by rw [e]; decide))]; exact h.1 k hk, fun j hj => by rw [zu_ne _ _ _ (by decide)]; exact h.2 j hj⟩
section
variable {n p l : Nat} {σ0 τ0 σ τ : Hp} {w : Nat → Int32}
theorem OrC.tx (h : OrC n σ0 σ p l) (hn : n ≤ 120) (hw : ∀ i, i < n → σ0 24 i = w i) : TxC w n σ := ⟨by omega, h.2.1, fun i hi => by rw [h.1 24 (by decide)]; exact hw i hi⟩
theorem OrM.tx (h : OrM τ0 τ p l) (hn : n ≤ 120) (h8 : τ0 0 8 = nI n) (hw : ∀ i, i < n → τ0 6 i &&& 255 = w i) : TxM w n τ := ⟨by omega, by rw [h.1.2 8 (by decide)]; exact h8, fun i hi => by rw [h.1.1 6 (by decide)]; exact hw i hi⟩
theorem OrC.at (h : OrC n σ0 σ p l) (p' : Nat) : OrC n σ0 (zu σ 23 3 (nI p')) p' l := ⟨h.1.zu (by decide), by rw [zu_self, upd_ne _ _ (by decide)]; exact h.2.1, by rw [zu_self, upd_s], by rw [zu_ne _ _ _ (by decide)]; exact h.2.2.2⟩
theorem OrM.at (h : OrM τ0 τ p l) (p' : Nat) : OrM τ0 (zu τ 0 7 (nI p')) p' l := ⟨h.1.zu0 (by decide), by rw [zu_self, upd_s], by rw [zu_self, upd_ne _ _ (by decide)]; exact h.2.2⟩
theorem OrC.fr {σ' : Hp} {p' : Nat} (h : OrC n σ0 σ p l) (f : FrT σ σ') (e : σ' 23 3 = nI p') : OrC n σ0 σ' p' l := ⟨fun k hk => by rw [f.1 k (fun e => hk (by rw [e]; decide))]; exact h.1 k hk, by rw [f.2 2 (by decide) (by decide)]; exact h.2.1, e, by rw [f.1 25 (by decide)]; exact h.2.2.2⟩
theorem OrF.fr {τ' : Hp} (h : OrF τ0 τ) (f : FrN [7, 9, 10] τ τ') : OrF τ0 τ' := ⟨fun k hk => by rw [f.1 k (fun e => hk (by rw [e]; decide))]; exact h.1 k hk, fun j hj => by rw [f.2 j (by revert hj; simp only [List.mem_cons, List.not_mem_nil, or_false]; omega)]; exact h.2 j hj⟩
theorem OrM.fr {τ' : Hp} {p' : Nat} (h : OrM τ0 τ p l) (f : FrN [7, 9, 10] τ τ') (e : τ' 0 7 = nI p') : OrM τ0 τ' p' l := ⟨h.1.fr f, e, by rw [f.2 29 (by decide)]; exact h.2.2⟩
theorem agT {S : List Nat} {σ' : Hp} (h : Ag S σ0 σ) (f : FrT σ σ') (hS : 23 ∈ S) : Ag S σ0 σ' := fun k hk => by rw [f.1 k (fun e : k = 23 => hk (by rw [e]; exact hS))]; exact h k hk
end
def sw (f : Nat → Int32) (a b : Nat) : Nat → Int32 := fun i => if i = b then f a else if i = a then f b else f i
theorem sw_ne {f : Nat → Int32} {a b x : Nat} (h1 : x ≠ a) (h2 : x ≠ b) : sw f a b x = f x := by unfold sw; rw [if_neg h2, if_neg h1]
theorem sw_r {f : Nat → Int32} {a b : Nat} : sw f a b b = f a := by unfold sw; rw [if_pos rfl]
theorem sw_l {f : Nat → Int32} {a b : Nat} (h : a ≠ b) : sw f a b a = f b := by unfold sw; rw [if_neg h, if_pos rfl]
theorem sw_same (f : Nat → Int32) (a : Nat) : sw f a a = f := by
  funext i
  unfold sw
  by_cases h : i = a
  · rw [if_pos h, h]
  · rw [if_neg h, if_neg h]
theorem zu_sw (σ : Hp) (c a b : Nat) : zu (zu σ c a (σ c b)) c b (σ c a) = zr σ c (sw (σ c) a b) := by
  funext k
  rw [zr_ap]
  by_cases h : k = c
  · rw [h, if_pos rfl, zu_self, zu_self]
    funext i
    unfold sw
    rw [upd_ap, upd_ap]
  · rw [if_neg h, zu_ne _ _ _ h, zu_ne _ _ _ h]
theorem turn_eq {g j : Nat} (hg : g < 16) (hj : j < 16) (c : Nat) (σ : Hp) : F_X10_turn c 16 (nI g) (nI j) σ = some (zr σ c (sw (σ c) g j)) := by
  unfold F_X10_turn
  simp (disch := omega) only [inb_nI, gd_tt, nI_clamp]
  rw [zu_sw]
theorem swaps_eq {a b : Nat} (ha : a < 100) (hb : b < 100) (τ : Hp) : F_M_swaps (nI a) (nI b) τ = some (zr τ 1 (sw (τ 1) a b)) := by
  unfold F_M_swaps
  simp (disch := omega) only [inb_nI, gd_tt, nI_clamp]
  rw [zu_sw]
theorem change_eq {g j : Nat} (hg : g < 16) (hj : j < 16) (σ : Hp) : ∃ σ', F_X10_change 13 (nI g) (nI j) σ = some σ' ∧ σ' 14 = sw (σ 14) g j ∧ σ' 15 = sw (σ 15) g j ∧ σ' 16 = sw (σ 16) g j ∧ σ' 18 = sw (σ 18) g j ∧ Ag [14, 15, 16, 18] σ σ' := by
  unfold F_X10_change
  rw [turn_eq hg hj, ob, turn_eq hg hj, ob, turn_eq hg hj, ob, turn_eq hg hj, ob]
  refine ⟨_, rfl, ?_, ?_, ?_, ?_, fun k hk => ?_⟩
  · simp (disch := omega) only [zr_ap]; rfl
  · simp (disch := omega) only [zr_ap]; rfl
  · simp (disch := omega) only [zr_ap]; rfl
  · simp (disch := omega) only [zr_ap]; rfl
  · have : k ≠ 14 ∧ k ≠ 15 ∧ k ≠ 16 ∧ k ≠ 18 := by revert hk; simp
    simp only [zr_ap]
    rw [if_neg (by omega), if_neg (by omega), if_neg (by omega), if_neg (by omega)]
theorem changes_eq {g j : Nat} (hg : g < 16) (hj : j < 16) (τ : Hp) : ∃ τ', F_M_changes (nI g) (nI j) τ = some τ' ∧ τ' 1 = sw (sw (sw (sw (sw (τ 1) g j) (16 + g) (16 + j)) (32 + g) (32 + j)) (48 + g) (48 + j)) (80 + g) (80 + j) ∧ Ag [1] τ τ' := by
  unfold F_M_changes
  rw [idx0, idx0, idx16, idx16, idx32, idx32, idx48, idx48, idx80, idx80, swaps_eq (by omega) (by omega), ob, swaps_eq (by omega) (by omega), ob, swaps_eq (by omega) (by omega), ob, swaps_eq (by omega) (by omega), ob, swaps_eq (by omega) (by omega), ob]
  refine ⟨_, rfl, ?_, fun k hk => ?_⟩
  · simp only [zr_ap, if_true]
  · have : k ≠ 1 := by revert hk; simp
    simp only [zr_ap, if_neg this]
theorem RWar.swap {σ τ σ' τ' : Hp} (h : RWar 13 1 σ τ) {g j : Nat} (hg : g < 16) (hj : j < 16) (h1 : σ' 14 = sw (σ 14) g j) (h2 : σ' 15 = sw (σ 15) g j) (h3 : σ' 16 = sw (σ 16) g j) (h5 : σ' 18 = sw (σ 18) g j) (hA : Ag [14, 15, 16, 18] σ σ') (ht : τ' 1 = sw (sw (sw (sw (sw (τ 1) g j) (16 + g) (16 + j)) (32 + g) (32 + j)) (48 + g) (48 + j)) (80 + g) (80 + j)) : RWar 13 1 σ' τ' := by
  have e13 : σ' 13 = σ 13 := hA 13 (by decide)
  have e17 : σ' 17 = σ 17 := hA 17 (by decide)
  refine ⟨fun i hi => ?_, ?_⟩
  · have main : ∀ k, k < 16 → (∀ f : Nat → Int32, sw f g j i = f k) → (∀ (b : Nat) (f : Nat → Int32), sw f (b + g) (b + j) (b + i) = f (b + k)) → RG 13 1 σ' τ' i := by
      intro k hk hf hb
      obtain ⟨a1, a2, a3, a4, a5, a6, a7, a8, a9⟩ := h.1 k hk
      obtain ⟨-, -, -, b4, -, -, -, -, b9⟩ := h.1 i hi
      have t0 : τ' 1 i = τ 1 k := by rw [ht, sw_ne (by omega) (by omega), sw_ne (by omega) (by omega), sw_ne (by omega) (by omega), sw_ne (by omega) (by omega)]; exact hf _
      have t16 : τ' 1 (16 + i) = τ 1 (16 + k) := by rw [ht, sw_ne (by omega) (by omega), sw_ne (by omega) (by omega), sw_ne (by omega) (by omega), hb, sw_ne (by omega) (by omega)]
      have t32 : τ' 1 (32 + i) = τ 1 (32 + k) := by rw [ht, sw_ne (by omega) (by omega), sw_ne (by omega) (by omega), hb, sw_ne (by omega) (by omega), sw_ne (by omega) (by omega)]
      have t48 : τ' 1 (48 + i) = τ 1 (48 + k) := by rw [ht, sw_ne (by omega) (by omega), hb, sw_ne (by omega) (by omega), sw_ne (by omega) (by omega), sw_ne (by omega) (by omega)]
      have t80 : τ' 1 (80 + i) = τ 1 (80 + k) := by rw [ht, hb, sw_ne (by omega) (by omega), sw_ne (by omega) (by omega), sw_ne (by omega) (by omega), sw_ne (by omega) (by omega)]
      have t64 : τ' 1 (64 + i) = τ 1 (64 + i) := by rw [ht, sw_ne (by omega) (by omega), sw_ne (by omega) (by omega), sw_ne (by omega) (by omega), sw_ne (by omega) (by omega), sw_ne (by omega) (by omega)]
      have s14 : σ' (13 + 1) i = σ (13 + 1) k := by show σ' 14 i = _; rw [h1]; exact hf _
      have s15 : σ' (13 + 2) i = σ (13 + 2) k := by show σ' 15 i = _; rw [h2]; exact hf _
      have s16 : σ' (13 + 3) i = σ (13 + 3) k := by show σ' 16 i = _; rw [h3]; exact hf _
      have s18 : σ' (13 + 5) i = σ (13 + 5) k := by show σ' 18 i = _; rw [h5]; exact hf _
      have s17 : σ' (13 + 4) i = σ (13 + 4) i := by show σ' 17 i = _; rw [e17]
      unfold RG
      rw [t0, t16, t32, t48, t80, t64, s14, s15, s16, s18, s17]
      exact ⟨a1, a2, a3, b4, a5, a6, a7, a8, b9⟩
    by_cases q1 : i = j
    · refine main g hg (fun f => by rw [q1]; exact sw_r) (fun b f => by rw [q1]; exact sw_r)
    by_cases q2 : i = g
    · refine main j hj (fun f => by rw [q2]; exact sw_l (by omega)) (fun b f => by rw [q2]; exact sw_l (by omega))
    · exact main i hi (fun f => sw_ne q2 q1) (fun b f => sw_ne (by omega) (by omega))
  · have tt : ∀ j', 96 ≤ j' → τ' 1 j' = τ 1 j' := fun j' hj' => by rw [ht, sw_ne (by omega) (by omega), sw_ne (by omega) (by omega), sw_ne (by omega) (by omega), sw_ne (by omega) (by omega), sw_ne (by omega) (by omega)]
    have := h.2
    unfold RT at *
    rw [e13, tt 96 (by omega), tt 97 (by omega), tt 98 (by omega), tt 99 (by omega)]
    exact this
/-- one chair's lemonade, cushions, state -/
theorem RWar.lem {σ τ : Hp} (h : RWar 13 1 σ τ) {g v : Nat} (hg : g < 16) (hv : v ≤ 99) : RWar 13 1 (zu σ (13 + 3) g (nI v)) (zu τ 1 (48 + g) (nI v)) := by
  obtain ⟨a1, a2, a3, a4, a5, a6, a7, a8, a9⟩ := h.1 g hg
  refine h.pt g (fun j h1 h2 i hi hne => ?_) (fun j hj hne => ?_) ?_ ?_
  · by_cases e : j = 3
    · rw [e, zu_self, upd_ne _ _ hne]
    · rw [zu_ne _ _ _ (by omega)]
  · rw [zu_self, upd_ne _ _ (by omega)]
  · unfold RG
    simp (disch := omega) only [zu_ne, zu_self, upd_ne, upd_s]
    exact ⟨a1, a2, trivial, a4, a5, a6, a7, ⟨v, hv, rfl⟩, a9⟩
  · have := h.2
    unfold RT at *
    simp (disch := omega) only [zu_ne, zu_self, upd_ne]
    exact this
theorem RWar.cus {σ τ : Hp} (h : RWar 13 1 σ τ) {g v : Nat} (hg : g < 16) (hv : v ≤ 9) : RWar 13 1 (zu σ (13 + 4) g (nI v)) (zu τ 1 (64 + g) (nI v)) := by
  obtain ⟨a1, a2, a3, a4, a5, a6, a7, a8, a9⟩ := h.1 g hg
  refine h.pt g (fun j h1 h2 i hi hne => ?_) (fun j hj hne => ?_) ?_ ?_
  · by_cases e : j = 4
    · rw [e, zu_self, upd_ne _ _ hne]
    · rw [zu_ne _ _ _ (by omega)]
  · rw [zu_self, upd_ne _ _ (by omega)]
  · unfold RG
    simp (disch := omega) only [zu_ne, zu_self, upd_ne, upd_s]
    exact ⟨a1, a2, a3, trivial, a5, a6, a7, a8, ⟨v, hv, rfl⟩⟩
  · have := h.2
    unfold RT at *
    simp (disch := omega) only [zu_ne, zu_self, upd_ne]
    exact this
theorem RWar.sta {σ τ : Hp} (h : RWar 13 1 σ τ) {g : Nat} (hg : g < 16) (ht : τ 1 g = 1) {x : Int32} (hx : x = 0 ∨ x = 1 ∨ x = 2) : RWar 13 1 (zu σ (13 + 5) g x) (zu τ 1 (80 + g) x) := by
  obtain ⟨a1, a2, a3, a4, a5, a6, a7, a8, a9⟩ := h.1 g hg
  refine h.pt g (fun j h1 h2 i hi hne => ?_) (fun j hj hne => ?_) ?_ ?_
  · by_cases e : j = 5
    · rw [e, zu_self, upd_ne _ _ hne]
    · rw [zu_ne _ _ _ (by omega)]
  · rw [zu_self, upd_ne _ _ (by omega)]
  · unfold RG
    simp (disch := omega) only [zu_ne, zu_self, upd_ne, upd_s]
    exact ⟨a1, a2, a3, a4, Or.inl ⟨ht, trivial, hx⟩, a6, a7, a8, a9⟩
  · have := h.2
    unfold RT at *
    simp (disch := omega) only [zu_ne, zu_self, upd_ne]
    exact this
theorem RWar.bor {σ τ : Hp} (h : RWar 13 1 σ τ) {g v : Nat} (hg : g < 16) (hv : v ≤ 99) : RWar 13 1 (zu σ (13 + 2) g (nI v)) (zu τ 1 (32 + g) (nI v)) := by
  obtain ⟨a1, a2, a3, a4, a5, a6, a7, a8, a9⟩ := h.1 g hg
  refine h.pt g (fun j h1 h2 i hi hne => ?_) (fun j hj hne => ?_) ?_ ?_
  · by_cases e : j = 2
    · rw [e, zu_self, upd_ne _ _ hne]
    · rw [zu_ne _ _ _ (by omega)]
  · rw [zu_self, upd_ne _ _ (by omega)]
  · unfold RG
    simp (disch := omega) only [zu_ne, zu_self, upd_ne, upd_s]
    exact ⟨a1, trivial, a3, a4, a5, a6, ⟨v, hv, rfl⟩, a8, a9⟩
  · have := h.2
    unfold RT at *
    simp (disch := omega) only [zu_ne, zu_self, upd_ne]
    exact this
