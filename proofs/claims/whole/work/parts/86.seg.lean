-- the kinds on the stack, piece by piece
section
variable {c w : Nat → Int32} {a b d : Nat} {r r' r2 : List Bool}
theorem sOk.up {ty ty' : Nat → List Bool} {k b' : Nat} (h : sOk c w ty b k) (hk : k < b) (he : ∀ x, k ≤ x → x ≤ b → ty' x = ty x) (hb : b ≤ b') : sOk c w ty' b' k := by
  unfold sOk at *
  rw [he k (by omega) (by omega), he (k + 1) (by omega) (by omega)]
  refine ⟨h.1, ?_⟩
  rcases h.2 with h | h | h | h | ⟨h1, q, h2, h3, t, h4, h5, h6, h7⟩
  · exact Or.inl h
  · exact Or.inr (Or.inl h)
  · exact Or.inr (Or.inr (Or.inl h))
  · exact Or.inr (Or.inr (Or.inr (Or.inl h)))
  · exact Or.inr (Or.inr (Or.inr (Or.inr ⟨h1, q, h2, h3, t, h4, h5, by omega, by rw [he t (by omega) h6]; exact h7⟩)))
theorem Seg.nil : Seg c w a a r r := ⟨Nat.le_refl _, fun _ => r, rfl, rfl, fun k h1 h2 => absurd h2 (by omega)⟩
theorem Seg.tr (h1 : Seg c w a b r r') (h2 : Seg c w b d r' r2) : Seg c w a d r r2 := by
  obtain ⟨l1, t1, a1, b1, k1⟩ := h1
  obtain ⟨l2, t2, a2, b2', k2⟩ := h2
  refine ⟨by omega, fun k => if k < b then t1 k else t2 k, ?_, ?_, fun k h3 h4 => ?_⟩
  · dsimp only
    by_cases q : a < b
    · rw [if_pos q]; exact a1
    · have : a = b := by omega
      subst this
      rw [if_neg q, a2, ← b1]; exact a1
  · dsimp only
    rw [if_neg (by omega)]; exact b2'
  · by_cases q : k < b
    · refine (k1 k h3 q).up q (fun x h5 h6 => ?_) l2
      by_cases q2 : x < b
      · rw [if_pos q2]
      · have : x = b := by omega
        rw [if_neg q2, this, a2, b1]
    · refine (k2 k (by omega) h4).up h4 (fun x h5 h6 => ?_) (Nat.le_refl _)
      rw [if_neg (by omega)]
theorem Seg.congr {c' w' : Nat → Int32} (h : Seg c w a b r r') (hc : ∀ k, a ≤ k → k < b → c' k = c k ∧ w' k = w k) : Seg c' w' a b r r' := by
  obtain ⟨l1, t1, a1, b1, k1⟩ := h
  refine ⟨l1, t1, a1, b1, fun k h1 h2 => ?_⟩
  have := k1 k h1 h2
  unfold sOk at *
  rw [(hc k h1 h2).1, (hc k h1 h2).2]
  exact this
theorem Seg.one {k : Nat} (hl : r.length ≤ 40) (h : (((c k = 110 ∨ c k = 108) ∧ r' = false :: r) ∨ ((c k = 43 ∨ c k = 45 ∨ c k = 42 ∨ c k = 47 ∨ c k = 37) ∧ ∃ q, r = false :: false :: q ∧ r' = false :: q) ∨ ((c k = 60 ∨ c k = 62 ∨ c k = 61) ∧ ∃ q, r = false :: false :: q ∧ r' = true :: q) ∨ (c k = 33 ∧ ∃ q, r = true :: q ∧ r' = true :: q))) : Seg c w k (k + 1) r r' := by
  refine ⟨by omega, fun x => if x = k then r else r', if_pos rfl, if_neg (by omega), fun x h1 h2 => ?_⟩
  obtain rfl : x = k := by omega
  unfold sOk
  dsimp only
  rw [if_pos rfl, if_neg (show ¬ x + 1 = x by omega)]
  refine ⟨hl, ?_⟩
  rcases h with h | h | h | h
  · exact Or.inl h
  · exact Or.inr (Or.inl h)
  · exact Or.inr (Or.inr (Or.inl h))
  · exact Or.inr (Or.inr (Or.inr (Or.inl h)))
/-- a jump over what need not be asked -/
theorem Seg.jmp {j t : Nat} (hl : r.length < 40) (hc : c j = 38 ∨ c j = 124) (hw : w j = nI t) (h : Seg c w (j + 1) t r (true :: r)) : Seg c w j t (true :: r) (true :: r) := by
  obtain ⟨l1, t1, a1, b1, k1⟩ := h
  refine ⟨by omega, fun x => if x = j then true :: r else t1 x, if_pos rfl, by dsimp only; rw [if_neg (by omega)]; exact b1, fun x h1 h2 => ?_⟩
  by_cases q : x = j
  · subst q
    unfold sOk
    dsimp only
    rw [if_pos rfl, if_neg (show ¬ x + 1 = x by omega)]
    refine ⟨by simp; omega, Or.inr (Or.inr (Or.inr (Or.inr ⟨hc, r, rfl, a1, t, hw, by omega, Nat.le_refl _, ?_⟩)))⟩
    rw [if_neg (by omega)]; exact b1
  · exact (k1 x (by omega) h2).up h2 (fun y h3 h4 => if_neg (by omega)) (Nat.le_refl _)
end
