-- glasses: the class's table against it; who gives whom
def gW1 (A : Nat → Bool) (pa : Bool) : Nat → Nat
  | 0 => 0
  | j + 1 => if ¬ A (7 - j) = true ∨ pa = true then min 1000 (gW1 A pa j) else 1000
def gl1 (H : Nat → Bool) (ph : Bool) (c x : Nat) : Nat := if ¬ H c = true ∨ ph = true then min 1000 x else 1000
def gl2 (A : Nat → Bool) (pa : Bool) (e l x : Nat) : Nat := if ¬ A e = true ∨ pa = true then min l x else l
def gl3 (H A : Nat → Bool) (c e l x : Nat) : Nat := if H c = true ∧ A e = true then min l (ab c e + x) else l
def gWr (H A : Nat → Bool) (ph pa : Bool) (c : Nat) (prev : Nat → Nat) : Nat → Nat
  | 0 => gl1 H ph c (prev 0)
  | j + 1 => gl3 H A c (7 - j) (gl2 A pa (7 - j) (gl1 H ph c (prev (j + 1))) (gWr H A ph pa c prev j)) (prev j)
def gWk (H A : Nat → Bool) (ph pa : Bool) : Nat → Nat → Nat
  | 0 => gW1 A pa
  | k + 1 => gWr H A ph pa (7 - k) (gWk H A ph pa k)
def Wg (H A : Nat → Bool) (ph pa : Bool) (c e : Nat) : Nat := gWk H A ph pa (8 - c) (8 - e)
section
variable {H A : Nat → Bool} {ph pa : Bool}
theorem W_88 : Wg H A ph pa 8 8 = 0 := rfl
theorem W_8e {e : Nat} (he : e < 8) : Wg H A ph pa 8 e = gl2 A pa e 1000 (Wg H A ph pa 8 (e + 1)) := by
  unfold Wg
  obtain ⟨j, hj⟩ : ∃ j, 8 - e = j + 1 := ⟨7 - e, by omega⟩
  rw [hj, show 8 - (e + 1) = j by omega, show e = 7 - j by omega]
  rfl
theorem W_c8 {c : Nat} (hc : c < 8) : Wg H A ph pa c 8 = gl1 H ph c (Wg H A ph pa (c + 1) 8) := by
  unfold Wg
  obtain ⟨k, hk⟩ : ∃ k, 8 - c = k + 1 := ⟨7 - c, by omega⟩
  rw [hk, show 8 - (c + 1) = k by omega, show c = 7 - k by omega]
  rfl
theorem W_ce {c e : Nat} (hc : c < 8) (he : e < 8) : Wg H A ph pa c e = gl3 H A c e (gl2 A pa e (gl1 H ph c (Wg H A ph pa (c + 1) e)) (Wg H A ph pa c (e + 1))) (Wg H A ph pa (c + 1) (e + 1)) := by
  unfold Wg
  obtain ⟨k, hk⟩ : ∃ k, 8 - c = k + 1 := ⟨7 - c, by omega⟩
  obtain ⟨j, hj⟩ : ∃ j, 8 - e = j + 1 := ⟨7 - e, by omega⟩
  rw [hk, hj, show 8 - (c + 1) = k by omega, show 8 - (e + 1) = j by omega, show c = 7 - k by omega, show e = 7 - j by omega]
  rfl
theorem N_eq {c e : Nat} (h : c < 8) (he : e < 8) : Ng H A c e = gl3 H A c e (min (Ng H A (c + 1) e + pen H c) (Ng H A c (e + 1))) (Ng H A (c + 1) (e + 1)) := by
  have l1 := N_le1 (H := H) (A := A) h e
  have l2 := N_le2 (H := H) (A := A) c e
  unfold gl3
  by_cases q : H c = true ∧ A e = true
  · have l3 := N_le3 h he q.1 q.2
    rw [if_pos q]
    rcases N_at (H := H) (A := A) h he with q | q | ⟨_, _, q⟩ <;> omega
  · rw [if_neg q]
    rcases N_at (H := H) (A := A) h he with q' | q' | ⟨z1, z2, q'⟩
    · omega
    · omega
    · exact absurd ⟨z1, z2⟩ q
/-- fewer on the one side -/
theorem W_N1 (hph : ph = false) (hpa : pa = true) : ∀ (k c e : Nat), (8 - c) + (8 - e) = k → c ≤ 8 → e ≤ 8 → Wg H A ph pa c e = min 1000 (Ng H A c e) := by
  intro k
  induction k using Nat.strongRecOn with
  | ind k ih =>
    intro c e hk hc he
    by_cases h1 : c = 8
    · subst h1
      by_cases h2 : e = 8
      · subst h2; rw [W_88, N_8 (Nat.le_refl 8)]; rfl
      · have a2 := ih (8 - 8 + (8 - (e + 1))) (by omega) 8 (e + 1) rfl hc (by omega)
        rw [N_8 (Nat.le_refl 8)] at a2
        rw [W_8e (by omega), a2, N_8 (Nat.le_refl 8)]
        unfold gl2
        rw [if_pos (Or.inr hpa)]; rfl
    have a1 := ih (8 - (c + 1) + (8 - e)) (by omega) (c + 1) e rfl (by omega) he
    have g1 : gl1 H ph c (Wg H A ph pa (c + 1) e) = min 1000 (Ng H A (c + 1) e + pen H c) := by
      unfold gl1 pen
      rw [a1, hph]
      by_cases hh : H c = true
      · rw [if_neg (by simp [hh]), if_pos hh]; omega
      · rw [if_pos (Or.inl hh), if_neg hh]; omega
    by_cases h2 : e = 8
    · subst h2
      rw [W_c8 (by omega), g1, N_e8 (c := c) (by omega)]
    · have a2 := ih (8 - c + (8 - (e + 1))) (by omega) c (e + 1) rfl hc (by omega)
      have a3 := ih (8 - (c + 1) + (8 - (e + 1))) (by omega) (c + 1) (e + 1) rfl (by omega) (by omega)
      rw [W_ce (by omega) (by omega), g1, a2, a3, N_eq (c := c) (e := e) (by omega) (by omega)]
      unfold gl2 gl3
      rw [if_pos (Or.inr hpa)]
      by_cases q : H c = true ∧ A e = true
      · rw [if_pos q, if_pos q]; omega
      · rw [if_neg q, if_neg q]; omega
/-- as many on both -/
theorem W_N2 (hph : ph = false) (hpa : pa = false) : ∀ (k c e : Nat), (8 - c) + (8 - e) = k → c ≤ 8 → e ≤ 8 → (cnt H c = cnt A e → Wg H A ph pa c e = Ng H A c e) ∧ (cnt H c ≠ cnt A e → Wg H A ph pa c e = 1000) := by
  intro k
  induction k using Nat.strongRecOn with
  | ind k ih =>
    intro c e hk hc he
    have hi := N_hi (H := H) (A := A) _ c e rfl hc he
    by_cases h1 : c = 8
    · subst h1
      have cH := cnt_8 (P := H) (Nat.le_refl 8)
      by_cases h2 : e = 8
      · subst h2
        have cA := cnt_8 (P := A) (Nat.le_refl 8)
        exact ⟨fun _ => by rw [W_88, N_8 (Nat.le_refl 8)], fun h => absurd (by omega) h⟩
      · have a2 := ih (8 - 8 + (8 - (e + 1))) (by omega) 8 (e + 1) rfl hc (by omega)
        have cA := cnt_s (P := A) (show e < 8 by omega)
        rw [W_8e (by omega)]
        unfold gl2
        rw [N_8 (Nat.le_refl 8)] at a2 ⊢
        by_cases hA : A e = true
        · rw [if_pos hA] at cA
          rw [if_neg (by simp [hA, hpa])]
          exact ⟨fun h => by omega, fun _ => rfl⟩
        · rw [if_neg hA] at cA
          rw [if_pos (Or.inl hA)]
          refine ⟨fun h => ?_, fun h => ?_⟩
          · rw [a2.1 (by omega)]; rfl
          · rw [a2.2 (by omega)]; rfl
    have cH := cnt_s (P := H) (show c < 8 by omega)
    have a1 := ih (8 - (c + 1) + (8 - e)) (by omega) (c + 1) e rfl (by omega) he
    have hi1 := N_hi (H := H) (A := A) _ (c + 1) e rfl (by omega) he
    by_cases h2 : e = 8
    · subst h2
      have cA := cnt_8 (P := A) (Nat.le_refl 8)
      rw [W_c8 (by omega), N_e8 (by omega)]
      unfold gl1 pen
      by_cases hh : H c = true
      · rw [if_pos hh] at cH
        rw [if_neg (by simp [hh, hph]), if_pos hh]
        exact ⟨fun h => by omega, fun _ => rfl⟩
      · rw [if_neg hh] at cH
        rw [if_pos (Or.inl hh), if_neg hh]
        refine ⟨fun h => ?_, fun h => ?_⟩
        · rw [a1.1 (by omega)]; omega
        · rw [a1.2 (by omega)]; rfl
    have a2 := ih (8 - c + (8 - (e + 1))) (by omega) c (e + 1) rfl hc (by omega)
    have a3 := ih (8 - (c + 1) + (8 - (e + 1))) (by omega) (c + 1) (e + 1) rfl (by omega) (by omega)
    have lo2 := N_lo (H := H) (A := A) _ c (e + 1) rfl hc (by omega)
    have cA := cnt_s (P := A) (show e < 8 by omega)
    have ne := N_eq (H := H) (A := A) (show c < 8 by omega) (show e < 8 by omega)
    rw [W_ce (by omega) (by omega)]
    unfold gl1 gl2 gl3
    unfold gl3 pen at ne
    by_cases hh : H c = true
    · rw [if_pos hh] at cH ne
      rw [if_neg (show ¬ (¬ H c = true ∨ ph = true) by simp [hh, hph])]
      by_cases hA : A e = true
      · rw [if_pos hA] at cA
        rw [if_pos ⟨hh, hA⟩] at ne ⊢
        rw [if_neg (show ¬ (¬ A e = true ∨ pa = true) by simp [hA, hpa])]
        refine ⟨fun h => ?_, fun h => ?_⟩
        · rw [a3.1 (by omega)]
          omega
        · rw [a3.2 (by omega)]
          omega
      · rw [if_neg hA] at cA
        rw [if_neg (show ¬ (H c = true ∧ A e = true) by simp [hA])] at ne ⊢
        rw [if_pos (Or.inl hA)]
        refine ⟨fun h => ?_, fun h => ?_⟩
        · rw [a2.1 (by omega)]; omega
        · rw [a2.2 (by omega)]; omega
    · rw [if_neg hh] at cH ne
      rw [if_pos (Or.inl hh)]
      rw [if_neg (show ¬ (H c = true ∧ A e = true) by simp [hh])] at ne ⊢
      by_cases hA : A e = true
      · rw [if_pos hA] at cA
        rw [if_neg (show ¬ (¬ A e = true ∨ pa = true) by simp [hA, hpa])]
        refine ⟨fun h => ?_, fun h => ?_⟩
        · rw [a1.1 (by omega)]; omega
        · rw [a1.2 (by omega)]; omega
      · rw [if_neg hA] at cA
        rw [if_pos (Or.inl hA)]
        refine ⟨fun h => ?_, fun h => ?_⟩
        · rw [a1.1 (by omega), a2.1 (by omega)]; omega
        · rw [a1.2 (by omega), a2.2 (by omega)]; omega
/-- more on the one side -/
theorem W_N3 (hph : ph = true) (hpa : pa = false) : ∀ (k c e : Nat), (8 - c) + (8 - e) = k → c ≤ 8 → e ≤ 8 → (cnt A e ≤ cnt H c → Wg H A ph pa c e + 1000 * (cnt H c - cnt A e) = Ng H A c e) ∧ (cnt H c < cnt A e → Wg H A ph pa c e = 1000) := by
  intro k
  induction k using Nat.strongRecOn with
  | ind k ih =>
    intro c e hk hc he
    have hi := N_hi (H := H) (A := A) _ c e rfl hc he
    by_cases h1 : c = 8
    · subst h1
      have cH := cnt_8 (P := H) (Nat.le_refl 8)
      by_cases h2 : e = 8
      · subst h2
        have cA := cnt_8 (P := A) (Nat.le_refl 8)
        exact ⟨fun _ => by rw [W_88, N_8 (Nat.le_refl 8)]; omega, fun h => absurd h (by omega)⟩
      · have a2 := ih (8 - 8 + (8 - (e + 1))) (by omega) 8 (e + 1) rfl hc (by omega)
        have cA := cnt_s (P := A) (show e < 8 by omega)
        rw [W_8e (by omega)]
        unfold gl2
        rw [N_8 (Nat.le_refl 8)] at a2 ⊢
        by_cases hA : A e = true
        · rw [if_pos hA] at cA
          rw [if_neg (by simp [hA, hpa])]
          exact ⟨fun h => by omega, fun _ => rfl⟩
        · rw [if_neg hA] at cA
          rw [if_pos (Or.inl hA)]
          refine ⟨fun h => ?_, fun h => ?_⟩
          · have := a2.1 (by omega); omega
          · rw [a2.2 (by omega)]; rfl
    have cH := cnt_s (P := H) (show c < 8 by omega)
    have a1 := ih (8 - (c + 1) + (8 - e)) (by omega) (c + 1) e rfl (by omega) he
    have hi1 := N_hi (H := H) (A := A) _ (c + 1) e rfl (by omega) he
    have lo1 := N_lo (H := H) (A := A) _ (c + 1) e rfl (by omega) he
    have wl1 : Wg H A ph pa (c + 1) e ≤ 1000 ∨ cnt A e ≤ cnt H (c + 1) := by
      by_cases q : cnt A e ≤ cnt H (c + 1)
      · exact Or.inr q
      · left; rw [a1.2 (by omega)]; exact Nat.le_refl _
    by_cases h2 : e = 8
    · subst h2
      have cA := cnt_8 (P := A) (Nat.le_refl 8)
      have b1 := a1.1 (by omega)
      rw [W_c8 (by omega), N_e8 (by omega)]
      unfold gl1 pen
      rw [if_pos (Or.inr hph)]
      refine ⟨fun h => ?_, fun h => absurd h (by omega)⟩
      by_cases hh : H c = true
      · rw [if_pos hh] at cH ⊢; omega
      · rw [if_neg hh] at cH ⊢; omega
    have a2 := ih (8 - c + (8 - (e + 1))) (by omega) c (e + 1) rfl hc (by omega)
    have a3 := ih (8 - (c + 1) + (8 - (e + 1))) (by omega) (c + 1) (e + 1) rfl (by omega) (by omega)
    have lo2 := N_lo (H := H) (A := A) _ c (e + 1) rfl hc (by omega)
    have cA := cnt_s (P := A) (show e < 8 by omega)
    have ne := N_eq (H := H) (A := A) (show c < 8 by omega) (show e < 8 by omega)
    rw [W_ce (by omega) (by omega)]
    unfold gl1 gl2 gl3
    unfold gl3 pen at ne
    rw [if_pos (show ¬ H c = true ∨ ph = true from Or.inr hph)]
    by_cases hh : H c = true
    · rw [if_pos hh] at cH ne
      by_cases hA : A e = true
      · rw [if_pos hA] at cA
        rw [if_pos ⟨hh, hA⟩] at ne ⊢
        rw [if_neg (show ¬ (¬ A e = true ∨ pa = true) by simp [hA, hpa])]
        refine ⟨fun h => ?_, fun h => ?_⟩
        · have b3 := a3.1 (by omega)
          by_cases q : cnt A e ≤ cnt H (c + 1)
          · have b1 := a1.1 q
            omega
          · have b1 := a1.2 (by omega)
            omega
        · have b1 := a1.2 (by omega)
          have b3 := a3.2 (by omega)
          omega
      · rw [if_neg hA] at cA
        rw [if_neg (show ¬ (H c = true ∧ A e = true) by simp [hA])] at ne ⊢
        rw [if_pos (Or.inl hA)]
        refine ⟨fun h => ?_, fun h => ?_⟩
        · have b2 := a2.1 (by omega)
          by_cases q : cnt A e ≤ cnt H (c + 1)
          · have b1 := a1.1 q
            omega
          · have b1 := a1.2 (by omega)
            omega
        · have b1 := a1.2 (by omega)
          have b2 := a2.2 (by omega)
          omega
    · rw [if_neg hh] at cH ne
      rw [if_neg (show ¬ (H c = true ∧ A e = true) by simp [hh])] at ne ⊢
      by_cases hA : A e = true
      · rw [if_pos hA] at cA
        rw [if_neg (show ¬ (¬ A e = true ∨ pa = true) by simp [hA, hpa])]
        refine ⟨fun h => ?_, fun h => ?_⟩
        · have b1 := a1.1 (by omega)
          omega
        · have b1 := a1.2 (by omega)
          omega
      · rw [if_neg hA] at cA
        rw [if_pos (Or.inl hA)]
        refine ⟨fun h => ?_, fun h => ?_⟩
        · have b1 := a1.1 (by omega)
          have b2 := a2.1 (by omega)
          omega
        · have b1 := a1.2 (by omega)
          have b2 := a2.2 (by omega)
          omega
end
