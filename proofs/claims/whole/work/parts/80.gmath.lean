-- glasses: the least way, and that it never crosses
def ab (c e : Nat) : Nat := (c - e) + (e - c)
def rm (F : Nat → Bool) (e : Nat) : Nat → Bool := fun x => F x && !decide (x = e)
def ad (F : Nat → Bool) (e : Nat) : Nat → Bool := fun x => F x || decide (x = e)
def fr (A : Nat → Bool) (e : Nat) : Nat → Bool := fun x => A x && decide (e ≤ x)
def pen (H : Nat → Bool) (c : Nat) : Nat := if H c = true then 1000 else 0
def gO (H : Nat → Bool) (V : (Nat → Bool) → Nat) (c : Nat) (F : Nat → Bool) : Nat → Nat
  | 0 => V F + pen H c
  | e + 1 => if H c = true ∧ F e = true then min (gO H V c F e) (V (rm F e) + ab c e) else gO H V c F e
def gU (H : Nat → Bool) : Nat → (Nat → Bool) → Nat
  | 0 => fun _ => 0
  | k + 1 => fun F => gO H (gU H k) (7 - k) F 8
def Ug (H : Nat → Bool) (c : Nat) (F : Nat → Bool) : Nat := gU H (8 - c) F
theorem rm_t {F : Nat → Bool} {e x : Nat} : rm F e x = true ↔ F x = true ∧ x ≠ e := by simp [rm]
theorem ad_t {F : Nat → Bool} {e x : Nat} : ad F e x = true ↔ F x = true ∨ x = e := by simp [ad]
theorem fr_t {F : Nat → Bool} {e x : Nat} : fr F e x = true ↔ F x = true ∧ e ≤ x := by simp [fr]
theorem bx {a b : Bool} (h : a = true ↔ b = true) : a = b := by cases a <;> cases b <;> simp_all
theorem rm_ad_self {G : Nat → Bool} {e : Nat} (h : ¬ G e = true) : rm (ad G e) e = G := by
  funext x
  refine bx ?_
  rw [rm_t, ad_t]
  constructor
  · rintro ⟨h1 | h1, h2⟩
    · exact h1
    · exact absurd h1 h2
  · intro h1
    exact ⟨Or.inl h1, fun e' => h (e' ▸ h1)⟩
theorem rm_ad_ne {G : Nat → Bool} {e e2 : Nat} (h : e2 ≠ e) : rm (ad G e) e2 = ad (rm G e2) e := by
  funext x
  refine bx ?_
  rw [rm_t, ad_t, ad_t, rm_t]
  constructor
  · rintro ⟨h1 | h1, h2⟩
    · exact Or.inl ⟨h1, h2⟩
    · exact Or.inr h1
  · rintro (⟨h1, h2⟩ | h1)
    · exact ⟨Or.inl h1, h2⟩
    · exact ⟨Or.inr h1, fun e' => h (e'.symm.trans h1)⟩
theorem ad_rm_self {F : Nat → Bool} {e : Nat} (h : F e = true) : ad (rm F e) e = F := by
  funext x
  refine bx ?_
  rw [ad_t, rm_t]
  constructor
  · rintro (⟨h1, _⟩ | h1)
    · exact h1
    · rw [h1]; exact h
  · intro h1
    by_cases e' : x = e
    · exact Or.inr e'
    · exact Or.inl ⟨h1, e'⟩
theorem rm_comm {F : Nat → Bool} {a b : Nat} : rm (rm F a) b = rm (rm F b) a := by
  funext x
  refine bx ?_
  rw [rm_t, rm_t, rm_t, rm_t]
  exact ⟨fun ⟨⟨h1, h2⟩, h3⟩ => ⟨⟨h1, h3⟩, h2⟩, fun ⟨⟨h1, h2⟩, h3⟩ => ⟨⟨h1, h3⟩, h2⟩⟩
section
variable {H : Nat → Bool} {V : (Nat → Bool) → Nat} {c : Nat} {F : Nat → Bool}
theorem gO_le0 : ∀ n, gO H V c F n ≤ V F + pen H c := by
  intro n
  induction n with
  | zero => exact Nat.le_refl _
  | succ n ih =>
    have e0 : gO H V c F (n + 1) = if H c = true ∧ F n = true then min (gO H V c F n) (V (rm F n) + ab c n) else gO H V c F n := rfl
    rw [e0]
    by_cases q : H c = true ∧ F n = true
    · rw [if_pos q]; exact Nat.le_trans (Nat.min_le_left _ _) ih
    · rw [if_neg q]; exact ih
theorem gO_le (hH : H c = true) {e : Nat} (hF : F e = true) : ∀ n, e < n → gO H V c F n ≤ V (rm F e) + ab c e := by
  intro n
  induction n with
  | zero => intro h; omega
  | succ n ih =>
    intro h
    have e0 : gO H V c F (n + 1) = if H c = true ∧ F n = true then min (gO H V c F n) (V (rm F n) + ab c n) else gO H V c F n := rfl
    rw [e0]
    by_cases q : e = n
    · subst q
      rw [if_pos ⟨hH, hF⟩]; exact Nat.min_le_right _ _
    · have := ih (by omega)
      by_cases q2 : H c = true ∧ F n = true
      · rw [if_pos q2]; exact Nat.le_trans (Nat.min_le_left _ _) this
      · rw [if_neg q2]; exact this
theorem gO_at : ∀ n, gO H V c F n = V F + pen H c ∨ ∃ e, e < n ∧ H c = true ∧ F e = true ∧ gO H V c F n = V (rm F e) + ab c e := by
  intro n
  induction n with
  | zero => exact Or.inl rfl
  | succ n ih =>
    have e0 : gO H V c F (n + 1) = if H c = true ∧ F n = true then min (gO H V c F n) (V (rm F n) + ab c n) else gO H V c F n := rfl
    rw [e0]
    by_cases q : H c = true ∧ F n = true
    · rw [if_pos q]
      by_cases q2 : gO H V c F n ≤ V (rm F n) + ab c n
      · rw [Nat.min_eq_left q2]
        rcases ih with h | ⟨e, h1, h2⟩
        · exact Or.inl h
        · exact Or.inr ⟨e, by omega, h2⟩
      · rw [Nat.min_eq_right (by omega)]
        exact Or.inr ⟨n, by omega, q.1, q.2, rfl⟩
    · rw [if_neg q]
      rcases ih with h | ⟨e, h1, h2⟩
      · exact Or.inl h
      · exact Or.inr ⟨e, by omega, h2⟩
end
section
variable {H : Nat → Bool}
theorem U_s {c : Nat} (h : c < 8) (F : Nat → Bool) : Ug H c F = gO H (Ug H (c + 1)) c F 8 := by
  unfold Ug
  obtain ⟨k, hk⟩ : ∃ k, 8 - c = k + 1 := ⟨7 - c, by omega⟩
  rw [hk]
  show gO H (gU H k) (7 - k) F 8 = _
  rw [show 7 - k = c by omega]
  congr 1
  funext F
  rw [show 8 - (c + 1) = k by omega]
theorem U_8 {c : Nat} (h : 8 ≤ c) (F : Nat → Bool) : Ug H c F = 0 := by
  unfold Ug
  rw [show 8 - c = 0 by omega]; rfl
theorem U_le0 {c : Nat} (h : c < 8) (F : Nat → Bool) : Ug H c F ≤ Ug H (c + 1) F + pen H c := by
  rw [U_s h]; exact gO_le0 8
theorem U_le {c e : Nat} (h : c < 8) (he : e < 8) (hH : H c = true) {F : Nat → Bool} (hF : F e = true) : Ug H c F ≤ Ug H (c + 1) (rm F e) + ab c e := by
  rw [U_s h]; exact gO_le hH hF 8 he
theorem U_at {c : Nat} (h : c < 8) (F : Nat → Bool) : Ug H c F = Ug H (c + 1) F + pen H c ∨ ∃ e, e < 8 ∧ H c = true ∧ F e = true ∧ Ug H c F = Ug H (c + 1) (rm F e) + ab c e := by
  rw [U_s h]; exact gO_at 8
theorem U_mono : ∀ (k c : Nat) (F F' : Nat → Bool), 8 - c = k → (∀ e, e < 8 → F e = true → F' e = true) → Ug H c F' ≤ Ug H c F := by
  intro k
  induction k with
  | zero => intro c F F' hk _; rw [U_8 (by omega), U_8 (by omega)]; exact Nat.le_refl _
  | succ k ih =>
    intro c F F' hk h
    rcases U_at (H := H) (show c < 8 by omega) F with q | ⟨e, he, hH, hF, q⟩
    · have := ih (c + 1) F F' (by omega) h
      have := U_le0 (H := H) (show c < 8 by omega) F'
      omega
    · have := ih (c + 1) (rm F e) (rm F' e) (by omega) (fun x hx hr => rm_t.mpr ⟨h x hx (rm_t.mp hr).1, (rm_t.mp hr).2⟩)
      have := U_le (H := H) (show c < 8 by omega) he hH (h e he hF)
      omega
theorem U_ext {c : Nat} {F F' : Nat → Bool} (h : ∀ e, e < 8 → (F e = true ↔ F' e = true)) : Ug H c F = Ug H c F' :=
  Nat.le_antisymm (U_mono _ c F' F rfl (fun e he => (h e he).mpr)) (U_mono _ c F F' rfl (fun e he => (h e he).mp))
theorem ab_x {p c e e' : Nat} (hp : p ≤ c) (he : e ≤ e') : ab p e + ab c e' ≤ ab p e' + ab c e := by
  unfold ab; omega
/-- two that give theirs crosswise may change -/
theorem U_X {p e e' : Nat} (he : e < e') (he8 : e' < 8) : ∀ (k c : Nat) (G : Nat → Bool), 8 - c = k → p ≤ c → ¬ G e = true → ¬ G e' = true → Ug H c G ≤ Ug H c (ad G e) ∨ ab p e + Ug H c (ad G e') ≤ ab p e' + Ug H c (ad G e) := by
  intro k
  induction k with
  | zero => intro c G hk _ _ _; left; rw [U_8 (by omega), U_8 (by omega)]; exact Nat.le_refl _
  | succ k ih =>
    intro c G hk hp g1 g2
    have hc : c < 8 := by omega
    rcases U_at (H := H) hc (ad G e) with q | ⟨x, hx, hH, hF, q⟩
    · rcases ih (c + 1) G (by omega) (by omega) g1 g2 with r | r
      · left
        have := U_le0 (H := H) hc G
        omega
      · right
        have := U_le0 (H := H) hc (ad G e')
        omega
    · by_cases hxe : x = e
      · right
        rw [hxe, rm_ad_self g1] at q
        have := U_le (H := H) hc he8 hH (F := ad G e') (ad_t.mpr (Or.inr rfl))
        rw [rm_ad_self g2] at this
        have := ab_x hp (Nat.le_of_lt he)
        omega
      · have hG : G x = true := by
          rcases ad_t.mp hF with h | h
          · exact h
          · exact absurd h hxe
        have hxe' : x ≠ e' := fun h => g2 (h ▸ hG)
        rw [rm_ad_ne hxe] at q
        rcases ih (c + 1) (rm G x) (by omega) (by omega) (fun h => g1 (rm_t.mp h).1) (fun h => g2 (rm_t.mp h).1) with r | r
        · left
          have := U_le (H := H) hc hx hH hG
          omega
        · right
          have := U_le (H := H) hc hx hH (F := ad G e') (ad_t.mpr (Or.inl hG))
          rw [rm_ad_ne hxe'] at this
          omega
end
def cn (P : Nat → Bool) : Nat → Nat
  | 0 => 0
  | k + 1 => cn P k + (if P (7 - k) = true then 1 else 0)
def cnt (P : Nat → Bool) (c : Nat) : Nat := cn P (8 - c)
theorem cnt_s {P : Nat → Bool} {c : Nat} (h : c < 8) : cnt P c = cnt P (c + 1) + (if P c = true then 1 else 0) := by
  unfold cnt
  obtain ⟨k, hk⟩ : ∃ k, 8 - c = k + 1 := ⟨7 - c, by omega⟩
  rw [hk, show 8 - (c + 1) = k by omega]
  show cn P k + _ = _
  rw [show 7 - k = c by omega]
theorem cnt_8 {P : Nat → Bool} {c : Nat} (h : 8 ≤ c) : cnt P c = 0 := by
  unfold cnt
  rw [show 8 - c = 0 by omega]; rfl
theorem cnt_mono {P : Nat → Bool} : ∀ (k c : Nat), cnt P (c + k) ≤ cnt P c := by
  intro k
  induction k with
  | zero => intro c; exact Nat.le_refl _
  | succ k ih =>
    intro c
    refine Nat.le_trans ?_ (ih c)
    by_cases h : c + k < 8
    · rw [cnt_s h]; exact Nat.le_add_right _ _
    · rw [cnt_8 (show 8 ≤ c + (k + 1) by omega)]; omega
/-- the least way where nobody crosses -/
def Ng (H A : Nat → Bool) (c e : Nat) : Nat := Ug H c (fr A e)
section
variable {H A : Nat → Bool}
theorem N_8 {c : Nat} (h : 8 ≤ c) (e : Nat) : Ng H A c e = 0 := U_8 h _
theorem N_e8 {c : Nat} (h : c < 8) : Ng H A c 8 = Ng H A (c + 1) 8 + pen H c := by
  rcases U_at (H := H) h (fr A 8) with q | ⟨x, hx, hH, hF, q⟩
  · exact q
  · have := (fr_t.mp hF).2; omega
theorem N_le1 {c : Nat} (h : c < 8) (e : Nat) : Ng H A c e ≤ Ng H A (c + 1) e + pen H c := U_le0 h _
theorem N_le2 (c e : Nat) : Ng H A c e ≤ Ng H A c (e + 1) := U_mono _ c _ _ rfl (fun x _ hx => fr_t.mpr ⟨(fr_t.mp hx).1, by have := (fr_t.mp hx).2; omega⟩)
theorem fr_rm {e : Nat} : rm (fr A e) e = fr A (e + 1) := by
  funext x
  refine bx ?_
  rw [rm_t, fr_t, fr_t]
  exact ⟨fun ⟨⟨h1, h2⟩, h3⟩ => ⟨h1, by omega⟩, fun ⟨h1, h2⟩ => ⟨⟨h1, by omega⟩, by omega⟩⟩
theorem fr_ad {e : Nat} (h : A e = true) : ad (fr A (e + 1)) e = fr A e := by
  funext x
  refine bx ?_
  rw [ad_t, fr_t, fr_t]
  constructor
  · rintro (⟨h1, h2⟩ | h1)
    · exact ⟨h1, by omega⟩
    · rw [h1]; exact ⟨h, Nat.le_refl _⟩
  · rintro ⟨h1, h2⟩
    by_cases q : x = e
    · exact Or.inr q
    · exact Or.inl ⟨h1, by omega⟩
theorem fr_no {e : Nat} (h : ¬ A e = true) : fr A (e + 1) = fr A e := by
  funext x
  refine bx ?_
  rw [fr_t, fr_t]
  constructor
  · rintro ⟨h1, h2⟩
    exact ⟨h1, by omega⟩
  · rintro ⟨h1, h2⟩
    refine ⟨h1, ?_⟩
    by_cases q : x = e
    · exact absurd (q ▸ h1) h
    · omega
theorem N_le3 {c e : Nat} (h : c < 8) (he : e < 8) (hH : H c = true) (hA : A e = true) : Ng H A c e ≤ ab c e + Ng H A (c + 1) (e + 1) := by
  have := U_le (H := H) h he hH (F := fr A e) (fr_t.mpr ⟨hA, Nat.le_refl _⟩)
  rw [fr_rm] at this
  unfold Ng
  omega
theorem N_at {c e : Nat} (h : c < 8) (he : e < 8) : Ng H A c e = Ng H A (c + 1) e + pen H c ∨ Ng H A c e = Ng H A c (e + 1) ∨ (H c = true ∧ A e = true ∧ Ng H A c e = ab c e + Ng H A (c + 1) (e + 1)) := by
  by_cases hA : A e = true
  rotate_left
  · right; left
    unfold Ng
    rw [fr_no hA]
  rcases U_at (H := H) h (fr A e) with q | ⟨x, hx, hH, hF, q⟩
  · exact Or.inl q
  by_cases hxe : x = e
  · right; right
    rw [hxe, fr_rm] at q
    exact ⟨hH, hA, by unfold Ng; omega⟩
  · have hx2 := fr_t.mp hF
    have l2 := N_le2 (H := H) (A := A) c e
    have l3 := N_le3 h he hH hA
    rw [← fr_ad hA, rm_ad_ne hxe] at q
    have hG : fr A (e + 1) x = true := fr_t.mpr ⟨hx2.1, by omega⟩
    rcases U_X (H := H) (p := c) (e := e) (e' := x) (by omega) hx (8 - (c + 1)) (c + 1) (rm (fr A (e + 1)) x) rfl (by omega) (fun z => by have := (fr_t.mp (rm_t.mp z).1).2; omega) (fun z => (rm_t.mp z).2 rfl) with r | r
    · right; left
      have := U_le (H := H) h hx hH hG
      have e1 : Ng H A c e = Ug H c (ad (fr A (e + 1)) e) := by rw [fr_ad hA]; rfl
      have e2 : Ng H A c (e + 1) = Ug H c (fr A (e + 1)) := rfl
      omega
    · right; right
      rw [ad_rm_self hG] at r
      have e1 : Ng H A c e = Ug H c (ad (fr A (e + 1)) e) := by rw [fr_ad hA]; rfl
      have e2 : Ng H A (c + 1) (e + 1) = Ug H (c + 1) (fr A (e + 1)) := rfl
      refine ⟨hH, hA, ?_⟩
      omega
theorem N_lo : ∀ (k c e : Nat), (8 - c) + (8 - e) = k → c ≤ 8 → e ≤ 8 → 1000 * cnt H c ≤ Ng H A c e + 1000 * cnt A e := by
  intro k
  induction k using Nat.strongRecOn with
  | ind k ih =>
    intro c e hk hc he
    by_cases h1 : c = 8
    · rw [h1, cnt_8 (Nat.le_refl 8)]; omega
    by_cases h2 : e = 8
    · have := ih (8 - (c + 1) + (8 - e)) (by omega) (c + 1) e rfl (by omega) he
      have e1 := N_e8 (H := H) (A := A) (show c < 8 by omega)
      rw [h2] at this ⊢
      rw [cnt_s (show c < 8 by omega)]
      unfold pen at e1
      by_cases hh : H c = true
      · rw [if_pos hh] at e1 ⊢; omega
      · rw [if_neg hh] at e1 ⊢; omega
    have a1 := ih (8 - (c + 1) + (8 - e)) (by omega) (c + 1) e rfl (by omega) he
    have a2 := ih (8 - c + (8 - (e + 1))) (by omega) c (e + 1) rfl hc (by omega)
    have a3 := ih (8 - (c + 1) + (8 - (e + 1))) (by omega) (c + 1) (e + 1) rfl (by omega) (by omega)
    have cA := cnt_s (P := A) (show e < 8 by omega)
    have cH := cnt_s (P := H) (show c < 8 by omega)
    rcases N_at (H := H) (A := A) (show c < 8 by omega) (show e < 8 by omega) with q | q | ⟨q1, q2, q⟩
    · unfold pen at q
      by_cases hh : H c = true
      · rw [if_pos hh] at q cH; omega
      · rw [if_neg hh] at q cH; omega
    · omega
    · rw [if_pos q1] at cH
      rw [if_pos q2] at cA
      omega
theorem N_hi : ∀ (k c e : Nat), (8 - c) + (8 - e) = k → c ≤ 8 → e ≤ 8 → Ng H A c e ≤ 1000 * (cnt H c - cnt A e) + 7 * (8 - c) := by
  intro k
  induction k using Nat.strongRecOn with
  | ind k ih =>
    intro c e hk hc he
    by_cases h1 : c = 8
    · rw [h1, N_8 (Nat.le_refl 8)]; omega
    have cH := cnt_s (P := H) (show c < 8 by omega)
    have a1 := ih (8 - (c + 1) + (8 - e)) (by omega) (c + 1) e rfl (by omega) he
    by_cases h2 : e = 8
    · have e1 := N_e8 (H := H) (A := A) (show c < 8 by omega)
      rw [h2] at a1 ⊢
      rw [cnt_8 (P := A) (Nat.le_refl 8)] at a1 ⊢
      unfold pen at e1
      by_cases hh : H c = true
      · rw [if_pos hh] at e1 cH; omega
      · rw [if_neg hh] at e1 cH; omega
    have a2 := ih (8 - c + (8 - (e + 1))) (by omega) c (e + 1) rfl hc (by omega)
    have a3 := ih (8 - (c + 1) + (8 - (e + 1))) (by omega) (c + 1) (e + 1) rfl (by omega) (by omega)
    have cA := cnt_s (P := A) (show e < 8 by omega)
    by_cases hA : A e = true
    · by_cases hh : H c = true
      · have := N_le3 (show c < 8 by omega) (show e < 8 by omega) hh hA
        have : ab c e ≤ 7 := by unfold ab; omega
        rw [if_pos hh] at cH
        rw [if_pos hA] at cA
        omega
      · have := N_le1 (H := H) (A := A) (show c < 8 by omega) e
        unfold pen at this
        rw [if_neg hh] at this cH
        omega
    · have := N_le2 (H := H) (A := A) c e
      rw [if_neg hA] at cA
      omega
end
