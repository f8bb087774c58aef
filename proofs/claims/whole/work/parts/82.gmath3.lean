-- glasses: one after the other chooses
/-- those left behind on the other side are of no use any more -/
def Tg (H : Nat → Bool) (c : Nat) (F : Nat → Bool) (f : Nat) : Prop := ∀ e, e < f → F e = true → ∃ p e', p ≤ c ∧ e < e' ∧ e' < 8 ∧ ¬ F e' = true ∧ ab p e' + Ug H c F < ab p e + Ug H c (ad (rm F e) e')
section
variable {H A : Nat → Bool} {c f : Nat} {F : Nat → Bool}
theorem T_no (hc : c < 8) (hH : H c = true) (hT : Tg H c F f) {e : Nat} (he : e < f) (hF : F e = true) : ¬ Ug H (c + 1) (rm F e) + ab c e = Ug H c F := by
  obtain ⟨p, e', hp, h1, h2, h3, h4⟩ := hT e he hF
  intro q
  have h5 := U_le (H := H) hc h2 hH (F := ad (rm F e) e') (ad_t.mpr (Or.inr rfl))
  rw [rm_ad_self (fun z => h3 (rm_t.mp z).1)] at h5
  have := ab_x hp (Nat.le_of_lt h1)
  omega
theorem T_skip (hc : c < 8) (hT : Tg H c F f) (hU : Ug H c F = Ug H (c + 1) F + pen H c) : Tg H (c + 1) F f := by
  intro e he hF
  obtain ⟨p, e', hp, h1, h2, h3, h4⟩ := hT e he hF
  refine ⟨p, e', by omega, h1, h2, h3, ?_⟩
  have := U_le0 (H := H) hc (ad (rm F e) e')
  omega
theorem T_take (hc : c < 8) (hH : H c = true) (hT : Tg H c F f) {x : Nat} (hx : x < 8) (hF : F x = true) (hU : Ug H c F = Ug H (c + 1) (rm F x) + ab c x) {e : Nat} (he : e < f) (hFe : F e = true) (hne : e ≠ x) : ∃ p e', p ≤ c + 1 ∧ e < e' ∧ e' < 8 ∧ ¬ rm F x e' = true ∧ ab p e' + Ug H (c + 1) (rm F x) < ab p e + Ug H (c + 1) (ad (rm (rm F x) e) e') := by
  obtain ⟨p, e', hp, h1, h2, h3, h4⟩ := hT e he hFe
  refine ⟨p, e', by omega, h1, h2, fun z => h3 (rm_t.mp z).1, ?_⟩
  have hxe : x ≠ e' := fun z => h3 (z ▸ hF)
  have h5 := U_le (H := H) hc hx hH (F := ad (rm F e) e') (ad_t.mpr (Or.inl (rm_t.mpr ⟨hF, fun z => hne z.symm⟩)))
  rw [rm_ad_ne hxe, rm_comm] at h5
  omega
theorem T_Z : ∀ (k c : Nat) (F : Nat → Bool), 8 - c = k → Tg H c F f → Ug H c F = Ug H c (fr F f) := by
  intro k
  induction k with
  | zero => intro c F hk _; rw [U_8 (by omega), U_8 (by omega)]
  | succ k ih =>
    intro c F hk hT
    have hc : c < 8 := by omega
    have hm := U_mono (H := H) _ c (fr F f) F rfl (fun x _ hx => (fr_t.mp hx).1)
    rcases U_at (H := H) hc F with q | ⟨x, hx, hH, hF, q⟩
    · have := ih (c + 1) F (by omega) (T_skip hc hT q)
      have := U_le0 (H := H) hc (fr F f)
      omega
    · have hxf : f ≤ x := by
        by_cases z : x < f
        · exact absurd q.symm (T_no hc hH hT z hF)
        · omega
      have hT' : Tg H (c + 1) (rm F x) f := fun e he hFe => T_take hc hH hT hx hF q he (rm_t.mp hFe).1 (rm_t.mp hFe).2
      have h1 := ih (c + 1) (rm F x) (by omega) hT'
      have e1 : fr (rm F x) f = rm (fr F f) x := by
        funext y
        refine bx ?_
        rw [fr_t, rm_t, rm_t, fr_t]
        exact ⟨fun ⟨⟨a, b⟩, d⟩ => ⟨⟨a, d⟩, b⟩, fun ⟨⟨a, b⟩, d⟩ => ⟨⟨a, d⟩, b⟩⟩
      rw [e1] at h1
      have := U_le (H := H) hc hx hH (F := fr F f) (fr_t.mpr ⟨hF, hxf⟩)
      omega
def Jg (H A : Nat → Bool) (c : Nat) (F : Nat → Bool) (f : Nat) : Prop := (∀ x, f ≤ x → x < 8 → (F x = true ↔ A x = true)) ∧ Tg H c F f
theorem J_N (hJ : Jg H A c F f) : Ug H c F = Ng H A c f := by
  rw [T_Z _ c F rfl hJ.2]
  refine U_ext (fun e he => ?_)
  rw [fr_t, fr_t]
  exact ⟨fun ⟨a, b⟩ => ⟨(hJ.1 e b he).mp a, b⟩, fun ⟨a, b⟩ => ⟨(hJ.1 e b he).mpr a, b⟩⟩
theorem J_take (hc : c < 8) (hH : H c = true) (hJ : Jg H A c F f) {e : Nat} (hfe : f ≤ e) (he : e < 8) (hF : F e = true) (hU : Ug H (c + 1) (rm F e) + ab c e = Ug H c F) (hl : ∀ x, x < e → F x = true → ¬ Ug H (c + 1) (rm F x) + ab c x = Ug H c F) : Jg H A (c + 1) (rm F e) (e + 1) := by
  refine ⟨fun x h1 h2 => ?_, fun x hx hr => ?_⟩
  · rw [rm_t]
    exact ⟨fun ⟨a, _⟩ => (hJ.1 x (by omega) h2).mp a, fun a => ⟨(hJ.1 x (by omega) h2).mpr a, by omega⟩⟩
  · obtain ⟨hFx, hne⟩ := rm_t.mp hr
    by_cases q : x < f
    · exact T_take hc hH hJ.2 he hF hU.symm q hFx hne
    · refine ⟨c, e, by omega, by omega, he, fun z => (rm_t.mp z).2 rfl, ?_⟩
      have h1 := hl x (by omega) hFx
      have h2 := U_le (H := H) hc (show x < 8 by omega) hH hFx
      have e1 : ad (rm (rm F e) x) e = rm F x := by
        rw [rm_comm, ad_rm_self (rm_t.mpr ⟨hF, fun z => hne z.symm⟩)]
      rw [e1]
      omega
theorem J_skip (hc : c < 8) (hJ : Jg H A c F f) (hU : Ug H c F = Ug H (c + 1) F + pen H c) : Jg H A (c + 1) F f := ⟨hJ.1, T_skip hc hJ.2 hU⟩
theorem N_ref (hc : c < 8) (hH : H c = true) (hJ : Jg H A c F f) {e : Nat} (hfe : f ≤ e) (he : e < 8) (hA : A e = true) (h : ab c e + Ng H A (c + 1) (e + 1) = Ng H A c f) : Ug H (c + 1) (rm F e) + ab c e = Ug H c F := by
  have hF := (hJ.1 e hfe he).mpr hA
  have h1 := U_le (H := H) hc he hH hF
  have h2 : Ug H (c + 1) (rm F e) ≤ Ng H A (c + 1) (e + 1) := U_mono _ (c + 1) _ _ rfl (fun x hx hr => by
    obtain ⟨a, b⟩ := fr_t.mp hr
    exact rm_t.mpr ⟨(hJ.1 x (by omega) hx).mpr a, by omega⟩)
  have h3 := J_N hJ
  omega
theorem cnt_none {P : Nat → Bool} : ∀ (k f : Nat), f + k ≤ 8 → (∀ x, f ≤ x → x < f + k → ¬ P x = true) → cnt P f = cnt P (f + k) := by
  intro k
  induction k with
  | zero => intro f _ _; rfl
  | succ k ih =>
    intro f h1 h2
    rw [ih f (by omega) (fun x a b => h2 x a (by omega)), cnt_s (show f + k < 8 by omega), if_neg (h2 (f + k) (by omega) (by omega))]
    rfl
end
section
variable {H A : Nat → Bool} {ph pa : Bool}
def Bal (H A : Nat → Bool) (ph pa : Bool) (c e : Nat) : Prop := (pa = true → ph = false ∧ cnt H c ≤ cnt A e) ∧ (pa = false → ph = false → cnt H c = cnt A e) ∧ (ph = true → pa = false ∧ cnt A e ≤ cnt H c)
theorem Bal_W {c e : Nat} (hb : Bal H A ph pa c e) (hc : c ≤ 8) (he : e ≤ 8) : Wg H A ph pa c e + 1000 * (cnt H c - cnt A e) = Ng H A c e := by
  have hi := N_hi (H := H) (A := A) _ c e rfl hc he
  rcases (show pa = false ∨ pa = true by cases pa <;> simp) with hpa | hpa
  · rcases (show ph = false ∨ ph = true by cases ph <;> simp) with hph | hph
    · have := hb.2.1 hpa hph
      rw [(W_N2 hph hpa _ c e rfl hc he).1 this]
      omega
    · have := hb.2.2 hph
      exact (W_N3 hph hpa _ c e rfl hc he).1 this.2
  · obtain ⟨hph, h⟩ := hb.1 hpa
    rw [W_N1 hph hpa _ c e rfl hc he]
    omega
/-- one chooses, on both ways alike -/
theorem g_step {c f : Nat} {F : Nat → Bool} (hc : c < 8) (hf : f ≤ 8) (hH : H c = true) (hJ : Jg H A c F f) (hb : Bal H A ph pa c f) :
    (∃ e, f ≤ e ∧ e < 8 ∧ A e = true ∧ F e = true ∧ Ug H (c + 1) (rm F e) + ab c e = Ug H c F ∧ (∀ x, x < e → F x = true → ¬ Ug H (c + 1) (rm F x) + ab c x = Ug H c F) ∧ ab c e + Wg H A ph pa (c + 1) (e + 1) = Wg H A ph pa c f ∧ (∀ x, f ≤ x → x < e → A x = true → pa = true ∧ ¬ ab c x + Wg H A ph pa (c + 1) (x + 1) = Wg H A ph pa c f) ∧ Jg H A (c + 1) (rm F e) (e + 1) ∧ Bal H A ph pa (c + 1) (e + 1)) ∨
    ((∀ x, x < 8 → F x = true → ¬ Ug H (c + 1) (rm F x) + ab c x = Ug H c F) ∧ (∀ x, f ≤ x → x < 8 → A x = true → (∀ y, f ≤ y → y < x → A y = true → pa = true) → ¬ ab c x + Wg H A ph pa (c + 1) (x + 1) = Wg H A ph pa c f) ∧ Jg H A (c + 1) F f ∧ Bal H A ph pa (c + 1) f) := by
  have hN := J_N hJ
  have hi := N_hi (H := H) (A := A) _ c f rfl (by omega) hf
  have hw := Bal_W hb (by omega) hf
  have cH := cnt_s (P := H) hc
  rw [if_pos hH] at cH
  by_cases hex : ∃ x, x < 8 ∧ F x = true ∧ Ug H (c + 1) (rm F x) + ab c x = Ug H c F
  · left
    obtain ⟨e, ⟨he, hFe, hUe⟩, hlst⟩ := pk_least (fun x => x < 8 ∧ F x = true ∧ Ug H (c + 1) (rm F x) + ab c x = Ug H c F) hex
    have hl : ∀ x, x < e → F x = true → ¬ Ug H (c + 1) (rm F x) + ab c x = Ug H c F := fun x hx hFx q => hlst x hx ⟨by omega, hFx, q⟩
    have hfe : f ≤ e := by
      by_cases z : e < f
      · exact absurd hUe (T_no hc hH hJ.2 z hFe)
      · omega
    have hA := (hJ.1 e hfe he).mp hFe
    have hJ' := J_take hc hH hJ hfe he hFe hUe hl
    have hN' := J_N hJ'
    have lo := N_lo (H := H) (A := A) _ (c + 1) (e + 1) rfl (by omega) (by omega)
    have cAe := cnt_s (P := A) he
    rw [if_pos hA] at cAe
    have hmono := cnt_mono (P := A) (e - f) f
    rw [show f + (e - f) = e by omega] at hmono
    rcases (show pa = false ∨ pa = true by cases pa <;> simp) with hpa | hpa
    · have hhc : cnt A f ≤ cnt H c := by
        rcases (show ph = false ∨ ph = true by cases ph <;> simp) with hph | hph
        · have := hb.2.1 hpa hph; omega
        · exact (hb.2.2 hph).2
      have hno : ∀ x, f ≤ x → x < e → ¬ A x = true := by
        intro x h1 h2 hx
        have m1 := cnt_mono (P := A) (x - f) f
        rw [show f + (x - f) = x by omega] at m1
        have m2 := cnt_s (P := A) (show x < 8 by omega)
        rw [if_pos hx] at m2
        have m3 := cnt_mono (P := A) (e - (x + 1)) (x + 1)
        rw [show x + 1 + (e - (x + 1)) = e by omega] at m3
        omega
      have heq : cnt A f = cnt A e := by
        have := cnt_none (P := A) (e - f) f (by omega) (fun x h1 h2 => hno x h1 (by omega))
        rw [show f + (e - f) = e by omega] at this
        exact this
      have hb' : Bal H A ph pa (c + 1) (e + 1) := by
        refine ⟨fun q => absurd (hpa.symm.trans q) (by decide), fun _ q => ?_, fun q => ⟨hpa, ?_⟩⟩
        · have := hb.2.1 hpa q; omega
        · have := (hb.2.2 q).2; omega
      have hw' := Bal_W hb' (by omega) (by omega)
      refine ⟨e, hfe, he, hA, hFe, hUe, hl, by omega, fun x h1 h2 hx => absurd hx (hno x h1 h2), hJ', hb'⟩
    · obtain ⟨hph, hle⟩ := hb.1 hpa
      have w1 := fun c e h1 h2 => W_N1 (H := H) (A := A) (ph := ph) (pa := pa) hph hpa (8 - c + (8 - e)) c e rfl h1 h2
      have w2 := w1 (c + 1) (e + 1) (by omega) (by omega)
      have w3 := w1 c f (by omega) hf
      have hb' : Bal H A ph pa (c + 1) (e + 1) := by
        refine ⟨fun _ => ⟨hph, by omega⟩, fun q => absurd (hpa.symm.trans q) (by decide), fun q => absurd (hph.symm.trans q) (by decide)⟩
      refine ⟨e, hfe, he, hA, hFe, hUe, hl, by omega, fun x h1 h2 hx => ⟨hpa, fun q => ?_⟩, hJ', hb'⟩
      have w4 := w1 (c + 1) (x + 1) (by omega) (by omega)
      refine hl x h2 ((hJ.1 x h1 (by omega)).mpr hx) (N_ref hc hH hJ h1 (by omega) hx ?_)
      omega
  · right
    have hn : ∀ x, x < 8 → F x = true → ¬ Ug H (c + 1) (rm F x) + ab c x = Ug H c F := fun x h1 h2 q => hex ⟨x, h1, h2, q⟩
    have hU : Ug H c F = Ug H (c + 1) F + pen H c := by
      rcases U_at (H := H) hc F with q | ⟨x, hx, _, hF, q⟩
      · exact q
      · exact absurd q.symm (hn x hx hF)
    have hU2 := hU
    unfold pen at hU2
    rw [if_pos hH] at hU2
    have hlt : cnt A f < cnt H c := by omega
    have hph : ph = true := by
      rcases (show ph = false ∨ ph = true by cases ph <;> simp) with hph | hph
      · rcases (show pa = false ∨ pa = true by cases pa <;> simp) with hpa | hpa
        · have := hb.2.1 hpa hph; omega
        · have := (hb.1 hpa).2; omega
      · exact hph
    obtain ⟨hpa, _⟩ := hb.2.2 hph
    refine ⟨hn, fun x h1 h2 hx hr q => ?_, J_skip hc hJ hU, ⟨fun z => absurd (hpa.symm.trans z) (by decide), fun _ z => absurd (hph.symm.trans z) (by decide), fun _ => ⟨hpa, by omega⟩⟩⟩
    have heq : cnt A f = cnt A x := by
      have := cnt_none (P := A) (x - f) f (by omega) (fun y h3 h4 hy => absurd (hpa.symm.trans (hr y h3 (by omega) hy)) (by decide))
      rw [show f + (x - f) = x by omega] at this
      exact this
    have cAx := cnt_s (P := A) h2
    rw [if_pos hx] at cAx
    have hb' : Bal H A ph pa (c + 1) (x + 1) := ⟨fun z => absurd (hpa.symm.trans z) (by decide), fun _ z => absurd (hph.symm.trans z) (by decide), fun _ => ⟨hpa, by omega⟩⟩
    have hw' := Bal_W hb' (by omega) (by omega)
    refine hn x h2 ((hJ.1 x h1 h2).mpr hx) (N_ref hc hH hJ h1 h2 hx ?_)
    omega
/-- one who isn't there -/
theorem g_pass {c f : Nat} {F : Nat → Bool} (hc : c < 8) (hH : ¬ H c = true) (hJ : Jg H A c F f) (hb : Bal H A ph pa c f) : Jg H A (c + 1) F f ∧ Bal H A ph pa (c + 1) f := by
  have cH := cnt_s (P := H) hc
  rw [if_neg hH] at cH
  refine ⟨J_skip hc hJ ?_, ?_⟩
  · rcases U_at (H := H) hc F with q | ⟨x, _, h, _, _⟩
    · exact q
    · exact absurd h hH
  · unfold Bal at *
    rw [cH, Nat.add_zero] at hb
    exact hb
theorem J_0 : Jg H A 0 A 0 := ⟨fun _ _ _ => Iff.rfl, fun e he => absurd he (by omega)⟩
end
