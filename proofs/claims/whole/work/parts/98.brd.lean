-- bridge: the other one plays, a card laid
def hk (left : Nat → Bool) (q : Nat) : Nat → Nat → Nat
  | 0, _ => 0
  | j + 1, m => (if left (3 * q + m) = true then 1 else 0) + hk left q j (m + 1)
def ldd (H : Nat → Nat) (f laid : Nat) : Nat := if laid = 0 then 0 else H f
def Nd (n tr : Nat) (cd : Nat → Nat) (a st tb : Nat) (H : Nat → Nat) (left : Nat → Bool) (τ : Hp) : Prop := (Bx n tr cd τ ∧ Aw n left τ) ∧ (a < 4 * n ∧ st < 4 ∧ tb ≤ a / 4) ∧ (τ 33 a = nI ((st + a % 4) % 4) ∧ τ 35 a = nI tb ∧ τ 33 (a - a % 4) = nI st) ∧ (∀ i, a - a % 4 ≤ i → i < a → τ 30 i = nI (cd (H i)) ∧ cd (H i) < 52 ∧ H i / 3 = (st + (i - (a - a % 4))) % 4) ∧ ∀ q, q < 4 → hk left q 3 0 = n - a / 4 - (if (q + 4 - st) % 4 < a % 4 then 1 else 0)
def Dm : Nat → Nat
  | 0 => 0
  | r + 1 => (r / 4 + 1) * (1 + Dm r) + 1
def Fr (a : Nat) (τ τ' : Hp) : Prop := Ag [0, 30, 31, 32, 33, 34, 35] τ τ' ∧ (∀ i, τ' 0 i = τ 0 i) ∧ ∀ k i, i < a → τ' k i = τ k i
def Fn (n K a : Nat) (τ : Hp) : Option Hp := if a = 0 then L_M_playsOut_21 K (nI (4 * n)) (-1) τ else (F_M_mayBeBest (nI (a - 1)) (τ 30 (a - 1)) (τ 32 a) τ).bind fun q => L_M_playsOut_21 K (nI (4 * n)) (nI (a - 1)) q
def NodeOk (n tr : Nat) (cd : Nat → Nat) (r : Nat) : Prop := ∀ (a st tb : Nat) (H : Nat → Nat) (left : Nat → Bool) (τ : Hp), a + r = 4 * n → 1 ≤ r → Nd n tr cd a st tb H left τ → τ 31 a = -1 → τ 32 a = -1 → τ 34 a = -1 → ∃ (c : Nat) (τ' : Hp) (y : Nat × Nat), c ≤ Dm r ∧ bv cd tr r left ((st + a % 4) % 4) (a % 4) (ldd H (a - a % 4) (a % 4)) (hgh cd tr H (a - a % 4) (a % 4)) = some y ∧ y.2 < 52 ∧ Fr a τ τ' ∧ τ' 32 a = nI (tb + y.1) ∧ τ' 34 a = nI y.2 ∧ ∀ K, L_M_playsOut_21 (K + c) (nI (4 * n)) (nI a) τ = Fn n K a τ'
def beg (τ : Hp) (i : Nat) (x y : Int32) : Hp := zu (zu (zu (zu (zu τ 33 i x) 35 i y) 31 i (-1)) 32 i (-1)) 34 i (-1)
theorem zu_row (σ : Hp) {k k0 i j : Nat} (x : Int32) (h : i ≠ j) : zu σ k0 j x k i = σ k i := by
  by_cases q : k = k0
  · subst q; rw [zu_self, upd_ne _ _ h]
  · rw [zu_ne _ _ _ q]
theorem beg_row {τ : Hp} {i j k : Nat} {x y : Int32} (h : i ≠ j) : beg τ j x y k i = τ k i := by
  unfold beg
  rw [zu_row _ _ h, zu_row _ _ h, zu_row _ _ h, zu_row _ _ h, zu_row _ _ h]
theorem beg_ag {τ : Hp} {j : Nat} {x y : Int32} : Ag [0, 30, 31, 32, 33, 34, 35] τ (beg τ j x y) := ((((Ag.rf.zu (by decide)).zu (by decide)).zu (by decide)).zu (by decide)).zu (by decide)
theorem beg_0 {τ : Hp} {j k : Nat} {x y : Int32} (hk : k < 31) : beg τ j x y k = τ k := by
  unfold beg
  rw [zu_ne _ _ _ (by omega), zu_ne _ _ _ (by omega), zu_ne _ _ _ (by omega), zu_ne _ _ _ (by omega), zu_ne _ _ _ (by omega)]
theorem beg_at {τ : Hp} {j : Nat} {x y : Int32} : beg τ j x y 33 j = x ∧ beg τ j x y 35 j = y ∧ beg τ j x y 31 j = -1 ∧ beg τ j x y 32 j = -1 ∧ beg τ j x y 34 j = -1 := by
  unfold beg
  refine ⟨?_, ?_, ?_, ?_, ?_⟩ <;> simp (disch := omega) only [zu_ne, zu_self, upd_s]
theorem M_begins {i : Nat} (hi : i < 13) (x y : Int32) (τ : Hp) : F_M_begins (nI i) x y τ = some (beg τ i x y) := by
  unfold F_M_begins beg
  have g : inb (nI i) 13 = true := inbT hi (by omega)
  rw [gd_true g, gd_true g, gd_true g, gd_true g, gd_true g, nI_clamp (by omega)]
theorem Fr.tr {a : Nat} {τ τ1 τ2 : Hp} (h1 : Fr a τ τ1) (h2 : Fr a τ1 τ2) : Fr a τ τ2 := ⟨h1.1.tr h2.1 _ (fun _ h => h) (fun _ h => h), fun i => (h2.2.1 i).trans (h1.2.1 i), fun k i hi => (h2.2.2 k i hi).trans (h1.2.2 k i hi)⟩
theorem Fr.best {a : Nat} {τ τ' : Hp} (h : Ag [32, 34] τ τ') (h2 : ∀ i, i ≠ a → τ' 32 i = τ 32 i ∧ τ' 34 i = τ 34 i) : Fr a τ τ' := by
  refine ⟨Ag.rf.tr h _ (fun _ q => q) (by decide), fun i => by rw [h 0 (by decide)], fun k i hi => ?_⟩
  by_cases q : k = 32
  · rw [q]; exact (h2 i (by omega)).1
  · by_cases q2 : k = 34
    · rw [q2]; exact (h2 i (by omega)).2
    · rw [h k (by simp [q, q2])]
section
variable {n tr : Nat} {cd : Nat → Nat}
theorem Bx.mono {τ τ' : Hp} (h : Bx n tr cd τ) (h0 : ∀ i, i ≠ 58 → τ' 0 i = τ 0 i) (h6 : τ' 6 = τ 6) : Bx n tr cd τ' := by
  unfold Bx at h ⊢
  rw [h0 56 (by decide), h0 57 (by decide), h6]
  exact h
theorem ref_258 {r' a p wn tb st' v cc pl : Nat} {H' : Nat → Nat} {left' : Nat → Bool} {τ1 : Hp} {b : Option (Nat × Nat)} (ih : NodeOk n tr cd r') (hn : n ≤ 3) (hr : a + (r' + 1) = 4 * n) (hw : wn ≤ 1) (htb : tb ≤ 12) (hN : 1 ≤ r' → Nd n tr cd (a + 1) st' (tb + wn) H' left' (beg τ1 (a + 1) (nI p) (nI (tb + wn)))) (hv : v = wn + if r' = 0 then 0 else vl (bv cd tr r' left' ((st' + (a + 1) % 4) % 4) ((a + 1) % 4) (ldd H' (a + 1 - (a + 1) % 4) ((a + 1) % 4)) (hgh cd tr H' (a + 1 - (a + 1) % 4) ((a + 1) % 4)))) (hpl : pl < 4) (h33 : τ1 33 a = nI pl) (h32 : τ1 32 a = (bF tb b).1) (h34 : τ1 34 a = (bF tb b).2) (hb : vl b ≤ 13) (h30 : τ1 30 a = nI cc) (hc : cc < 52) (hbc : ∀ y, b = some y → y.2 < 52) : ∃ (c : Nat) (τ2 : Hp), c ≤ Dm r' ∧ Fr a τ1 τ2 ∧ (τ2 31 a = τ1 31 a ∧ τ2 33 a = τ1 33 a ∧ τ2 35 a = τ1 35 a) ∧ τ2 32 a = (bF tb (bt2 pl b v cc)).1 ∧ τ2 34 a = (bF tb (bt2 pl b v cc)).2 ∧ ∀ K, J_M_playsOut_258 (fun x2 x3 σ => L_M_playsOut_21 (K + c) x2 x3 σ) (nI (4 * n)) (nI a) (nI p) (nI wn) (nI tb) τ1 = L_M_playsOut_21 K (nI (4 * n)) (nI a) τ2 := by
  by_cases q : r' = 0
  · rw [if_pos q, Nat.add_zero] at hv
    rw [hv]
    obtain ⟨τ2, m1, m2, m3, m4, m5⟩ := M_best (τ := τ1) (at' := a) (pl := pl) (tb := tb) (v := wn) (c := cc) (b := b) (by omega) hpl h33 h32 h34 (by omega) (by omega) hc hbc
    refine ⟨0, τ2, Nat.zero_le _, Fr.best m2 m3, ⟨by rw [m2 31 (by decide)], by rw [m2 33 (by decide)], by rw [m2 35 (by decide)]⟩, m4, m5, fun K => ?_⟩
    unfold J_M_playsOut_258
    rw [nI_1, nI_add, if_pos (show nI (a + 1) = nI (4 * n) by rw [show a + 1 = 4 * n by omega]), gd_true (inbT (show a < 13 by omega) (by omega)), nI_clamp (by omega), h30, m1, ob]
    rfl
  · obtain ⟨g1, g2, g3, g4, g5⟩ := beg_at (τ := τ1) (j := a + 1) (x := nI p) (y := nI (tb + wn))
    obtain ⟨c, τ', y, d1, d2, d3, d4, d5, d6, d7⟩ := ih (a + 1) st' (tb + wn) H' left' _ (by omega) (by omega) (hN (by omega)) g3 g4 g5
    have R : ∀ k i, i < a + 1 → τ' k i = τ1 k i := fun k i hi => by rw [d4.2.2 k i hi, beg_row (by omega)]
    have yl := bv_le (cd := cd) (tr := tr) r' left' ((st' + (a + 1) % 4) % 4) ((a + 1) % 4) (ldd H' (a + 1 - (a + 1) % 4) ((a + 1) % 4)) (hgh cd tr H' (a + 1 - (a + 1) % 4) ((a + 1) % 4))
    rw [d2] at yl hv
    have yl : y.1 ≤ r' := yl
    rw [if_neg q] at hv
    have hv : v = wn + y.1 := hv
    obtain ⟨τ2, m1, m2, m3, m4, m5⟩ := M_best (τ := τ') (at' := a) (pl := pl) (tb := tb) (v := v) (c := cc) (b := b) (by omega) hpl (by rw [R 33 a (by omega), h33]) (by rw [R 32 a (by omega), h32]) (by rw [R 34 a (by omega), h34]) (by omega) (by omega) hc hbc
    have F1 : Fr a τ1 τ' := ⟨beg_ag.tr d4.1 _ (fun _ h => h) (fun _ h => h), fun i => by rw [d4.2.1 i, beg_0 (by omega)], fun k i hi => R k i (by omega)⟩
    refine ⟨c, τ2, d1, F1.tr (Fr.best m2 m3), ⟨by rw [m2 31 (by decide), R 31 a (by omega)], by rw [m2 33 (by decide), R 33 a (by omega)], by rw [m2 35 (by decide), R 35 a (by omega)]⟩, m4, m5, fun K => ?_⟩
    unfold J_M_playsOut_258
    rw [nI_1, nI_add, if_neg (show ¬ nI (a + 1) = nI (4 * n) from nI_lit (by omega) (by omega) (by omega)), M_begins (by omega), ob]
    dsimp only
    rw [d7 K]
    unfold Fn
    rw [if_neg (by omega), Nat.add_sub_cancel, R 30 a (by omega), h30, d5, show tb + wn + y.1 = tb + v by omega, m1, ob]
theorem hgh_cg {H H' : Nat → Nat} {f : Nat} : ∀ j, (∀ i, f ≤ i → i < f + j → H i = H' i) → hgh cd tr H f j = hgh cd tr H' f j := by
  intro j
  induction j with
  | zero => intro _; rfl
  | succ j ih =>
    intro h
    match j, ih, h with
    | 0, _, h => exact h f (Nat.le_refl _) (by omega)
    | j + 1, ih, h =>
      show (if bts cd tr (H (f + j + 1)) (hgh cd tr H f (j + 1)) = true then H (f + j + 1) else hgh cd tr H f (j + 1)) = (if bts cd tr (H' (f + j + 1)) (hgh cd tr H' f (j + 1)) = true then H' (f + j + 1) else hgh cd tr H' f (j + 1))
      rw [ih (fun i h1 h2 => h i h1 (by omega)), h (f + j + 1) (by omega) (by omega)]
theorem hgh_hig {H : Nat → Nat} {f j a s : Nat} (ha : a = f + j) : hgh cd tr (fun i => if i = a then s else H i) f (j + 1) = higN cd tr j s (hgh cd tr H f j) := by
  match j, ha with
  | 0, ha =>
    show (if f = a then s else H f) = _
    rw [if_pos (by omega)]
    unfold higN
    rw [if_pos (Or.inl rfl)]
  | j + 1, ha =>
    show (if bts cd tr (if f + j + 1 = a then s else H (f + j + 1)) (hgh cd tr (fun i => if i = a then s else H i) f (j + 1)) = true then (if f + j + 1 = a then s else H (f + j + 1)) else hgh cd tr (fun i => if i = a then s else H i) f (j + 1)) = _
    rw [hgh_cg (H := fun i => if i = a then s else H i) (H' := H) (j + 1) (fun i h1 h2 => if_neg (by omega)), if_pos (show f + j + 1 = a by omega)]
    unfold higN
    by_cases q : bts cd tr s (hgh cd tr H f (j + 1)) = true
    · rw [if_pos q, if_pos (Or.inr q)]
    · rw [if_neg q, if_neg (by rintro (z | z); omega; exact q z)]
theorem ldd_led {H : Nat → Nat} {f j a s : Nat} (ha : a = f + j) : ldd (fun i => if i = a then s else H i) f (j + 1) = ledN j s (ldd H f j) := by
  unfold ldd ledN
  rw [if_neg (by omega)]
  by_cases q : j = 0
  · rw [if_pos q]; exact if_pos (by omega)
  · rw [if_neg q, if_neg q]; exact if_neg (by omega)
theorem hgh_mem {H : Nat → Nat} {f : Nat} : ∀ j, ∃ i, f ≤ i ∧ i < f + (j + 1) ∧ hgh cd tr H f (j + 1) = H i := by
  intro j
  induction j with
  | zero => exact ⟨f, Nat.le_refl _, by omega, rfl⟩
  | succ j ih =>
    obtain ⟨i, h1, h2, h3⟩ := ih
    have e : hgh cd tr H f (j + 1 + 1) = if bts cd tr (H (f + j + 1)) (hgh cd tr H f (j + 1)) = true then H (f + j + 1) else hgh cd tr H f (j + 1) := rfl
    rw [e]
    by_cases q : bts cd tr (H (f + j + 1)) (hgh cd tr H f (j + 1)) = true
    · exact ⟨f + j + 1, by omega, by omega, if_pos q⟩
    · exact ⟨i, h1, by omega, by rw [if_neg q, h3]⟩
theorem hk_rm {left : Nat → Bool} {p m : Nat} (hm : m < 3) (hs : left (3 * p + m) = true) (q : Nat) : hk (rm left (3 * p + m)) q 3 0 + (if q = p then 1 else 0) = hk left q 3 0 := by
  have e : ∀ k, (if rm left (3 * p + m) (3 * q + k) = true then 1 else 0) + (if 3 * q + k = 3 * p + m then 1 else 0) = if left (3 * q + k) = true then 1 else 0 := by
    intro k
    by_cases h : 3 * q + k = 3 * p + m
    · rw [h, if_neg (fun z => (rm_t.mp z).2 rfl), if_pos rfl, if_pos hs]
    · by_cases h2 : left (3 * q + k) = true
      · rw [if_pos (rm_t.mpr ⟨h2, h⟩), if_neg h, if_pos h2]
      · rw [if_neg (fun z => h2 (rm_t.mp z).1), if_neg h, if_neg h2]
  have e0 := e 0
  have e1 := e (0 + 1)
  have e2 := e (0 + 1 + 1)
  have x : (if 3 * q + 0 = 3 * p + m then 1 else 0) + (if 3 * q + (0 + 1) = 3 * p + m then 1 else 0) + (if 3 * q + (0 + 1 + 1) = 3 * p + m then 1 else 0) = if q = p then 1 else 0 := by
    by_cases h : q = p
    · rw [if_pos h]
      rcases (show m = 0 ∨ m = 1 ∨ m = 2 by omega) with z | z | z
      · rw [if_pos (by omega), if_neg (by omega), if_neg (by omega)]
      · rw [if_neg (by omega), if_pos (by omega), if_neg (by omega)]
      · rw [if_neg (by omega), if_neg (by omega), if_pos (by omega)]
    · rw [if_neg h, if_neg (by omega), if_neg (by omega), if_neg (by omega)]
  unfold hk hk hk hk
  omega
end
