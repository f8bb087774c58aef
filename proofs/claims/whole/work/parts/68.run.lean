-- the watches, one after another
theorem pw9_un (K) (N r1 r2 : Nat) (a b c : Int32) (σ : Hp) : L_X2_passWatch_9 K (N + 1) r1 r2 a b c σ = B_X2_passWatch_9 K (fun r1 r2 x3 x4 x5 σ => L_X2_passWatch_9 K N r1 r2 x3 x4 x5 σ) r1 r2 a b c σ := rfl
theorem pw54_un (K) (N r1 r2 : Nat) (a b c : Int32) (σ : Hp) : L_X2_passWatch_54 K (N + 1) r1 r2 a b c σ = B_X2_passWatch_54 K (fun r1 r2 x3 x4 x5 σ => L_X2_passWatch_54 K N r1 r2 x3 x4 x5 σ) r1 r2 a b c σ := rfl
theorem wg24_un (K) (N : Nat) (a b c : Int32) (σ : Hp) : L_M_watchGoes_24 K (N + 1) a b c σ = B_M_watchGoes_24 K (fun x1 x2 x3 σ => L_M_watchGoes_24 K N x1 x2 x3 σ) a b c σ := rfl
theorem wg73_un (K) (N : Nat) (a b c : Int32) (σ : Hp) : L_M_watchGoes_73 K (N + 1) a b c σ = B_M_watchGoes_73 K (fun x1 x2 x3 σ => L_M_watchGoes_73 K N x1 x2 x3 σ) a b c σ := rfl
theorem run44_un (N r1 r2 : Nat) (a b : Int32) (σ : Hp) : L_X2_run_44 (N + 1) r1 r2 a b σ = B_X2_run_44 (fun r1 r2 x3 x4 σ => L_X2_run_44 N r1 r2 x3 x4 σ) r1 r2 a b σ := rfl
theorem wgo33_un (K) (N : Nat) (a b : Int32) (σ : Hp) : L_M_watchesGo_33 K (N + 1) a b σ = B_M_watchesGo_33 K (fun x1 x2 σ => L_M_watchesGo_33 K N x1 x2 σ) a b σ := rfl
theorem wgo55_un (N : Nat) (a b : Int32) (σ : Hp) : L_M_watchesGo_55 (N + 1) a b σ = B_M_watchesGo_55 (fun x1 x2 σ => L_M_watchesGo_55 N x1 x2 σ) a b σ := rfl
section
variable {o L : Nat} {σ0 τ0 σ τ : Hp}
/-- one comes back from dinner -/
theorem back_eq (c : Cxt o L σ0 τ0) (w : Wt o L σ0 τ0 σ τ) {g : Nat} (hg : g < 16) (ht : τ 1 g = 1) (hs : τ 1 (80 + g) = 1) : Wt o L σ0 τ0 (zu σ (o + 5) g 0) (zu τ 1 (80 + g) 0) ∧ Kp τ (zu τ 1 (80 + g) 0) := by
  have ho := c.1
  have hL := c.2.1
  obtain ⟨w1, w2, w3, w4⟩ := w
  have hG := w3.1 g hg
  have hst : σ (o + 5) g = 1 := by
    obtain ⟨-, -, -, -, g5, -⟩ := hG
    rcases g5 with ⟨-, b, -⟩ | ⟨a, -⟩
    · rw [b]; exact hs
    · rw [ht] at a; exact absurd a (by decide)
  refine ⟨⟨w1.zu (fw_yes (by omega)) (by omega), w2.zu1 (by omega), ?_, ?_⟩, ?_⟩
  · refine w3.pt g (fun j p1 p2 i hi hne => ?_) (fun j p1 p2 => ?_) ?_ ?_
    · by_cases j5 : j = 5
      · subst j5; rw [zu_self, upd_ne _ _ hne]
      · rw [zu_ne _ _ _ (by omega)]
    · rw [zu_self, upd_ne _ _ (by omega)]
    · unfold RG at *
      simp (disch := omega) only [zu_ne, zu_self, upd_s, upd_ne]
      obtain ⟨g1, g2, g3, g4, -, g6⟩ := hG
      exact ⟨g1, g2, g3, g4, Or.inl ⟨ht, trivial, Or.inl trivial⟩, g6⟩
    · have := w3.2
      unfold RT at *
      simp (disch := omega) only [zu_ne, zu_self, upd_ne]
      exact this
  · obtain ⟨r1, r2, r3, -⟩ := id w4
    refine w4.congr ?_ ?_ ?_ ?_ ?_ (fun i hi => ?_) ?_ ?_ ?_
    · simp (disch := omega) only [zu_ne]; exact r1
    · simp (disch := omega) only [zu_ne]; exact r2
    · simp (disch := omega) only [zu_ne]; exact r3
    · simp (disch := omega) only [zu_ne]
    · simp (disch := omega) only [zu_ne]
    · have hi' : i ≠ g := fun e => by rw [e, hst] at hi; exact absurd hi (by decide)
      simp (disch := omega) only [zu_self, upd_ne]
      exact hi
    · simp (disch := omega) only [zu_ne]
    · simp (disch := omega) only [zu_ne]
    · simp (disch := omega) only [zu_ne]
  · refine ⟨?_, ?_, ?_, ?_⟩ <;> simp (disch := omega) only [zu_self, zu_ne, upd_ne]
/-- all who sit have their turns -/
theorem turns_eq (c : Cxt o L σ0 τ0) (w : Wt o L σ0 τ0 σ τ) {m d : Nat} (hm1 : 1 ≤ m) (hm : m ≤ 120) (h45 : τ 0 45 = nI m) (hd : d < 9999) (h97 : τ 1 97 = nI d) (h98 : τ 1 98 = 0) (a0 a1 : Bool) (u v : Int32) (hu : u = 0 ↔ a0 = false) (hv : v = 0 ↔ a1 = false) : WEnd o L σ0 τ0 m (J_X2_passWatch_51 o L (nI m) (nI (a0.toNat + 2 * a1.toNat)) σ) (J_M_watchGoes_71 u v τ) := by
  have ho := c.1
  have hL := c.2.1
  unfold J_X2_passWatch_51 J_M_watchGoes_71
  refine lock (fun N i s => L_X2_passWatch_54 J_X2_passWatch_94 N o L (nI m) (nI (a0.toNat + 2 * a1.toNat)) (nI i) s) (fun N i t => L_M_watchGoes_73 J_M_watchGoes_98 N u v (nI i) t) (fun _ s t => Wt o L σ0 τ0 s t ∧ t 0 45 = nI m ∧ t 1 97 = nI d ∧ t 1 98 = 0) (WEnd o L σ0 τ0 m) 16 ?_ ?_ 16 0 FU FU σ τ (by omega) (by omega) (FU_lt (by omega)) (FU_lt (by omega)) ⟨w, h45, h97, h98⟩
  · rintro N1 N2 s t ⟨w, k1, k2, k3⟩
    rw [pw54_un, wg73_un]
    unfold B_X2_passWatch_54 B_M_watchGoes_73
    rw [if_pos (by decide), if_pos (by decide)]
    exact lost_eq c w k1 hd k2 k3 a0 a1 u v hu hv
  · rintro N1 N2 i s t hi ⟨w, k1, k2, k3⟩
    right
    rw [pw54_un, wg73_un]
    unfold B_X2_passWatch_54 B_M_watchGoes_73
    rw [if_neg (show ¬ (16 : Int32) ≤ nI i from nI_ge (b := 16) (by omega) (by omega)), if_neg (show ¬ (16 : Int32) ≤ nI i from nI_ge (b := 16) (by omega) (by omega)), gd_true (inbT hi (by omega)), nI_clamp (by omega), M_sitsIn hi, ob]
    try dsimp only
    rw [b2_ite, sits_ite w.2.2.1 hi, nI_1]
    by_cases q : s (o + 5) i = 0
    · rw [if_pos q, if_pos (decide_eq_true q)]
      have qq := sits_ite w.2.2.1 hi
      rw [decide_eq_true q] at qq
      simp only [Bool.and_eq_true, decide_eq_true_eq] at qq
      obtain ⟨s1, t1, p1, p2, p3, p4, p5⟩ := drink_eq c w hi qq.1
      have tg : t1 1 i = 1 := by
        have := p3.2.1.2.2 i (Or.inl hi)
        have h2 := w.2.1.2.2 i (Or.inl hi)
        rw [this, ← h2]; exact qq.1
      obtain ⟨s2, t2, z1, z2, z3, z4⟩ := stay_eq c p3 hi hm1 hm (p4.1.trans k1) tg (p5.trans qq.2)
      rw [p1, p2, ob]
      try dsimp only
      rw [z1, z2, ob, ob]
      have kk := p4.tr z4
      exact ⟨s2, t2, rfl, rfl, z3, kk.1.trans k1, kk.2.2.1.trans k2, kk.2.2.2.trans k3⟩
    · rw [if_neg q, if_neg (by simp [q])]
      exact ⟨s, t, rfl, rfl, w, k1, k2, k3⟩
theorem pass_eq (c : Cxt o L σ0 τ0) (w : Wt o L σ0 τ0 σ τ) {m d : Nat} (hm1 : 1 ≤ m) (hm : m ≤ 120) (h45 : τ 0 45 + 1 = nI m) (hd : d < 9999) (h97 : τ 1 97 = nI d) (h98 : τ 1 98 = 0) : WEnd o L σ0 τ0 m (F_X2_passWatch o L (nI m) σ) (F_M_watchGoes τ) := by
  have ho := c.1
  have hL := c.2.1
  obtain ⟨x, y, e, hx, hy⟩ := sides_eq w.2.2.1
  unfold F_X2_passWatch F_M_watchGoes
  rw [e, ob, M_ou0, ob]
  try dsimp only
  rw [M_ou1, ob]
  try dsimp only
  rw [h45]
  have w' : Wt o L σ0 τ0 σ (zu τ 0 45 (nI m)) := by
    obtain ⟨w1, w2, w3, w4⟩ := w
    obtain ⟨r1, r2, r3, -⟩ := id w4
    refine ⟨w1, w2.zu0 (by omega), w3.congr (fun _ _ => rfl) (zu_ne _ _ _ (by decide)), w4.congr ?_ ?_ ?_ rfl rfl (fun _ h => h) ?_ ?_ ?_⟩
    · rw [zu_self, upd_ne _ _ (by decide)]; exact r1
    · rw [zu_self, upd_ne _ _ (by decide)]; exact r2
    · rw [zu_self, upd_ne _ _ (by decide)]; exact r3
    · rw [zu_self, upd_ne _ _ (by decide)]
    · rw [zu_self, upd_ne _ _ (by decide)]
    · rw [zu_ne _ _ _ (by decide)]
  have u0 : ou (zu τ 0 45 (nI m)) 0 = ou τ 0 := ou_congr (fun j _ => by rw [zu_ne _ _ _ (by decide)]) 0 (by omega)
  have u1 : ou (zu τ 0 45 (nI m)) 1 = ou τ 1 := ou_congr (fun j _ => by rw [zu_ne _ _ _ (by decide)]) 1 (by omega)
  rw [u0, u1]
  refine lock (fun N i s => L_X2_passWatch_9 J_X2_passWatch_51 N o L (nI m) (nI (x.toNat + 2 * y.toNat)) (nI i) s) (fun N i t => L_M_watchGoes_24 J_M_watchGoes_71 N (ou τ 0) (ou τ 1) (nI i) t) (fun _ s t => Wt o L σ0 τ0 s t ∧ t 0 45 = nI m ∧ t 1 97 = nI d ∧ t 1 98 = 0) (WEnd o L σ0 τ0 m) 16 ?_ ?_ 16 0 FU FU σ (zu τ 0 45 (nI m)) (by omega) (by omega) (FU_lt (by omega)) (FU_lt (by omega)) ⟨w', by rw [zu_self, upd_s], by rw [zu_ne _ _ _ (by decide)]; exact h97, by rw [zu_ne _ _ _ (by decide)]; exact h98⟩
  · rintro N1 N2 s t ⟨w, k1, k2, k3⟩
    rw [pw9_un, wg24_un]
    unfold B_X2_passWatch_9 B_M_watchGoes_24
    rw [if_pos (by decide), if_pos (by decide)]
    exact turns_eq c w hm1 hm k1 hd k2 k3 x y _ _ hx hy
  · rintro N1 N2 i s t hi ⟨w, k1, k2, k3⟩
    right
    rw [pw9_un, wg24_un]
    unfold B_X2_passWatch_9 B_M_watchGoes_24
    rw [if_neg (show ¬ (16 : Int32) ≤ nI i from nI_ge (b := 16) (by omega) (by omega)), if_neg (show ¬ (16 : Int32) ≤ nI i from nI_ge (b := 16) (by omega) (by omega))]
    simp (disch := omega) only [idx0, idx80, inb_nI, gd_tt, nI_clamp, nI_1]
    have hG := w.2.2.1.1 i hi
    obtain ⟨-, -, -, -, g5, -⟩ := hG
    rcases g5 with ⟨ga, gb, gc⟩ | ⟨ga, gb⟩
    · rw [if_pos ga]
      by_cases q : t 1 (80 + i) = 1
      · obtain ⟨b1, b2'⟩ := back_eq c w hi ga q
        rw [if_pos (gb.trans q), if_pos q]
        exact ⟨_, _, rfl, rfl, b1, b2'.1.trans k1, b2'.2.2.1.trans k2, b2'.2.2.2.trans k3⟩
      · rw [if_neg (fun h => q (gb.symm.trans h)), if_neg q, zu_same]
        exact ⟨s, t, rfl, rfl, w, k1, k2, k3⟩
    · rw [if_neg (show ¬ t 1 i = 1 by rw [ga]; decide), if_neg (show ¬ s (o + 5) i = 1 by rw [gb]; decide), zu_same]
      exact ⟨s, t, rfl, rfl, w, k1, k2, k3⟩
end
/-- both have gone some watches -/
def REnd (o L : Nat) (σ τ : Hp) (r r' : Option Hp) : Prop := ∃ σ' τ', r = some σ' ∧ r' = some τ' ∧ Ag (22 :: fwL o L) σ σ' ∧ (∀ j, j ≠ 10 → σ' L j = σ L j) ∧ FrM τ τ' ∧ RWar o 1 σ' τ' ∧ RunR o σ' τ' ∧ ∃ i : Nat, i ≤ 120 ∧ τ' 0 45 = nI i ∧ (¬ τ' 1 98 = 0 → σ' 26 6 = nI i)
theorem wgo_fill {n : Int32} (τ : Hp) : L_M_watchesGo_33 J_M_watchesGo_53 FU n 0 τ = J_M_watchesGo_53 n (zr τ 26 (fun j => if j < 16 then -2 else τ 26 j)) := by
  refine lone (fun N i s => L_M_watchesGo_33 J_M_watchesGo_53 N n (nI i) s) (fun i s => s = zr τ 26 (fun j => if j < i then -2 else τ 26 j)) (fun r => r = J_M_watchesGo_53 n (zr τ 26 (fun j => if j < 16 then -2 else τ 26 j))) 16 ?_ ?_ 16 0 FU τ (by omega) (by omega) (FU_lt (by omega)) ?_
  · rintro N s rfl
    rw [wgo33_un]
    unfold B_M_watchesGo_33
    rw [if_pos (by decide)]
  · rintro N i s hi rfl
    right
    rw [wgo33_un]
    unfold B_M_watchesGo_33
    rw [if_neg (show ¬ (16 : Int32) ≤ nI i from nI_ge (b := 16) (by omega) (by omega)), gd_true (inbT hi (by omega)), nI_clamp (by omega), nI_1]
    refine ⟨_, rfl, ?_⟩
    rw [zu_zr]
    congr 1
    funext j
    rw [upd_ap]
    by_cases q : j = i
    · rw [if_pos q, if_pos (by omega)]
    · rw [if_neg q]
      by_cases q2 : j < i
      · rw [if_pos q2, if_pos (by omega)]
      · rw [if_neg q2, if_neg (by omega)]
  · have : (fun j => if j < 0 then (-2 : Int32) else τ 26 j) = τ 26 := by funext j; rw [if_neg (by omega)]
    rw [this, zr_id]
theorem run_eq {o L n : Nat} (ho : o = 1 ∨ o = 13) (hL : L = 42 ∨ L = 51) {σ τ : Hp} (hw : RWar o 1 σ τ) (hv : RVal σ τ) (hl : RLaw1 L σ τ) (hn : n ≤ 120) : REnd o L σ τ (F_X2_run o L (nI n) σ) (F_M_watchesGo (nI n) τ) := by
  unfold F_X2_run F_M_watchesGo
  rw [fill_eq 27 16 (by omega), ob, wgo_fill]
  obtain ⟨s0, hs0⟩ : ∃ s, s = zu (zu (zu (zu (zu (zr σ 27 (fun j => if j < 16 then 0 else σ 27 j)) 26 2 0) 26 3 0) 26 4 0) 26 5 (-1)) 26 6 0 := ⟨_, rfl⟩
  obtain ⟨t0, ht0⟩ : ∃ t, t = zu (zu (zu (zu (zu (zu τ 0 40 0) 0 41 0) 0 42 0) 0 43 (-1)) 0 44 (-2)) 0 45 0 := ⟨_, rfl⟩
  rw [← hs0, ← ht0]
  obtain ⟨s1, l1, l2, l3, l4⟩ := look_eq (o := o) (by omega) (by omega) s0
  rw [l1, ob]
  obtain ⟨t1, ht1⟩ : ∃ t, t = zr t0 26 (fun j => if j < 16 then (-2 : Int32) else t0 26 j) := ⟨_, rfl⟩
  rw [← ht1]
  have sk : ∀ k, k ≠ 22 → k ≠ 26 → k ≠ 27 → s1 k = σ k := fun k h1 h2 h3 => by
    rw [l2 k (by simpa using h1), hs0, zu_ne _ _ _ h2, zu_ne _ _ _ h2, zu_ne _ _ _ h2, zu_ne _ _ _ h2, zu_ne _ _ _ h2, zr_ne _ _ h3]
  have s26 : s1 26 = s0 26 := l2 26 (by decide)
  have s27 : ∀ j, j < 16 → s1 27 j = 0 := fun j hj => by
    rw [l2 27 (by decide), hs0, zu_ne _ _ _ (by decide), zu_ne _ _ _ (by decide), zu_ne _ _ _ (by decide), zu_ne _ _ _ (by decide), zu_ne _ _ _ (by decide), zr_self, if_pos hj]
  have tk : ∀ k, k ≠ 0 → k ≠ 26 → t1 k = τ k := fun k h1 h2 => by
    rw [ht1, zr_ne _ _ h2, ht0, zu_ne _ _ _ h1, zu_ne _ _ _ h1, zu_ne _ _ _ h1, zu_ne _ _ _ h1, zu_ne _ _ _ h1, zu_ne _ _ _ h1]
  have t00 : t1 0 = t0 0 := by rw [ht1, zr_ne _ _ (by decide)]
  have t26 : ∀ j, j < 16 → t1 26 j = -2 := fun j hj => by rw [ht1, zr_self, if_pos hj]
  have fm : FrM τ t1 := by
    refine ⟨fun k hk => tk k (fun e => hk (by simp [e])) (fun e => hk (by simp [e])), fun j hj => ?_, fun j _ => by rw [tk 1 (by decide) (by decide)]⟩
    rw [t00, ht0]
    simp (disch := omega) only [zu_self, upd_ne]
  have w1 : RWar o 1 s1 t1 := hw.congr (fun j hj => sk _ (by omega) (by omega) (by omega)) (tk 1 (by decide) (by decide))
  have cx : Cxt o L s1 t1 := by
    refine ⟨ho, hL, hv.congr (sk 20 (by decide) (by decide) (by decide)) (sk 21 (by decide) (by decide) (by decide)) (tk 5 (by decide) (by decide)) (tk 4 (by decide) (by decide)), hl.congr (by rw [sk L (by omega) (by omega) (by omega)]) (fun j h1 h2 => sk _ (by omega) (by omega) (by omega)) (fm.2.1 15 (by omega)) (fun j h1 h2 => tk j (by omega) (by omega)), ?_, w1⟩
    have bb : ∀ c e, bothV o s1 c e = bothV o s0 c e := fun c e => by
      unfold bothV visC
      rw [l2 (o + 5) (by simp; omega), l2 20 (by decide), l2 21 (by decide), l2 (o + 4) (by simp; omega)]
    exact ⟨fun c hc => by rw [l3 c hc]; exact bset_congr (fun e _ => (bb c e).symm), fun e he => by rw [l4 e he]; exact bset_congr (fun c _ => (bb c e).symm)⟩
  have rr : RunR o s1 t1 := by
    refine ⟨?_, ?_, ?_, Or.inl ⟨?_, ?_⟩, fun g hg => Or.inl ⟨s27 g hg, t26 g hg⟩⟩
    · rw [s26, t00, hs0, ht0]; simp (disch := omega) only [zu_self, upd_ne, upd_s]
    · rw [s26, t00, hs0, ht0]; simp (disch := omega) only [zu_self, upd_ne, upd_s]
    · rw [s26, t00, hs0, ht0]; simp (disch := omega) only [zu_self, upd_ne, upd_s]
    · rw [s26, hs0]; simp (disch := omega) only [zu_self, upd_ne, upd_s]
    · rw [t00, ht0]; simp (disch := omega) only [zu_self, upd_ne, upd_s]
  have e45 : t1 0 45 = nI 0 := by rw [t00, ht0, zu_self, upd_s]; rfl
  have e6 : s1 26 6 = nI 0 := by rw [s26, hs0, zu_self, upd_s]; rfl
  have fin : ∀ (s t : Hp), Wt o L s1 t1 s t → (∃ i : Nat, i ≤ 120 ∧ t 0 45 = nI i ∧ (¬ t 1 98 = 0 → s 26 6 = nI i)) → REnd o L σ τ (some s) (some t) := by
    intro s t w hi
    refine ⟨s, t, rfl, rfl, fun k hk => ?_, fun j hj => ?_, fm.tr w.2.1, w.2.2.1, w.2.2.2, hi⟩
    · simp only [fwL, List.mem_cons, List.not_mem_nil, or_false, not_or] at hk
      rw [w.1.1 k (fw_no (by omega)), sk k (by omega) (by omega) (by omega)]
    · rw [w.1.2 j hj, sk L (by omega) (by omega) (by omega)]
  unfold J_M_watchesGo_53
  refine lock (fun N i s => L_X2_run_44 N o L (nI n) (nI (i + 1)) s) (fun N i t => L_M_watchesGo_55 N (nI n) (nI i) t) (fun i s t => Wt o L s1 t1 s t ∧ t 0 45 = nI i ∧ (¬ t 1 98 = 0 → s 26 6 = nI i)) (REnd o L σ τ) n ?_ ?_ n 0 FU FU s1 t1 (by omega) (by omega) (FU_lt (by omega)) (FU_lt (by omega)) ⟨⟨FrW.rf, FrM.rf, w1, rr⟩, e45, fun _ => e6⟩
  · rintro N1 N2 s t ⟨w, k1, k2⟩
    rw [run44_un, wgo55_un]
    unfold B_X2_run_44 B_M_watchesGo_55
    rw [if_pos (nI_lt (by omega) (by omega)), if_pos (nI_le (by omega) (by omega))]
    exact fin s t w ⟨n, hn, k1, k2⟩
  · rintro N1 N2 i s t hi ⟨w, k1, k2⟩
    rw [run44_un, wgo55_un]
    unfold B_X2_run_44 B_M_watchesGo_55
    rw [if_neg (nI_nlt (by omega) (by omega)), if_neg (nI_ge hi (by omega))]
    unfold F_X10_goesOn
    simp only [i97, i98, c97, c98, gd_tt]
    obtain ⟨-, ⟨T2, d, hd, T2'⟩, -, ⟨T4, -⟩⟩ := w.2.2.1.2
    rw [T2, T4, T2']
    by_cases q1 : t 1 98 = 0
    · rw [if_pos q1, if_pos q1]
      by_cases q2 : d = 9999
      · rw [if_pos (show (9999 : Int32) ≤ nI d from nI_le (a := 9999) (by omega) (by omega)), if_pos (show (9999 : Int32) ≤ nI d from nI_le (a := 9999) (by omega) (by omega)), ob]
        try dsimp only
        rw [if_pos rfl]
        exact Or.inl (fin s t w ⟨i, by omega, k1, k2⟩)
      · rw [if_neg (show ¬ (9999 : Int32) ≤ nI d from nI_ge (b := 9999) (by omega) (by omega)), if_neg (show ¬ (9999 : Int32) ≤ nI d from nI_ge (b := 9999) (by omega) (by omega)), ob]
        try dsimp only
        rw [if_neg (show ¬ (1 : Int32) = 0 by decide)]
        right
        obtain ⟨s', t', p1, p2, p3, p4, p5⟩ := pass_eq cx w (m := i + 1) (d := d) (by omega) (by omega) (by rw [k1, nI_1]) (by omega) T2' q1
        rw [p1, p2, ob, ob, nI_1, nI_1]
        exact ⟨s', t', rfl, rfl, p3, p4, p5⟩
    · rw [if_neg q1, if_neg q1, ob]
      try dsimp only
      rw [if_pos rfl]
      exact Or.inl (fin s t w ⟨i, by omega, k1, k2⟩)
