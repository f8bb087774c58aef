-- bridge: the class plays from the lead
def pR (b : Option (Nat × Nat)) (σ : Hp) : Prop := match b with
  | none => σ 39 4 = -1
  | some y => σ 39 3 = nI y.1 ∧ σ 39 4 = nI y.2 ∧ y.1 < 50 ∧ y.2 < 52
section
variable {cd : Nat → Nat} {tr : Nat} {dl : Nat → Bool}
theorem pf_un (N : Nat) (a b : Int32) (σ : Hp) : L_X0_playFrom_9 (N + 1) a b σ = B_X0_playFrom_9 (fun x1 x2 σ => L_X0_playFrom_9 N x1 x2 σ) a b σ := rfl
theorem pf_loop {r pl : Nat} (hr : r ≤ 11) (hp : pl < 4) (hc : c12 dl 12 = r + 1) : ∀ (j k N : Nat) (b : Option (Nat × Nat)) (σ : Hp), k + j = 3 → j < N → CC cd tr dl σ → Bm (σ 39 2) dl → pR b σ → ∃ σ', L_X0_playFrom_9 N (nI pl) (nI (3 * pl + k)) σ = some σ' ∧ Ag [39] σ σ' ∧ pR (f3 cd (fun s => lvF cd tr (bv cd tr r) r dl s 0 0 0) dl pl 0 0 j k b) σ' := by
  intro j
  induction j with
  | zero =>
    intro k N b σ hk hN hC hB hb
    obtain ⟨N, rfl⟩ : ∃ N', N = N' + 1 := ⟨N - 1, by omega⟩
    refine ⟨σ, ?_, Ag.rf, hb⟩
    rw [pf_un]
    unfold B_X0_playFrom_9
    rw [nl3, pk_mul, nI_add, if_pos (nI_le (by omega) (by omega))]
  | succ j ih =>
    intro k N b σ hk hN hC hB hb
    obtain ⟨N, rfl⟩ : ∃ N', N = N' + 1 := ⟨N - 1, by omega⟩
    have ef : f3 cd (fun s => lvF cd tr (bv cd tr r) r dl s 0 0 0) dl pl 0 0 (j + 1) k b = f3 cd (fun s => lvF cd tr (bv cd tr r) r dl s 0 0 0) dl pl 0 0 j (k + 1) (if alw cd dl pl 0 0 k = true then bt2 pl b (lv cd tr r dl (3 * pl + k) 0 0 0) (cd (3 * pl + k)) else b) := rfl
    have ea : alw cd dl pl 0 0 k = dl (3 * pl + k) := by
      unfold alw
      rw [decide_eq_true (show 0 = 0 from rfl), Bool.true_or, Bool.and_true]
    rw [ef, ea]
    by_cases h1 : dl (3 * pl + k) = true
    rotate_left
    · rw [if_neg h1]
      obtain ⟨σ', e1, e2, e3⟩ := ih (k + 1) N b σ (by omega) (by omega) hC hB hb
      refine ⟨σ', ?_, e2, e3⟩
      rw [pf_un]
      unfold B_X0_playFrom_9
      rw [nl3, pk_mul, nI_add, if_neg (nI_ge (by omega) (by omega)), if_neg (show ¬ Int32.ofNat 12 ≤ nI (3 * pl + k) from nI_ge (b := 12) (by omega) (by omega)), X0_left hB (by omega), ob]
      dsimp only
      rw [b2_ite, nI_1, if_neg h1]
      exact e1
    obtain ⟨s1, s2, s3⟩ := hC.2.2 _ h1
    have vle := lv_le (cd := cd) (tr := tr) r dl (3 * pl + k) 0 0 0
    obtain ⟨v, hv⟩ : ∃ v, v = lv cd tr r dl (3 * pl + k) 0 0 0 := ⟨_, rfl⟩
    rw [← hv] at vle
    have lay : D_X0_lay (σ 39 2) (nI (3 * pl + k)) 0 0 0 σ = some (nI v, σ) := by
      rw [hv]
      exact (G_all (cd := cd) (tr := tr) (dl := dl) r 30 (by omega) (by omega)).2 (by omega) dl (σ 39 2) (3 * pl + k) 0 0 0 σ hC hB (fun _ z => z) h1 (by omega) (fun z => absurd z (by omega)) hc
    rw [if_pos h1, ← hv]
    have up : ∃ σ2, zu (zu σ 39 3 (nI v)) 39 4 ((zu σ 39 3 (nI v)) 40 (3 * pl + k)) = σ2 ∧ Ag [39] σ σ2 ∧ CC cd tr dl σ2 ∧ Bm (σ2 39 2) dl ∧ pR (some (v, cd (3 * pl + k))) σ2 := by
      refine ⟨_, rfl, (Ag.rf.zu (by decide)).zu (by decide), ⟨?_, hC.2.1, fun s hs => ?_⟩, ?_, ?_, ?_, ?_, s3⟩
      · simp (disch := omega) only [zu_ne, zu_self, upd_ne, upd_s]; exact hC.1
      · rw [zu_ne _ _ _ (show 40 ≠ 39 by decide), zu_ne _ _ _ (show 40 ≠ 39 by decide)]; exact hC.2.2 s hs
      · simp (disch := omega) only [zu_ne, zu_self, upd_ne, upd_s]; exact hB
      · simp (disch := omega) only [zu_ne, zu_self, upd_ne, upd_s]
      · simp (disch := omega) only [zu_ne, zu_self, upd_ne, upd_s]; exact s2
      · show v < 50; omega
    obtain ⟨σ2, u1, u2, u3, u4, u5⟩ := up
    have j104 : J_X0_playFrom_104 (fun x1 x2 σ => L_X0_playFrom_9 N x1 x2 σ) (nI pl) (nI (3 * pl + k)) (nI v) σ = L_X0_playFrom_9 N (nI pl) (nI (3 * pl + (k + 1))) σ2 := by
      unfold J_X0_playFrom_104
      rw [gd_true (inbT s1 (by omega)), nI_clamp (by omega), u1, nI_1]; rfl
    have yes : bt2 pl b v (cd (3 * pl + k)) = some (v, cd (3 * pl + k)) → ∃ σ', J_X0_playFrom_104 (fun x1 x2 σ => L_X0_playFrom_9 N x1 x2 σ) (nI pl) (nI (3 * pl + k)) (nI v) σ = some σ' ∧ Ag [39] σ σ' ∧ pR (f3 cd (fun s => lvF cd tr (bv cd tr r) r dl s 0 0 0) dl pl 0 0 j (k + 1) (bt2 pl b v (cd (3 * pl + k)))) σ' := by
      intro e
      obtain ⟨σ', e1, e2, e3⟩ := ih (k + 1) N (some (v, cd (3 * pl + k))) σ2 (by omega) (by omega) u3 u4 u5
      exact ⟨σ', by rw [j104]; exact e1, u2.tr e2 _ (fun _ z => z) (fun _ z => z), by rw [e]; exact e3⟩
    have no : bt2 pl b v (cd (3 * pl + k)) = b → ∃ σ', L_X0_playFrom_9 N (nI pl) (nI (3 * pl + (k + 1))) σ = some σ' ∧ Ag [39] σ σ' ∧ pR (f3 cd (fun s => lvF cd tr (bv cd tr r) r dl s 0 0 0) dl pl 0 0 j (k + 1) (bt2 pl b v (cd (3 * pl + k)))) σ' := by
      intro e
      obtain ⟨σ', e1, e2, e3⟩ := ih (k + 1) N b σ (by omega) (by omega) hC hB hb
      exact ⟨σ', e1, e2, by rw [e]; exact e3⟩
    rw [pf_un]
    unfold B_X0_playFrom_9
    rw [nl3, pk_mul, nI_add, if_neg (nI_ge (by omega) (by omega)), if_neg (show ¬ Int32.ofNat 12 ≤ nI (3 * pl + k) from nI_ge (b := 12) (by omega) (by omega)), X0_left hB (by omega), ob]
    dsimp only
    rw [b2_ite, if_pos h1, lay, ob]
    dsimp only
    unfold J_X0_playFrom_71 J_X0_playFrom_76
    rw [if_neg (show ¬ (1 : Int32) = 0 by decide)]
    match b, hb, yes, no with
    | none, hb, yes, _ =>
      have hb : σ 39 4 = -1 := hb
      rw [if_pos hb]
      exact yes rfl
    | some y, hb, yes, no =>
      obtain ⟨y1, y2, y3, y4⟩ := hb
      have e2 : bt2 pl (some y) v (cd (3 * pl + k)) = if bet pl v y.1 = true ∨ (v = y.1 ∧ cd (3 * pl + k) < y.2) then some (v, cd (3 * pl + k)) else some y := rfl
      rw [if_neg (show ¬ σ 39 4 = -1 by rw [y2]; exact nI_m1 (by omega)), y1, X0_better hp (by omega) (by omega), ob]
      dsimp only
      rw [b2_ite]
      by_cases q1 : bet pl v y.1 = true
      · rw [if_pos q1]
        exact yes (by rw [e2, if_pos (Or.inl q1)])
      rw [if_neg q1, if_pos rfl, gd_true (inbT s1 (by omega)), nI_clamp (by omega), nI_1]
      by_cases q2 : v = y.1
      · rw [if_pos (show nI v = σ 39 3 by rw [y1, q2])]
        by_cases q3 : cd (3 * pl + k) < y.2
        · rw [if_neg (show ¬ σ 39 4 ≤ σ 40 (3 * pl + k) by rw [y2, s2]; exact nI_ge q3 (by omega))]
          exact yes (by rw [e2, if_pos (Or.inr ⟨q2, q3⟩)])
        · rw [if_pos (show σ 39 4 ≤ σ 40 (3 * pl + k) by rw [y2, s2]; exact nI_le (by omega) (by omega))]
          exact no (by rw [e2, if_neg (by rintro (z | z); exact q1 z; exact q3 z.2)])
      · rw [if_neg (show ¬ nI v = σ 39 3 by rw [y1]; exact nI_lit (by omega) (by omega) q2)]
        exact no (by rw [e2, if_neg (by rintro (z | z); exact q1 z; exact q2 z.1)])
theorem C_playFrom {r pl : Nat} {σ : Hp} (hr : r ≤ 11) (hp : pl < 4) (hc : c12 dl 12 = r + 1) (hC : CC cd tr dl σ) (hB : Bm (σ 39 2) dl) : ∃ σ', F_X0_playFrom (nI pl) σ = some σ' ∧ Ag [39] σ σ' ∧ pR (bv cd tr (r + 1) dl pl 0 0 0) σ' := by
  obtain ⟨σ', e1, e2, e3⟩ := pf_loop (cd := cd) (tr := tr) hr hp hc 3 0 FU none (zu σ 39 4 (-1)) rfl (FU_lt (by omega)) ⟨by rw [zu_self, upd_ne _ _ (by decide)]; exact hC.1, hC.2.1, fun s hs => by rw [zu_ne _ _ _ (show 40 ≠ 39 by decide)]; exact hC.2.2 s hs⟩ (by rw [zu_self, upd_ne _ _ (by decide)]; exact hB) (by show zu σ 39 4 (-1) 39 4 = -1; rw [zu_self, upd_s])
  refine ⟨σ', ?_, (Ag.rf.zu (by decide)).tr e2 _ (fun _ z => z) (fun _ z => z), e3⟩
  unfold F_X0_playFrom
  rw [nl3, pk_mul, show pl * 3 = 3 * pl + 0 by omega]
  exact e1
end
