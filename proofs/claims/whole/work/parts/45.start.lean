theorem sw_104 : Cond.initialized RX11 ∈ tb := tb_in (List.mem_of_getElem? (i := 104) (by decide +kernel)) (by decide)
theorem sw_117 : Cond.initialized RX12 ∈ tb := tb_in (List.mem_of_getElem? (i := 117) (by decide +kernel)) (by decide)
theorem sw_126 : Cond.classLink RL 7 RX11 ∈ tb := tb_in (List.mem_of_getElem? (i := 126) (by decide +kernel)) (by decide)
theorem sw_127 : Cond.instantiable RX11 18 ∈ tb := tb_in (List.mem_of_getElem? (i := 127) (by decide +kernel)) (by decide)
theorem sw_128 : Cond.methodLink RL 9 yX11_init ∈ tb := tb_in (List.mem_of_getElem? (i := 128) (by decide +kernel)) (by decide)
theorem sw_129 : Cond.instanceMethod yX11_init ∈ tb := tb_in (List.mem_of_getElem? (i := 129) (by decide +kernel)) (by decide)
theorem sw_130 : Cond.code yX11_init cX11_init 1 none ∈ tb := tb_in (List.mem_of_getElem? (i := 130) (by decide +kernel)) (by decide)
theorem sw_135 : Cond.instantiable RX10 9 ∈ tb := tb_in (List.mem_of_getElem? (i := 135) (by decide +kernel)) (by decide)
theorem sw_194 : Cond.arrayClass .int ∈ tb := tb_in (List.mem_of_getElem? (i := 194) (by decide +kernel)) (by decide)
theorem sw_196 : Cond.instantiable RX9 3 ∈ tb := tb_in (List.mem_of_getElem? (i := 196) (by decide +kernel)) (by decide)
theorem sw_216 : Cond.instantiable RX8 5 ∈ tb := tb_in (List.mem_of_getElem? (i := 216) (by decide +kernel)) (by decide)
theorem sw_243 : Cond.instantiable RX6 2 ∈ tb := tb_in (List.mem_of_getElem? (i := 243) (by decide +kernel)) (by decide)
theorem sw_257 : Cond.instantiable RX2 7 ∈ tb := tb_in (List.mem_of_getElem? (i := 257) (by decide +kernel)) (by decide)
theorem sw_291 : Cond.instantiable RX7 2 ∈ tb := tb_in (List.mem_of_getElem? (i := 291) (by decide +kernel)) (by decide)
theorem sw_308 : Cond.instantiable RX1 1 ∈ tb := tb_in (List.mem_of_getElem? (i := 308) (by decide +kernel)) (by decide)
theorem sw_318 : Cond.instantiable RX3 4 ∈ tb := tb_in (List.mem_of_getElem? (i := 318) (by decide +kernel)) (by decide)
theorem sw_338 : Cond.instantiable RX0 5 ∈ tb := tb_in (List.mem_of_getElem? (i := 338) (by decide +kernel)) (by decide)
theorem sw_362 : Cond.instantiable RX4 11 ∈ tb := tb_in (List.mem_of_getElem? (i := 362) (by decide +kernel)) (by decide)
theorem sw_410 : Cond.instantiable RX5 2 ∈ tb := tb_in (List.mem_of_getElem? (i := 410) (by decide +kernel)) (by decide)
theorem sw_696 : Cond.arrayClass .byte ∈ tb := tb_in (List.mem_of_getElem? (i := 696) (by decide +kernel)) (by decide)
theorem sw_1136 : Cond.classLink RL 10 RX12 ∈ tb := tb_in (List.mem_of_getElem? (i := 1136) (by decide +kernel)) (by decide)
theorem sw_1137 : Cond.instantiable RX12 62 ∈ tb := tb_in (List.mem_of_getElem? (i := 1137) (by decide +kernel)) (by decide)
theorem sw_1138 : Cond.methodLink RL 12 yX12_init ∈ tb := tb_in (List.mem_of_getElem? (i := 1138) (by decide +kernel)) (by decide)
theorem sw_1139 : Cond.instanceMethod yX12_init ∈ tb := tb_in (List.mem_of_getElem? (i := 1139) (by decide +kernel)) (by decide)
theorem sw_1140 : Cond.code yX12_init cX12_init 1 none ∈ tb := tb_in (List.mem_of_getElem? (i := 1140) (by decide +kernel)) (by decide)
theorem dflt11 : ∀ j, j < 18 → defaultValue (tyX11 j) = vp_V [.null, .null, .null, .null, .null, .null, .null, .null, .null, .null, .null, .null, .null, .null, .null, .null, .null, .int 0] j := by decide
theorem dflt12 : ∀ j, j < 62 → defaultValue (tyX12 j) = vp_V [.null, .null, .null, .null, .null, .null, .int 0, .int 0, .int 0, .int 0, .int 0, .int 0, .int 0, .int 0, .int 0, .int 0, .null, .null, .null, .null, .null, .null, .null, .null, .null, .null, .null, .null, .null, .int 0, .null, .null, .null, .null, .null, .null, .int 0, .int 0, .int 0, .int 0, .int 0, .int 0, .int 0, .int 0, .int 0, .int 0, .null, .null, .null, .null, .null, .null, .null, .null, .null, .null, .int 0, .int 0, .int 0, .null, .null, .int 0] j := by decide
theorem nwV_tab : ∀ x ∈ nwV, x.onTables = true := by decide
theorem nwV_warm {s U : State} (hW : s.WarmedH U.vm) (h : ∀ x ∈ nwV, va_Nw x s) : ∀ x ∈ nwV, va_Nw x U := by
  intro x hx
  have h1 := h x hx
  simp only [nwV, List.mem_cons, List.not_mem_nil, or_false] at hx
  rcases hx with rfl | rfl | rfl | rfl | rfl | rfl | rfl | rfl <;> exact va_Nw.warmM hW h1
theorem lw_nest {s : State} {args : Array Value} (hts : ∀ w ∈ lw_tbl, w.before args s = true) : ∀ x ∈ nwV, va_Nw x s := by
  intro x hx
  have ht := nwV_tab x hx
  have h1 : nwV = [217, 292, 309, 319, 339, 363, 720, 766].filterMap (fun i => lw_tbl[i]?) := by decide +kernel
  rw [h1] at hx
  obtain ⟨i, -, hi⟩ := List.mem_filterMap.mp hx
  exact va_Nw.of ht (hts x (List.mem_of_getElem? hi))
/-- what the class's methods know beside their cells: private members, the constant text -/
def XVp (al : Nat → Nat) : State → Prop := fun U => (∀ x ∈ nwV, va_Nw x U) ∧ vk_R RX5 105 "sckalunovhd" (al 61) U ∧ StrF (al, (fun _ => 0, fun _ _ => 0), 0, 0, fun _ => True) U
def lwS (adS adV : Nat) (A : Nat → Prop) (s : State) : Prop := va_O "java/lang/String" adS A s s.heap ∧ va_OF "java/lang/String" "coder" "B" (.int 0) adS A s s.heap ∧ va_OF "java/lang/String" "value" "[B" (.ref adV) adS A s s.heap ∧ va_T .byte adV 11 (fun j => .int (sbyt j)) A s s.heap ∧ va_Z "java/lang/String" "COMPACT_STRINGS" "Z" (.int 1) A s s.heap
theorem lw_str {s : State} {b : Nat} (hts : ∀ w ∈ lw_tbl, w.before #[Value.ref b] s = true) (hgv : (Jvm.Cond.and given_1 narrow_1).before #[Value.ref b] s = true) : ∃ adS adV : Nat, lwS adS adV (lA s) s ∧ vk_R RX5 105 "sckalunovhd" adS s := by
  have hs := flat_of_before _ hgv
  have hA : ∀ a : Nat, a < s.heap.size → ¬ lA s a := fun a h h2 => by
    have : s.heap.size ≤ a := h2
    omega
  obtain ⟨adK, adV, hSt, hev⟩ := vk_Sof (args := #[Value.ref b]) (s := s) (N := 1) (tm := fun _ => .string "VerandaWar$LawReader" 105) (len := [11]) (byt := [[115, 99, 107, 97, 108, 117, 110, 111, 118, 104, 100]]) (A := lA s) (fun i hi => by
    obtain rfl : i = 0 := by omega
    decide) (fun i hi => hs _ (by decide +kernel)) (fun i hi => hs _ (by decide +kernel)) (fun i hi => hs _ (by decide +kernel)) (fun i hi => by
    obtain rfl : i = 0 := by omega
    exact hs _ (by decide +kernel)) (fun i hi j hj => by
    obtain rfl : i = 0 := by omega
    have hj : j < 11 := hj
    match j, hj with
    | 0, _ => exact hs _ (by decide +kernel)
    | 1, _ => exact hs _ (by decide +kernel)
    | 2, _ => exact hs _ (by decide +kernel)
    | 3, _ => exact hs _ (by decide +kernel)
    | 4, _ => exact hs _ (by decide +kernel)
    | 5, _ => exact hs _ (by decide +kernel)
    | 6, _ => exact hs _ (by decide +kernel)
    | 7, _ => exact hs _ (by decide +kernel)
    | 8, _ => exact hs _ (by decide +kernel)
    | 9, _ => exact hs _ (by decide +kernel)
    | 10, _ => exact hs _ (by decide +kernel)
    | j + 11, hj => exact absurd hj (by omega)) (fun i j hi hj hne => by omega) hA
  obtain ⟨k1, k2, k3, k4⟩ := hSt.1 0 (by decide)
  refine ⟨adK 0, adV 0, ⟨k1, k2, k3, k4, ?_⟩, vk_R.of (hts _ (List.mem_of_getElem? (i := 585) (by decide +kernel))) (hev 0 (by decide))⟩
  exact va_Zof (hts _ (List.mem_of_getElem? (i := 599) (by decide +kernel))) (hts _ (List.mem_of_getElem? (i := 118) (by decide +kernel))) (va_eqi (hs _ (by decide +kernel))) hA
theorem lw_strF {s : State} {adS adV : Nat} {al : Nat → Nat} {D : va_G} {cI cB : ClassId} (h : lwS adS adV (lA s) s) (a1 : al 61 = adS) (a2 : al 62 = adV) (hg : ∀ k, k < wC.1 → lA s (al k)) : StrF (al, (fun _ => 0, fun _ _ => 0), 0, 0, fun _ => True) s := by
  subst a1
  subst a2
  obtain ⟨⟨c1, p1, p2, p3, p4⟩, ⟨cf, k, i, f, c2, q1, q2, q3, q4, q5, q6⟩, ⟨cf', k', i', f', c2', r1, r2, r3, r4, r5, r6⟩, ⟨c4, t1, t2, t3, t4, t5, t6, t7⟩, ⟨zf, zk, zi, zfd, za, zc, z1, z2, z3, z4, z5, z6, z7, z8⟩⟩ := h
  have nA : ∀ t : Nat, ¬ lA s t → ¬ AXC (al, (fun _ => 0, fun _ _ => 0), 0, 0, fun _ => True) t := fun t h1 h2 => by
    obtain ⟨k, hk, rfl⟩ := h2
    exact h1 (hg k hk)
  exact ⟨⟨c1, p1, p2, p3, nA _ p4⟩, ⟨cf, k, i, f, c2, q1, q2, q3, q4, q5, nA _ q6⟩, ⟨cf', k', i', f', c2', r1, r2, r3, r4, r5, nA _ r6⟩, ⟨c4, t1, t2, t3, t4, t5, t6, nA _ t7⟩, ⟨zf, zk, zi, zfd, za, zc, z1, z2, z3, z4, z5, z6, z7, nA _ z8⟩⟩
theorem XVp_ok {D : va_G} {cI cB : ClassId} (al : Nat → Nat) : XC wC (al, D, cI, cB, XVp al) := by
  refine ⟨fun u U h hW hk => ?_, fun U g mk a h => ?_⟩
  · obtain ⟨h1, h2, h3, h4, h5, h6, h7⟩ := h
    have hm := hW.alike
    refine ⟨nwV_warm hW h1, h2.warm hW, (va_O.moved hm h3).kept ?_, (va_OF.moved hm h4).kept ?_, (va_OF.moved hm h5).kept ?_, (va_T.moved hm h6).kept ?_, (va_Z.moved hm h7).kept ?_⟩ <;> exact fun a ha hA => hk a ha hA
  · obtain ⟨h1, h2, h3, h4, h5, h6, h7⟩ := h
    refine ⟨fun x hx => va_Nw.same (u := U) (U := U.calling g mk a) (nwV_tab x hx) rfl (h1 x hx), vk_R.same (u := U) (U := U.calling g mk a) rfl h2, va_O.moved (u := U) (U := U.calling g mk a) (Vm.Alike.refl U.vm) h3, va_OF.moved (u := U) (U := U.calling g mk a) (Vm.Alike.refl U.vm) h4, va_OF.moved (u := U) (U := U.calling g mk a) (Vm.Alike.refl U.vm) h5, va_T.moved (u := U) (U := U.calling g mk a) (Vm.Alike.refl U.vm) h6, va_Z.moved (u := U) (U := U.calling g mk a) (Vm.Alike.refl U.vm) h7⟩
set_option maxHeartbeats 16000000 in
set_option maxRecDepth 100000 in
/-- THE LAW, from its entry, over a relation that every call keeps -/
theorem whole_of {Rl : Hp → Hp → Prop} (sim : SimP Rl) (hs0 : Rl sC0 sM0) {p : Program} {e : Env} {s : State} {m : MethodId} {below : List Frame} {meth : Method} {c : Code} (l : Launch) {b L : Nat} {xs : Nat → Int32} (hL : L ≤ 3072) (C0 : lw_At p s m meth c b L xs) : W p l e room_1 s m #[Value.ref b] below meth c s.heap [] 0 0 (lw_Z below #[Value.ref b] s) (entryFrame m ([Value.ref b] : List Value).toArray 4) := by
  obtain ⟨hx, hb, hr, hml, hown, hts0, hX, hbl, hlocks, hgv⟩ := id C0
  have hts : ∀ x ∈ tb, x.before #[Value.ref b] s = true := fun x h => hts0 x (List.mem_filter.mp h).1
  have hown : s.vm.findClass RL = some m.cls := hown
  have hA : ∀ q : Nat, s.heap.size ≤ q → lA s q := fun _ h => h
  obtain ⟨c0, iS0, hKn0⟩ := u_known (C := RX0) (T := TX0) (N := 5) (n := 5) hts inX0 (hts _ sw_338)
  obtain ⟨c1, iS1, hKn1⟩ := u_known (C := RX1) (T := TX1) (N := 1) (n := 1) hts inX1 (hts _ sw_308)
  obtain ⟨c2, iS2, hKn2⟩ := u_known (C := RX2) (T := TX2) (N := 7) (n := 7) hts inX2 (hts _ sw_257)
  obtain ⟨c3, iS3, hKn3⟩ := u_known (C := RX3) (T := TX3) (N := 4) (n := 4) hts inX3 (hts _ sw_318)
  obtain ⟨c4, iS4, hKn4⟩ := u_known (C := RX4) (T := TX4) (N := 11) (n := 11) hts inX4 (hts _ sw_362)
  obtain ⟨c5, iS5, hKn5⟩ := u_known (C := RX5) (T := TX5) (N := 2) (n := 2) hts inX5 (hts _ sw_410)
  obtain ⟨c6, iS6, hKn6⟩ := u_known (C := RX6) (T := TX6) (N := 2) (n := 2) hts inX6 (hts _ sw_243)
  obtain ⟨c7, iS7, hKn7⟩ := u_known (C := RX7) (T := TX7) (N := 2) (n := 2) hts inX7 (hts _ sw_291)
  obtain ⟨c8, iS8, hKn8⟩ := u_known (C := RX8) (T := TX8) (N := 5) (n := 5) hts inX8 (hts _ sw_216)
  obtain ⟨c9, iS9, hKn9⟩ := u_known (C := RX9) (T := TX9) (N := 3) (n := 3) hts inX9 (hts _ sw_196)
  obtain ⟨c10, iS10, hKn10⟩ := u_known (C := RX10) (T := TX10) (N := 9) (n := 9) hts inX10 (hts _ sw_135)
  obtain ⟨c11, iS11, hKn11⟩ := u_known (C := RX11) (T := TX11) (N := 18) (n := 18) hts inX11 (hts _ sw_127)
  obtain ⟨c12, iS12, hKn12⟩ := u_known (C := RX12) (T := TX12) (N := 62) (n := 62) hts inX12 (hts _ sw_1137)
  obtain ⟨dC, dI, hKc⟩ : ∃ (dC : Nat → ClassId) (dI : Nat → Nat → Nat), ∀ (k : Nat) (q : vw_C), vwCl[k]? = some q → u_Kn s q.1 q.2.1 q.2.2 (dC k) (dI k) := by
    refine ⟨fun k => [c0, c1, c2, c3, c4, c5, c6, c7, c8, c9, c10, c11, c12].getD k 0, fun k => [iS0, iS1, iS2, iS3, iS4, iS5, iS6, iS7, iS8, iS9, iS10, iS11, iS12].getD k (fun _ => 0), ?_⟩
    intro k q hq
    match k, hq with
    | 0, hq => cases hq; exact hKn0
    | 1, hq => cases hq; exact hKn1
    | 2, hq => cases hq; exact hKn2
    | 3, hq => cases hq; exact hKn3
    | 4, hq => cases hq; exact hKn4
    | 5, hq => cases hq; exact hKn5
    | 6, hq => cases hq; exact hKn6
    | 7, hq => cases hq; exact hKn7
    | 8, hq => cases hq; exact hKn8
    | 9, hq => cases hq; exact hKn9
    | 10, hq => cases hq; exact hKn10
    | 11, hq => cases hq; exact hKn11
    | 12, hq => cases hq; exact hKn12
    | k + 13, hq => simp [vwCl] at hq
  obtain ⟨cI, kI, coI, fI1, fI2, fI3⟩ := Cond.arrayClass_spec (hts _ sw_194)
  obtain ⟨cB, kB, coB, fB1, fB2, fB3⟩ := Cond.arrayClass_spec (hts _ sw_696)
  have hK : va_K (dC, dI) vwCl [(cI, .int), (cB, .byte)] s := by
    refine ⟨hKc, fun k q hk => ?_⟩
    match k, hk with
    | 0, hk => cases hk; exact ⟨fun n z => ⟨fun k h => (by cases h), kI, fI2, coI, fI3⟩, fI1⟩
    | 1, hk => cases hk; exact ⟨fun n z => ⟨fun k h => (by cases h), kB, fB2, coB, fB3⟩, fB1⟩
    | k + 2, hk => simp at hk
  obtain ⟨adS, adV, hSt, hsr⟩ := lw_str hts0 hgv
  have hnw : ∀ x ∈ nwV, va_Nw x s := lw_nest hts0
  have hS : va_S (lA s) s.heap s.heap [] := va_S.rf
  have hP : va_P (dC, dI) vwCl [] s.heap := fun k q h => by simp at h
  have hD : va_D (lA s) [] := ⟨fun i j p q h => by simp at h, fun k q h => by simp at h⟩
  have hl := lv_entry ([.ref b]) (n := 4) (Nat.le_of_ble_eq_true rfl)
  rw [lg_entry_eq]
  generalize (lg_sl ([.ref b]) ++ List.replicate (4 - (lg_sl ([.ref b])).length) Slot.unset).toArray = ls at hl ⊢
  have hl : lv_has ls 4 [(0, .ref b)] := hl
  refine va_new (ci := 11) (fs := [.null, .null, .null, .null, .null, .null, .null, .null, .null, .null, .null, .null, .null, .null, .null, .null, .null, .int 0]) (C := RX11) (T := TX11) (N := 18) hx hb hts inX11 tyX11 tyX11_ok hown (hts _ sw_126) (hts _ sw_127) (hts _ sw_104) hK hP hD hS hA rfl dflt11 (Nat.le_of_ble_eq_true rfl) (Nat.le_of_ble_eq_true rfl) (dk dt_law_0 0 rfl) (fun h0 H hP hD hS => ?_)
  have hP : va_P (dC, dI) vwCl [(h0, .inr (11, [.null, .null, .null, .null, .null, .null, .null, .null, .null, .null, .null, .null, .null, .null, .null, .null, .null, .int 0]))] H := hP
  have hD : va_D (lA s) [(h0, .inr (11, [.null, .null, .null, .null, .null, .null, .null, .null, .null, .null, .null, .null, .null, .null, .null, .null, .null, .int 0]))] := hD
  refine lv_dup hx hb (dk dt_law_0 1 rfl) rfl ?_
  have hFc := va_free (wc := [(h0, .inr (11, [.null, .null, .null, .null, .null, .null, .null, .null, .null, .null, .null, .null, .null, .null, .null, .null, .null, .int 0]))]) hD hS hA [0] rfl
  refine va_callv (va_runI (As := []) (rest := [.ref h0]) ⟨hx, hb, hml, hown, hts⟩ (ci_VerandaWar l (dC, dI) cI cB h0 H.size) (cwI 0 hts (goodIn_tb (fun x hx => by rcases List.mem_cons.mp hx with rfl | hx; exact sw_130; exact hx)) rfl rfl rfl (hts _ sw_104) (hts _ sw_128) (hts _ sw_129) rfl (by decide +kernel) ⟨Nat.le_of_ble_eq_true rfl, Nat.le_of_ble_eq_true rfl⟩) ⟨fun a U g mk q => by obtain ⟨q0, q1, qP, qK, qN, qD⟩ := q; exact ⟨q0, q1, qP, va_K.moved (u := U) (U := U.calling g mk a) (Vm.Alike.refl U.vm) qK, fun x hx => va_Nw.same (u := U) (U := U.calling g mk a) (nwV_tab x hx) rfl (qN x hx), qD⟩, fun U hU hW => ⟨rfl, by rw [hU], by rw [hU]; exact hP, va_K.moved hW.alike hK, nwV_warm hW hnw, hD.weaken (fun _ _ _ _ => trivial)⟩⟩ rfl rfl hl.1 rfl (lv_room (Nat.le_of_ble_eq_true rfl)) (dk dt_law_0 2 rfl) ⟨Nat.le_of_ble_eq_true rfl, Nat.le_of_ble_eq_true rfl⟩) hS (fun q _ h => hFc q h) hFc (fun uu t H1 locs ht hvm hw hB hz1 hk1 hS => ?_)
  obtain ⟨q5, war9_0, war9_1, war9_2, war9_3, war9_4, q16, war20_0, war20_1, war20_2, war20_3, war20_4, q27, war31_0, war31_1, war31_2, war31_3, war31_4, q38, valley42_0, valley42_1, valley42_2, q49, tape53_0, q60, q75, course83_0, q90, signals94_0, q101, signals105_0, q112, signals116_0, q123, common127_0, q134, glasses138_0, glasses138_1, q145, bridge149_0, q158, q164, law168_0, law168_1, law168_2, law168_3, law168_4, law168_5, law168_6, law168_7, q175, law179_0, law179_1, law179_2, law179_3, law179_4, law179_5, law179_6, law179_7, q186, hP1, hD1⟩ := hB
  rw [ht] at hP1
  have hD1 := hD1.weaken (B := lA s) (fun k q _ h => hFc _ h)
  obtain ⟨wsV, hwV⟩ : ∃ w : va_W, w = [(h0, .inr (11, [.ref q5, .ref q16, .ref q27, .ref q38, .ref q49, .ref q60, .ref q75, .ref q90, .ref q101, .ref q112, .ref q123, .ref q134, .ref q145, .ref q158, .ref q164, .ref q175, .ref q186, .int 0])), (q5, .inr (10, [.ref war9_0, .ref war9_1, .ref war9_2, .ref war9_3, .ref war9_4, .int 0, .int 0, .int 1, .int 0])), (war9_0, .inl (cI, 16, .inl (fun _ => 0))), (war9_1, .inl (cI, 16, .inl (fun _ => 0))), (war9_2, .inl (cI, 16, .inl (fun _ => 0))), (war9_3, .inl (cI, 16, .inl (fun _ => 0))), (war9_4, .inl (cI, 16, .inl (fill 16 3 (fun _ => 0)))), (q16, .inr (10, [.ref war20_0, .ref war20_1, .ref war20_2, .ref war20_3, .ref war20_4, .int 0, .int 0, .int 1, .int 0])), (war20_0, .inl (cI, 16, .inl (fun _ => 0))), (war20_1, .inl (cI, 16, .inl (fun _ => 0))), (war20_2, .inl (cI, 16, .inl (fun _ => 0))), (war20_3, .inl (cI, 16, .inl (fun _ => 0))), (war20_4, .inl (cI, 16, .inl (fill 16 3 (fun _ => 0)))), (q27, .inr (10, [.ref war31_0, .ref war31_1, .ref war31_2, .ref war31_3, .ref war31_4, .int 0, .int 0, .int 1, .int 0])), (war31_0, .inl (cI, 16, .inl (fun _ => 0))), (war31_1, .inl (cI, 16, .inl (fun _ => 0))), (war31_2, .inl (cI, 16, .inl (fun _ => 0))), (war31_3, .inl (cI, 16, .inl (fun _ => 0))), (war31_4, .inl (cI, 16, .inl (fill 16 3 (fun _ => 0)))), (q38, .inr (9, [.ref valley42_0, .ref valley42_1, .ref valley42_2])), (valley42_0, .inl (cI, 24, .inl (fun _ => 0))), (valley42_1, .inl (cI, 2, .inl (upd (upd (fun _ => 0) (0 : Int32).toNatClampNeg 50) (1 : Int32).toNatClampNeg 50))), (valley42_2, .inl (cI, 16, .inl (fun _ => 0))), (q49, .inr (8, [.ref tape53_0, .int 0, .int 0, .int 0, .int 0])), (tape53_0, .inl (cI, 260, .inl (fun _ => 0))), (q60, .inr (6, [.ref q49, .int 0])), (q75, .inr (2, [.ref q38, .ref course83_0, .int 0, .int 0, .int 0, .int (-1), .int 0])), (course83_0, .inl (cI, 16, .inl (fun _ => 0))), (q90, .inr (7, [.ref signals94_0, .int 0])), (signals94_0, .inl (cI, 60, .inl (fun _ => 0))), (q101, .inr (7, [.ref signals105_0, .int 0])), (signals105_0, .inl (cI, 60, .inl (fun _ => 0))), (q112, .inr (7, [.ref signals116_0, .int 0])), (signals116_0, .inl (cI, 60, .inl (fun _ => 0))), (q123, .inr (1, [.ref common127_0])), (common127_0, .inl (cI, 3721, .inl (fun _ => 0))), (q134, .inr (3, [.ref glasses138_0, .ref glasses138_1, .int 0, .int 0])), (glasses138_0, .inl (cI, 81, .inl (fun _ => 0))), (glasses138_1, .inl (cI, 8, .inl (fun _ => 0))), (q145, .inr (0, [.ref bridge149_0, .int 0, .int 0, .int 0, .int 0])), (bridge149_0, .inl (cI, 12, .inl (fun _ => 0))), (q158, .inl (cI, 24, .inl (fun _ => 0))), (q164, .inr (4, [.ref law168_0, .ref law168_1, .ref law168_2, .ref law168_3, .ref law168_4, .ref law168_5, .ref law168_6, .ref law168_7, .int 0, .int 0, .int 0])), (law168_0, .inl (cI, 240, .inl (fun _ => 0))), (law168_1, .inl (cI, 240, .inl (fun _ => 0))), (law168_2, .inl (cI, 16, .inl (fun _ => 0))), (law168_3, .inl (cI, 16, .inl (fun _ => 0))), (law168_4, .inl (cI, 16, .inl (fun _ => 0))), (law168_5, .inl (cI, 16, .inl (fun _ => 0))), (law168_6, .inl (cI, 11, .inl (fun _ => 0))), (law168_7, .inl (cI, 64, .inl (fun _ => 0))), (q175, .inr (4, [.ref law179_0, .ref law179_1, .ref law179_2, .ref law179_3, .ref law179_4, .ref law179_5, .ref law179_6, .ref law179_7, .int 0, .int 0, .int 0])), (law179_0, .inl (cI, 240, .inl (fun _ => 0))), (law179_1, .inl (cI, 240, .inl (fun _ => 0))), (law179_2, .inl (cI, 16, .inl (fun _ => 0))), (law179_3, .inl (cI, 16, .inl (fun _ => 0))), (law179_4, .inl (cI, 16, .inl (fun _ => 0))), (law179_5, .inl (cI, 16, .inl (fun _ => 0))), (law179_6, .inl (cI, 11, .inl (fun _ => 0))), (law179_7, .inl (cI, 64, .inl (fun _ => 0))), (q186, .inr (5, [.ref q49, .ref q175]))] := ⟨_, rfl⟩
  rw [← hwV] at hP1 hD1
  refine lv_astore_n (lv' := [(1, .ref h0), (0, .ref b)]) hx hb (dk dt_law_0 3 rfl) rfl hl (by decide) rfl (fun ls hl => ?_)
  refine va_new (ci := 12) (fs := [.null, .null, .null, .null, .null, .null, .int 0, .int 0, .int 0, .int 0, .int 0, .int 0, .int 0, .int 0, .int 0, .int 0, .null, .null, .null, .null, .null, .null, .null, .null, .null, .null, .null, .null, .null, .int 0, .null, .null, .null, .null, .null, .null, .int 0, .int 0, .int 0, .int 0, .int 0, .int 0, .int 0, .int 0, .int 0, .int 0, .null, .null, .null, .null, .null, .null, .null, .null, .null, .null, .int 0, .int 0, .int 0, .null, .null, .int 0]) (C := RX12) (T := TX12) (N := 62) hx hb hts inX12 tyX12 tyX12_ok hown (hts _ sw_1136) (hts _ sw_1137) (hts _ sw_117) hK hP1 hD1 hS hA rfl dflt12 (Nat.le_of_ble_eq_true rfl) (Nat.le_of_ble_eq_true rfl) (dk dt_law_0 4 rfl) (fun g0 H2 hP2 hD2 hS => ?_)
  have hPV : va_P (dC, dI) vwCl wsV H2 := fun k q hk => hP2 k q (by rw [List.getElem?_append_left (List.getElem?_eq_some_iff.mp hk).1]; exact hk)
  have hg0 : (wsV ++ [(g0, .inr (12, [.null, .null, .null, .null, .null, .null, .int 0, .int 0, .int 0, .int 0, .int 0, .int 0, .int 0, .int 0, .int 0, .int 0, .null, .null, .null, .null, .null, .null, .null, .null, .null, .null, .null, .null, .null, .int 0, .null, .null, .null, .null, .null, .null, .int 0, .int 0, .int 0, .int 0, .int 0, .int 0, .int 0, .int 0, .int 0, .int 0, .null, .null, .null, .null, .null, .null, .null, .null, .null, .null, .int 0, .int 0, .int 0, .null, .null, .int 0]))])[wsV.length]? = some (g0, .inr (12, [.null, .null, .null, .null, .null, .null, .int 0, .int 0, .int 0, .int 0, .int 0, .int 0, .int 0, .int 0, .int 0, .int 0, .null, .null, .null, .null, .null, .null, .null, .null, .null, .null, .null, .null, .null, .int 0, .null, .null, .null, .null, .null, .null, .int 0, .int 0, .int 0, .int 0, .int 0, .int 0, .int 0, .int 0, .int 0, .int 0, .null, .null, .null, .null, .null, .null, .null, .null, .null, .null, .int 0, .int 0, .int 0, .null, .null, .int 0])) := by simp
  have hPM : va_P (dC, dI) vwCl [(g0, .inr (12, [.null, .null, .null, .null, .null, .null, .int 0, .int 0, .int 0, .int 0, .int 0, .int 0, .int 0, .int 0, .int 0, .int 0, .null, .null, .null, .null, .null, .null, .null, .null, .null, .null, .null, .null, .null, .int 0, .null, .null, .null, .null, .null, .null, .int 0, .int 0, .int 0, .int 0, .int 0, .int 0, .int 0, .int 0, .int 0, .int 0, .null, .null, .null, .null, .null, .null, .null, .null, .null, .null, .int 0, .int 0, .int 0, .null, .null, .int 0]))] H2 := fun k q hk => by
    have hz : k < 1 := (List.getElem?_eq_some_iff.mp hk).1
    rw [show k = 0 by omega] at hk
    cases hk
    exact hP2 _ _ hg0
  have hDM : va_D (lA s) [(g0, .inr (12, [.null, .null, .null, .null, .null, .null, .int 0, .int 0, .int 0, .int 0, .int 0, .int 0, .int 0, .int 0, .int 0, .int 0, .null, .null, .null, .null, .null, .null, .null, .null, .null, .null, .null, .null, .null, .int 0, .null, .null, .null, .null, .null, .null, .int 0, .int 0, .int 0, .int 0, .int 0, .int 0, .int 0, .int 0, .int 0, .int 0, .null, .null, .null, .null, .null, .null, .null, .null, .null, .null, .int 0, .int 0, .int 0, .null, .null, .int 0]))] := ⟨fun i j p q h1 h2 _ => by
    have z1 : i < 1 := (List.getElem?_eq_some_iff.mp h1).1
    have z2 : j < 1 := (List.getElem?_eq_some_iff.mp h2).1
    omega, fun k q hk => by
    have hz : k < 1 := (List.getElem?_eq_some_iff.mp hk).1
    rw [show k = 0 by omega] at hk
    cases hk
    exact hD2.2 _ _ hg0⟩
  have hne : ∀ (k : Nat) (q : Nat × va_E), wsV[k]? = some q → q.1 ≠ g0 := fun k q hk hh => by
    have hkl := (List.getElem?_eq_some_iff.mp hk).1
    have := hD2.1 k wsV.length q _ (by rw [List.getElem?_append_left hkl]; exact hk) hg0 hh
    omega
  refine lv_dup hx hb (dk dt_law_0 5 rfl) rfl ?_
  have hFm : ∀ q, va_A [(g0, .inr (12, [.null, .null, .null, .null, .null, .null, .int 0, .int 0, .int 0, .int 0, .int 0, .int 0, .int 0, .int 0, .int 0, .int 0, .null, .null, .null, .null, .null, .null, .null, .null, .null, .null, .null, .null, .null, .int 0, .null, .null, .null, .null, .null, .null, .int 0, .int 0, .int 0, .int 0, .int 0, .int 0, .int 0, .int 0, .int 0, .int 0, .null, .null, .null, .null, .null, .null, .null, .null, .null, .null, .int 0, .int 0, .int 0, .null, .null, .int 0]))] H2.size q → lA s q := va_free (wc := [(g0, .inr (12, [.null, .null, .null, .null, .null, .null, .int 0, .int 0, .int 0, .int 0, .int 0, .int 0, .int 0, .int 0, .int 0, .int 0, .null, .null, .null, .null, .null, .null, .null, .null, .null, .null, .null, .null, .null, .int 0, .null, .null, .null, .null, .null, .null, .int 0, .int 0, .int 0, .int 0, .int 0, .int 0, .int 0, .int 0, .int 0, .int 0, .null, .null, .null, .null, .null, .null, .null, .null, .null, .null, .int 0, .int 0, .int 0, .null, .null, .int 0]))]) hDM hS hA [0] rfl
  refine va_callv (va_runI (As := []) (rest := [.ref g0]) ⟨hx, hb, hml, hown, hts⟩ (ci_Model l (dC, dI) cI cB g0 H2.size) (cwI 0 hts (goodIn_tb (fun x hx => by rcases List.mem_cons.mp hx with rfl | hx; exact sw_1140; exact hx)) rfl rfl rfl (hts _ sw_117) (hts _ sw_1138) (hts _ sw_1139) rfl (by decide +kernel) ⟨Nat.le_of_ble_eq_true rfl, Nat.le_of_ble_eq_true rfl⟩) ⟨fun a U g mk q => by obtain ⟨q0, q1, qP, qK, qD⟩ := q; exact ⟨q0, q1, qP, va_K.moved (u := U) (U := U.calling g mk a) (Vm.Alike.refl U.vm) qK, qD⟩, fun U hU hW => ⟨rfl, by rw [hU], by rw [hU]; exact hPM, va_K.moved hW.alike hK, hDM.weaken (fun _ _ _ _ => trivial)⟩⟩ rfl rfl hl.1 rfl (lv_room (Nat.le_of_ble_eq_true rfl)) (dk dt_law_0 6 rfl) ⟨Nat.le_of_ble_eq_true rfl, Nat.le_of_ble_eq_true rfl⟩) hS (fun q _ h => hFm q h) hFm (fun uu2 t2 H3 locs ht2 hvm2 hw2 hB2 hz2 hk2 hS => ?_)
  obtain ⟨m_q7, m_q15, m_q23, m_q30, m_q38, m_q47, m_q56, m_q65, m_q73, m_q81, m_q89, m_q97, m_q106, m_q114, m_q122, m_q130, m_q138, m_q147, m_q155, m_q163, m_q170, m_q178, m_q185, m_q192, m_q199, m_q207, m_q216, m_q224, m_q233, m_q241, m_q249, m_q257, m_q265, m_q273, m_q281, m_q289, m_q297, hP3, hD3⟩ := hB2
  rw [ht2] at hP3
  have hPV3 : va_P (dC, dI) vwCl wsV H3 := fun k q hk => (hPV k q hk).kept (hk2 q.1 (hPV k q hk).lt (fun h => by
    rcases h with ⟨j, e9, h⟩ | h
    · have hz : j < 1 := (List.getElem?_eq_some_iff.mp h).1
      rw [show j = 0 by omega] at h
      have h : some (g0, _) = some (q.1, e9) := h
      injection h with h
      injection h with h1 h2
      exact hne k q hk h1.symm
    · have := (hPV k q hk).lt
      omega))
  have hltV : ∀ (k : Nat) (q : Nat × va_E), wsV[k]? = some q → q.1 < H2.size := fun k q hk => (hPV k q hk).lt
  have hDV := hD1
  subst hwV
  obtain ⟨zPV, zIV, zGV⟩ := cvV (cB := cB) (X := XVp (fun k => [h0, q5, war9_0, war9_1, war9_2, war9_3, war9_4, q16, war20_0, war20_1, war20_2, war20_3, war20_4, q27, war31_0, war31_1, war31_2, war31_3, war31_4, q38, valley42_0, valley42_1, valley42_2, q49, tape53_0, q60, q75, course83_0, q90, signals94_0, q101, signals105_0, q112, signals116_0, q123, common127_0, q134, glasses138_0, glasses138_1, q145, bridge149_0, q158, q164, law168_0, law168_1, law168_2, law168_3, law168_4, law168_5, law168_6, law168_7, q175, law179_0, law179_1, law179_2, law179_3, law179_4, law179_5, law179_6, law179_7, q186, adS, adV].getD k 0)) (adS := adS) (adV := adV) hPV3 hDV
  obtain ⟨zPM, zIM, zGM⟩ := cvM (X := fun _ => True) hP3 hD3
  have hge : ∀ k, k < wM.1 → (fun k => [g0, m_q7, m_q15, m_q23, m_q30, m_q38, m_q47, m_q56, m_q65, m_q73, m_q81, m_q89, m_q97, m_q106, m_q114, m_q122, m_q130, m_q138, m_q147, m_q155, m_q163, m_q170, m_q178, m_q185, m_q192, m_q199, m_q207, m_q216, m_q224, m_q233, m_q241, m_q249, m_q257, m_q265, m_q273, m_q281, m_q289, m_q297].getD k 0) k = g0 ∨ H2.size ≤ (fun k => [g0, m_q7, m_q15, m_q23, m_q30, m_q38, m_q47, m_q56, m_q65, m_q73, m_q81, m_q89, m_q97, m_q106, m_q114, m_q122, m_q130, m_q138, m_q147, m_q155, m_q163, m_q170, m_q178, m_q185, m_q192, m_q199, m_q207, m_q216, m_q224, m_q233, m_q241, m_q249, m_q257, m_q265, m_q273, m_q281, m_q289, m_q297].getD k 0) k := fun k hk => by
    rcases zGM k hk with ⟨j, e9, h⟩ | h
    · have hz : j < 1 := (List.getElem?_eq_some_iff.mp h).1
      rw [show j = 0 by omega] at h
      injection h with h
      injection h with h1 h2
      exact Or.inl h1.symm
    · exact Or.inr h
  obtain ⟨-, -, zGV2⟩ := cvV (cB := cB) (X := fun _ => True) (A := fun q => q < H2.size ∧ q ≠ g0) (adS := adS) (adV := adV) hPV3 ⟨hDV.1, fun k q hk => ⟨hltV k q hk, hne k q hk⟩⟩
  generalize hal : (fun k => [h0, q5, war9_0, war9_1, war9_2, war9_3, war9_4, q16, war20_0, war20_1, war20_2, war20_3, war20_4, q27, war31_0, war31_1, war31_2, war31_3, war31_4, q38, valley42_0, valley42_1, valley42_2, q49, tape53_0, q60, q75, course83_0, q90, signals94_0, q101, signals105_0, q112, signals116_0, q123, common127_0, q134, glasses138_0, glasses138_1, q145, bridge149_0, q158, q164, law168_0, law168_1, law168_2, law168_3, law168_4, law168_5, law168_6, law168_7, q175, law179_0, law179_1, law179_2, law179_3, law179_4, law179_5, law179_6, law179_7, q186, adS, adV].getD k 0) = al at zPV zIV zGV zGV2
  generalize hbe : (fun k => [g0, m_q7, m_q15, m_q23, m_q30, m_q38, m_q47, m_q56, m_q65, m_q73, m_q81, m_q89, m_q97, m_q106, m_q114, m_q122, m_q130, m_q138, m_q147, m_q155, m_q163, m_q170, m_q178, m_q185, m_q192, m_q199, m_q207, m_q216, m_q224, m_q233, m_q241, m_q249, m_q257, m_q265, m_q273, m_q281, m_q289, m_q297].getD k 0) = be at zPM zIM zGM hge
  have a0 : al 0 = h0 := by rw [← hal]; rfl
  have a61 : al 61 = adS := by rw [← hal]; rfl
  have a62 : al 62 = adV := by rw [← hal]; rfl
  have b0 : be 0 = g0 := by rw [← hbe]; rfl
  clear hal hbe
  refine lv_astore_n (lv' := [(2, .ref g0), (1, .ref h0), (0, .ref b)]) hx hb (dk dt_law_0 7 rfl) rfl hl (by decide) rfl (fun ls hl => ?_)
  refine lv_iconst (v := 0) hx hb (dk dt_law_0 8 rfl) (by decide) ?_
  refine lv_istore_n (lv' := [(3, .int 0), (2, .ref g0), (1, .ref h0), (0, .ref b)]) hx hb (dk dt_law_0 9 rfl) rfl hl (by decide) rfl (fun ls hl => ?_)
  refine W.widen (k := 99) (n := 14100) (Nat.le_of_ble_eq_true rfl) (Nat.le_of_ble_eq_true rfl) ?_
  have hXv : zX (al, (dC, dI), cI, cB, XVp al) s := ⟨hnw, by rw [a61]; exact hsr, lw_strF (D := (dC, dI)) (cI := cI) (cB := cB) hSt a61 a62 (fun k hk => zGV k hk)⟩
  have xcV := XVp_ok (D := (dC, dI)) (cI := cI) (cB := cB) al
  have nsx : SX (al, (dC, dI), cI, cB, XVp al) := fun U h => h.2.2
  have LXX : LX p s m #[Value.ref b] c b L xs (al, (dC, dI), cI, cB, XVp al) (be, (dC, dI), cI, cB, fun _ => True) := by
    refine ⟨hx, hb, hml, hown, hts, ⟨hK, hK, zIV, zIM, xcV, ⟨fun _ _ _ _ _ => trivial, fun _ _ _ _ _ => trivial⟩, hXv, trivial⟩, ⟨fun k hk => zGV k hk, fun k hk => ?_, fun i j hi hj hh => ?_⟩, ⟨hX, hbl⟩, ⟨fun U h => h.1 _ nw_VerandaWar_OrdersReader_46, fun U h => h.1 _ nw_VerandaWar_Signals_62, fun U h => h.2.1, ixc_of zIV xcV nsx⟩⟩
    · exact hFm _ (zGM k hk)
    · have h1 := zGV2 i hi
      have hh : al i = be j := hh
      have h1 : al i < H2.size ∧ al i ≠ g0 := h1
      rcases hge j hj with h2 | h2
      · exact h1.2 (hh.trans h2)
      · omega
  have hl : lv_has ls 4 [(3, .int (nI 0)), (2, .ref (be 0)), (1, .ref (al 0)), (0, .ref b)] := by rw [a0, b0]; exact hl
  exact law_loop LXX hr hlocks hL (Nat.le_of_ble_eq_true rfl) (Nat.le_of_ble_eq_true rfl) sim 3085 0 sC0 sM0 hs0 (by omega) (by omega) _ _ ls hl zPV zPM hS
