def T_M_outside_0 : DT := [(0, .aload_n 0, 1), (1, .iload_n 1, 1), (2, .iconst 0, 1), (3, .invokevirtual 137, 3), (6, .aload_n 0, 1), (7, .iload_n 1, 1), (8, .iconst 1, 1), (9, .invokevirtual 137, 3), (12, .ior, 1), (13, .ireturn, 1)]
theorem dt_M_outside_0 : dOk cX12_outside T_M_outside_0 := by unfold dOk; decide +kernel
section
variable {v : ZV} {l : Launch} {p : Program} {e : Env} {R : Room} {s : State} {m : MethodId} {args : Array Value} {below : List Frame} {meth : Method} {c : Code} {Q : State → Prop} {res : (Int32 × Hp)} 
set_option maxRecDepth 20000 in
theorem lkF_M_outside (hi : zInj wM v) (xc : XC wM v) (nx : NXM v) (X : Cx wM v p R s m args c 0 0 cX12_outside 2 RX12 4) (rt : Rt wM v p l e R s m args below meth c 0 0 Q cX12_outside false (some (.int res.1)) res.2) {a1 : Int32} {σ : Hp}  (h : F_M_outside  a1 σ = some res) : Go wM v p l e R s m args below meth c 0 0 Q 2 0 [(0, .ref 0), (1, .int a1)] [] σ := by
  unfold F_M_outside at h
  refine go_aload_n X 0 (dk dt_M_outside_0 0 rfl) rfl rfl ?_
  refine go_iload_n X 1 (dk dt_M_outside_0 1 rfl) rfl rfl ?_
  refine go_iconst X (dk dt_M_outside_0 2 rfl) ci_0 ?_
  refine go_Vi (As := [.int a1, .int (0 : Int32)]) (rest := []) X vo_X12_137 (fun q hq => ct_M_setOf hi xc nx  hq) (by decide) rfl lM_0 sM_0 rfl rfl (Nat.le_of_ble_eq_true rfl) (dk dt_M_outside_0 3 rfl) h (fun q3 h => ?_)
  refine go_aload_n X 0 (dk dt_M_outside_0 4 rfl) rfl rfl ?_
  refine go_iload_n X 1 (dk dt_M_outside_0 5 rfl) rfl rfl ?_
  refine go_iconst X (dk dt_M_outside_0 6 rfl) ci_1 ?_
  refine go_Vi (As := [.int a1, .int (1 : Int32)]) (rest := [.int q3.1]) X vo_X12_137 (fun q hq => ct_M_setOf hi xc nx  hq) (by decide) rfl lM_0 sM_0 rfl rfl (Nat.le_of_ble_eq_true rfl) (dk dt_M_outside_0 7 rfl) h (fun q9 h => ?_)
  refine go_ior X (dk dt_M_outside_0 8 rfl) ?_
  exact go_iret rt (dk dt_M_outside_0 9 rfl) h (fun hh => nomatch hh)
set_option maxRecDepth 20000 in
theorem ct_M_outside (hi : zInj wM v) (xc : XC wM v) (nx : NXM v)  {a1 : Int32} {σ : Hp}  {q : (Int32 × Hp)} (h : F_M_outside  a1 σ = some q) : Ct wM v l yX12_outside cX12_outside 2 (some .int) 4 [.ref 0, .int a1] σ (some (.int q.1)) q.2 :=
  Ct.intro false (by decide) hi xc (Nat.le_of_ble_eq_true rfl) rfl (fun p e R s m args below meth c Q X rt => lkF_M_outside hi xc nx X rt  h)
end
def T_M_count_0 : DT := [(0, .iload_n 1, 1), (1, .tableswitch 81 0 5 #[39, 47, 55, 63, 68, 73], 39), (40, .aload_n 0, 1), (41, .getfield 7, 3), (44, .bipush 97, 2), (46, .iaload, 1), (47, .ireturn, 1), (48, .aload_n 0, 1), (49, .getfield 7, 3), (52, .bipush 96, 2), (54, .iaload, 1), (55, .ireturn, 1), (56, .aload_n 0, 1), (57, .getfield 7, 3), (60, .bipush 98, 2), (62, .iaload, 1)]
theorem dt_M_count_0 : dOk cX12_count T_M_count_0 := by unfold dOk; decide +kernel
def T_M_count_1 : DT := [(63, .ireturn, 1), (64, .aload_n 0, 1), (65, .getfield 248, 3), (68, .ireturn, 1), (69, .aload_n 0, 1), (70, .getfield 147, 3), (73, .ireturn, 1), (74, .aload_n 0, 1), (75, .getfield 7, 3), (78, .bipush 99, 2), (80, .iaload, 1), (81, .ireturn, 1), (82, .iload_n 1, 1), (83, .bipush 100, 2), (85, .bipush 123, 2), (87, .invokestatic 122, 3)]
theorem dt_M_count_1 : dOk cX12_count T_M_count_1 := by unfold dOk; decide +kernel
def T_M_count_2 : DT := [(90, .ifCond .eq 13, 3), (93, .aload_n 0, 1), (94, .getfield 22, 3), (97, .iload_n 1, 1), (98, .bipush 100, 2), (100, .isub, 1), (101, .iaload, 1), (102, .ireturn, 1), (103, .iload_n 1, 1), (104, .bipush 10, 2), (106, .bipush 15, 2), (108, .invokestatic 122, 3), (111, .ifCond .ne 16, 3), (114, .iload_n 1, 1), (115, .bipush 20, 2), (117, .bipush 25, 2)]
theorem dt_M_count_2 : dOk cX12_count T_M_count_2 := by unfold dOk; decide +kernel
def T_M_count_3 : DT := [(119, .invokestatic 122, 3), (122, .ifCond .ne 5, 3), (125, .iconst (-1), 1), (126, .ireturn, 1), (127, .iload_n 1, 1), (128, .bipush 10, 2), (130, .idiv, 1), (131, .iconst 1, 1), (132, .isub, 1), (133, .istore_n 2, 1), (134, .iload_n 1, 1), (135, .bipush 10, 2), (137, .irem, 1), (138, .tableswitch 75 0 4 #[34, 47, 54, 61, 68], 34), (172, .aload_n 0, 1), (173, .iload_n 2, 1)]
theorem dt_M_count_3 : dOk cX12_count T_M_count_3 := by unfold dOk; decide +kernel
def T_M_count_4 : DT := [(174, .invokevirtual 356, 3), (177, .aload_n 0, 1), (178, .iload_n 2, 1), (179, .iconst 2, 1), (180, .invokevirtual 137, 3), (183, .ior, 1), (184, .ireturn, 1), (185, .aload_n 0, 1), (186, .iload_n 2, 1), (187, .iconst 0, 1), (188, .invokevirtual 137, 3), (191, .ireturn, 1), (192, .aload_n 0, 1), (193, .iload_n 2, 1), (194, .iconst 1, 1), (195, .invokevirtual 137, 3)]
theorem dt_M_count_4 : dOk cX12_count T_M_count_4 := by unfold dOk; decide +kernel
def T_M_count_5 : DT := [(198, .ireturn, 1), (199, .aload_n 0, 1), (200, .iload_n 2, 1), (201, .iconst 2, 1), (202, .invokevirtual 137, 3), (205, .ireturn, 1), (206, .aload_n 0, 1), (207, .getfield 19, 3), (210, .iload_n 2, 1), (211, .iaload, 1), (212, .ireturn, 1), (213, .aload_n 0, 1), (214, .getfield 71, 3), (217, .iload_n 2, 1), (218, .iaload, 1), (219, .ireturn, 1)]
theorem dt_M_count_5 : dOk cX12_count T_M_count_5 := by unfold dOk; decide +kernel
section
variable {v : ZV} {l : Launch} {p : Program} {e : Env} {R : Room} {s : State} {m : MethodId} {args : Array Value} {below : List Frame} {meth : Method} {c : Code} {Q : State → Prop} {res : (Int32 × Hp)} 
set_option maxRecDepth 20000 in
theorem lkJ_M_count_127 (hi : zInj wM v) (xc : XC wM v) (nx : NXM v) (X : Cx wM v p R s m args c 0 0 cX12_count 3 RX12 6) (rt : Rt wM v p l e R s m args below meth c 0 0 Q cX12_count false (some (.int res.1)) res.2)  {x1 : Int32} {σ : Hp}   (h : J_M_count_127   x1 σ = some res) : Go wM v p l e R s m args below meth c 0 0 Q 3 127 [(0, .ref 0), (1, .int x1)] [] σ := by
  unfold J_M_count_127 at h
  refine go_iload_n X 1 (dk dt_M_count_3 4 rfl) rfl rfl ?_
  refine go_bipush X (dk dt_M_count_3 5 rfl) cb_10 ?_
  refine go_idivL X (dk dt_M_count_3 6 rfl) (by decide) ?_
  refine go_iconst X (dk dt_M_count_3 7 rfl) ci_1 ?_
  refine go_isub X (dk dt_M_count_3 8 rfl) ?_
  refine go_istore_n (lv' := [(2, .int ((x1 / (10 : Int32)) - (1 : Int32))), (0, .ref 0), (1, .int x1)]) X (dk dt_M_count_3 9 rfl) rfl (by decide) rfl ?_
  refine go_iload_n X 2 (dk dt_M_count_3 10 rfl) rfl rfl ?_
  refine go_bipush X (dk dt_M_count_3 11 rfl) cb_10 ?_
  refine go_iremL X (dk dt_M_count_3 12 rfl) (by decide) ?_
  by_cases hc138_0 : (jrem x1 (10 : Int32)) = (0 : Int32)
  · rw [if_pos hc138_0] at h
    refine go_tsw (tgt := 172) X (dk dt_M_count_3 13 rfl) (by decide) (by rw [hc138_0]) (by decide) ?_
    refine go_aload_n X 1 (dk dt_M_count_3 14 rfl) rfl rfl ?_
    refine go_iload_n X 0 (dk dt_M_count_3 15 rfl) rfl rfl ?_
    refine go_Vi (As := [.int ((x1 / (10 : Int32)) - (1 : Int32))]) (rest := []) X vo_X12_356 (fun q hq => ct_M_outside hi xc nx  hq) (by decide) rfl lM_0 sM_0 rfl rfl (Nat.le_of_ble_eq_true rfl) (dk dt_M_count_4 0 rfl) h (fun q174 h => ?_)
    refine go_aload_n X 1 (dk dt_M_count_4 1 rfl) rfl rfl ?_
    refine go_iload_n X 0 (dk dt_M_count_4 2 rfl) rfl rfl ?_
    refine go_iconst X (dk dt_M_count_4 3 rfl) ci_2 ?_
    refine go_Vi (As := [.int ((x1 / (10 : Int32)) - (1 : Int32)), .int (2 : Int32)]) (rest := [.int q174.1]) X vo_X12_137 (fun q hq => ct_M_setOf hi xc nx  hq) (by decide) rfl lM_0 sM_0 rfl rfl (Nat.le_of_ble_eq_true rfl) (dk dt_M_count_4 4 rfl) h (fun q180 h => ?_)
    refine go_ior X (dk dt_M_count_4 5 rfl) ?_
    exact go_iret rt (dk dt_M_count_4 6 rfl) h (fun hh => nomatch hh)
  rw [if_neg hc138_0] at h
  by_cases hc138_1 : (jrem x1 (10 : Int32)) = (1 : Int32)
  · rw [if_pos hc138_1] at h
    refine go_tsw (tgt := 185) X (dk dt_M_count_3 13 rfl) (by decide) (by rw [hc138_1]) (by decide) ?_
    refine go_aload_n X 1 (dk dt_M_count_4 7 rfl) rfl rfl ?_
    refine go_iload_n X 0 (dk dt_M_count_4 8 rfl) rfl rfl ?_
    refine go_iconst X (dk dt_M_count_4 9 rfl) ci_0 ?_
    refine go_Vi (As := [.int ((x1 / (10 : Int32)) - (1 : Int32)), .int (0 : Int32)]) (rest := []) X vo_X12_137 (fun q hq => ct_M_setOf hi xc nx  hq) (by decide) rfl lM_0 sM_0 rfl rfl (Nat.le_of_ble_eq_true rfl) (dk dt_M_count_4 10 rfl) h (fun q188 h => ?_)
    exact go_iret rt (dk dt_M_count_4 11 rfl) h (fun hh => nomatch hh)
  rw [if_neg hc138_1] at h
  by_cases hc138_2 : (jrem x1 (10 : Int32)) = (2 : Int32)
  · rw [if_pos hc138_2] at h
    refine go_tsw (tgt := 192) X (dk dt_M_count_3 13 rfl) (by decide) (by rw [hc138_2]) (by decide) ?_
    refine go_aload_n X 1 (dk dt_M_count_4 12 rfl) rfl rfl ?_
    refine go_iload_n X 0 (dk dt_M_count_4 13 rfl) rfl rfl ?_
    refine go_iconst X (dk dt_M_count_4 14 rfl) ci_1 ?_
    refine go_Vi (As := [.int ((x1 / (10 : Int32)) - (1 : Int32)), .int (1 : Int32)]) (rest := []) X vo_X12_137 (fun q hq => ct_M_setOf hi xc nx  hq) (by decide) rfl lM_0 sM_0 rfl rfl (Nat.le_of_ble_eq_true rfl) (dk dt_M_count_4 15 rfl) h (fun q195 h => ?_)
    exact go_iret rt (dk dt_M_count_5 0 rfl) h (fun hh => nomatch hh)
  rw [if_neg hc138_2] at h
  by_cases hc138_3 : (jrem x1 (10 : Int32)) = (3 : Int32)
  · rw [if_pos hc138_3] at h
    refine go_tsw (tgt := 199) X (dk dt_M_count_3 13 rfl) (by decide) (by rw [hc138_3]) (by decide) ?_
    refine go_aload_n X 1 (dk dt_M_count_5 1 rfl) rfl rfl ?_
    refine go_iload_n X 0 (dk dt_M_count_5 2 rfl) rfl rfl ?_
    refine go_iconst X (dk dt_M_count_5 3 rfl) ci_2 ?_
    refine go_Vi (As := [.int ((x1 / (10 : Int32)) - (1 : Int32)), .int (2 : Int32)]) (rest := []) X vo_X12_137 (fun q hq => ct_M_setOf hi xc nx  hq) (by decide) rfl lM_0 sM_0 rfl rfl (Nat.le_of_ble_eq_true rfl) (dk dt_M_count_5 4 rfl) h (fun q202 h => ?_)
    exact go_iret rt (dk dt_M_count_5 5 rfl) h (fun hh => nomatch hh)
  rw [if_neg hc138_3] at h
  by_cases hc138_4 : (jrem x1 (10 : Int32)) = (4 : Int32)
  · rw [if_pos hc138_4] at h
    refine go_tsw (tgt := 206) X (dk dt_M_count_3 13 rfl) (by decide) (by rw [hc138_4]) (by decide) ?_
    refine go_aload_n X 1 (dk dt_M_count_5 6 rfl) rfl rfl ?_
    refine go_getr X fo_X12_19 lM_0 sM_0 fM_0_3 (dk dt_M_count_5 7 rfl) ?_
    refine go_iload_n X 0 (dk dt_M_count_5 8 rfl) rfl rfl ?_
    refine go_iald X lM_4 sM_4 (dk dt_M_count_5 9 rfl) h (fun h => ?_)
    exact go_iret rt (dk dt_M_count_5 10 rfl) h (fun hh => nomatch hh)
  rw [if_neg hc138_4] at h
  refine go_tsw (tgt := 213) X (dk dt_M_count_3 13 rfl) (by decide) (sw_dflt [0, 1, 2, 3, 4] (by decide) (by simp only [List.mem_cons, List.not_mem_nil, or_false, not_or]; exact ⟨(i32_ne (k := 0) hc138_0), (i32_ne (k := 1) hc138_1), (i32_ne (k := 2) hc138_2), (i32_ne (k := 3) hc138_3), (i32_ne (k := 4) hc138_4)⟩)) (by decide) ?_
  refine go_aload_n X 1 (dk dt_M_count_5 11 rfl) rfl rfl ?_
  refine go_getr X fo_X12_71 lM_0 sM_0 fM_0_31 (dk dt_M_count_5 12 rfl) ?_
  refine go_iload_n X 0 (dk dt_M_count_5 13 rfl) rfl rfl ?_
  refine go_iald X lM_21 sM_21 (dk dt_M_count_5 14 rfl) h (fun h => ?_)
  exact go_iret rt (dk dt_M_count_5 15 rfl) h (fun hh => nomatch hh)
set_option maxRecDepth 20000 in
theorem lkF_M_count (hi : zInj wM v) (xc : XC wM v) (nx : NXM v) (X : Cx wM v p R s m args c 0 0 cX12_count 3 RX12 6) (rt : Rt wM v p l e R s m args below meth c 0 0 Q cX12_count false (some (.int res.1)) res.2) {a1 : Int32} {σ : Hp}  (h : F_M_count  a1 σ = some res) : Go wM v p l e R s m args below meth c 0 0 Q 3 0 [(0, .ref 0), (1, .int a1)] [] σ := by
  unfold F_M_count at h
  refine go_iload_n X 1 (dk dt_M_count_0 0 rfl) rfl rfl ?_
  by_cases hc1_0 : a1 = (0 : Int32)
  · rw [if_pos hc1_0] at h
    refine go_tsw (tgt := 40) X (dk dt_M_count_0 1 rfl) (by decide) (by rw [hc1_0]) (by decide) ?_
    refine go_aload_n X 0 (dk dt_M_count_0 2 rfl) rfl rfl ?_
    refine go_getr X fo_X12_7 lM_0 sM_0 fM_0_0 (dk dt_M_count_0 3 rfl) ?_
    refine go_bipush X (dk dt_M_count_0 4 rfl) cb_97 ?_
    refine go_iald X lM_1 sM_1 (dk dt_M_count_0 5 rfl) h (fun h => ?_)
    exact go_iret rt (dk dt_M_count_0 6 rfl) h (fun hh => nomatch hh)
  rw [if_neg hc1_0] at h
  by_cases hc1_1 : a1 = (1 : Int32)
  · rw [if_pos hc1_1] at h
    refine go_tsw (tgt := 48) X (dk dt_M_count_0 1 rfl) (by decide) (by rw [hc1_1]) (by decide) ?_
    refine go_aload_n X 0 (dk dt_M_count_0 7 rfl) rfl rfl ?_
    refine go_getr X fo_X12_7 lM_0 sM_0 fM_0_0 (dk dt_M_count_0 8 rfl) ?_
    refine go_bipush X (dk dt_M_count_0 9 rfl) cb_96 ?_
    refine go_iald X lM_1 sM_1 (dk dt_M_count_0 10 rfl) h (fun h => ?_)
    exact go_iret rt (dk dt_M_count_0 11 rfl) h (fun hh => nomatch hh)
  rw [if_neg hc1_1] at h
  by_cases hc1_2 : a1 = (2 : Int32)
  · rw [if_pos hc1_2] at h
    refine go_tsw (tgt := 56) X (dk dt_M_count_0 1 rfl) (by decide) (by rw [hc1_2]) (by decide) ?_
    refine go_aload_n X 0 (dk dt_M_count_0 12 rfl) rfl rfl ?_
    refine go_getr X fo_X12_7 lM_0 sM_0 fM_0_0 (dk dt_M_count_0 13 rfl) ?_
    refine go_bipush X (dk dt_M_count_0 14 rfl) cb_98 ?_
    refine go_iald X lM_1 sM_1 (dk dt_M_count_0 15 rfl) h (fun h => ?_)
    exact go_iret rt (dk dt_M_count_1 0 rfl) h (fun hh => nomatch hh)
  rw [if_neg hc1_2] at h
  by_cases hc1_3 : a1 = (3 : Int32)
  · rw [if_pos hc1_3] at h
    refine go_tsw (tgt := 64) X (dk dt_M_count_0 1 rfl) (by decide) (by rw [hc1_3]) (by decide) ?_
    refine go_aload_n X 0 (dk dt_M_count_1 1 rfl) rfl rfl ?_
    refine go_geti X fo_X12_248 lM_0 sM_0 fM_0_15 (dk dt_M_count_1 2 rfl) ?_
    exact go_iret rt (dk dt_M_count_1 3 rfl) h (fun hh => nomatch hh)
  rw [if_neg hc1_3] at h
  by_cases hc1_4 : a1 = (4 : Int32)
  · rw [if_pos hc1_4] at h
    refine go_tsw (tgt := 69) X (dk dt_M_count_0 1 rfl) (by decide) (by rw [hc1_4]) (by decide) ?_
    refine go_aload_n X 0 (dk dt_M_count_1 4 rfl) rfl rfl ?_
    refine go_geti X fo_X12_147 lM_0 sM_0 fM_0_6 (dk dt_M_count_1 5 rfl) ?_
    exact go_iret rt (dk dt_M_count_1 6 rfl) h (fun hh => nomatch hh)
  rw [if_neg hc1_4] at h
  by_cases hc1_5 : a1 = (5 : Int32)
  · rw [if_pos hc1_5] at h
    refine go_tsw (tgt := 74) X (dk dt_M_count_0 1 rfl) (by decide) (by rw [hc1_5]) (by decide) ?_
    refine go_aload_n X 0 (dk dt_M_count_1 7 rfl) rfl rfl ?_
    refine go_getr X fo_X12_7 lM_0 sM_0 fM_0_0 (dk dt_M_count_1 8 rfl) ?_
    refine go_bipush X (dk dt_M_count_1 9 rfl) cb_99 ?_
    refine go_iald X lM_1 sM_1 (dk dt_M_count_1 10 rfl) h (fun h => ?_)
    exact go_iret rt (dk dt_M_count_1 11 rfl) h (fun hh => nomatch hh)
  rw [if_neg hc1_5] at h
  refine go_tsw (tgt := 82) X (dk dt_M_count_0 1 rfl) (by decide) (sw_dflt [0, 1, 2, 3, 4, 5] (by decide) (by simp only [List.mem_cons, List.not_mem_nil, or_false, not_or]; exact ⟨(i32_ne (k := 0) hc1_0), (i32_ne (k := 1) hc1_1), (i32_ne (k := 2) hc1_2), (i32_ne (k := 3) hc1_3), (i32_ne (k := 4) hc1_4), (i32_ne (k := 5) hc1_5)⟩)) (by decide) ?_
  refine go_iload_n X 1 (dk dt_M_count_1 12 rfl) rfl rfl ?_
  refine go_bipush X (dk dt_M_count_1 13 rfl) cb_100 ?_
  refine go_bipush X (dk dt_M_count_1 14 rfl) cb_123 ?_
  refine go_Si (As := [.int a1, .int (100 : Int32), .int (123 : Int32)]) (rest := []) X so_X12_122 (fun q hq => ct_M_in hi xc nx  hq) (by decide) rfl rfl (Nat.le_of_ble_eq_true rfl) (dk dt_M_count_1 15 rfl) h (fun q87 h => ?_)
  refine go_if_eq (tgt := 103) X (dk dt_M_count_2 0 rfl) (by decide) h (fun h => ?_) (fun h => ?_)
  · refine go_iload_n X 1 (dk dt_M_count_2 8 rfl) rfl rfl ?_
    refine go_bipush X (dk dt_M_count_2 9 rfl) cb_10 ?_
    refine go_bipush X (dk dt_M_count_2 10 rfl) cb_15 ?_
    refine go_Si (As := [.int a1, .int (10 : Int32), .int (15 : Int32)]) (rest := []) X so_X12_122 (fun q hq => ct_M_in hi xc nx  hq) (by decide) rfl rfl (Nat.le_of_ble_eq_true rfl) (dk dt_M_count_2 11 rfl) h (fun q108 h => ?_)
    refine go_if_ne (tgt := 127) X (dk dt_M_count_2 12 rfl) (by decide) h (fun h => ?_) (fun h => ?_)
    · exact lkJ_M_count_127 hi xc nx X rt   h
    · refine go_iload_n X 1 (dk dt_M_count_2 13 rfl) rfl rfl ?_
      refine go_bipush X (dk dt_M_count_2 14 rfl) cb_20 ?_
      refine go_bipush X (dk dt_M_count_2 15 rfl) cb_25 ?_
      refine go_Si (As := [.int a1, .int (20 : Int32), .int (25 : Int32)]) (rest := []) X so_X12_122 (fun q hq => ct_M_in hi xc nx  hq) (by decide) rfl rfl (Nat.le_of_ble_eq_true rfl) (dk dt_M_count_3 0 rfl) h (fun q119 h => ?_)
      refine go_if_ne (tgt := 127) X (dk dt_M_count_3 1 rfl) (by decide) h (fun h => ?_) (fun h => ?_)
      · exact lkJ_M_count_127 hi xc nx X rt   h
      · refine go_iconst X (dk dt_M_count_3 2 rfl) ci_m1 ?_
        exact go_iret rt (dk dt_M_count_3 3 rfl) h (fun hh => nomatch hh)
  · refine go_aload_n X 0 (dk dt_M_count_2 1 rfl) rfl rfl ?_
    refine go_getr X fo_X12_22 lM_0 sM_0 fM_0_4 (dk dt_M_count_2 2 rfl) ?_
    refine go_iload_n X 1 (dk dt_M_count_2 3 rfl) rfl rfl ?_
    refine go_bipush X (dk dt_M_count_2 4 rfl) cb_100 ?_
    refine go_isub X (dk dt_M_count_2 5 rfl) ?_
    refine go_iald X lM_5 sM_5 (dk dt_M_count_2 6 rfl) h (fun h => ?_)
    exact go_iret rt (dk dt_M_count_2 7 rfl) h (fun hh => nomatch hh)
set_option maxRecDepth 20000 in
theorem ct_M_count (hi : zInj wM v) (xc : XC wM v) (nx : NXM v)  {a1 : Int32} {σ : Hp}  {q : (Int32 × Hp)} (h : F_M_count  a1 σ = some q) : Ct wM v l yX12_count cX12_count 3 (some .int) 6 [.ref 0, .int a1] σ (some (.int q.1)) q.2 :=
  Ct.intro false (by decide) hi xc (Nat.le_of_ble_eq_true rfl) rfl (fun p e R s m args below meth c Q X rt => lkF_M_count hi xc nx X rt  h)
end
def T_M_draws_0 : DT := [(0, .aload_n 0, 1), (1, .getfield 7, 3), (4, .bipush 99, 2), (6, .sipush 25173, 3), (9, .aload_n 0, 1), (10, .getfield 7, 3), (13, .bipush 99, 2), (15, .iaload, 1), (16, .imul, 1), (17, .sipush 13849, 3), (20, .iadd, 1), (21, .ldc_w 331, 3), (24, .irem, 1), (25, .iastore, 1), (26, .return_, 1)]
theorem dt_M_draws_0 : dOk cX12_draws T_M_draws_0 := by unfold dOk; decide +kernel
section
variable {v : ZV} {l : Launch} {p : Program} {e : Env} {R : Room} {s : State} {m : MethodId} {args : Array Value} {below : List Frame} {meth : Method} {c : Code} {Q : State → Prop} {res : Hp} 
set_option maxRecDepth 20000 in
theorem lkF_M_draws (hi : zInj wM v) (xc : XC wM v) (nx : NXM v) (X : Cx wM v p R s m args c 0 0 cX12_draws 1 RX12 2) (rt : Rt wM v p l e R s m args below meth c 0 0 Q cX12_draws false none res)  {σ : Hp}  (h : F_M_draws   σ = some res) : Go wM v p l e R s m args below meth c 0 0 Q 1 0 [(0, .ref 0)] [] σ := by
  unfold F_M_draws at h
  refine go_aload_n X 0 (dk dt_M_draws_0 0 rfl) rfl rfl ?_
  refine go_getr X fo_X12_7 lM_0 sM_0 fM_0_0 (dk dt_M_draws_0 1 rfl) ?_
  refine go_bipush X (dk dt_M_draws_0 2 rfl) cb_99 ?_
  refine go_sipush X (dk dt_M_draws_0 3 rfl) cs_25173 ?_
  refine go_aload_n X 0 (dk dt_M_draws_0 4 rfl) rfl rfl ?_
  refine go_getr X fo_X12_7 lM_0 sM_0 fM_0_0 (dk dt_M_draws_0 5 rfl) ?_
  refine go_bipush X (dk dt_M_draws_0 6 rfl) cb_99 ?_
  refine go_iald X lM_1 sM_1 (dk dt_M_draws_0 7 rfl) h (fun h => ?_)
  refine go_imul X (dk dt_M_draws_0 8 rfl) ?_
  refine go_sipush X (dk dt_M_draws_0 9 rfl) cs_13849 ?_
  refine go_iadd X (dk dt_M_draws_0 10 rfl) ?_
  refine go_ldcw X wd_1580 (dk dt_M_draws_0 11 rfl) ?_
  refine go_iremL X (dk dt_M_draws_0 12 rfl) (by decide) ?_
  refine go_iast X lM_1 sM_1 (dk dt_M_draws_0 13 rfl) h (fun h => ?_)
  exact go_vret rt (dk dt_M_draws_0 14 rfl) h
set_option maxRecDepth 20000 in
theorem ct_M_draws (hi : zInj wM v) (xc : XC wM v) (nx : NXM v)   {σ : Hp}  {q : Hp} (h : F_M_draws   σ = some q) : Ct wM v l yX12_draws cX12_draws 1 none 2 [.ref 0] σ none q :=
  Ct.intro false (by decide) hi xc (Nat.le_of_ble_eq_true rfl) rfl (fun p e R s m args below meth c Q X rt => lkF_M_draws hi xc nx X rt  h)
end
def T_M_endsPiece_0 : DT := [(0, .aload_n 0, 1), (1, .invokevirtual 188, 3), (4, .bipush 10, 2), (6, .if_icmp .ne 33, 3), (9, .aload_n 0, 1), (10, .bipush 10, 2), (12, .iconst 0, 1), (13, .invokevirtual 191, 3), (16, .aload_n 0, 1), (17, .aload_n 0, 1), (18, .getfield 185, 3), (21, .iconst 1, 1), (22, .isub, 1), (23, .putfield 185, 3), (26, .aload_n 0, 1), (27, .aload_n 0, 1)]
theorem dt_M_endsPiece_0 : dOk cX12_endsPiece T_M_endsPiece_0 := by unfold dOk; decide +kernel
def T_M_endsPiece_1 : DT := [(28, .getfield 182, 3), (31, .iconst 1, 1), (32, .isub, 1), (33, .putfield 182, 3), (36, .goto (-36), 3), (39, .return_, 1)]
theorem dt_M_endsPiece_1 : dOk cX12_endsPiece T_M_endsPiece_1 := by unfold dOk; decide +kernel
section
variable {v : ZV} {l : Launch} {p : Program} {e : Env} {R : Room} {s : State} {m : MethodId} {args : Array Value} {below : List Frame} {meth : Method} {c : Code} {Q : State → Prop} {res : Hp} 
set_option maxRecDepth 20000 in
theorem lkB_M_endsPiece_0 (hi : zInj wM v) (xc : XC wM v) (nx : NXM v) (X : Cx wM v p R s m args c 0 0 cX12_endsPiece 1 RX12 4) (rt : Rt wM v p l e R s m args below meth c 0 0 Q cX12_endsPiece false none res) {k0 : Hp → Option Hp}  {σ : Hp}  (hk0 : ∀  (σ : Hp),  k0  σ = some res → Go wM v p l e R s m args below meth c 0 0 Q 1 0 [(0, .ref 0)] [] σ) (h : B_M_endsPiece_0  k0  σ = some res) : Go wM v p l e R s m args below meth c 0 0 Q 1 0 [(0, .ref 0)] [] σ := by
  unfold B_M_endsPiece_0 at h
  refine go_aload_n X 0 (dk dt_M_endsPiece_0 0 rfl) rfl rfl ?_
  refine go_Vi (As := []) (rest := []) X vo_X12_188 (fun q hq => ct_M_waitTop hi xc nx  hq) (by decide) rfl lM_0 sM_0 rfl rfl (Nat.le_of_ble_eq_true rfl) (dk dt_M_endsPiece_0 1 rfl) h (fun q1 h => ?_)
  refine go_bipush X (dk dt_M_endsPiece_0 2 rfl) cb_10 ?_
  refine go_icmp_ne (tgt := 39) X (dk dt_M_endsPiece_0 3 rfl) (by decide) h (fun h => ?_) (fun h => ?_)
  · exact go_vret rt (dk dt_M_endsPiece_1 5 rfl) h
  · refine go_aload_n X 0 (dk dt_M_endsPiece_0 4 rfl) rfl rfl ?_
    refine go_bipush X (dk dt_M_endsPiece_0 5 rfl) cb_10 ?_
    refine go_iconst X (dk dt_M_endsPiece_0 6 rfl) ci_0 ?_
    refine go_Vv (As := [.int (10 : Int32), .int (0 : Int32)]) (rest := []) X vo_X12_191 (fun q hq => ct_M_notes hi xc nx  hq) (by decide) rfl lM_0 sM_0 rfl rfl (Nat.le_of_ble_eq_true rfl) (dk dt_M_endsPiece_0 7 rfl) h (fun q13 h => ?_)
    refine go_aload_n X 0 (dk dt_M_endsPiece_0 8 rfl) rfl rfl ?_
    refine go_aload_n X 0 (dk dt_M_endsPiece_0 9 rfl) rfl rfl ?_
    refine go_geti X fo_X12_185 lM_0 sM_0 fM_0_13 (dk dt_M_endsPiece_0 10 rfl) ?_
    refine go_iconst X (dk dt_M_endsPiece_0 11 rfl) ci_1 ?_
    refine go_isub X (dk dt_M_endsPiece_0 12 rfl) ?_
    refine go_puti X fo_X12_185 pf_12_13 lM_0 sM_0 fM_0_13 (dk dt_M_endsPiece_0 13 rfl) ?_
    refine go_aload_n X 0 (dk dt_M_endsPiece_0 14 rfl) rfl rfl ?_
    refine go_aload_n X 0 (dk dt_M_endsPiece_0 15 rfl) rfl rfl ?_
    refine go_geti X fo_X12_182 lM_0 sM_0 fM_0_11 (dk dt_M_endsPiece_1 0 rfl) ?_
    refine go_iconst X (dk dt_M_endsPiece_1 1 rfl) ci_1 ?_
    refine go_isub X (dk dt_M_endsPiece_1 2 rfl) ?_
    refine go_puti X fo_X12_182 pf_12_11 lM_0 sM_0 fM_0_11 (dk dt_M_endsPiece_1 3 rfl) ?_
    refine go_goto (tgt := 0) X (dk dt_M_endsPiece_1 4 rfl) (by decide) ?_
    exact hk0  _  h
set_option maxRecDepth 20000 in
theorem lkL_M_endsPiece_0 (hi : zInj wM v) (xc : XC wM v) (nx : NXM v) (X : Cx wM v p R s m args c 0 0 cX12_endsPiece 1 RX12 4) (rt : Rt wM v p l e R s m args below meth c 0 0 Q cX12_endsPiece false none res)   (n : Nat) : ∀  {σ : Hp},  L_M_endsPiece_0   n  σ = some res → Go wM v p l e R s m args below meth c 0 0 Q 1 0 [(0, .ref 0)] [] σ := by
  induction n with
  | zero => intro  σ  h; cases h
  | succ n ih =>
    intro  σ  h
    exact lkB_M_endsPiece_0 hi xc nx X rt  (fun  _  hh => ih  hh) h
set_option maxRecDepth 20000 in
theorem lkF_M_endsPiece (hi : zInj wM v) (xc : XC wM v) (nx : NXM v) (X : Cx wM v p R s m args c 0 0 cX12_endsPiece 1 RX12 4) (rt : Rt wM v p l e R s m args below meth c 0 0 Q cX12_endsPiece false none res)  {σ : Hp}  (h : F_M_endsPiece   σ = some res) : Go wM v p l e R s m args below meth c 0 0 Q 1 0 [(0, .ref 0)] [] σ := by
  unfold F_M_endsPiece at h
  exact lkL_M_endsPiece_0 hi xc nx X rt  FU  h
set_option maxRecDepth 20000 in
theorem ct_M_endsPiece (hi : zInj wM v) (xc : XC wM v) (nx : NXM v)   {σ : Hp}  {q : Hp} (h : F_M_endsPiece   σ = some q) : Ct wM v l yX12_endsPiece cX12_endsPiece 1 none 4 [.ref 0] σ none q :=
  Ct.intro false (by decide) hi xc (Nat.le_of_ble_eq_true rfl) rfl (fun p e R s m args below meth c Q X rt => lkF_M_endsPiece hi xc nx X rt  h)
end
def T_M_factOf_0 : DT := [(0, .iload_n 0, 1), (1, .tableswitch 130 97 118 #[109, 130, 105, 127, 130, 130, 130, 124, 130, 130, 107, 111, 130, 115, 118, 130, 130, 130, 103, 130, 113, 121], 103), (104, .iconst 0, 1), (105, .ireturn, 1), (106, .iconst 1, 1), (107, .ireturn, 1), (108, .iconst 2, 1), (109, .ireturn, 1), (110, .iconst 3, 1), (111, .ireturn, 1), (112, .iconst 4, 1), (113, .ireturn, 1), (114, .iconst 5, 1), (115, .ireturn, 1), (116, .bipush 6, 2), (118, .ireturn, 1)]
theorem dt_M_factOf_0 : dOk cX12_factOf T_M_factOf_0 := by unfold dOk; decide +kernel
def T_M_factOf_1 : DT := [(119, .bipush 7, 2), (121, .ireturn, 1), (122, .bipush 8, 2), (124, .ireturn, 1), (125, .bipush 9, 2), (127, .ireturn, 1), (128, .bipush 10, 2), (130, .ireturn, 1), (131, .iconst (-1), 1), (132, .ireturn, 1)]
theorem dt_M_factOf_1 : dOk cX12_factOf T_M_factOf_1 := by unfold dOk; decide +kernel
section
variable {v : ZV} {l : Launch} {p : Program} {e : Env} {R : Room} {s : State} {m : MethodId} {args : Array Value} {below : List Frame} {meth : Method} {c : Code} {Q : State → Prop} {res : (Int32 × Hp)} 
set_option maxRecDepth 20000 in
theorem lkF_M_factOf (hi : zInj wM v) (xc : XC wM v) (nx : NXM v) (X : Cx wM v p R s m args c 0 0 cX12_factOf 1 RX12 2) (rt : Rt wM v p l e R s m args below meth c 0 0 Q cX12_factOf false (some (.int res.1)) res.2) {a0 : Int32} {σ : Hp}  (h : F_M_factOf  a0 σ = some res) : Go wM v p l e R s m args below meth c 0 0 Q 1 0 [(0, .int a0)] [] σ := by
  unfold F_M_factOf at h
  refine go_iload_n X 0 (dk dt_M_factOf_0 0 rfl) rfl rfl ?_
  by_cases hc1_97 : a0 = (97 : Int32)
  · rw [if_pos hc1_97] at h
    refine go_tsw (tgt := 110) X (dk dt_M_factOf_0 1 rfl) (by decide) (by rw [hc1_97]) (by decide) ?_
    refine go_iconst X (dk dt_M_factOf_0 8 rfl) ci_3 ?_
    exact go_iret rt (dk dt_M_factOf_0 9 rfl) h (fun hh => nomatch hh)
  rw [if_neg hc1_97] at h
  by_cases hc1_99 : a0 = (99 : Int32)
  · rw [if_pos hc1_99] at h
    refine go_tsw (tgt := 106) X (dk dt_M_factOf_0 1 rfl) (by decide) (by rw [hc1_99]) (by decide) ?_
    refine go_iconst X (dk dt_M_factOf_0 4 rfl) ci_1 ?_
    exact go_iret rt (dk dt_M_factOf_0 5 rfl) h (fun hh => nomatch hh)
  rw [if_neg hc1_99] at h
  by_cases hc1_100 : a0 = (100 : Int32)
  · rw [if_pos hc1_100] at h
    refine go_tsw (tgt := 128) X (dk dt_M_factOf_0 1 rfl) (by decide) (by rw [hc1_100]) (by decide) ?_
    refine go_bipush X (dk dt_M_factOf_1 6 rfl) cb_10 ?_
    exact go_iret rt (dk dt_M_factOf_1 7 rfl) h (fun hh => nomatch hh)
  rw [if_neg hc1_100] at h
  by_cases hc1_104 : a0 = (104 : Int32)
  · rw [if_pos hc1_104] at h
    refine go_tsw (tgt := 125) X (dk dt_M_factOf_0 1 rfl) (by decide) (by rw [hc1_104]) (by decide) ?_
    refine go_bipush X (dk dt_M_factOf_1 4 rfl) cb_9 ?_
    exact go_iret rt (dk dt_M_factOf_1 5 rfl) h (fun hh => nomatch hh)
  rw [if_neg hc1_104] at h
  by_cases hc1_107 : a0 = (107 : Int32)
  · rw [if_pos hc1_107] at h
    refine go_tsw (tgt := 108) X (dk dt_M_factOf_0 1 rfl) (by decide) (by rw [hc1_107]) (by decide) ?_
    refine go_iconst X (dk dt_M_factOf_0 6 rfl) ci_2 ?_
    exact go_iret rt (dk dt_M_factOf_0 7 rfl) h (fun hh => nomatch hh)
  rw [if_neg hc1_107] at h
  by_cases hc1_108 : a0 = (108 : Int32)
  · rw [if_pos hc1_108] at h
    refine go_tsw (tgt := 112) X (dk dt_M_factOf_0 1 rfl) (by decide) (by rw [hc1_108]) (by decide) ?_
    refine go_iconst X (dk dt_M_factOf_0 10 rfl) ci_4 ?_
    exact go_iret rt (dk dt_M_factOf_0 11 rfl) h (fun hh => nomatch hh)
  rw [if_neg hc1_108] at h
  by_cases hc1_110 : a0 = (110 : Int32)
  · rw [if_pos hc1_110] at h
    refine go_tsw (tgt := 116) X (dk dt_M_factOf_0 1 rfl) (by decide) (by rw [hc1_110]) (by decide) ?_
    refine go_bipush X (dk dt_M_factOf_0 14 rfl) cb_6 ?_
    exact go_iret rt (dk dt_M_factOf_0 15 rfl) h (fun hh => nomatch hh)
  rw [if_neg hc1_110] at h
  by_cases hc1_111 : a0 = (111 : Int32)
  · rw [if_pos hc1_111] at h
    refine go_tsw (tgt := 119) X (dk dt_M_factOf_0 1 rfl) (by decide) (by rw [hc1_111]) (by decide) ?_
    refine go_bipush X (dk dt_M_factOf_1 0 rfl) cb_7 ?_
    exact go_iret rt (dk dt_M_factOf_1 1 rfl) h (fun hh => nomatch hh)
  rw [if_neg hc1_111] at h
  by_cases hc1_115 : a0 = (115 : Int32)
  · rw [if_pos hc1_115] at h
    refine go_tsw (tgt := 104) X (dk dt_M_factOf_0 1 rfl) (by decide) (by rw [hc1_115]) (by decide) ?_
    refine go_iconst X (dk dt_M_factOf_0 2 rfl) ci_0 ?_
    exact go_iret rt (dk dt_M_factOf_0 3 rfl) h (fun hh => nomatch hh)
  rw [if_neg hc1_115] at h
  by_cases hc1_117 : a0 = (117 : Int32)
  · rw [if_pos hc1_117] at h
    refine go_tsw (tgt := 114) X (dk dt_M_factOf_0 1 rfl) (by decide) (by rw [hc1_117]) (by decide) ?_
    refine go_iconst X (dk dt_M_factOf_0 12 rfl) ci_5 ?_
    exact go_iret rt (dk dt_M_factOf_0 13 rfl) h (fun hh => nomatch hh)
  rw [if_neg hc1_117] at h
  by_cases hc1_118 : a0 = (118 : Int32)
  · rw [if_pos hc1_118] at h
    refine go_tsw (tgt := 122) X (dk dt_M_factOf_0 1 rfl) (by decide) (by rw [hc1_118]) (by decide) ?_
    refine go_bipush X (dk dt_M_factOf_1 2 rfl) cb_8 ?_
    exact go_iret rt (dk dt_M_factOf_1 3 rfl) h (fun hh => nomatch hh)
  rw [if_neg hc1_118] at h
  refine go_tsw (tgt := 131) X (dk dt_M_factOf_0 1 rfl) (by decide) (sw_dflt [97, 99, 100, 104, 107, 108, 110, 111, 115, 117, 118] (by decide) (by simp only [List.mem_cons, List.not_mem_nil, or_false, not_or]; exact ⟨(i32_ne (k := 97) hc1_97), (i32_ne (k := 99) hc1_99), (i32_ne (k := 100) hc1_100), (i32_ne (k := 104) hc1_104), (i32_ne (k := 107) hc1_107), (i32_ne (k := 108) hc1_108), (i32_ne (k := 110) hc1_110), (i32_ne (k := 111) hc1_111), (i32_ne (k := 115) hc1_115), (i32_ne (k := 117) hc1_117), (i32_ne (k := 118) hc1_118)⟩)) (by decide) ?_
  refine go_iconst X (dk dt_M_factOf_1 8 rfl) ci_m1 ?_
  exact go_iret rt (dk dt_M_factOf_1 9 rfl) h (fun hh => nomatch hh)
set_option maxRecDepth 20000 in
theorem ct_M_factOf (hi : zInj wM v) (xc : XC wM v) (nx : NXM v)  {a0 : Int32} {σ : Hp}  {q : (Int32 × Hp)} (h : F_M_factOf  a0 σ = some q) : Ct wM v l yX12_factOf cX12_factOf 1 (some .int) 2 [.int a0] σ (some (.int q.1)) q.2 :=
  Ct.intro false (by decide) hi xc (Nat.le_of_ble_eq_true rfl) rfl (fun p e R s m args below meth c Q X rt => lkF_M_factOf hi xc nx X rt  h)
end
def T_M_types_0 : DT := [(0, .iconst 3, 1), (1, .istore_n 2, 1), (2, .iload_n 2, 1), (3, .ifCond .lt 35, 3), (6, .aload_n 0, 1), (7, .getfield 25, 3), (10, .aload_n 0, 1), (11, .getfield 147, 3), (14, .iload_n 1, 1), (15, .bipush 8, 2), (17, .iload_n 2, 1), (18, .imul, 1), (19, .ishr, 1), (20, .i2b, 1), (21, .bastore, 1), (22, .aload_n 0, 1)]
theorem dt_M_types_0 : dOk cX12_types T_M_types_0 := by unfold dOk; decide +kernel
def T_M_types_1 : DT := [(23, .aload_n 0, 1), (24, .getfield 147, 3), (27, .iconst 1, 1), (28, .iadd, 1), (29, .putfield 147, 3), (32, .iinc 2 (-1), 3), (35, .goto (-33), 3), (38, .return_, 1)]
theorem dt_M_types_1 : dOk cX12_types T_M_types_1 := by unfold dOk; decide +kernel
section
variable {v : ZV} {l : Launch} {p : Program} {e : Env} {R : Room} {s : State} {m : MethodId} {args : Array Value} {below : List Frame} {meth : Method} {c : Code} {Q : State → Prop} {res : Hp} 
set_option maxRecDepth 20000 in
theorem lkB_M_types_2 (hi : zInj wM v) (xc : XC wM v) (nx : NXM v) (X : Cx wM v p R s m args c 0 0 cX12_types 3 RX12 2) (rt : Rt wM v p l e R s m args below meth c 0 0 Q cX12_types false none res) {k2 : Int32 → Int32 → Hp → Option Hp} {x1 : Int32} {x2 : Int32} {σ : Hp}  (hk2 : ∀ (x1 : Int32) (x2 : Int32) (σ : Hp),  k2 x1 x2 σ = some res → Go wM v p l e R s m args below meth c 0 0 Q 3 2 [(0, .ref 0), (1, .int x1), (2, .int x2)] [] σ) (h : B_M_types_2  k2 x1 x2 σ = some res) : Go wM v p l e R s m args below meth c 0 0 Q 3 2 [(0, .ref 0), (1, .int x1), (2, .int x2)] [] σ := by
  unfold B_M_types_2 at h
  refine go_iload_n X 2 (dk dt_M_types_0 2 rfl) rfl rfl ?_
  refine go_if_lt (tgt := 38) X (dk dt_M_types_0 3 rfl) (by decide) h (fun h => ?_) (fun h => ?_)
  · exact go_vret rt (dk dt_M_types_1 7 rfl) h
  · refine go_aload_n X 0 (dk dt_M_types_0 4 rfl) rfl rfl ?_
    refine go_getr X fo_X12_25 lM_0 sM_0 fM_0_5 (dk dt_M_types_0 5 rfl) ?_
    refine go_aload_n X 0 (dk dt_M_types_0 6 rfl) rfl rfl ?_
    refine go_geti X fo_X12_147 lM_0 sM_0 fM_0_6 (dk dt_M_types_0 7 rfl) ?_
    refine go_iload_n X 1 (dk dt_M_types_0 8 rfl) rfl rfl ?_
    refine go_bipush X (dk dt_M_types_0 9 rfl) cb_8 ?_
    refine go_iload_n X 2 (dk dt_M_types_0 10 rfl) rfl rfl ?_
    refine go_imul X (dk dt_M_types_0 11 rfl) ?_
    refine go_ishr X (dk dt_M_types_0 12 rfl) ?_
    refine go_i2b X (dk dt_M_types_0 13 rfl) ?_
    refine go_bast X lM_6 sM_6 (dk dt_M_types_0 14 rfl) h (fun h => ?_)
    refine go_aload_n X 0 (dk dt_M_types_0 15 rfl) rfl rfl ?_
    refine go_aload_n X 0 (dk dt_M_types_1 0 rfl) rfl rfl ?_
    refine go_geti X fo_X12_147 lM_0 sM_0 fM_0_6 (dk dt_M_types_1 1 rfl) ?_
    refine go_iconst X (dk dt_M_types_1 2 rfl) ci_1 ?_
    refine go_iadd X (dk dt_M_types_1 3 rfl) ?_
    refine go_puti X fo_X12_147 pf_12_6 lM_0 sM_0 fM_0_6 (dk dt_M_types_1 4 rfl) ?_
    refine go_iinc (lv' := [(2, .int (x2 + (-1 : Int32))), (0, .ref 0), (1, .int x1)]) X 2 (dk dt_M_types_1 5 rfl) rfl ci_m1 (by decide) rfl ?_
    refine go_goto (tgt := 2) X (dk dt_M_types_1 6 rfl) (by decide) ?_
    refine go_sub [1, 2, 0] rfl ?_
    exact hk2 _ _ _  h
set_option maxRecDepth 20000 in
theorem lkL_M_types_2 (hi : zInj wM v) (xc : XC wM v) (nx : NXM v) (X : Cx wM v p R s m args c 0 0 cX12_types 3 RX12 2) (rt : Rt wM v p l e R s m args below meth c 0 0 Q cX12_types false none res)   (n : Nat) : ∀ {x1 : Int32} {x2 : Int32} {σ : Hp},  L_M_types_2   n x1 x2 σ = some res → Go wM v p l e R s m args below meth c 0 0 Q 3 2 [(0, .ref 0), (1, .int x1), (2, .int x2)] [] σ := by
  induction n with
  | zero => intro x1 x2 σ  h; cases h
  | succ n ih =>
    intro x1 x2 σ  h
    exact lkB_M_types_2 hi xc nx X rt  (fun _ _ _  hh => ih  hh) h
set_option maxRecDepth 20000 in
theorem lkF_M_types (hi : zInj wM v) (xc : XC wM v) (nx : NXM v) (X : Cx wM v p R s m args c 0 0 cX12_types 3 RX12 2) (rt : Rt wM v p l e R s m args below meth c 0 0 Q cX12_types false none res) {a1 : Int32} {σ : Hp}  (h : F_M_types  a1 σ = some res) : Go wM v p l e R s m args below meth c 0 0 Q 3 0 [(0, .ref 0), (1, .int a1)] [] σ := by
  unfold F_M_types at h
  refine go_iconst X (dk dt_M_types_0 0 rfl) ci_3 ?_
  refine go_istore_n (lv' := [(2, .int (3 : Int32)), (0, .ref 0), (1, .int a1)]) X (dk dt_M_types_0 1 rfl) rfl (by decide) rfl ?_
  refine go_sub [1, 2, 0] rfl ?_
  exact lkL_M_types_2 hi xc nx X rt  FU  h
set_option maxRecDepth 20000 in
theorem ct_M_types (hi : zInj wM v) (xc : XC wM v) (nx : NXM v)  {a1 : Int32} {σ : Hp}  {q : Hp} (h : F_M_types  a1 σ = some q) : Ct wM v l yX12_types cX12_types 3 none 2 [.ref 0, .int a1] σ none q :=
  Ct.intro false (by decide) hi xc (Nat.le_of_ble_eq_true rfl) rfl (fun p e R s m args below meth c Q X rt => lkF_M_types hi xc nx X rt  h)
end
def T_M_feed_0 : DT := [(0, .aload_n 0, 1), (1, .getfield 147, 3), (4, .bipush 20, 2), (6, .iadd, 1), (7, .sipush 260, 3), (10, .if_icmp .le 5, 3), (13, .iconst (-1), 1), (14, .ireturn, 1), (15, .aload_n 0, 1), (16, .iload_n 1, 1), (17, .invokevirtual 151, 3), (20, .aload_n 0, 1), (21, .iload_n 2, 1), (22, .invokevirtual 151, 3), (25, .aload_n 0, 1), (26, .iload_n 3, 1)]
theorem dt_M_feed_0 : dOk cX12_feed T_M_feed_0 := by unfold dOk; decide +kernel
def T_M_feed_1 : DT := [(27, .invokevirtual 151, 3), (30, .aload_n 0, 1), (31, .iload 4, 2), (33, .invokevirtual 151, 3), (36, .aload_n 0, 1), (37, .iload 5, 2), (39, .invokevirtual 151, 3), (42, .aload_n 0, 1), (43, .getfield 147, 3), (46, .ireturn, 1)]
theorem dt_M_feed_1 : dOk cX12_feed T_M_feed_1 := by unfold dOk; decide +kernel
section
variable {v : ZV} {l : Launch} {p : Program} {e : Env} {R : Room} {s : State} {m : MethodId} {args : Array Value} {below : List Frame} {meth : Method} {c : Code} {Q : State → Prop} {res : (Int32 × Hp)} 
set_option maxRecDepth 20000 in
theorem lkF_M_feed (hi : zInj wM v) (xc : XC wM v) (nx : NXM v) (X : Cx wM v p R s m args c 0 0 cX12_feed 6 RX12 4) (rt : Rt wM v p l e R s m args below meth c 0 0 Q cX12_feed false (some (.int res.1)) res.2) {a1 : Int32} {a2 : Int32} {a3 : Int32} {a4 : Int32} {a5 : Int32} {σ : Hp}  (h : F_M_feed  a1 a2 a3 a4 a5 σ = some res) : Go wM v p l e R s m args below meth c 0 0 Q 6 0 [(0, .ref 0), (1, .int a1), (2, .int a2), (3, .int a3), (4, .int a4), (5, .int a5)] [] σ := by
  unfold F_M_feed at h
  refine go_aload_n X 0 (dk dt_M_feed_0 0 rfl) rfl rfl ?_
  refine go_geti X fo_X12_147 lM_0 sM_0 fM_0_6 (dk dt_M_feed_0 1 rfl) ?_
  refine go_bipush X (dk dt_M_feed_0 2 rfl) cb_20 ?_
  refine go_iadd X (dk dt_M_feed_0 3 rfl) ?_
  refine go_sipush X (dk dt_M_feed_0 4 rfl) cs_260 ?_
  refine go_icmp_le (tgt := 15) X (dk dt_M_feed_0 5 rfl) (by decide) h (fun h => ?_) (fun h => ?_)
  · refine go_aload_n X 0 (dk dt_M_feed_0 8 rfl) rfl rfl ?_
    refine go_iload_n X 1 (dk dt_M_feed_0 9 rfl) rfl rfl ?_
    refine go_Vv (As := [.int a1]) (rest := []) X vo_X12_151 (fun q hq => ct_M_types hi xc nx  hq) (by decide) rfl lM_0 sM_0 rfl rfl (Nat.le_of_ble_eq_true rfl) (dk dt_M_feed_0 10 rfl) h (fun q17 h => ?_)
    refine go_aload_n X 0 (dk dt_M_feed_0 11 rfl) rfl rfl ?_
    refine go_iload_n X 2 (dk dt_M_feed_0 12 rfl) rfl rfl ?_
    refine go_Vv (As := [.int a2]) (rest := []) X vo_X12_151 (fun q hq => ct_M_types hi xc nx  hq) (by decide) rfl lM_0 sM_0 rfl rfl (Nat.le_of_ble_eq_true rfl) (dk dt_M_feed_0 13 rfl) h (fun q22 h => ?_)
    refine go_aload_n X 0 (dk dt_M_feed_0 14 rfl) rfl rfl ?_
    refine go_iload_n X 3 (dk dt_M_feed_0 15 rfl) rfl rfl ?_
    refine go_Vv (As := [.int a3]) (rest := []) X vo_X12_151 (fun q hq => ct_M_types hi xc nx  hq) (by decide) rfl lM_0 sM_0 rfl rfl (Nat.le_of_ble_eq_true rfl) (dk dt_M_feed_1 0 rfl) h (fun q27 h => ?_)
    refine go_aload_n X 0 (dk dt_M_feed_1 1 rfl) rfl rfl ?_
    refine go_iload X 4 (dk dt_M_feed_1 2 rfl) rfl ?_
    refine go_Vv (As := [.int a4]) (rest := []) X vo_X12_151 (fun q hq => ct_M_types hi xc nx  hq) (by decide) rfl lM_0 sM_0 rfl rfl (Nat.le_of_ble_eq_true rfl) (dk dt_M_feed_1 3 rfl) h (fun q33 h => ?_)
    refine go_aload_n X 0 (dk dt_M_feed_1 4 rfl) rfl rfl ?_
    refine go_iload X 5 (dk dt_M_feed_1 5 rfl) rfl ?_
    refine go_Vv (As := [.int a5]) (rest := []) X vo_X12_151 (fun q hq => ct_M_types hi xc nx  hq) (by decide) rfl lM_0 sM_0 rfl rfl (Nat.le_of_ble_eq_true rfl) (dk dt_M_feed_1 6 rfl) h (fun q39 h => ?_)
    refine go_aload_n X 0 (dk dt_M_feed_1 7 rfl) rfl rfl ?_
    refine go_geti X fo_X12_147 lM_0 sM_0 fM_0_6 (dk dt_M_feed_1 8 rfl) ?_
    exact go_iret rt (dk dt_M_feed_1 9 rfl) h (fun hh => nomatch hh)
  · refine go_iconst X (dk dt_M_feed_0 6 rfl) ci_m1 ?_
    exact go_iret rt (dk dt_M_feed_0 7 rfl) h (fun hh => nomatch hh)
set_option maxRecDepth 20000 in
theorem ct_M_feed (hi : zInj wM v) (xc : XC wM v) (nx : NXM v)  {a1 : Int32} {a2 : Int32} {a3 : Int32} {a4 : Int32} {a5 : Int32} {σ : Hp}  {q : (Int32 × Hp)} (h : F_M_feed  a1 a2 a3 a4 a5 σ = some q) : Ct wM v l yX12_feed cX12_feed 6 (some .int) 4 [.ref 0, .int a1, .int a2, .int a3, .int a4, .int a5] σ (some (.int q.1)) q.2 :=
  Ct.intro false (by decide) hi xc (Nat.le_of_ble_eq_true rfl) rfl (fun p e R s m args below meth c Q X rt => lkF_M_feed hi xc nx X rt  h)
end
def T_M_feels_0 : DT := [(0, .iload_n 1, 1), (1, .bipush 8, 2), (3, .idiv, 1), (4, .istore_n 2, 1), (5, .aload_n 0, 1), (6, .getfield 65, 3), (9, .iconst 0, 1), (10, .iload_n 2, 1), (11, .iastore, 1), (12, .aload_n 0, 1), (13, .getfield 65, 3), (16, .iconst 1, 1), (17, .iload_n 1, 1), (18, .bipush 8, 2), (20, .irem, 1), (21, .iastore, 1)]
theorem dt_M_feels_0 : dOk cX12_feels T_M_feels_0 := by unfold dOk; decide +kernel
def T_M_feels_1 : DT := [(22, .aload_n 0, 1), (23, .getfield 65, 3), (26, .iconst 2, 1), (27, .aload_n 0, 1), (28, .getfield 7, 3), (31, .bipush 16, 2), (33, .iload_n 1, 1), (34, .iadd, 1), (35, .iaload, 1), (36, .iastore, 1), (37, .aload_n 0, 1), (38, .getfield 65, 3), (41, .iconst 3, 1), (42, .aload_n 0, 1), (43, .getfield 7, 3), (46, .bipush 32, 2)]
theorem dt_M_feels_1 : dOk cX12_feels T_M_feels_1 := by unfold dOk; decide +kernel
def T_M_feels_2 : DT := [(48, .iload_n 1, 1), (49, .iadd, 1), (50, .iaload, 1), (51, .iastore, 1), (52, .aload_n 0, 1), (53, .getfield 65, 3), (56, .iconst 4, 1), (57, .aload_n 0, 1), (58, .getfield 7, 3), (61, .bipush 48, 2), (63, .iload_n 1, 1), (64, .iadd, 1), (65, .iaload, 1), (66, .iastore, 1), (67, .aload_n 0, 1), (68, .getfield 65, 3)]
theorem dt_M_feels_2 : dOk cX12_feels T_M_feels_2 := by unfold dOk; decide +kernel
def T_M_feels_3 : DT := [(71, .iconst 5, 1), (72, .aload_n 0, 1), (73, .getfield 7, 3), (76, .bipush 64, 2), (78, .iload_n 1, 1), (79, .iadd, 1), (80, .iaload, 1), (81, .iastore, 1), (82, .aload_n 0, 1), (83, .getfield 65, 3), (86, .bipush 6, 2), (88, .aload_n 0, 1), (89, .iload_n 2, 1), (90, .iconst 0, 1), (91, .invokevirtual 137, 3), (94, .invokestatic 258, 3)]
theorem dt_M_feels_3 : dOk cX12_feels T_M_feels_3 := by unfold dOk; decide +kernel
def T_M_feels_4 : DT := [(97, .iastore, 1), (98, .aload_n 0, 1), (99, .getfield 65, 3), (102, .bipush 7, 2), (104, .aload_n 0, 1), (105, .iconst 1, 1), (106, .iload_n 2, 1), (107, .isub, 1), (108, .iconst 0, 1), (109, .invokevirtual 137, 3), (112, .invokestatic 258, 3), (115, .iastore, 1), (116, .aload_n 0, 1), (117, .getfield 65, 3), (120, .bipush 8, 2), (122, .aload_n 0, 1)]
theorem dt_M_feels_4 : dOk cX12_feels T_M_feels_4 := by unfold dOk; decide +kernel
def T_M_feels_5 : DT := [(123, .iload_n 1, 1), (124, .invokevirtual 261, 3), (127, .invokestatic 258, 3), (130, .iastore, 1), (131, .aload_n 0, 1), (132, .getfield 65, 3), (135, .bipush 9, 2), (137, .aload_n 0, 1), (138, .getfield 7, 3), (141, .bipush 96, 2), (143, .iaload, 1), (144, .iastore, 1), (145, .aload_n 0, 1), (146, .getfield 65, 3), (149, .bipush 10, 2), (151, .aload_n 0, 1)]
theorem dt_M_feels_5 : dOk cX12_feels T_M_feels_5 := by unfold dOk; decide +kernel
def T_M_feels_6 : DT := [(152, .getfield 7, 3), (155, .bipush 97, 2), (157, .iaload, 1), (158, .bipush 100, 2), (160, .irem, 1), (161, .iastore, 1), (162, .return_, 1)]
theorem dt_M_feels_6 : dOk cX12_feels T_M_feels_6 := by unfold dOk; decide +kernel
section
variable {v : ZV} {l : Launch} {p : Program} {e : Env} {R : Room} {s : State} {m : MethodId} {args : Array Value} {below : List Frame} {meth : Method} {c : Code} {Q : State → Prop} {res : Hp} 
set_option maxRecDepth 20000 in
theorem lkF_M_feels (hi : zInj wM v) (xc : XC wM v) (nx : NXM v) (X : Cx wM v p R s m args c 0 0 cX12_feels 3 RX12 8) (rt : Rt wM v p l e R s m args below meth c 0 0 Q cX12_feels false none res) {a1 : Int32} {σ : Hp}  (h : F_M_feels  a1 σ = some res) : Go wM v p l e R s m args below meth c 0 0 Q 3 0 [(0, .ref 0), (1, .int a1)] [] σ := by
  unfold F_M_feels at h
  refine go_iload_n X 1 (dk dt_M_feels_0 0 rfl) rfl rfl ?_
  refine go_bipush X (dk dt_M_feels_0 1 rfl) cb_8 ?_
  refine go_idivL X (dk dt_M_feels_0 2 rfl) (by decide) ?_
  refine go_istore_n (lv' := [(2, .int (a1 / (8 : Int32))), (0, .ref 0), (1, .int a1)]) X (dk dt_M_feels_0 3 rfl) rfl (by decide) rfl ?_
  refine go_aload_n X 1 (dk dt_M_feels_0 4 rfl) rfl rfl ?_
  refine go_getr X fo_X12_65 lM_0 sM_0 fM_0_28 (dk dt_M_feels_0 5 rfl) ?_
  refine go_iconst X (dk dt_M_feels_0 6 rfl) ci_0 ?_
  refine go_iload_n X 0 (dk dt_M_feels_0 7 rfl) rfl rfl ?_
  refine go_iast X lM_19 sM_19 (dk dt_M_feels_0 8 rfl) h (fun h => ?_)
  refine go_aload_n X 1 (dk dt_M_feels_0 9 rfl) rfl rfl ?_
  refine go_getr X fo_X12_65 lM_0 sM_0 fM_0_28 (dk dt_M_feels_0 10 rfl) ?_
  refine go_iconst X (dk dt_M_feels_0 11 rfl) ci_1 ?_
  refine go_iload_n X 2 (dk dt_M_feels_0 12 rfl) rfl rfl ?_
  refine go_bipush X (dk dt_M_feels_0 13 rfl) cb_8 ?_
  refine go_iremL X (dk dt_M_feels_0 14 rfl) (by decide) ?_
  refine go_iast X lM_19 sM_19 (dk dt_M_feels_0 15 rfl) h (fun h => ?_)
  refine go_aload_n X 1 (dk dt_M_feels_1 0 rfl) rfl rfl ?_
  refine go_getr X fo_X12_65 lM_0 sM_0 fM_0_28 (dk dt_M_feels_1 1 rfl) ?_
  refine go_iconst X (dk dt_M_feels_1 2 rfl) ci_2 ?_
  refine go_aload_n X 1 (dk dt_M_feels_1 3 rfl) rfl rfl ?_
  refine go_getr X fo_X12_7 lM_0 sM_0 fM_0_0 (dk dt_M_feels_1 4 rfl) ?_
  refine go_bipush X (dk dt_M_feels_1 5 rfl) cb_16 ?_
  refine go_iload_n X 2 (dk dt_M_feels_1 6 rfl) rfl rfl ?_
  refine go_iadd X (dk dt_M_feels_1 7 rfl) ?_
  refine go_iald X lM_1 sM_1 (dk dt_M_feels_1 8 rfl) h (fun h => ?_)
  refine go_iast X lM_19 sM_19 (dk dt_M_feels_1 9 rfl) h (fun h => ?_)
  refine go_aload_n X 1 (dk dt_M_feels_1 10 rfl) rfl rfl ?_
  refine go_getr X fo_X12_65 lM_0 sM_0 fM_0_28 (dk dt_M_feels_1 11 rfl) ?_
  refine go_iconst X (dk dt_M_feels_1 12 rfl) ci_3 ?_
  refine go_aload_n X 1 (dk dt_M_feels_1 13 rfl) rfl rfl ?_
  refine go_getr X fo_X12_7 lM_0 sM_0 fM_0_0 (dk dt_M_feels_1 14 rfl) ?_
  refine go_bipush X (dk dt_M_feels_1 15 rfl) cb_32 ?_
  refine go_iload_n X 2 (dk dt_M_feels_2 0 rfl) rfl rfl ?_
  refine go_iadd X (dk dt_M_feels_2 1 rfl) ?_
  refine go_iald X lM_1 sM_1 (dk dt_M_feels_2 2 rfl) h (fun h => ?_)
  refine go_iast X lM_19 sM_19 (dk dt_M_feels_2 3 rfl) h (fun h => ?_)
  refine go_aload_n X 1 (dk dt_M_feels_2 4 rfl) rfl rfl ?_
  refine go_getr X fo_X12_65 lM_0 sM_0 fM_0_28 (dk dt_M_feels_2 5 rfl) ?_
  refine go_iconst X (dk dt_M_feels_2 6 rfl) ci_4 ?_
  refine go_aload_n X 1 (dk dt_M_feels_2 7 rfl) rfl rfl ?_
  refine go_getr X fo_X12_7 lM_0 sM_0 fM_0_0 (dk dt_M_feels_2 8 rfl) ?_
  refine go_bipush X (dk dt_M_feels_2 9 rfl) cb_48 ?_
  refine go_iload_n X 2 (dk dt_M_feels_2 10 rfl) rfl rfl ?_
  refine go_iadd X (dk dt_M_feels_2 11 rfl) ?_
  refine go_iald X lM_1 sM_1 (dk dt_M_feels_2 12 rfl) h (fun h => ?_)
  refine go_iast X lM_19 sM_19 (dk dt_M_feels_2 13 rfl) h (fun h => ?_)
  refine go_aload_n X 1 (dk dt_M_feels_2 14 rfl) rfl rfl ?_
  refine go_getr X fo_X12_65 lM_0 sM_0 fM_0_28 (dk dt_M_feels_2 15 rfl) ?_
  refine go_iconst X (dk dt_M_feels_3 0 rfl) ci_5 ?_
  refine go_aload_n X 1 (dk dt_M_feels_3 1 rfl) rfl rfl ?_
  refine go_getr X fo_X12_7 lM_0 sM_0 fM_0_0 (dk dt_M_feels_3 2 rfl) ?_
  refine go_bipush X (dk dt_M_feels_3 3 rfl) cb_64 ?_
  refine go_iload_n X 2 (dk dt_M_feels_3 4 rfl) rfl rfl ?_
  refine go_iadd X (dk dt_M_feels_3 5 rfl) ?_
  refine go_iald X lM_1 sM_1 (dk dt_M_feels_3 6 rfl) h (fun h => ?_)
  refine go_iast X lM_19 sM_19 (dk dt_M_feels_3 7 rfl) h (fun h => ?_)
  refine go_aload_n X 1 (dk dt_M_feels_3 8 rfl) rfl rfl ?_
  refine go_getr X fo_X12_65 lM_0 sM_0 fM_0_28 (dk dt_M_feels_3 9 rfl) ?_
  refine go_bipush X (dk dt_M_feels_3 10 rfl) cb_6 ?_
  refine go_aload_n X 1 (dk dt_M_feels_3 11 rfl) rfl rfl ?_
  refine go_iload_n X 0 (dk dt_M_feels_3 12 rfl) rfl rfl ?_
  refine go_iconst X (dk dt_M_feels_3 13 rfl) ci_0 ?_
  refine go_Vi (As := [.int (a1 / (8 : Int32)), .int (0 : Int32)]) (rest := [.int (6 : Int32), .ref 19]) X vo_X12_137 (fun q hq => ct_M_setOf hi xc nx  hq) (by decide) rfl lM_0 sM_0 rfl rfl (Nat.le_of_ble_eq_true rfl) (dk dt_M_feels_3 14 rfl) h (fun q91 h => ?_)
  refine go_Si (As := [.int q91.1]) (rest := [.int (6 : Int32), .ref 19]) X so_X12_258 (fun q hq => ct_M_bits hi xc nx  hq) (by decide) rfl rfl (Nat.le_of_ble_eq_true rfl) (dk dt_M_feels_3 15 rfl) h (fun q94 h => ?_)
  refine go_iast X lM_19 sM_19 (dk dt_M_feels_4 0 rfl) h (fun h => ?_)
  refine go_aload_n X 1 (dk dt_M_feels_4 1 rfl) rfl rfl ?_
  refine go_getr X fo_X12_65 lM_0 sM_0 fM_0_28 (dk dt_M_feels_4 2 rfl) ?_
  refine go_bipush X (dk dt_M_feels_4 3 rfl) cb_7 ?_
  refine go_aload_n X 1 (dk dt_M_feels_4 4 rfl) rfl rfl ?_
  refine go_iconst X (dk dt_M_feels_4 5 rfl) ci_1 ?_
  refine go_iload_n X 0 (dk dt_M_feels_4 6 rfl) rfl rfl ?_
  refine go_isub X (dk dt_M_feels_4 7 rfl) ?_
  refine go_iconst X (dk dt_M_feels_4 8 rfl) ci_0 ?_
  refine go_Vi (As := [.int ((1 : Int32) - (a1 / (8 : Int32))), .int (0 : Int32)]) (rest := [.int (7 : Int32), .ref 19]) X vo_X12_137 (fun q hq => ct_M_setOf hi xc nx  hq) (by decide) rfl lM_0 sM_0 rfl rfl (Nat.le_of_ble_eq_true rfl) (dk dt_M_feels_4 9 rfl) h (fun q109 h => ?_)
  refine go_Si (As := [.int q109.1]) (rest := [.int (7 : Int32), .ref 19]) X so_X12_258 (fun q hq => ct_M_bits hi xc nx  hq) (by decide) rfl rfl (Nat.le_of_ble_eq_true rfl) (dk dt_M_feels_4 10 rfl) h (fun q112 h => ?_)
  refine go_iast X lM_19 sM_19 (dk dt_M_feels_4 11 rfl) h (fun h => ?_)
  refine go_aload_n X 1 (dk dt_M_feels_4 12 rfl) rfl rfl ?_
  refine go_getr X fo_X12_65 lM_0 sM_0 fM_0_28 (dk dt_M_feels_4 13 rfl) ?_
  refine go_bipush X (dk dt_M_feels_4 14 rfl) cb_8 ?_
  refine go_aload_n X 1 (dk dt_M_feels_4 15 rfl) rfl rfl ?_
  refine go_iload_n X 2 (dk dt_M_feels_5 0 rfl) rfl rfl ?_
  refine go_Vi (As := [.int a1]) (rest := [.int (8 : Int32), .ref 19]) X vo_X12_261 (fun q hq => ct_M_seenBy hi xc nx  hq) (by decide) rfl lM_0 sM_0 rfl rfl (Nat.le_of_ble_eq_true rfl) (dk dt_M_feels_5 1 rfl) h (fun q124 h => ?_)
  refine go_Si (As := [.int q124.1]) (rest := [.int (8 : Int32), .ref 19]) X so_X12_258 (fun q hq => ct_M_bits hi xc nx  hq) (by decide) rfl rfl (Nat.le_of_ble_eq_true rfl) (dk dt_M_feels_5 2 rfl) h (fun q127 h => ?_)
  refine go_iast X lM_19 sM_19 (dk dt_M_feels_5 3 rfl) h (fun h => ?_)
  refine go_aload_n X 1 (dk dt_M_feels_5 4 rfl) rfl rfl ?_
  refine go_getr X fo_X12_65 lM_0 sM_0 fM_0_28 (dk dt_M_feels_5 5 rfl) ?_
  refine go_bipush X (dk dt_M_feels_5 6 rfl) cb_9 ?_
  refine go_aload_n X 1 (dk dt_M_feels_5 7 rfl) rfl rfl ?_
  refine go_getr X fo_X12_7 lM_0 sM_0 fM_0_0 (dk dt_M_feels_5 8 rfl) ?_
  refine go_bipush X (dk dt_M_feels_5 9 rfl) cb_96 ?_
  refine go_iald X lM_1 sM_1 (dk dt_M_feels_5 10 rfl) h (fun h => ?_)
  refine go_iast X lM_19 sM_19 (dk dt_M_feels_5 11 rfl) h (fun h => ?_)
  refine go_aload_n X 1 (dk dt_M_feels_5 12 rfl) rfl rfl ?_
  refine go_getr X fo_X12_65 lM_0 sM_0 fM_0_28 (dk dt_M_feels_5 13 rfl) ?_
  refine go_bipush X (dk dt_M_feels_5 14 rfl) cb_10 ?_
  refine go_aload_n X 1 (dk dt_M_feels_5 15 rfl) rfl rfl ?_
  refine go_getr X fo_X12_7 lM_0 sM_0 fM_0_0 (dk dt_M_feels_6 0 rfl) ?_
  refine go_bipush X (dk dt_M_feels_6 1 rfl) cb_97 ?_
  refine go_iald X lM_1 sM_1 (dk dt_M_feels_6 2 rfl) h (fun h => ?_)
  refine go_bipush X (dk dt_M_feels_6 3 rfl) cb_100 ?_
  refine go_iremL X (dk dt_M_feels_6 4 rfl) (by decide) ?_
  refine go_iast X lM_19 sM_19 (dk dt_M_feels_6 5 rfl) h (fun h => ?_)
  exact go_vret rt (dk dt_M_feels_6 6 rfl) h
set_option maxRecDepth 20000 in
theorem ct_M_feels (hi : zInj wM v) (xc : XC wM v) (nx : NXM v)  {a1 : Int32} {σ : Hp}  {q : Hp} (h : F_M_feels  a1 σ = some q) : Ct wM v l yX12_feels cX12_feels 3 none 8 [.ref 0, .int a1] σ none q :=
  Ct.intro false (by decide) hi xc (Nat.le_of_ble_eq_true rfl) rfl (fun p e R s m args below meth c Q X rt => lkF_M_feels hi xc nx X rt  h)
end
def T_M_max_0 : DT := [(0, .iload_n 0, 1), (1, .iload_n 1, 1), (2, .if_icmp .le 7, 3), (5, .iload_n 0, 1), (6, .goto 4, 3), (9, .iload_n 1, 1), (10, .ireturn, 1)]
theorem dt_M_max_0 : dOk cX12_max T_M_max_0 := by unfold dOk; decide +kernel
section
variable {v : ZV} {l : Launch} {p : Program} {e : Env} {R : Room} {s : State} {m : MethodId} {args : Array Value} {below : List Frame} {meth : Method} {c : Code} {Q : State → Prop} {res : (Int32 × Hp)} 
set_option maxRecDepth 20000 in
theorem lkF_M_max (hi : zInj wM v) (xc : XC wM v) (nx : NXM v) (X : Cx wM v p R s m args c 0 0 cX12_max 2 RX12 2) (rt : Rt wM v p l e R s m args below meth c 0 0 Q cX12_max false (some (.int res.1)) res.2) {a0 : Int32} {a1 : Int32} {σ : Hp}  (h : F_M_max  a0 a1 σ = some res) : Go wM v p l e R s m args below meth c 0 0 Q 2 0 [(0, .int a0), (1, .int a1)] [] σ := by
  unfold F_M_max at h
  refine go_iload_n X 0 (dk dt_M_max_0 0 rfl) rfl rfl ?_
  refine go_iload_n X 1 (dk dt_M_max_0 1 rfl) rfl rfl ?_
  refine go_icmp_le (tgt := 9) X (dk dt_M_max_0 2 rfl) (by decide) h (fun h => ?_) (fun h => ?_)
  · refine go_iload_n X 1 (dk dt_M_max_0 5 rfl) rfl rfl ?_
    exact go_iret rt (dk dt_M_max_0 6 rfl) h (fun hh => nomatch hh)
  · refine go_iload_n X 0 (dk dt_M_max_0 3 rfl) rfl rfl ?_
    refine go_goto (tgt := 10) X (dk dt_M_max_0 4 rfl) (by decide) ?_
    exact go_iret rt (dk dt_M_max_0 6 rfl) h (fun hh => nomatch hh)
set_option maxRecDepth 20000 in
theorem ct_M_max (hi : zInj wM v) (xc : XC wM v) (nx : NXM v)  {a0 : Int32} {a1 : Int32} {σ : Hp}  {q : (Int32 × Hp)} (h : F_M_max  a0 a1 σ = some q) : Ct wM v l yX12_max cX12_max 2 (some .int) 2 [.int a0, .int a1] σ (some (.int q.1)) q.2 :=
  Ct.intro false (by decide) hi xc (Nat.le_of_ble_eq_true rfl) rfl (fun p e R s m args below meth c Q X rt => lkF_M_max hi xc nx X rt  h)
end
def T_M_holdsAny_0 : DT := [(0, .iconst 0, 1), (1, .istore_n 2, 1), (2, .iload_n 2, 1), (3, .aload_n 0, 1), (4, .getfield 248, 3), (7, .if_icmp .ge 41, 3), (10, .aload_n 0, 1), (11, .getfield 50, 3), (14, .iload_n 2, 1), (15, .iaload, 1), (16, .iload_n 1, 1), (17, .if_icmp .ne 25, 3), (20, .aload_n 0, 1), (21, .aload_n 0, 1), (22, .getfield 56, 3), (25, .iload_n 2, 1)]
theorem dt_M_holdsAny_0 : dOk cX12_holdsAny T_M_holdsAny_0 := by unfold dOk; decide +kernel
def T_M_holdsAny_1 : DT := [(26, .iaload, 1), (27, .aload_n 0, 1), (28, .getfield 59, 3), (31, .iload_n 2, 1), (32, .iaload, 1), (33, .invokevirtual 255, 3), (36, .iconst 1, 1), (37, .if_icmp .ne 5, 3), (40, .iconst 1, 1), (41, .ireturn, 1), (42, .iinc 2 1, 3), (45, .goto (-43), 3), (48, .iconst 0, 1), (49, .ireturn, 1)]
theorem dt_M_holdsAny_1 : dOk cX12_holdsAny T_M_holdsAny_1 := by unfold dOk; decide +kernel
section
variable {v : ZV} {l : Launch} {p : Program} {e : Env} {R : Room} {s : State} {m : MethodId} {args : Array Value} {below : List Frame} {meth : Method} {c : Code} {Q : State → Prop} {res : (Int32 × Hp)} 
set_option maxRecDepth 20000 in
theorem lkB_M_holdsAny_2 (hi : zInj wM v) (xc : XC wM v) (nx : NXM v) (X : Cx wM v p R s m args c 0 0 cX12_holdsAny 3 RX12 6) (rt : Rt wM v p l e R s m args below meth c 0 0 Q cX12_holdsAny true (some (.int res.1)) res.2) {k2 : Int32 → Int32 → Hp → Option (Int32 × Hp)} {x1 : Int32} {x2 : Int32} {σ : Hp}  (hk2 : ∀ (x1 : Int32) (x2 : Int32) (σ : Hp),  k2 x1 x2 σ = some res → Go wM v p l e R s m args below meth c 0 0 Q 3 2 [(0, .ref 0), (1, .int x1), (2, .int x2)] [] σ) (h : B_M_holdsAny_2  k2 x1 x2 σ = some res) : Go wM v p l e R s m args below meth c 0 0 Q 3 2 [(0, .ref 0), (1, .int x1), (2, .int x2)] [] σ := by
  unfold B_M_holdsAny_2 at h
  refine go_iload_n X 2 (dk dt_M_holdsAny_0 2 rfl) rfl rfl ?_
  refine go_aload_n X 0 (dk dt_M_holdsAny_0 3 rfl) rfl rfl ?_
  refine go_geti X fo_X12_248 lM_0 sM_0 fM_0_15 (dk dt_M_holdsAny_0 4 rfl) ?_
  refine go_icmp_ge (tgt := 48) X (dk dt_M_holdsAny_0 5 rfl) (by decide) h (fun h => ?_) (fun h => ?_)
  · refine go_iconst X (dk dt_M_holdsAny_1 12 rfl) ci_0 ?_
    exact go_iret rt (dk dt_M_holdsAny_1 13 rfl) h (by decide)
  · refine go_aload_n X 0 (dk dt_M_holdsAny_0 6 rfl) rfl rfl ?_
    refine go_getr X fo_X12_50 lM_0 sM_0 fM_0_23 (dk dt_M_holdsAny_0 7 rfl) ?_
    refine go_iload_n X 2 (dk dt_M_holdsAny_0 8 rfl) rfl rfl ?_
    refine go_iald X lM_14 sM_14 (dk dt_M_holdsAny_0 9 rfl) h (fun h => ?_)
    refine go_iload_n X 1 (dk dt_M_holdsAny_0 10 rfl) rfl rfl ?_
    refine go_icmp_ne (tgt := 42) X (dk dt_M_holdsAny_0 11 rfl) (by decide) h (fun h => ?_) (fun h => ?_)
    · refine go_iinc (lv' := [(2, .int (x2 + (1 : Int32))), (0, .ref 0), (1, .int x1)]) X 2 (dk dt_M_holdsAny_1 10 rfl) rfl ci_1 (by decide) rfl ?_
      refine go_goto (tgt := 2) X (dk dt_M_holdsAny_1 11 rfl) (by decide) ?_
      refine go_sub [1, 2, 0] rfl ?_
      exact hk2 _ _ _  h
    · refine go_aload_n X 0 (dk dt_M_holdsAny_0 12 rfl) rfl rfl ?_
      refine go_aload_n X 0 (dk dt_M_holdsAny_0 13 rfl) rfl rfl ?_
      refine go_getr X fo_X12_56 lM_0 sM_0 fM_0_25 (dk dt_M_holdsAny_0 14 rfl) ?_
      refine go_iload_n X 2 (dk dt_M_holdsAny_0 15 rfl) rfl rfl ?_
      refine go_iald X lM_16 sM_16 (dk dt_M_holdsAny_1 0 rfl) h (fun h => ?_)
      refine go_aload_n X 0 (dk dt_M_holdsAny_1 1 rfl) rfl rfl ?_
      refine go_getr X fo_X12_59 lM_0 sM_0 fM_0_26 (dk dt_M_holdsAny_1 2 rfl) ?_
      refine go_iload_n X 2 (dk dt_M_holdsAny_1 3 rfl) rfl rfl ?_
      refine go_iald X lM_17 sM_17 (dk dt_M_holdsAny_1 4 rfl) h (fun h => ?_)
      refine go_Vi (As := [.int (σ 16 (Int32.toNatClampNeg x2)), .int (σ 17 (Int32.toNatClampNeg x2))]) (rest := []) X vo_X12_255 (fun q hq => ct_M_comesTo hi xc nx  hq) (by decide) rfl lM_0 sM_0 rfl rfl (Nat.le_of_ble_eq_true rfl) (dk dt_M_holdsAny_1 5 rfl) h (fun q33 h => ?_)
      refine go_iconst X (dk dt_M_holdsAny_1 6 rfl) ci_1 ?_
      refine go_icmp_ne (tgt := 42) X (dk dt_M_holdsAny_1 7 rfl) (by decide) h (fun h => ?_) (fun h => ?_)
      · refine go_iinc (lv' := [(2, .int (x2 + (1 : Int32))), (0, .ref 0), (1, .int x1)]) X 2 (dk dt_M_holdsAny_1 10 rfl) rfl ci_1 (by decide) rfl ?_
        refine go_goto (tgt := 2) X (dk dt_M_holdsAny_1 11 rfl) (by decide) ?_
        refine go_sub [1, 2, 0] rfl ?_
        exact hk2 _ _ _  h
      · refine go_iconst X (dk dt_M_holdsAny_1 8 rfl) ci_1 ?_
        exact go_iret rt (dk dt_M_holdsAny_1 9 rfl) h (by decide)
set_option maxRecDepth 20000 in
theorem lkL_M_holdsAny_2 (hi : zInj wM v) (xc : XC wM v) (nx : NXM v) (X : Cx wM v p R s m args c 0 0 cX12_holdsAny 3 RX12 6) (rt : Rt wM v p l e R s m args below meth c 0 0 Q cX12_holdsAny true (some (.int res.1)) res.2)   (n : Nat) : ∀ {x1 : Int32} {x2 : Int32} {σ : Hp},  L_M_holdsAny_2   n x1 x2 σ = some res → Go wM v p l e R s m args below meth c 0 0 Q 3 2 [(0, .ref 0), (1, .int x1), (2, .int x2)] [] σ := by
  induction n with
  | zero => intro x1 x2 σ  h; cases h
  | succ n ih =>
    intro x1 x2 σ  h
    exact lkB_M_holdsAny_2 hi xc nx X rt  (fun _ _ _  hh => ih  hh) h
set_option maxRecDepth 20000 in
theorem lkF_M_holdsAny (hi : zInj wM v) (xc : XC wM v) (nx : NXM v) (X : Cx wM v p R s m args c 0 0 cX12_holdsAny 3 RX12 6) (rt : Rt wM v p l e R s m args below meth c 0 0 Q cX12_holdsAny true (some (.int res.1)) res.2) {a1 : Int32} {σ : Hp}  (h : F_M_holdsAny  a1 σ = some res) : Go wM v p l e R s m args below meth c 0 0 Q 3 0 [(0, .ref 0), (1, .int a1)] [] σ := by
  unfold F_M_holdsAny at h
  refine go_iconst X (dk dt_M_holdsAny_0 0 rfl) ci_0 ?_
  refine go_istore_n (lv' := [(2, .int (0 : Int32)), (0, .ref 0), (1, .int a1)]) X (dk dt_M_holdsAny_0 1 rfl) rfl (by decide) rfl ?_
  refine go_sub [1, 2, 0] rfl ?_
  exact lkL_M_holdsAny_2 hi xc nx X rt  FU  h
set_option maxRecDepth 20000 in
theorem ct_M_holdsAny (hi : zInj wM v) (xc : XC wM v) (nx : NXM v)  {a1 : Int32} {σ : Hp}  {q : (Int32 × Hp)} (h : F_M_holdsAny  a1 σ = some q) : Ct wM v l yX12_holdsAny cX12_holdsAny 3 (some .boolean) 6 [.ref 0, .int a1] σ (some (.int q.1)) q.2 :=
  Ct.intro true (by decide) hi xc (Nat.le_of_ble_eq_true rfl) rfl (fun p e R s m args below meth c Q X rt => lkF_M_holdsAny hi xc nx X rt  h)
end
def T_M_goesIn_0 : DT := [(0, .aload_n 0, 1), (1, .getfield 7, 3), (4, .bipush 80, 2), (6, .iload_n 1, 1), (7, .iadd, 1), (8, .iconst 2, 1), (9, .iastore, 1), (10, .aload_n 0, 1), (11, .aload_n 0, 1), (12, .getfield 319, 3), (15, .iconst 1, 1), (16, .iadd, 1), (17, .putfield 319, 3), (20, .aload_n 0, 1), (21, .getfield 86, 3), (24, .iload_n 1, 1)]
theorem dt_M_goesIn_0 : dOk cX12_goesIn T_M_goesIn_0 := by unfold dOk; decide +kernel
def T_M_goesIn_1 : DT := [(25, .aload_n 0, 1), (26, .getfield 322, 3), (29, .iastore, 1), (30, .aload_n 0, 1), (31, .getfield 325, 3), (34, .iconst (-1), 1), (35, .if_icmp .eq 4, 3), (38, .return_, 1), (39, .aload_n 0, 1), (40, .iload_n 1, 1), (41, .putfield 325, 3), (44, .aload_n 0, 1), (45, .aload_n 0, 1), (46, .getfield 322, 3), (49, .putfield 328, 3), (52, .return_, 1)]
theorem dt_M_goesIn_1 : dOk cX12_goesIn T_M_goesIn_1 := by unfold dOk; decide +kernel
section
variable {v : ZV} {l : Launch} {p : Program} {e : Env} {R : Room} {s : State} {m : MethodId} {args : Array Value} {below : List Frame} {meth : Method} {c : Code} {Q : State → Prop} {res : Hp} 
set_option maxRecDepth 20000 in
theorem lkF_M_goesIn (hi : zInj wM v) (xc : XC wM v) (nx : NXM v) (X : Cx wM v p R s m args c 0 0 cX12_goesIn 2 RX12 2) (rt : Rt wM v p l e R s m args below meth c 0 0 Q cX12_goesIn false none res) {a1 : Int32} {σ : Hp}  (h : F_M_goesIn  a1 σ = some res) : Go wM v p l e R s m args below meth c 0 0 Q 2 0 [(0, .ref 0), (1, .int a1)] [] σ := by
  unfold F_M_goesIn at h
  refine go_aload_n X 0 (dk dt_M_goesIn_0 0 rfl) rfl rfl ?_
  refine go_getr X fo_X12_7 lM_0 sM_0 fM_0_0 (dk dt_M_goesIn_0 1 rfl) ?_
  refine go_bipush X (dk dt_M_goesIn_0 2 rfl) cb_80 ?_
  refine go_iload_n X 1 (dk dt_M_goesIn_0 3 rfl) rfl rfl ?_
  refine go_iadd X (dk dt_M_goesIn_0 4 rfl) ?_
  refine go_iconst X (dk dt_M_goesIn_0 5 rfl) ci_2 ?_
  refine go_iast X lM_1 sM_1 (dk dt_M_goesIn_0 6 rfl) h (fun h => ?_)
  refine go_aload_n X 0 (dk dt_M_goesIn_0 7 rfl) rfl rfl ?_
  refine go_aload_n X 0 (dk dt_M_goesIn_0 8 rfl) rfl rfl ?_
  refine go_geti X fo_X12_319 lM_0 sM_0 fM_0_40 (dk dt_M_goesIn_0 9 rfl) ?_
  refine go_iconst X (dk dt_M_goesIn_0 10 rfl) ci_1 ?_
  refine go_iadd X (dk dt_M_goesIn_0 11 rfl) ?_
  refine go_puti X fo_X12_319 pf_12_40 lM_0 sM_0 fM_0_40 (dk dt_M_goesIn_0 12 rfl) ?_
  refine go_aload_n X 0 (dk dt_M_goesIn_0 13 rfl) rfl rfl ?_
  refine go_getr X fo_X12_86 lM_0 sM_0 fM_0_46 (dk dt_M_goesIn_0 14 rfl) ?_
  refine go_iload_n X 1 (dk dt_M_goesIn_0 15 rfl) rfl rfl ?_
  refine go_aload_n X 0 (dk dt_M_goesIn_1 0 rfl) rfl rfl ?_
  refine go_geti X fo_X12_322 lM_0 sM_0 fM_0_45 (dk dt_M_goesIn_1 1 rfl) ?_
  refine go_iast X lM_26 sM_26 (dk dt_M_goesIn_1 2 rfl) h (fun h => ?_)
  refine go_aload_n X 0 (dk dt_M_goesIn_1 3 rfl) rfl rfl ?_
  refine go_geti X fo_X12_325 lM_0 sM_0 fM_0_43 (dk dt_M_goesIn_1 4 rfl) ?_
  refine go_iconst X (dk dt_M_goesIn_1 5 rfl) ci_m1 ?_
  refine go_icmp_eq (tgt := 39) X (dk dt_M_goesIn_1 6 rfl) (by decide) h (fun h => ?_) (fun h => ?_)
  · refine go_aload_n X 0 (dk dt_M_goesIn_1 8 rfl) rfl rfl ?_
    refine go_iload_n X 1 (dk dt_M_goesIn_1 9 rfl) rfl rfl ?_
    refine go_puti X fo_X12_325 pf_12_43 lM_0 sM_0 fM_0_43 (dk dt_M_goesIn_1 10 rfl) ?_
    refine go_aload_n X 0 (dk dt_M_goesIn_1 11 rfl) rfl rfl ?_
    refine go_aload_n X 0 (dk dt_M_goesIn_1 12 rfl) rfl rfl ?_
    refine go_geti X fo_X12_322 lM_0 sM_0 fM_0_45 (dk dt_M_goesIn_1 13 rfl) ?_
    refine go_puti X fo_X12_328 pf_12_44 lM_0 sM_0 fM_0_44 (dk dt_M_goesIn_1 14 rfl) ?_
    exact go_vret rt (dk dt_M_goesIn_1 15 rfl) h
  · exact go_vret rt (dk dt_M_goesIn_1 7 rfl) h
set_option maxRecDepth 20000 in
theorem ct_M_goesIn (hi : zInj wM v) (xc : XC wM v) (nx : NXM v)  {a1 : Int32} {σ : Hp}  {q : Hp} (h : F_M_goesIn  a1 σ = some q) : Ct wM v l yX12_goesIn cX12_goesIn 2 none 2 [.ref 0, .int a1] σ none q :=
  Ct.intro false (by decide) hi xc (Nat.le_of_ble_eq_true rfl) rfl (fun p e R s m args below meth c Q X rt => lkF_M_goesIn hi xc nx X rt  h)
end
def T_M_turnOf_0 : DT := [(0, .aload_n 0, 1), (1, .iload_n 1, 1), (2, .invokevirtual 332, 3), (5, .aload_n 0, 1), (6, .bipush 98, 2), (8, .bipush 99, 2), (10, .invokevirtual 335, 3), (13, .istore_n 2, 1), (14, .aload_n 0, 1), (15, .bipush 116, 2), (17, .bipush 99, 2), (19, .invokevirtual 335, 3), (22, .istore_n 3, 1), (23, .aload_n 0, 1), (24, .getfield 7, 3), (27, .bipush 48, 2)]
theorem dt_M_turnOf_0 : dOk cX12_turnOf T_M_turnOf_0 := by unfold dOk; decide +kernel
def T_M_turnOf_1 : DT := [(29, .iload_n 1, 1), (30, .iadd, 1), (31, .iaload, 1), (32, .istore 4, 2), (34, .aload_n 0, 1), (35, .getfield 7, 3), (38, .bipush 32, 2), (40, .iload_n 1, 1), (41, .iadd, 1), (42, .bipush 99, 2), (44, .aload_n 0, 1), (45, .getfield 7, 3), (48, .bipush 32, 2), (50, .iload_n 1, 1), (51, .iadd, 1), (52, .iaload, 1)]
theorem dt_M_turnOf_1 : dOk cX12_turnOf T_M_turnOf_1 := by unfold dOk; decide +kernel
def T_M_turnOf_2 : DT := [(53, .iload_n 2, 1), (54, .iadd, 1), (55, .invokestatic 270, 3), (58, .iastore, 1), (59, .aload_n 0, 1), (60, .getfield 7, 3), (63, .bipush 48, 2), (65, .iload_n 1, 1), (66, .iadd, 1), (67, .iconst 0, 1), (68, .iload 4, 2), (70, .iload_n 3, 1), (71, .isub, 1), (72, .invokestatic 338, 3), (75, .iastore, 1), (76, .aload_n 0, 1)]
theorem dt_M_turnOf_2 : dOk cX12_turnOf T_M_turnOf_2 := by unfold dOk; decide +kernel
def T_M_turnOf_3 : DT := [(77, .aload_n 0, 1), (78, .getfield 341, 3), (81, .iload 4, 2), (83, .iadd, 1), (84, .aload_n 0, 1), (85, .getfield 7, 3), (88, .bipush 48, 2), (90, .iload_n 1, 1), (91, .iadd, 1), (92, .iaload, 1), (93, .isub, 1), (94, .putfield 341, 3), (97, .aload_n 0, 1), (98, .iload_n 1, 1), (99, .invokevirtual 332, 3), (102, .aload_n 0, 1)]
theorem dt_M_turnOf_3 : dOk cX12_turnOf T_M_turnOf_3 := by unfold dOk; decide +kernel
def T_M_turnOf_4 : DT := [(103, .getfield 7, 3), (106, .bipush 32, 2), (108, .iload_n 1, 1), (109, .iadd, 1), (110, .iaload, 1), (111, .bipush 99, 2), (113, .if_icmp .eq 24, 3), (116, .aload_n 0, 1), (117, .getfield 7, 3), (120, .bipush 48, 2), (122, .iload_n 1, 1), (123, .iadd, 1), (124, .iaload, 1), (125, .ifCond .eq 12, 3), (128, .aload_n 0, 1), (129, .bipush 120, 2)]
theorem dt_M_turnOf_4 : dOk cX12_turnOf T_M_turnOf_4 := by unfold dOk; decide +kernel
def T_M_turnOf_5 : DT := [(131, .invokevirtual 344, 3), (134, .ifCond .eq 9, 3), (137, .aload_n 0, 1), (138, .iload_n 1, 1), (139, .invokevirtual 347, 3), (142, .return_, 1), (143, .aload_n 0, 1), (144, .bipush 119, 2), (146, .bipush 10, 2), (148, .invokevirtual 335, 3), (151, .istore 5, 2), (153, .aload_n 0, 1), (154, .invokevirtual 350, 3), (157, .aload_n 0, 1), (158, .getfield 7, 3), (161, .bipush 99, 2)]
theorem dt_M_turnOf_5 : dOk cX12_turnOf T_M_turnOf_5 := by unfold dOk; decide +kernel
def T_M_turnOf_6 : DT := [(163, .iaload, 1), (164, .bipush 10, 2), (166, .irem, 1), (167, .iload 5, 2), (169, .if_icmp .lt 4, 3), (172, .return_, 1), (173, .aload_n 0, 1), (174, .getfield 7, 3), (177, .bipush 80, 2), (179, .iload_n 1, 1), (180, .iadd, 1), (181, .iconst 1, 1), (182, .iastore, 1), (183, .aload_n 0, 1), (184, .aload_n 0, 1), (185, .getfield 353, 3)]
theorem dt_M_turnOf_6 : dOk cX12_turnOf T_M_turnOf_6 := by unfold dOk; decide +kernel
def T_M_turnOf_7 : DT := [(188, .iconst 1, 1), (189, .iadd, 1), (190, .putfield 353, 3), (193, .return_, 1)]
theorem dt_M_turnOf_7 : dOk cX12_turnOf T_M_turnOf_7 := by unfold dOk; decide +kernel
section
variable {v : ZV} {l : Launch} {p : Program} {e : Env} {R : Room} {s : State} {m : MethodId} {args : Array Value} {below : List Frame} {meth : Method} {c : Code} {Q : State → Prop} {res : Hp} 
set_option maxRecDepth 20000 in
theorem lkJ_M_turnOf_137 (hi : zInj wM v) (xc : XC wM v) (nx : NXM v) (X : Cx wM v p R s m args c 0 0 cX12_turnOf 6 RX12 10) (rt : Rt wM v p l e R s m args below meth c 0 0 Q cX12_turnOf false none res)  {x1 : Int32} {σ : Hp}   (h : J_M_turnOf_137   x1 σ = some res) : Go wM v p l e R s m args below meth c 0 0 Q 6 137 [(0, .ref 0), (1, .int x1)] [] σ := by
  unfold J_M_turnOf_137 at h
  refine go_aload_n X 0 (dk dt_M_turnOf_5 2 rfl) rfl rfl ?_
  refine go_iload_n X 1 (dk dt_M_turnOf_5 3 rfl) rfl rfl ?_
  refine go_Vv (As := [.int x1]) (rest := []) X vo_X12_347 (fun q hq => ct_M_goesIn hi xc nx  hq) (by decide) rfl lM_0 sM_0 rfl rfl (Nat.le_of_ble_eq_true rfl) (dk dt_M_turnOf_5 4 rfl) h (fun q139 h => ?_)
  exact go_vret rt (dk dt_M_turnOf_5 5 rfl) h
set_option maxRecDepth 20000 in
theorem lkF_M_turnOf (hi : zInj wM v) (xc : XC wM v) (nx : NXM v) (X : Cx wM v p R s m args c 0 0 cX12_turnOf 6 RX12 10) (rt : Rt wM v p l e R s m args below meth c 0 0 Q cX12_turnOf false none res) {a1 : Int32} {σ : Hp}  (h : F_M_turnOf  a1 σ = some res) : Go wM v p l e R s m args below meth c 0 0 Q 6 0 [(0, .ref 0), (1, .int a1)] [] σ := by
  unfold F_M_turnOf at h
  refine go_aload_n X 0 (dk dt_M_turnOf_0 0 rfl) rfl rfl ?_
  refine go_iload_n X 1 (dk dt_M_turnOf_0 1 rfl) rfl rfl ?_
  refine go_Vv (As := [.int a1]) (rest := []) X vo_X12_332 (fun q hq => ct_M_feels hi xc nx  hq) (by decide) rfl lM_0 sM_0 rfl rfl (Nat.le_of_ble_eq_true rfl) (dk dt_M_turnOf_0 2 rfl) h (fun q2 h => ?_)
  refine go_aload_n X 0 (dk dt_M_turnOf_0 3 rfl) rfl rfl ?_
  refine go_bipush X (dk dt_M_turnOf_0 4 rfl) cb_98 ?_
  refine go_bipush X (dk dt_M_turnOf_0 5 rfl) cb_99 ?_
  refine go_Vi (As := [.int (98 : Int32), .int (99 : Int32)]) (rest := []) X vo_X12_335 (fun q hq => ct_M_byLaw hi xc nx  hq) (by decide) rfl lM_0 sM_0 rfl rfl (Nat.le_of_ble_eq_true rfl) (dk dt_M_turnOf_0 6 rfl) h (fun q10 h => ?_)
  refine go_istore_n (lv' := [(2, .int q10.1), (0, .ref 0), (1, .int a1)]) X (dk dt_M_turnOf_0 7 rfl) rfl (by decide) rfl ?_
  refine go_aload_n X 1 (dk dt_M_turnOf_0 8 rfl) rfl rfl ?_
  refine go_bipush X (dk dt_M_turnOf_0 9 rfl) cb_116 ?_
  refine go_bipush X (dk dt_M_turnOf_0 10 rfl) cb_99 ?_
  refine go_Vi (As := [.int (116 : Int32), .int (99 : Int32)]) (rest := []) X vo_X12_335 (fun q hq => ct_M_byLaw hi xc nx  hq) (by decide) rfl lM_0 sM_0 rfl rfl (Nat.le_of_ble_eq_true rfl) (dk dt_M_turnOf_0 11 rfl) h (fun q19 h => ?_)
  refine go_istore_n (lv' := [(3, .int q19.1), (2, .int q10.1), (0, .ref 0), (1, .int a1)]) X (dk dt_M_turnOf_0 12 rfl) rfl (by decide) rfl ?_
  refine go_aload_n X 2 (dk dt_M_turnOf_0 13 rfl) rfl rfl ?_
  refine go_getr X fo_X12_7 lM_0 sM_0 fM_0_0 (dk dt_M_turnOf_0 14 rfl) ?_
  refine go_bipush X (dk dt_M_turnOf_0 15 rfl) cb_48 ?_
  refine go_iload_n X 3 (dk dt_M_turnOf_1 0 rfl) rfl rfl ?_
  refine go_iadd X (dk dt_M_turnOf_1 1 rfl) ?_
  refine go_iald X lM_1 sM_1 (dk dt_M_turnOf_1 2 rfl) h (fun h => ?_)
  refine go_istore (lv' := [(4, .int (q19.2 1 (Int32.toNatClampNeg ((48 : Int32) + a1)))), (3, .int q19.1), (2, .int q10.1), (0, .ref 0), (1, .int a1)]) X (dk dt_M_turnOf_1 3 rfl) (by decide) rfl ?_
  refine go_aload_n X 3 (dk dt_M_turnOf_1 4 rfl) rfl rfl ?_
  refine go_getr X fo_X12_7 lM_0 sM_0 fM_0_0 (dk dt_M_turnOf_1 5 rfl) ?_
  refine go_bipush X (dk dt_M_turnOf_1 6 rfl) cb_32 ?_
  refine go_iload_n X 4 (dk dt_M_turnOf_1 7 rfl) rfl rfl ?_
  refine go_iadd X (dk dt_M_turnOf_1 8 rfl) ?_
  refine go_bipush X (dk dt_M_turnOf_1 9 rfl) cb_99 ?_
  refine go_aload_n X 3 (dk dt_M_turnOf_1 10 rfl) rfl rfl ?_
  refine go_getr X fo_X12_7 lM_0 sM_0 fM_0_0 (dk dt_M_turnOf_1 11 rfl) ?_
  refine go_bipush X (dk dt_M_turnOf_1 12 rfl) cb_32 ?_
  refine go_iload_n X 4 (dk dt_M_turnOf_1 13 rfl) rfl rfl ?_
  refine go_iadd X (dk dt_M_turnOf_1 14 rfl) ?_
  refine go_iald X lM_1 sM_1 (dk dt_M_turnOf_1 15 rfl) h (fun h => ?_)
  refine go_iload_n X 2 (dk dt_M_turnOf_2 0 rfl) rfl rfl ?_
  refine go_iadd X (dk dt_M_turnOf_2 1 rfl) ?_
  refine go_Si (As := [.int (99 : Int32), .int ((q19.2 1 (Int32.toNatClampNeg ((32 : Int32) + a1))) + q10.1)]) (rest := [.int ((32 : Int32) + a1), .ref 1]) X so_X12_270 (fun q hq => ct_M_min hi xc nx  hq) (by decide) rfl rfl (Nat.le_of_ble_eq_true rfl) (dk dt_M_turnOf_2 2 rfl) h (fun q55 h => ?_)
  refine go_iast X lM_1 sM_1 (dk dt_M_turnOf_2 3 rfl) h (fun h => ?_)
  refine go_aload_n X 3 (dk dt_M_turnOf_2 4 rfl) rfl rfl ?_
  refine go_getr X fo_X12_7 lM_0 sM_0 fM_0_0 (dk dt_M_turnOf_2 5 rfl) ?_
  refine go_bipush X (dk dt_M_turnOf_2 6 rfl) cb_48 ?_
  refine go_iload_n X 4 (dk dt_M_turnOf_2 7 rfl) rfl rfl ?_
  refine go_iadd X (dk dt_M_turnOf_2 8 rfl) ?_
  refine go_iconst X (dk dt_M_turnOf_2 9 rfl) ci_0 ?_
  refine go_iload X 0 (dk dt_M_turnOf_2 10 rfl) rfl ?_
  refine go_iload_n X 1 (dk dt_M_turnOf_2 11 rfl) rfl rfl ?_
  refine go_isub X (dk dt_M_turnOf_2 12 rfl) ?_
  refine go_Si (As := [.int (0 : Int32), .int ((q19.2 1 (Int32.toNatClampNeg ((48 : Int32) + a1))) - q19.1)]) (rest := [.int ((48 : Int32) + a1), .ref 1]) X so_X12_338 (fun q hq => ct_M_max hi xc nx  hq) (by decide) rfl rfl (Nat.le_of_ble_eq_true rfl) (dk dt_M_turnOf_2 13 rfl) h (fun q72 h => ?_)
  refine go_iast X lM_1 sM_1 (dk dt_M_turnOf_2 14 rfl) h (fun h => ?_)
  refine go_aload_n X 3 (dk dt_M_turnOf_2 15 rfl) rfl rfl ?_
  refine go_aload_n X 3 (dk dt_M_turnOf_3 0 rfl) rfl rfl ?_
  refine go_geti X fo_X12_341 lM_0 sM_0 fM_0_42 (dk dt_M_turnOf_3 1 rfl) ?_
  refine go_iload X 0 (dk dt_M_turnOf_3 2 rfl) rfl ?_
  refine go_iadd X (dk dt_M_turnOf_3 3 rfl) ?_
  refine go_aload_n X 3 (dk dt_M_turnOf_3 4 rfl) rfl rfl ?_
  refine go_getr X fo_X12_7 lM_0 sM_0 fM_0_0 (dk dt_M_turnOf_3 5 rfl) ?_
  refine go_bipush X (dk dt_M_turnOf_3 6 rfl) cb_48 ?_
  refine go_iload_n X 4 (dk dt_M_turnOf_3 7 rfl) rfl rfl ?_
  refine go_iadd X (dk dt_M_turnOf_3 8 rfl) ?_
  refine go_iald X lM_1 sM_1 (dk dt_M_turnOf_3 9 rfl) h (fun h => ?_)
  refine go_isub X (dk dt_M_turnOf_3 10 rfl) ?_
  refine go_puti X fo_X12_341 pf_12_42 lM_0 sM_0 fM_0_42 (dk dt_M_turnOf_3 11 rfl) ?_
  refine go_aload_n X 3 (dk dt_M_turnOf_3 12 rfl) rfl rfl ?_
  refine go_iload_n X 4 (dk dt_M_turnOf_3 13 rfl) rfl rfl ?_
  refine go_Vv (As := [.int a1]) (rest := []) X vo_X12_332 (fun q hq => ct_M_feels hi xc nx  hq) (by decide) rfl lM_0 sM_0 rfl rfl (Nat.le_of_ble_eq_true rfl) (dk dt_M_turnOf_3 14 rfl) h (fun q99 h => ?_)
  refine go_aload_n X 3 (dk dt_M_turnOf_3 15 rfl) rfl rfl ?_
  refine go_getr X fo_X12_7 lM_0 sM_0 fM_0_0 (dk dt_M_turnOf_4 0 rfl) ?_
  refine go_bipush X (dk dt_M_turnOf_4 1 rfl) cb_32 ?_
  refine go_iload_n X 4 (dk dt_M_turnOf_4 2 rfl) rfl rfl ?_
  refine go_iadd X (dk dt_M_turnOf_4 3 rfl) ?_
  refine go_iald X lM_1 sM_1 (dk dt_M_turnOf_4 4 rfl) h (fun h => ?_)
  refine go_bipush X (dk dt_M_turnOf_4 5 rfl) cb_99 ?_
  refine go_icmp_eq (tgt := 137) X (dk dt_M_turnOf_4 6 rfl) (by decide) h (fun h => ?_) (fun h => ?_)
  · refine go_sub [3, 4] rfl ?_
    exact lkJ_M_turnOf_137 hi xc nx X rt   h
  · refine go_aload_n X 3 (dk dt_M_turnOf_4 7 rfl) rfl rfl ?_
    refine go_getr X fo_X12_7 lM_0 sM_0 fM_0_0 (dk dt_M_turnOf_4 8 rfl) ?_
    refine go_bipush X (dk dt_M_turnOf_4 9 rfl) cb_48 ?_
    refine go_iload_n X 4 (dk dt_M_turnOf_4 10 rfl) rfl rfl ?_
    refine go_iadd X (dk dt_M_turnOf_4 11 rfl) ?_
    refine go_iald X lM_1 sM_1 (dk dt_M_turnOf_4 12 rfl) h (fun h => ?_)
    refine go_if_eq (tgt := 137) X (dk dt_M_turnOf_4 13 rfl) (by decide) h (fun h => ?_) (fun h => ?_)
    · refine go_sub [3, 4] rfl ?_
      exact lkJ_M_turnOf_137 hi xc nx X rt   h
    · refine go_aload_n X 3 (dk dt_M_turnOf_4 14 rfl) rfl rfl ?_
      refine go_bipush X (dk dt_M_turnOf_4 15 rfl) cb_120 ?_
      refine go_Vi (As := [.int (120 : Int32)]) (rest := []) X vo_X12_344 (fun q hq => ct_M_holdsAny hi xc nx  hq) (by decide) rfl lM_0 sM_0 rfl rfl (Nat.le_of_ble_eq_true rfl) (dk dt_M_turnOf_5 0 rfl) h (fun q131 h => ?_)
      refine go_if_eq (tgt := 143) X (dk dt_M_turnOf_5 1 rfl) (by decide) h (fun h => ?_) (fun h => ?_)
      · refine go_aload_n X 3 (dk dt_M_turnOf_5 6 rfl) rfl rfl ?_
        refine go_bipush X (dk dt_M_turnOf_5 7 rfl) cb_119 ?_
        refine go_bipush X (dk dt_M_turnOf_5 8 rfl) cb_10 ?_
        refine go_Vi (As := [.int (119 : Int32), .int (10 : Int32)]) (rest := []) X vo_X12_335 (fun q hq => ct_M_byLaw hi xc nx  hq) (by decide) rfl lM_0 sM_0 rfl rfl (Nat.le_of_ble_eq_true rfl) (dk dt_M_turnOf_5 9 rfl) h (fun q148 h => ?_)
        refine go_istore (lv' := [(5, .int q148.1), (4, .int (q19.2 1 (Int32.toNatClampNeg ((48 : Int32) + a1)))), (3, .int q19.1), (2, .int q10.1), (0, .ref 0), (1, .int a1)]) X (dk dt_M_turnOf_5 10 rfl) (by decide) rfl ?_
        refine go_aload_n X 4 (dk dt_M_turnOf_5 11 rfl) rfl rfl ?_
        refine go_Vv (As := []) (rest := []) X vo_X12_350 (fun q hq => ct_M_draws hi xc nx  hq) (by decide) rfl lM_0 sM_0 rfl rfl (Nat.le_of_ble_eq_true rfl) (dk dt_M_turnOf_5 12 rfl) h (fun q154 h => ?_)
        refine go_aload_n X 4 (dk dt_M_turnOf_5 13 rfl) rfl rfl ?_
        refine go_getr X fo_X12_7 lM_0 sM_0 fM_0_0 (dk dt_M_turnOf_5 14 rfl) ?_
        refine go_bipush X (dk dt_M_turnOf_5 15 rfl) cb_99 ?_
        refine go_iald X lM_1 sM_1 (dk dt_M_turnOf_6 0 rfl) h (fun h => ?_)
        refine go_bipush X (dk dt_M_turnOf_6 1 rfl) cb_10 ?_
        refine go_iremL X (dk dt_M_turnOf_6 2 rfl) (by decide) ?_
        refine go_iload X 0 (dk dt_M_turnOf_6 3 rfl) rfl ?_
        refine go_icmp_lt (tgt := 173) X (dk dt_M_turnOf_6 4 rfl) (by decide) h (fun h => ?_) (fun h => ?_)
        · refine go_aload_n X 4 (dk dt_M_turnOf_6 6 rfl) rfl rfl ?_
          refine go_getr X fo_X12_7 lM_0 sM_0 fM_0_0 (dk dt_M_turnOf_6 7 rfl) ?_
          refine go_bipush X (dk dt_M_turnOf_6 8 rfl) cb_80 ?_
          refine go_iload_n X 5 (dk dt_M_turnOf_6 9 rfl) rfl rfl ?_
          refine go_iadd X (dk dt_M_turnOf_6 10 rfl) ?_
          refine go_iconst X (dk dt_M_turnOf_6 11 rfl) ci_1 ?_
          refine go_iast X lM_1 sM_1 (dk dt_M_turnOf_6 12 rfl) h (fun h => ?_)
          refine go_aload_n X 4 (dk dt_M_turnOf_6 13 rfl) rfl rfl ?_
          refine go_aload_n X 4 (dk dt_M_turnOf_6 14 rfl) rfl rfl ?_
          refine go_geti X fo_X12_353 lM_0 sM_0 fM_0_41 (dk dt_M_turnOf_6 15 rfl) ?_
          refine go_iconst X (dk dt_M_turnOf_7 0 rfl) ci_1 ?_
          refine go_iadd X (dk dt_M_turnOf_7 1 rfl) ?_
          refine go_puti X fo_X12_353 pf_12_41 lM_0 sM_0 fM_0_41 (dk dt_M_turnOf_7 2 rfl) ?_
          exact go_vret rt (dk dt_M_turnOf_7 3 rfl) h
        · exact go_vret rt (dk dt_M_turnOf_6 5 rfl) h
      · refine go_sub [3, 4] rfl ?_
        exact lkJ_M_turnOf_137 hi xc nx X rt   h
set_option maxRecDepth 20000 in
theorem ct_M_turnOf (hi : zInj wM v) (xc : XC wM v) (nx : NXM v)  {a1 : Int32} {σ : Hp}  {q : Hp} (h : F_M_turnOf  a1 σ = some q) : Ct wM v l yX12_turnOf cX12_turnOf 6 none 10 [.ref 0, .int a1] σ none q :=
  Ct.intro false (by decide) hi xc (Nat.le_of_ble_eq_true rfl) rfl (fun p e R s m args below meth c Q X rt => lkF_M_turnOf hi xc nx X rt  h)
end
def T_M_watchGoes_0 : DT := [(0, .aload_n 0, 1), (1, .aload_n 0, 1), (2, .getfield 322, 3), (5, .iconst 1, 1), (6, .iadd, 1), (7, .putfield 322, 3), (10, .aload_n 0, 1), (11, .iconst 0, 1), (12, .invokevirtual 356, 3), (15, .istore_n 1, 1), (16, .aload_n 0, 1), (17, .iconst 1, 1), (18, .invokevirtual 356, 3), (21, .istore_n 2, 1), (22, .iconst 0, 1), (23, .istore_n 3, 1)]
theorem dt_M_watchGoes_0 : dOk cX12_watchGoes T_M_watchGoes_0 := by unfold dOk; decide +kernel
def T_M_watchGoes_1 : DT := [(24, .iload_n 3, 1), (25, .bipush 16, 2), (27, .if_icmp .ge 44, 3), (30, .aload_n 0, 1), (31, .getfield 7, 3), (34, .iconst 0, 1), (35, .iload_n 3, 1), (36, .iadd, 1), (37, .iaload, 1), (38, .iconst 1, 1), (39, .if_icmp .ne 26, 3), (42, .aload_n 0, 1), (43, .getfield 7, 3), (46, .bipush 80, 2), (48, .iload_n 3, 1), (49, .iadd, 1)]
theorem dt_M_watchGoes_1 : dOk cX12_watchGoes T_M_watchGoes_1 := by unfold dOk; decide +kernel
def T_M_watchGoes_2 : DT := [(50, .iaload, 1), (51, .iconst 1, 1), (52, .if_icmp .ne 13, 3), (55, .aload_n 0, 1), (56, .getfield 7, 3), (59, .bipush 80, 2), (61, .iload_n 3, 1), (62, .iadd, 1), (63, .iconst 0, 1), (64, .iastore, 1), (65, .iinc 3 1, 3), (68, .goto (-44), 3), (71, .iconst 0, 1), (72, .istore_n 3, 1), (73, .iload_n 3, 1), (74, .bipush 16, 2)]
theorem dt_M_watchGoes_2 : dOk cX12_watchGoes T_M_watchGoes_2 := by unfold dOk; decide +kernel
def T_M_watchGoes_3 : DT := [(76, .if_icmp .ge 22, 3), (79, .aload_n 0, 1), (80, .iload_n 3, 1), (81, .invokevirtual 359, 3), (84, .ifCond .eq 8, 3), (87, .aload_n 0, 1), (88, .iload_n 3, 1), (89, .invokevirtual 362, 3), (92, .iinc 3 1, 3), (95, .goto (-22), 3), (98, .iload_n 1, 1), (99, .ifCond .eq 27, 3), (102, .aload_n 0, 1), (103, .iconst 0, 1), (104, .invokevirtual 356, 3), (107, .ifCond .ne 19, 3)]
theorem dt_M_watchGoes_3 : dOk cX12_watchGoes T_M_watchGoes_3 := by unfold dOk; decide +kernel
def T_M_watchGoes_4 : DT := [(110, .aload_n 0, 1), (111, .getfield 7, 3), (114, .bipush 98, 2), (116, .aload_n 0, 1), (117, .getfield 7, 3), (120, .bipush 98, 2), (122, .iaload, 1), (123, .iconst 1, 1), (124, .ior, 1), (125, .iastore, 1), (126, .iload_n 2, 1), (127, .ifCond .eq 27, 3), (130, .aload_n 0, 1), (131, .iconst 1, 1), (132, .invokevirtual 356, 3), (135, .ifCond .ne 19, 3)]
theorem dt_M_watchGoes_4 : dOk cX12_watchGoes T_M_watchGoes_4 := by unfold dOk; decide +kernel
def T_M_watchGoes_5 : DT := [(138, .aload_n 0, 1), (139, .getfield 7, 3), (142, .bipush 98, 2), (144, .aload_n 0, 1), (145, .getfield 7, 3), (148, .bipush 98, 2), (150, .iaload, 1), (151, .iconst 2, 1), (152, .ior, 1), (153, .iastore, 1), (154, .aload_n 0, 1), (155, .getfield 7, 3), (158, .bipush 96, 2), (160, .aload_n 0, 1), (161, .getfield 7, 3), (164, .bipush 96, 2)]
theorem dt_M_watchGoes_5 : dOk cX12_watchGoes T_M_watchGoes_5 := by unfold dOk; decide +kernel
def T_M_watchGoes_6 : DT := [(166, .iaload, 1), (167, .iconst 1, 1), (168, .iadd, 1), (169, .iastore, 1), (170, .aload_n 0, 1), (171, .getfield 7, 3), (174, .bipush 96, 2), (176, .iaload, 1), (177, .bipush 6, 2), (179, .if_icmp .ge 4, 3), (182, .return_, 1), (183, .aload_n 0, 1), (184, .getfield 7, 3), (187, .bipush 96, 2), (189, .iconst 0, 1), (190, .iastore, 1)]
theorem dt_M_watchGoes_6 : dOk cX12_watchGoes T_M_watchGoes_6 := by unfold dOk; decide +kernel
def T_M_watchGoes_7 : DT := [(191, .aload_n 0, 1), (192, .getfield 7, 3), (195, .bipush 97, 2), (197, .aload_n 0, 1), (198, .getfield 7, 3), (201, .bipush 97, 2), (203, .iaload, 1), (204, .iconst 1, 1), (205, .iadd, 1), (206, .iastore, 1), (207, .return_, 1)]
theorem dt_M_watchGoes_7 : dOk cX12_watchGoes T_M_watchGoes_7 := by unfold dOk; decide +kernel
section
variable {v : ZV} {l : Launch} {p : Program} {e : Env} {R : Room} {s : State} {m : MethodId} {args : Array Value} {below : List Frame} {meth : Method} {c : Code} {Q : State → Prop} {res : Hp} 
set_option maxRecDepth 20000 in
theorem lkB_M_watchGoes_24 (hi : zInj wM v) (xc : XC wM v) (nx : NXM v) (X : Cx wM v p R s m args c 0 0 cX12_watchGoes 4 RX12 12) (rt : Rt wM v p l e R s m args below meth c 0 0 Q cX12_watchGoes false none res) {k71 : Int32 → Int32 → Hp → Option Hp} {k24 : Int32 → Int32 → Int32 → Hp → Option Hp} {x1 : Int32} {x2 : Int32} {x3 : Int32} {σ : Hp}  (hk71 : ∀ (x1 : Int32) (x2 : Int32) (σ : Hp),  k71 x1 x2 σ = some res → Go wM v p l e R s m args below meth c 0 0 Q 4 71 [(0, .ref 0), (1, .int x1), (2, .int x2)] [] σ) (hk24 : ∀ (x1 : Int32) (x2 : Int32) (x3 : Int32) (σ : Hp),  k24 x1 x2 x3 σ = some res → Go wM v p l e R s m args below meth c 0 0 Q 4 24 [(0, .ref 0), (1, .int x1), (2, .int x2), (3, .int x3)] [] σ) (h : B_M_watchGoes_24  k71 k24 x1 x2 x3 σ = some res) : Go wM v p l e R s m args below meth c 0 0 Q 4 24 [(0, .ref 0), (1, .int x1), (2, .int x2), (3, .int x3)] [] σ := by
  unfold B_M_watchGoes_24 at h
  refine go_iload_n X 3 (dk dt_M_watchGoes_1 0 rfl) rfl rfl ?_
  refine go_bipush X (dk dt_M_watchGoes_1 1 rfl) cb_16 ?_
  refine go_icmp_ge (tgt := 71) X (dk dt_M_watchGoes_1 2 rfl) (by decide) h (fun h => ?_) (fun h => ?_)
  · refine go_sub [0, 1, 2] rfl ?_
    exact hk71 _ _ _  h
  · refine go_aload_n X 0 (dk dt_M_watchGoes_1 3 rfl) rfl rfl ?_
    refine go_getr X fo_X12_7 lM_0 sM_0 fM_0_0 (dk dt_M_watchGoes_1 4 rfl) ?_
    refine go_iconst X (dk dt_M_watchGoes_1 5 rfl) ci_0 ?_
    refine go_iload_n X 3 (dk dt_M_watchGoes_1 6 rfl) rfl rfl ?_
    refine go_iadd X (dk dt_M_watchGoes_1 7 rfl) ?_
    refine go_iald X lM_1 sM_1 (dk dt_M_watchGoes_1 8 rfl) h (fun h => ?_)
    refine go_iconst X (dk dt_M_watchGoes_1 9 rfl) ci_1 ?_
    refine go_icmp_ne (tgt := 65) X (dk dt_M_watchGoes_1 10 rfl) (by decide) h (fun h => ?_) (fun h => ?_)
    · refine go_iinc (lv' := [(3, .int (x3 + (1 : Int32))), (0, .ref 0), (1, .int x1), (2, .int x2)]) X 3 (dk dt_M_watchGoes_2 10 rfl) rfl ci_1 (by decide) rfl ?_
      refine go_goto (tgt := 24) X (dk dt_M_watchGoes_2 11 rfl) (by decide) ?_
      refine go_sub [1, 2, 3, 0] rfl ?_
      exact hk24 _ _ _ _  h
    · refine go_aload_n X 0 (dk dt_M_watchGoes_1 11 rfl) rfl rfl ?_
      refine go_getr X fo_X12_7 lM_0 sM_0 fM_0_0 (dk dt_M_watchGoes_1 12 rfl) ?_
      refine go_bipush X (dk dt_M_watchGoes_1 13 rfl) cb_80 ?_
      refine go_iload_n X 3 (dk dt_M_watchGoes_1 14 rfl) rfl rfl ?_
      refine go_iadd X (dk dt_M_watchGoes_1 15 rfl) ?_
      refine go_iald X lM_1 sM_1 (dk dt_M_watchGoes_2 0 rfl) h (fun h => ?_)
      refine go_iconst X (dk dt_M_watchGoes_2 1 rfl) ci_1 ?_
      refine go_icmp_ne (tgt := 65) X (dk dt_M_watchGoes_2 2 rfl) (by decide) h (fun h => ?_) (fun h => ?_)
      · refine go_iinc (lv' := [(3, .int (x3 + (1 : Int32))), (0, .ref 0), (1, .int x1), (2, .int x2)]) X 3 (dk dt_M_watchGoes_2 10 rfl) rfl ci_1 (by decide) rfl ?_
        refine go_goto (tgt := 24) X (dk dt_M_watchGoes_2 11 rfl) (by decide) ?_
        refine go_sub [1, 2, 3, 0] rfl ?_
        exact hk24 _ _ _ _  h
      · refine go_aload_n X 0 (dk dt_M_watchGoes_2 3 rfl) rfl rfl ?_
        refine go_getr X fo_X12_7 lM_0 sM_0 fM_0_0 (dk dt_M_watchGoes_2 4 rfl) ?_
        refine go_bipush X (dk dt_M_watchGoes_2 5 rfl) cb_80 ?_
        refine go_iload_n X 3 (dk dt_M_watchGoes_2 6 rfl) rfl rfl ?_
        refine go_iadd X (dk dt_M_watchGoes_2 7 rfl) ?_
        refine go_iconst X (dk dt_M_watchGoes_2 8 rfl) ci_0 ?_
        refine go_iast X lM_1 sM_1 (dk dt_M_watchGoes_2 9 rfl) h (fun h => ?_)
        refine go_iinc (lv' := [(3, .int (x3 + (1 : Int32))), (0, .ref 0), (1, .int x1), (2, .int x2)]) X 3 (dk dt_M_watchGoes_2 10 rfl) rfl ci_1 (by decide) rfl ?_
        refine go_goto (tgt := 24) X (dk dt_M_watchGoes_2 11 rfl) (by decide) ?_
        refine go_sub [1, 2, 3, 0] rfl ?_
        exact hk24 _ _ _ _  h
set_option maxRecDepth 20000 in
theorem lkL_M_watchGoes_24 (hi : zInj wM v) (xc : XC wM v) (nx : NXM v) (X : Cx wM v p R s m args c 0 0 cX12_watchGoes 4 RX12 12) (rt : Rt wM v p l e R s m args below meth c 0 0 Q cX12_watchGoes false none res) {k71 : Int32 → Int32 → Hp → Option Hp} (hk71 : ∀ (x1 : Int32) (x2 : Int32) (σ : Hp),  k71 x1 x2 σ = some res → Go wM v p l e R s m args below meth c 0 0 Q 4 71 [(0, .ref 0), (1, .int x1), (2, .int x2)] [] σ) (n : Nat) : ∀ {x1 : Int32} {x2 : Int32} {x3 : Int32} {σ : Hp},  L_M_watchGoes_24  k71 n x1 x2 x3 σ = some res → Go wM v p l e R s m args below meth c 0 0 Q 4 24 [(0, .ref 0), (1, .int x1), (2, .int x2), (3, .int x3)] [] σ := by
  induction n with
  | zero => intro x1 x2 x3 σ  h; cases h
  | succ n ih =>
    intro x1 x2 x3 σ  h
    exact lkB_M_watchGoes_24 hi xc nx X rt  hk71 (fun _ _ _ _  hh => ih  hh) h
set_option maxRecDepth 20000 in
theorem lkB_M_watchGoes_73 (hi : zInj wM v) (xc : XC wM v) (nx : NXM v) (X : Cx wM v p R s m args c 0 0 cX12_watchGoes 4 RX12 12) (rt : Rt wM v p l e R s m args below meth c 0 0 Q cX12_watchGoes false none res) {k98 : Int32 → Int32 → Hp → Option Hp} {k73 : Int32 → Int32 → Int32 → Hp → Option Hp} {x1 : Int32} {x2 : Int32} {x3 : Int32} {σ : Hp}  (hk98 : ∀ (x1 : Int32) (x2 : Int32) (σ : Hp),  k98 x1 x2 σ = some res → Go wM v p l e R s m args below meth c 0 0 Q 4 98 [(0, .ref 0), (1, .int x1), (2, .int x2)] [] σ) (hk73 : ∀ (x1 : Int32) (x2 : Int32) (x3 : Int32) (σ : Hp),  k73 x1 x2 x3 σ = some res → Go wM v p l e R s m args below meth c 0 0 Q 4 73 [(0, .ref 0), (1, .int x1), (2, .int x2), (3, .int x3)] [] σ) (h : B_M_watchGoes_73  k98 k73 x1 x2 x3 σ = some res) : Go wM v p l e R s m args below meth c 0 0 Q 4 73 [(0, .ref 0), (1, .int x1), (2, .int x2), (3, .int x3)] [] σ := by
  unfold B_M_watchGoes_73 at h
  refine go_iload_n X 3 (dk dt_M_watchGoes_2 14 rfl) rfl rfl ?_
  refine go_bipush X (dk dt_M_watchGoes_2 15 rfl) cb_16 ?_
  refine go_icmp_ge (tgt := 98) X (dk dt_M_watchGoes_3 0 rfl) (by decide) h (fun h => ?_) (fun h => ?_)
  · refine go_sub [0, 1, 2] rfl ?_
    exact hk98 _ _ _  h
  · refine go_aload_n X 0 (dk dt_M_watchGoes_3 1 rfl) rfl rfl ?_
    refine go_iload_n X 3 (dk dt_M_watchGoes_3 2 rfl) rfl rfl ?_
    refine go_Vi (As := [.int x3]) (rest := []) X vo_X12_359 (fun q hq => ct_M_sitsIn hi xc nx  hq) (by decide) rfl lM_0 sM_0 rfl rfl (Nat.le_of_ble_eq_true rfl) (dk dt_M_watchGoes_3 3 rfl) h (fun q81 h => ?_)
    refine go_if_eq (tgt := 92) X (dk dt_M_watchGoes_3 4 rfl) (by decide) h (fun h => ?_) (fun h => ?_)
    · refine go_iinc (lv' := [(3, .int (x3 + (1 : Int32))), (0, .ref 0), (1, .int x1), (2, .int x2)]) X 3 (dk dt_M_watchGoes_3 8 rfl) rfl ci_1 (by decide) rfl ?_
      refine go_goto (tgt := 73) X (dk dt_M_watchGoes_3 9 rfl) (by decide) ?_
      refine go_sub [1, 2, 3, 0] rfl ?_
      exact hk73 _ _ _ _  h
    · refine go_aload_n X 0 (dk dt_M_watchGoes_3 5 rfl) rfl rfl ?_
      refine go_iload_n X 3 (dk dt_M_watchGoes_3 6 rfl) rfl rfl ?_
      refine go_Vv (As := [.int x3]) (rest := []) X vo_X12_362 (fun q hq => ct_M_turnOf hi xc nx  hq) (by decide) rfl lM_0 sM_0 rfl rfl (Nat.le_of_ble_eq_true rfl) (dk dt_M_watchGoes_3 7 rfl) h (fun q89 h => ?_)
      refine go_iinc (lv' := [(3, .int (x3 + (1 : Int32))), (0, .ref 0), (1, .int x1), (2, .int x2)]) X 3 (dk dt_M_watchGoes_3 8 rfl) rfl ci_1 (by decide) rfl ?_
      refine go_goto (tgt := 73) X (dk dt_M_watchGoes_3 9 rfl) (by decide) ?_
      refine go_sub [1, 2, 3, 0] rfl ?_
      exact hk73 _ _ _ _  h
set_option maxRecDepth 20000 in
theorem lkL_M_watchGoes_73 (hi : zInj wM v) (xc : XC wM v) (nx : NXM v) (X : Cx wM v p R s m args c 0 0 cX12_watchGoes 4 RX12 12) (rt : Rt wM v p l e R s m args below meth c 0 0 Q cX12_watchGoes false none res) {k98 : Int32 → Int32 → Hp → Option Hp} (hk98 : ∀ (x1 : Int32) (x2 : Int32) (σ : Hp),  k98 x1 x2 σ = some res → Go wM v p l e R s m args below meth c 0 0 Q 4 98 [(0, .ref 0), (1, .int x1), (2, .int x2)] [] σ) (n : Nat) : ∀ {x1 : Int32} {x2 : Int32} {x3 : Int32} {σ : Hp},  L_M_watchGoes_73  k98 n x1 x2 x3 σ = some res → Go wM v p l e R s m args below meth c 0 0 Q 4 73 [(0, .ref 0), (1, .int x1), (2, .int x2), (3, .int x3)] [] σ := by
  induction n with
  | zero => intro x1 x2 x3 σ  h; cases h
  | succ n ih =>
    intro x1 x2 x3 σ  h
    exact lkB_M_watchGoes_73 hi xc nx X rt  hk98 (fun _ _ _ _  hh => ih  hh) h
set_option maxRecDepth 20000 in
theorem lkJ_M_watchGoes_154 (hi : zInj wM v) (xc : XC wM v) (nx : NXM v) (X : Cx wM v p R s m args c 0 0 cX12_watchGoes 4 RX12 12) (rt : Rt wM v p l e R s m args below meth c 0 0 Q cX12_watchGoes false none res)   {σ : Hp}   (h : J_M_watchGoes_154    σ = some res) : Go wM v p l e R s m args below meth c 0 0 Q 4 154 [(0, .ref 0)] [] σ := by
  unfold J_M_watchGoes_154 at h
  refine go_aload_n X 0 (dk dt_M_watchGoes_5 10 rfl) rfl rfl ?_
  refine go_getr X fo_X12_7 lM_0 sM_0 fM_0_0 (dk dt_M_watchGoes_5 11 rfl) ?_
  refine go_bipush X (dk dt_M_watchGoes_5 12 rfl) cb_96 ?_
  refine go_aload_n X 0 (dk dt_M_watchGoes_5 13 rfl) rfl rfl ?_
  refine go_getr X fo_X12_7 lM_0 sM_0 fM_0_0 (dk dt_M_watchGoes_5 14 rfl) ?_
  refine go_bipush X (dk dt_M_watchGoes_5 15 rfl) cb_96 ?_
  refine go_iald X lM_1 sM_1 (dk dt_M_watchGoes_6 0 rfl) h (fun h => ?_)
  refine go_iconst X (dk dt_M_watchGoes_6 1 rfl) ci_1 ?_
  refine go_iadd X (dk dt_M_watchGoes_6 2 rfl) ?_
  refine go_iast X lM_1 sM_1 (dk dt_M_watchGoes_6 3 rfl) h (fun h => ?_)
  refine go_aload_n X 0 (dk dt_M_watchGoes_6 4 rfl) rfl rfl ?_
  refine go_getr X fo_X12_7 lM_0 sM_0 fM_0_0 (dk dt_M_watchGoes_6 5 rfl) ?_
  refine go_bipush X (dk dt_M_watchGoes_6 6 rfl) cb_96 ?_
  refine go_iald X lM_1 sM_1 (dk dt_M_watchGoes_6 7 rfl) h (fun h => ?_)
  refine go_bipush X (dk dt_M_watchGoes_6 8 rfl) cb_6 ?_
  refine go_icmp_ge (tgt := 183) X (dk dt_M_watchGoes_6 9 rfl) (by decide) h (fun h => ?_) (fun h => ?_)
  · refine go_aload_n X 0 (dk dt_M_watchGoes_6 11 rfl) rfl rfl ?_
    refine go_getr X fo_X12_7 lM_0 sM_0 fM_0_0 (dk dt_M_watchGoes_6 12 rfl) ?_
    refine go_bipush X (dk dt_M_watchGoes_6 13 rfl) cb_96 ?_
    refine go_iconst X (dk dt_M_watchGoes_6 14 rfl) ci_0 ?_
    refine go_iast X lM_1 sM_1 (dk dt_M_watchGoes_6 15 rfl) h (fun h => ?_)
    refine go_aload_n X 0 (dk dt_M_watchGoes_7 0 rfl) rfl rfl ?_
    refine go_getr X fo_X12_7 lM_0 sM_0 fM_0_0 (dk dt_M_watchGoes_7 1 rfl) ?_
    refine go_bipush X (dk dt_M_watchGoes_7 2 rfl) cb_97 ?_
    refine go_aload_n X 0 (dk dt_M_watchGoes_7 3 rfl) rfl rfl ?_
    refine go_getr X fo_X12_7 lM_0 sM_0 fM_0_0 (dk dt_M_watchGoes_7 4 rfl) ?_
    refine go_bipush X (dk dt_M_watchGoes_7 5 rfl) cb_97 ?_
    refine go_iald X lM_1 sM_1 (dk dt_M_watchGoes_7 6 rfl) h (fun h => ?_)
    refine go_iconst X (dk dt_M_watchGoes_7 7 rfl) ci_1 ?_
    refine go_iadd X (dk dt_M_watchGoes_7 8 rfl) ?_
    refine go_iast X lM_1 sM_1 (dk dt_M_watchGoes_7 9 rfl) h (fun h => ?_)
    exact go_vret rt (dk dt_M_watchGoes_7 10 rfl) h
  · exact go_vret rt (dk dt_M_watchGoes_6 10 rfl) h
set_option maxRecDepth 20000 in
theorem lkJ_M_watchGoes_126 (hi : zInj wM v) (xc : XC wM v) (nx : NXM v) (X : Cx wM v p R s m args c 0 0 cX12_watchGoes 4 RX12 12) (rt : Rt wM v p l e R s m args below meth c 0 0 Q cX12_watchGoes false none res)  {x2 : Int32} {σ : Hp}   (h : J_M_watchGoes_126   x2 σ = some res) : Go wM v p l e R s m args below meth c 0 0 Q 4 126 [(0, .ref 0), (2, .int x2)] [] σ := by
  unfold J_M_watchGoes_126 at h
  refine go_iload_n X 1 (dk dt_M_watchGoes_4 10 rfl) rfl rfl ?_
  refine go_if_eq (tgt := 154) X (dk dt_M_watchGoes_4 11 rfl) (by decide) h (fun h => ?_) (fun h => ?_)
  · refine go_sub [0] rfl ?_
    exact lkJ_M_watchGoes_154 hi xc nx X rt   h
  · refine go_aload_n X 0 (dk dt_M_watchGoes_4 12 rfl) rfl rfl ?_
    refine go_iconst X (dk dt_M_watchGoes_4 13 rfl) ci_1 ?_
    refine go_Vi (As := [.int (1 : Int32)]) (rest := []) X vo_X12_356 (fun q hq => ct_M_outside hi xc nx  hq) (by decide) rfl lM_0 sM_0 rfl rfl (Nat.le_of_ble_eq_true rfl) (dk dt_M_watchGoes_4 14 rfl) h (fun q132 h => ?_)
    refine go_if_ne (tgt := 154) X (dk dt_M_watchGoes_4 15 rfl) (by decide) h (fun h => ?_) (fun h => ?_)
    · refine go_sub [0] rfl ?_
      exact lkJ_M_watchGoes_154 hi xc nx X rt   h
    · refine go_aload_n X 0 (dk dt_M_watchGoes_5 0 rfl) rfl rfl ?_
      refine go_getr X fo_X12_7 lM_0 sM_0 fM_0_0 (dk dt_M_watchGoes_5 1 rfl) ?_
      refine go_bipush X (dk dt_M_watchGoes_5 2 rfl) cb_98 ?_
      refine go_aload_n X 0 (dk dt_M_watchGoes_5 3 rfl) rfl rfl ?_
      refine go_getr X fo_X12_7 lM_0 sM_0 fM_0_0 (dk dt_M_watchGoes_5 4 rfl) ?_
      refine go_bipush X (dk dt_M_watchGoes_5 5 rfl) cb_98 ?_
      refine go_iald X lM_1 sM_1 (dk dt_M_watchGoes_5 6 rfl) h (fun h => ?_)
      refine go_iconst X (dk dt_M_watchGoes_5 7 rfl) ci_2 ?_
      refine go_ior X (dk dt_M_watchGoes_5 8 rfl) ?_
      refine go_iast X lM_1 sM_1 (dk dt_M_watchGoes_5 9 rfl) h (fun h => ?_)
      refine go_sub [0] rfl ?_
      exact lkJ_M_watchGoes_154 hi xc nx X rt   h
set_option maxRecDepth 20000 in
theorem lkJ_M_watchGoes_98 (hi : zInj wM v) (xc : XC wM v) (nx : NXM v) (X : Cx wM v p R s m args c 0 0 cX12_watchGoes 4 RX12 12) (rt : Rt wM v p l e R s m args below meth c 0 0 Q cX12_watchGoes false none res)  {x1 : Int32} {x2 : Int32} {σ : Hp}   (h : J_M_watchGoes_98   x1 x2 σ = some res) : Go wM v p l e R s m args below meth c 0 0 Q 4 98 [(0, .ref 0), (1, .int x1), (2, .int x2)] [] σ := by
  unfold J_M_watchGoes_98 at h
  refine go_iload_n X 1 (dk dt_M_watchGoes_3 10 rfl) rfl rfl ?_
  refine go_if_eq (tgt := 126) X (dk dt_M_watchGoes_3 11 rfl) (by decide) h (fun h => ?_) (fun h => ?_)
  · refine go_sub [0, 2] rfl ?_
    exact lkJ_M_watchGoes_126 hi xc nx X rt   h
  · refine go_aload_n X 0 (dk dt_M_watchGoes_3 12 rfl) rfl rfl ?_
    refine go_iconst X (dk dt_M_watchGoes_3 13 rfl) ci_0 ?_
    refine go_Vi (As := [.int (0 : Int32)]) (rest := []) X vo_X12_356 (fun q hq => ct_M_outside hi xc nx  hq) (by decide) rfl lM_0 sM_0 rfl rfl (Nat.le_of_ble_eq_true rfl) (dk dt_M_watchGoes_3 14 rfl) h (fun q104 h => ?_)
    refine go_if_ne (tgt := 126) X (dk dt_M_watchGoes_3 15 rfl) (by decide) h (fun h => ?_) (fun h => ?_)
    · refine go_sub [0, 2] rfl ?_
      exact lkJ_M_watchGoes_126 hi xc nx X rt   h
    · refine go_aload_n X 0 (dk dt_M_watchGoes_4 0 rfl) rfl rfl ?_
      refine go_getr X fo_X12_7 lM_0 sM_0 fM_0_0 (dk dt_M_watchGoes_4 1 rfl) ?_
      refine go_bipush X (dk dt_M_watchGoes_4 2 rfl) cb_98 ?_
      refine go_aload_n X 0 (dk dt_M_watchGoes_4 3 rfl) rfl rfl ?_
      refine go_getr X fo_X12_7 lM_0 sM_0 fM_0_0 (dk dt_M_watchGoes_4 4 rfl) ?_
      refine go_bipush X (dk dt_M_watchGoes_4 5 rfl) cb_98 ?_
      refine go_iald X lM_1 sM_1 (dk dt_M_watchGoes_4 6 rfl) h (fun h => ?_)
      refine go_iconst X (dk dt_M_watchGoes_4 7 rfl) ci_1 ?_
      refine go_ior X (dk dt_M_watchGoes_4 8 rfl) ?_
      refine go_iast X lM_1 sM_1 (dk dt_M_watchGoes_4 9 rfl) h (fun h => ?_)
      refine go_sub [0, 2] rfl ?_
      exact lkJ_M_watchGoes_126 hi xc nx X rt   h
set_option maxRecDepth 20000 in
theorem lkJ_M_watchGoes_71 (hi : zInj wM v) (xc : XC wM v) (nx : NXM v) (X : Cx wM v p R s m args c 0 0 cX12_watchGoes 4 RX12 12) (rt : Rt wM v p l e R s m args below meth c 0 0 Q cX12_watchGoes false none res)  {x1 : Int32} {x2 : Int32} {σ : Hp}   (h : J_M_watchGoes_71   x1 x2 σ = some res) : Go wM v p l e R s m args below meth c 0 0 Q 4 71 [(0, .ref 0), (1, .int x1), (2, .int x2)] [] σ := by
  unfold J_M_watchGoes_71 at h
  refine go_iconst X (dk dt_M_watchGoes_2 12 rfl) ci_0 ?_
  refine go_istore_n (lv' := [(3, .int (0 : Int32)), (0, .ref 0), (1, .int x1), (2, .int x2)]) X (dk dt_M_watchGoes_2 13 rfl) rfl (by decide) rfl ?_
  refine go_sub [1, 2, 3, 0] rfl ?_
  exact lkL_M_watchGoes_73 hi xc nx X rt (fun _ _ _  hh => lkJ_M_watchGoes_98 hi xc nx X rt   hh) FU  h
set_option maxRecDepth 20000 in
theorem lkF_M_watchGoes (hi : zInj wM v) (xc : XC wM v) (nx : NXM v) (X : Cx wM v p R s m args c 0 0 cX12_watchGoes 4 RX12 12) (rt : Rt wM v p l e R s m args below meth c 0 0 Q cX12_watchGoes false none res)  {σ : Hp}  (h : F_M_watchGoes   σ = some res) : Go wM v p l e R s m args below meth c 0 0 Q 4 0 [(0, .ref 0)] [] σ := by
  unfold F_M_watchGoes at h
  refine go_aload_n X 0 (dk dt_M_watchGoes_0 0 rfl) rfl rfl ?_
  refine go_aload_n X 0 (dk dt_M_watchGoes_0 1 rfl) rfl rfl ?_
  refine go_geti X fo_X12_322 lM_0 sM_0 fM_0_45 (dk dt_M_watchGoes_0 2 rfl) ?_
  refine go_iconst X (dk dt_M_watchGoes_0 3 rfl) ci_1 ?_
  refine go_iadd X (dk dt_M_watchGoes_0 4 rfl) ?_
  refine go_puti X fo_X12_322 pf_12_45 lM_0 sM_0 fM_0_45 (dk dt_M_watchGoes_0 5 rfl) ?_
  refine go_aload_n X 0 (dk dt_M_watchGoes_0 6 rfl) rfl rfl ?_
  refine go_iconst X (dk dt_M_watchGoes_0 7 rfl) ci_0 ?_
  refine go_Vi (As := [.int (0 : Int32)]) (rest := []) X vo_X12_356 (fun q hq => ct_M_outside hi xc nx  hq) (by decide) rfl lM_0 sM_0 rfl rfl (Nat.le_of_ble_eq_true rfl) (dk dt_M_watchGoes_0 8 rfl) h (fun q12 h => ?_)
  refine go_istore_n (lv' := [(1, .int q12.1), (0, .ref 0)]) X (dk dt_M_watchGoes_0 9 rfl) rfl (by decide) rfl ?_
  refine go_aload_n X 1 (dk dt_M_watchGoes_0 10 rfl) rfl rfl ?_
  refine go_iconst X (dk dt_M_watchGoes_0 11 rfl) ci_1 ?_
  refine go_Vi (As := [.int (1 : Int32)]) (rest := []) X vo_X12_356 (fun q hq => ct_M_outside hi xc nx  hq) (by decide) rfl lM_0 sM_0 rfl rfl (Nat.le_of_ble_eq_true rfl) (dk dt_M_watchGoes_0 12 rfl) h (fun q18 h => ?_)
  refine go_istore_n (lv' := [(2, .int q18.1), (1, .int q12.1), (0, .ref 0)]) X (dk dt_M_watchGoes_0 13 rfl) rfl (by decide) rfl ?_
  refine go_iconst X (dk dt_M_watchGoes_0 14 rfl) ci_0 ?_
  refine go_istore_n (lv' := [(3, .int (0 : Int32)), (2, .int q18.1), (1, .int q12.1), (0, .ref 0)]) X (dk dt_M_watchGoes_0 15 rfl) rfl (by decide) rfl ?_
  refine go_sub [3, 2, 1, 0] rfl ?_
  exact lkL_M_watchGoes_24 hi xc nx X rt (fun _ _ _  hh => lkJ_M_watchGoes_71 hi xc nx X rt   hh) FU  h
set_option maxRecDepth 20000 in
theorem ct_M_watchGoes (hi : zInj wM v) (xc : XC wM v) (nx : NXM v)   {σ : Hp}  {q : Hp} (h : F_M_watchGoes   σ = some q) : Ct wM v l yX12_watchGoes cX12_watchGoes 4 none 12 [.ref 0] σ none q :=
  Ct.intro false (by decide) hi xc (Nat.le_of_ble_eq_true rfl) rfl (fun p e R s m args below meth c Q X rt => lkF_M_watchGoes hi xc nx X rt  h)
end
def T_M_watchesGo_0 : DT := [(0, .aload_n 0, 1), (1, .iconst 0, 1), (2, .putfield 319, 3), (5, .aload_n 0, 1), (6, .iconst 0, 1), (7, .putfield 353, 3), (10, .aload_n 0, 1), (11, .iconst 0, 1), (12, .putfield 341, 3), (15, .aload_n 0, 1), (16, .iconst (-1), 1), (17, .putfield 325, 3), (20, .aload_n 0, 1), (21, .bipush (-2), 2), (23, .putfield 328, 3), (26, .aload_n 0, 1)]
theorem dt_M_watchesGo_0 : dOk cX12_watchesGo T_M_watchesGo_0 := by unfold dOk; decide +kernel
def T_M_watchesGo_1 : DT := [(27, .iconst 0, 1), (28, .putfield 322, 3), (31, .iconst 0, 1), (32, .istore_n 2, 1), (33, .iload_n 2, 1), (34, .bipush 16, 2), (36, .if_icmp .ge 17, 3), (39, .aload_n 0, 1), (40, .getfield 86, 3), (43, .iload_n 2, 1), (44, .bipush (-2), 2), (46, .iastore, 1), (47, .iinc 2 1, 3), (50, .goto (-17), 3), (53, .iconst 0, 1), (54, .istore_n 2, 1)]
theorem dt_M_watchesGo_1 : dOk cX12_watchesGo T_M_watchesGo_1 := by unfold dOk; decide +kernel
def T_M_watchesGo_2 : DT := [(55, .iload_n 2, 1), (56, .iload_n 1, 1), (57, .if_icmp .ge 36, 3), (60, .aload_n 0, 1), (61, .getfield 7, 3), (64, .bipush 98, 2), (66, .iaload, 1), (67, .ifCond .ne 26, 3), (70, .aload_n 0, 1), (71, .getfield 7, 3), (74, .bipush 97, 2), (76, .iaload, 1), (77, .sipush 9999, 3), (80, .if_icmp .ge 13, 3), (83, .aload_n 0, 1), (84, .invokevirtual 365, 3)]
theorem dt_M_watchesGo_2 : dOk cX12_watchesGo T_M_watchesGo_2 := by unfold dOk; decide +kernel
def T_M_watchesGo_3 : DT := [(87, .iinc 2 1, 3), (90, .goto (-35), 3), (93, .return_, 1)]
theorem dt_M_watchesGo_3 : dOk cX12_watchesGo T_M_watchesGo_3 := by unfold dOk; decide +kernel
section
variable {v : ZV} {l : Launch} {p : Program} {e : Env} {R : Room} {s : State} {m : MethodId} {args : Array Value} {below : List Frame} {meth : Method} {c : Code} {Q : State → Prop} {res : Hp} 
set_option maxRecDepth 20000 in
theorem lkB_M_watchesGo_33 (hi : zInj wM v) (xc : XC wM v) (nx : NXM v) (X : Cx wM v p R s m args c 0 0 cX12_watchesGo 3 RX12 14) (rt : Rt wM v p l e R s m args below meth c 0 0 Q cX12_watchesGo false none res) {k53 : Int32 → Hp → Option Hp} {k33 : Int32 → Int32 → Hp → Option Hp} {x1 : Int32} {x2 : Int32} {σ : Hp}  (hk53 : ∀ (x1 : Int32) (σ : Hp),  k53 x1 σ = some res → Go wM v p l e R s m args below meth c 0 0 Q 3 53 [(0, .ref 0), (1, .int x1)] [] σ) (hk33 : ∀ (x1 : Int32) (x2 : Int32) (σ : Hp),  k33 x1 x2 σ = some res → Go wM v p l e R s m args below meth c 0 0 Q 3 33 [(0, .ref 0), (1, .int x1), (2, .int x2)] [] σ) (h : B_M_watchesGo_33  k53 k33 x1 x2 σ = some res) : Go wM v p l e R s m args below meth c 0 0 Q 3 33 [(0, .ref 0), (1, .int x1), (2, .int x2)] [] σ := by
  unfold B_M_watchesGo_33 at h
  refine go_iload_n X 2 (dk dt_M_watchesGo_1 4 rfl) rfl rfl ?_
  refine go_bipush X (dk dt_M_watchesGo_1 5 rfl) cb_16 ?_
  refine go_icmp_ge (tgt := 53) X (dk dt_M_watchesGo_1 6 rfl) (by decide) h (fun h => ?_) (fun h => ?_)
  · refine go_sub [0, 1] rfl ?_
    exact hk53 _ _  h
  · refine go_aload_n X 0 (dk dt_M_watchesGo_1 7 rfl) rfl rfl ?_
    refine go_getr X fo_X12_86 lM_0 sM_0 fM_0_46 (dk dt_M_watchesGo_1 8 rfl) ?_
    refine go_iload_n X 2 (dk dt_M_watchesGo_1 9 rfl) rfl rfl ?_
    refine go_bipush X (dk dt_M_watchesGo_1 10 rfl) cb_m2 ?_
    refine go_iast X lM_26 sM_26 (dk dt_M_watchesGo_1 11 rfl) h (fun h => ?_)
    refine go_iinc (lv' := [(2, .int (x2 + (1 : Int32))), (0, .ref 0), (1, .int x1)]) X 2 (dk dt_M_watchesGo_1 12 rfl) rfl ci_1 (by decide) rfl ?_
    refine go_goto (tgt := 33) X (dk dt_M_watchesGo_1 13 rfl) (by decide) ?_
    refine go_sub [1, 2, 0] rfl ?_
    exact hk33 _ _ _  h
set_option maxRecDepth 20000 in
theorem lkL_M_watchesGo_33 (hi : zInj wM v) (xc : XC wM v) (nx : NXM v) (X : Cx wM v p R s m args c 0 0 cX12_watchesGo 3 RX12 14) (rt : Rt wM v p l e R s m args below meth c 0 0 Q cX12_watchesGo false none res) {k53 : Int32 → Hp → Option Hp} (hk53 : ∀ (x1 : Int32) (σ : Hp),  k53 x1 σ = some res → Go wM v p l e R s m args below meth c 0 0 Q 3 53 [(0, .ref 0), (1, .int x1)] [] σ) (n : Nat) : ∀ {x1 : Int32} {x2 : Int32} {σ : Hp},  L_M_watchesGo_33  k53 n x1 x2 σ = some res → Go wM v p l e R s m args below meth c 0 0 Q 3 33 [(0, .ref 0), (1, .int x1), (2, .int x2)] [] σ := by
  induction n with
  | zero => intro x1 x2 σ  h; cases h
  | succ n ih =>
    intro x1 x2 σ  h
    exact lkB_M_watchesGo_33 hi xc nx X rt  hk53 (fun _ _ _  hh => ih  hh) h
set_option maxRecDepth 20000 in
theorem lkB_M_watchesGo_55 (hi : zInj wM v) (xc : XC wM v) (nx : NXM v) (X : Cx wM v p R s m args c 0 0 cX12_watchesGo 3 RX12 14) (rt : Rt wM v p l e R s m args below meth c 0 0 Q cX12_watchesGo false none res) {k55 : Int32 → Int32 → Hp → Option Hp} {x1 : Int32} {x2 : Int32} {σ : Hp}  (hk55 : ∀ (x1 : Int32) (x2 : Int32) (σ : Hp),  k55 x1 x2 σ = some res → Go wM v p l e R s m args below meth c 0 0 Q 3 55 [(0, .ref 0), (1, .int x1), (2, .int x2)] [] σ) (h : B_M_watchesGo_55  k55 x1 x2 σ = some res) : Go wM v p l e R s m args below meth c 0 0 Q 3 55 [(0, .ref 0), (1, .int x1), (2, .int x2)] [] σ := by
  unfold B_M_watchesGo_55 at h
  refine go_iload_n X 2 (dk dt_M_watchesGo_2 0 rfl) rfl rfl ?_
  refine go_iload_n X 1 (dk dt_M_watchesGo_2 1 rfl) rfl rfl ?_
  refine go_icmp_ge (tgt := 93) X (dk dt_M_watchesGo_2 2 rfl) (by decide) h (fun h => ?_) (fun h => ?_)
  · exact go_vret rt (dk dt_M_watchesGo_3 2 rfl) h
  · refine go_aload_n X 0 (dk dt_M_watchesGo_2 3 rfl) rfl rfl ?_
    refine go_getr X fo_X12_7 lM_0 sM_0 fM_0_0 (dk dt_M_watchesGo_2 4 rfl) ?_
    refine go_bipush X (dk dt_M_watchesGo_2 5 rfl) cb_98 ?_
    refine go_iald X lM_1 sM_1 (dk dt_M_watchesGo_2 6 rfl) h (fun h => ?_)
    refine go_if_ne (tgt := 93) X (dk dt_M_watchesGo_2 7 rfl) (by decide) h (fun h => ?_) (fun h => ?_)
    · exact go_vret rt (dk dt_M_watchesGo_3 2 rfl) h
    · refine go_aload_n X 0 (dk dt_M_watchesGo_2 8 rfl) rfl rfl ?_
      refine go_getr X fo_X12_7 lM_0 sM_0 fM_0_0 (dk dt_M_watchesGo_2 9 rfl) ?_
      refine go_bipush X (dk dt_M_watchesGo_2 10 rfl) cb_97 ?_
      refine go_iald X lM_1 sM_1 (dk dt_M_watchesGo_2 11 rfl) h (fun h => ?_)
      refine go_sipush X (dk dt_M_watchesGo_2 12 rfl) cs_9999 ?_
      refine go_icmp_ge (tgt := 93) X (dk dt_M_watchesGo_2 13 rfl) (by decide) h (fun h => ?_) (fun h => ?_)
      · exact go_vret rt (dk dt_M_watchesGo_3 2 rfl) h
      · refine go_aload_n X 0 (dk dt_M_watchesGo_2 14 rfl) rfl rfl ?_
        refine go_Vv (As := []) (rest := []) X vo_X12_365 (fun q hq => ct_M_watchGoes hi xc nx  hq) (by decide) rfl lM_0 sM_0 rfl rfl (Nat.le_of_ble_eq_true rfl) (dk dt_M_watchesGo_2 15 rfl) h (fun q84 h => ?_)
        refine go_iinc (lv' := [(2, .int (x2 + (1 : Int32))), (0, .ref 0), (1, .int x1)]) X 2 (dk dt_M_watchesGo_3 0 rfl) rfl ci_1 (by decide) rfl ?_
        refine go_goto (tgt := 55) X (dk dt_M_watchesGo_3 1 rfl) (by decide) ?_
        refine go_sub [1, 2, 0] rfl ?_
        exact hk55 _ _ _  h
set_option maxRecDepth 20000 in
theorem lkL_M_watchesGo_55 (hi : zInj wM v) (xc : XC wM v) (nx : NXM v) (X : Cx wM v p R s m args c 0 0 cX12_watchesGo 3 RX12 14) (rt : Rt wM v p l e R s m args below meth c 0 0 Q cX12_watchesGo false none res)   (n : Nat) : ∀ {x1 : Int32} {x2 : Int32} {σ : Hp},  L_M_watchesGo_55   n x1 x2 σ = some res → Go wM v p l e R s m args below meth c 0 0 Q 3 55 [(0, .ref 0), (1, .int x1), (2, .int x2)] [] σ := by
  induction n with
  | zero => intro x1 x2 σ  h; cases h
  | succ n ih =>
    intro x1 x2 σ  h
    exact lkB_M_watchesGo_55 hi xc nx X rt  (fun _ _ _  hh => ih  hh) h
set_option maxRecDepth 20000 in
theorem lkJ_M_watchesGo_53 (hi : zInj wM v) (xc : XC wM v) (nx : NXM v) (X : Cx wM v p R s m args c 0 0 cX12_watchesGo 3 RX12 14) (rt : Rt wM v p l e R s m args below meth c 0 0 Q cX12_watchesGo false none res)  {x1 : Int32} {σ : Hp}   (h : J_M_watchesGo_53   x1 σ = some res) : Go wM v p l e R s m args below meth c 0 0 Q 3 53 [(0, .ref 0), (1, .int x1)] [] σ := by
  unfold J_M_watchesGo_53 at h
  refine go_iconst X (dk dt_M_watchesGo_1 14 rfl) ci_0 ?_
  refine go_istore_n (lv' := [(2, .int (0 : Int32)), (0, .ref 0), (1, .int x1)]) X (dk dt_M_watchesGo_1 15 rfl) rfl (by decide) rfl ?_
  refine go_sub [1, 2, 0] rfl ?_
  exact lkL_M_watchesGo_55 hi xc nx X rt  FU  h
set_option maxRecDepth 20000 in
theorem lkF_M_watchesGo (hi : zInj wM v) (xc : XC wM v) (nx : NXM v) (X : Cx wM v p R s m args c 0 0 cX12_watchesGo 3 RX12 14) (rt : Rt wM v p l e R s m args below meth c 0 0 Q cX12_watchesGo false none res) {a1 : Int32} {σ : Hp}  (h : F_M_watchesGo  a1 σ = some res) : Go wM v p l e R s m args below meth c 0 0 Q 3 0 [(0, .ref 0), (1, .int a1)] [] σ := by
  unfold F_M_watchesGo at h
  refine go_aload_n X 0 (dk dt_M_watchesGo_0 0 rfl) rfl rfl ?_
  refine go_iconst X (dk dt_M_watchesGo_0 1 rfl) ci_0 ?_
  refine go_puti X fo_X12_319 pf_12_40 lM_0 sM_0 fM_0_40 (dk dt_M_watchesGo_0 2 rfl) ?_
  refine go_aload_n X 0 (dk dt_M_watchesGo_0 3 rfl) rfl rfl ?_
  refine go_iconst X (dk dt_M_watchesGo_0 4 rfl) ci_0 ?_
  refine go_puti X fo_X12_353 pf_12_41 lM_0 sM_0 fM_0_41 (dk dt_M_watchesGo_0 5 rfl) ?_
  refine go_aload_n X 0 (dk dt_M_watchesGo_0 6 rfl) rfl rfl ?_
  refine go_iconst X (dk dt_M_watchesGo_0 7 rfl) ci_0 ?_
  refine go_puti X fo_X12_341 pf_12_42 lM_0 sM_0 fM_0_42 (dk dt_M_watchesGo_0 8 rfl) ?_
  refine go_aload_n X 0 (dk dt_M_watchesGo_0 9 rfl) rfl rfl ?_
  refine go_iconst X (dk dt_M_watchesGo_0 10 rfl) ci_m1 ?_
  refine go_puti X fo_X12_325 pf_12_43 lM_0 sM_0 fM_0_43 (dk dt_M_watchesGo_0 11 rfl) ?_
  refine go_aload_n X 0 (dk dt_M_watchesGo_0 12 rfl) rfl rfl ?_
  refine go_bipush X (dk dt_M_watchesGo_0 13 rfl) cb_m2 ?_
  refine go_puti X fo_X12_328 pf_12_44 lM_0 sM_0 fM_0_44 (dk dt_M_watchesGo_0 14 rfl) ?_
  refine go_aload_n X 0 (dk dt_M_watchesGo_0 15 rfl) rfl rfl ?_
  refine go_iconst X (dk dt_M_watchesGo_1 0 rfl) ci_0 ?_
  refine go_puti X fo_X12_322 pf_12_45 lM_0 sM_0 fM_0_45 (dk dt_M_watchesGo_1 1 rfl) ?_
  refine go_iconst X (dk dt_M_watchesGo_1 2 rfl) ci_0 ?_
  refine go_istore_n (lv' := [(2, .int (0 : Int32)), (0, .ref 0), (1, .int a1)]) X (dk dt_M_watchesGo_1 3 rfl) rfl (by decide) rfl ?_
  refine go_sub [1, 2, 0] rfl ?_
  exact lkL_M_watchesGo_33 hi xc nx X rt (fun _ _  hh => lkJ_M_watchesGo_53 hi xc nx X rt   hh) FU  h
set_option maxRecDepth 20000 in
theorem ct_M_watchesGo (hi : zInj wM v) (xc : XC wM v) (nx : NXM v)  {a1 : Int32} {σ : Hp}  {q : Hp} (h : F_M_watchesGo  a1 σ = some q) : Ct wM v l yX12_watchesGo cX12_watchesGo 3 none 14 [.ref 0, .int a1] σ none q :=
  Ct.intro false (by decide) hi xc (Nat.le_of_ble_eq_true rfl) rfl (fun p e R s m args below meth c Q X rt => lkF_M_watchesGo hi xc nx X rt  h)
end
def T_M_triesWatches_0 : DT := [(0, .aload_n 0, 1), (1, .getfield 7, 3), (4, .aload_n 0, 1), (5, .getfield 13, 3), (8, .invokestatic 291, 3), (11, .aload_n 0, 1), (12, .iload_n 1, 1), (13, .invokevirtual 368, 3), (16, .return_, 1)]
theorem dt_M_triesWatches_0 : dOk cX12_triesWatches T_M_triesWatches_0 := by unfold dOk; decide +kernel
section
variable {v : ZV} {l : Launch} {p : Program} {e : Env} {R : Room} {s : State} {m : MethodId} {args : Array Value} {below : List Frame} {meth : Method} {c : Code} {Q : State → Prop} {res : Hp} 
set_option maxRecDepth 20000 in
theorem lkF_M_triesWatches (hi : zInj wM v) (xc : XC wM v) (nx : NXM v) (X : Cx wM v p R s m args c 0 0 cX12_triesWatches 2 RX12 16) (rt : Rt wM v p l e R s m args below meth c 0 0 Q cX12_triesWatches false none res) {a1 : Int32} {σ : Hp}  (h : F_M_triesWatches  a1 σ = some res) : Go wM v p l e R s m args below meth c 0 0 Q 2 0 [(0, .ref 0), (1, .int a1)] [] σ := by
  unfold F_M_triesWatches at h
  refine go_aload_n X 0 (dk dt_M_triesWatches_0 0 rfl) rfl rfl ?_
  refine go_getr X fo_X12_7 lM_0 sM_0 fM_0_0 (dk dt_M_triesWatches_0 1 rfl) ?_
  refine go_aload_n X 0 (dk dt_M_triesWatches_0 2 rfl) rfl rfl ?_
  refine go_getr X fo_X12_13 lM_0 sM_0 fM_0_1 (dk dt_M_triesWatches_0 3 rfl) ?_
  refine go_Sv (As := [.ref 1, .ref 2]) (rest := []) X so_X12_291 (fun q hq => ct_M_copies hi xc nx lM_1 sM_1 lM_2 sM_2 hq) (by decide) rfl rfl (Nat.le_of_ble_eq_true rfl) (dk dt_M_triesWatches_0 4 rfl) h (fun q8 h => ?_)
  refine go_aload_n X 0 (dk dt_M_triesWatches_0 5 rfl) rfl rfl ?_
  refine go_iload_n X 1 (dk dt_M_triesWatches_0 6 rfl) rfl rfl ?_
  refine go_Vv (As := [.int a1]) (rest := []) X vo_X12_368 (fun q hq => ct_M_watchesGo hi xc nx  hq) (by decide) rfl lM_0 sM_0 rfl rfl (Nat.le_of_ble_eq_true rfl) (dk dt_M_triesWatches_0 7 rfl) h (fun q13 h => ?_)
  exact go_vret rt (dk dt_M_triesWatches_0 8 rfl) h
set_option maxRecDepth 20000 in
theorem ct_M_triesWatches (hi : zInj wM v) (xc : XC wM v) (nx : NXM v)  {a1 : Int32} {σ : Hp}  {q : Hp} (h : F_M_triesWatches  a1 σ = some q) : Ct wM v l yX12_triesWatches cX12_triesWatches 2 none 16 [.ref 0, .int a1] σ none q :=
  Ct.intro false (by decide) hi xc (Nat.le_of_ble_eq_true rfl) rfl (fun p e R s m args below meth c Q X rt => lkF_M_triesWatches hi xc nx X rt  h)
end
def T_M_first_0 : DT := [(0, .iload_n 1, 1), (1, .iconst 1, 1), (2, .bipush 120, 2), (4, .invokestatic 122, 3), (7, .ifCond .eq 12, 3), (10, .iload_n 2, 1), (11, .iconst 0, 1), (12, .iconst 2, 1), (13, .invokestatic 122, 3), (16, .ifCond .ne 5, 3), (19, .iconst (-1), 1), (20, .ireturn, 1), (21, .aload_n 0, 1), (22, .iload_n 1, 1), (23, .invokevirtual 371, 3), (26, .aload_n 0, 1)]
theorem dt_M_first_0 : dOk cX12_first T_M_first_0 := by unfold dOk; decide +kernel
def T_M_first_1 : DT := [(27, .getfield 13, 3), (30, .aload_n 0, 1), (31, .getfield 7, 3), (34, .invokestatic 291, 3), (37, .aload_n 0, 1), (38, .getfield 325, 3), (41, .iconst (-1), 1), (42, .if_icmp .ne 6, 3), (45, .bipush (-2), 2), (47, .ireturn, 1), (48, .iload_n 2, 1), (49, .ifCond .ne 13, 3), (52, .aload_n 0, 1), (53, .getfield 325, 3), (56, .bipush 8, 2), (58, .idiv, 1)]
theorem dt_M_first_1 : dOk cX12_first T_M_first_1 := by unfold dOk; decide +kernel
def T_M_first_2 : DT := [(59, .goto 22, 3), (62, .iload_n 2, 1), (63, .iconst 1, 1), (64, .if_icmp .ne 13, 3), (67, .aload_n 0, 1), (68, .getfield 325, 3), (71, .bipush 8, 2), (73, .irem, 1), (74, .goto 7, 3), (77, .aload_n 0, 1), (78, .getfield 328, 3), (81, .ireturn, 1)]
theorem dt_M_first_2 : dOk cX12_first T_M_first_2 := by unfold dOk; decide +kernel
section
variable {v : ZV} {l : Launch} {p : Program} {e : Env} {R : Room} {s : State} {m : MethodId} {args : Array Value} {below : List Frame} {meth : Method} {c : Code} {Q : State → Prop} {res : (Int32 × Hp)} 
set_option maxRecDepth 20000 in
theorem lkF_M_first (hi : zInj wM v) (xc : XC wM v) (nx : NXM v) (X : Cx wM v p R s m args c 0 0 cX12_first 3 RX12 18) (rt : Rt wM v p l e R s m args below meth c 0 0 Q cX12_first false (some (.int res.1)) res.2) {a1 : Int32} {a2 : Int32} {σ : Hp}  (h : F_M_first  a1 a2 σ = some res) : Go wM v p l e R s m args below meth c 0 0 Q 3 0 [(0, .ref 0), (1, .int a1), (2, .int a2)] [] σ := by
  unfold F_M_first at h
  refine go_iload_n X 1 (dk dt_M_first_0 0 rfl) rfl rfl ?_
  refine go_iconst X (dk dt_M_first_0 1 rfl) ci_1 ?_
  refine go_bipush X (dk dt_M_first_0 2 rfl) cb_120 ?_
  refine go_Si (As := [.int a1, .int (1 : Int32), .int (120 : Int32)]) (rest := []) X so_X12_122 (fun q hq => ct_M_in hi xc nx  hq) (by decide) rfl rfl (Nat.le_of_ble_eq_true rfl) (dk dt_M_first_0 3 rfl) h (fun q4 h => ?_)
  refine go_if_eq (tgt := 19) X (dk dt_M_first_0 4 rfl) (by decide) h (fun h => ?_) (fun h => ?_)
  · refine go_iconst X (dk dt_M_first_0 10 rfl) ci_m1 ?_
    exact go_iret rt (dk dt_M_first_0 11 rfl) h (fun hh => nomatch hh)
  · refine go_iload_n X 2 (dk dt_M_first_0 5 rfl) rfl rfl ?_
    refine go_iconst X (dk dt_M_first_0 6 rfl) ci_0 ?_
    refine go_iconst X (dk dt_M_first_0 7 rfl) ci_2 ?_
    refine go_Si (As := [.int a2, .int (0 : Int32), .int (2 : Int32)]) (rest := []) X so_X12_122 (fun q hq => ct_M_in hi xc nx  hq) (by decide) rfl rfl (Nat.le_of_ble_eq_true rfl) (dk dt_M_first_0 8 rfl) h (fun q13 h => ?_)
    refine go_if_ne (tgt := 21) X (dk dt_M_first_0 9 rfl) (by decide) h (fun h => ?_) (fun h => ?_)
    · refine go_aload_n X 0 (dk dt_M_first_0 12 rfl) rfl rfl ?_
      refine go_iload_n X 1 (dk dt_M_first_0 13 rfl) rfl rfl ?_
      refine go_Vv (As := [.int a1]) (rest := []) X vo_X12_371 (fun q hq => ct_M_triesWatches hi xc nx  hq) (by decide) rfl lM_0 sM_0 rfl rfl (Nat.le_of_ble_eq_true rfl) (dk dt_M_first_0 14 rfl) h (fun q23 h => ?_)
      refine go_aload_n X 0 (dk dt_M_first_0 15 rfl) rfl rfl ?_
      refine go_getr X fo_X12_13 lM_0 sM_0 fM_0_1 (dk dt_M_first_1 0 rfl) ?_
      refine go_aload_n X 0 (dk dt_M_first_1 1 rfl) rfl rfl ?_
      refine go_getr X fo_X12_7 lM_0 sM_0 fM_0_0 (dk dt_M_first_1 2 rfl) ?_
      refine go_Sv (As := [.ref 2, .ref 1]) (rest := []) X so_X12_291 (fun q hq => ct_M_copies hi xc nx lM_2 sM_2 lM_1 sM_1 hq) (by decide) rfl rfl (Nat.le_of_ble_eq_true rfl) (dk dt_M_first_1 3 rfl) h (fun q34 h => ?_)
      refine go_aload_n X 0 (dk dt_M_first_1 4 rfl) rfl rfl ?_
      refine go_geti X fo_X12_325 lM_0 sM_0 fM_0_43 (dk dt_M_first_1 5 rfl) ?_
      refine go_iconst X (dk dt_M_first_1 6 rfl) ci_m1 ?_
      refine go_icmp_ne (tgt := 48) X (dk dt_M_first_1 7 rfl) (by decide) h (fun h => ?_) (fun h => ?_)
      · refine go_iload_n X 2 (dk dt_M_first_1 10 rfl) rfl rfl ?_
        refine go_if_ne (tgt := 62) X (dk dt_M_first_1 11 rfl) (by decide) h (fun h => ?_) (fun h => ?_)
        · refine go_iload_n X 2 (dk dt_M_first_2 1 rfl) rfl rfl ?_
          refine go_iconst X (dk dt_M_first_2 2 rfl) ci_1 ?_
          refine go_icmp_ne (tgt := 77) X (dk dt_M_first_2 3 rfl) (by decide) h (fun h => ?_) (fun h => ?_)
          · refine go_aload_n X 0 (dk dt_M_first_2 9 rfl) rfl rfl ?_
            refine go_geti X fo_X12_328 lM_0 sM_0 fM_0_44 (dk dt_M_first_2 10 rfl) ?_
            exact go_iret rt (dk dt_M_first_2 11 rfl) h (fun hh => nomatch hh)
          · refine go_aload_n X 0 (dk dt_M_first_2 4 rfl) rfl rfl ?_
            refine go_geti X fo_X12_325 lM_0 sM_0 fM_0_43 (dk dt_M_first_2 5 rfl) ?_
            refine go_bipush X (dk dt_M_first_2 6 rfl) cb_8 ?_
            refine go_iremL X (dk dt_M_first_2 7 rfl) (by decide) ?_
            refine go_goto (tgt := 81) X (dk dt_M_first_2 8 rfl) (by decide) ?_
            exact go_iret rt (dk dt_M_first_2 11 rfl) h (fun hh => nomatch hh)
        · refine go_aload_n X 0 (dk dt_M_first_1 12 rfl) rfl rfl ?_
          refine go_geti X fo_X12_325 lM_0 sM_0 fM_0_43 (dk dt_M_first_1 13 rfl) ?_
          refine go_bipush X (dk dt_M_first_1 14 rfl) cb_8 ?_
          refine go_idivL X (dk dt_M_first_1 15 rfl) (by decide) ?_
          refine go_goto (tgt := 81) X (dk dt_M_first_2 0 rfl) (by decide) ?_
          exact go_iret rt (dk dt_M_first_2 11 rfl) h (fun hh => nomatch hh)
      · refine go_bipush X (dk dt_M_first_1 8 rfl) cb_m2 ?_
        exact go_iret rt (dk dt_M_first_1 9 rfl) h (fun hh => nomatch hh)
    · refine go_iconst X (dk dt_M_first_0 10 rfl) ci_m1 ?_
      exact go_iret rt (dk dt_M_first_0 11 rfl) h (fun hh => nomatch hh)
set_option maxRecDepth 20000 in
theorem ct_M_first (hi : zInj wM v) (xc : XC wM v) (nx : NXM v)  {a1 : Int32} {a2 : Int32} {σ : Hp}  {q : (Int32 × Hp)} (h : F_M_first  a1 a2 σ = some q) : Ct wM v l yX12_first cX12_first 3 (some .int) 18 [.ref 0, .int a1, .int a2] σ (some (.int q.1)) q.2 :=
  Ct.intro false (by decide) hi xc (Nat.le_of_ble_eq_true rfl) rfl (fun p e R s m args below meth c Q X rt => lkF_M_first hi xc nx X rt  h)
end
def T_M_floor_0 : DT := [(0, .iload_n 1, 1), (1, .iconst 0, 1), (2, .iconst 1, 1), (3, .invokestatic 122, 3), (6, .ifCond .eq 13, 3), (9, .iload_n 2, 1), (10, .iconst 0, 1), (11, .bipush 99, 2), (13, .invokestatic 122, 3), (16, .ifCond .ne 5, 3), (19, .iconst 0, 1), (20, .ireturn, 1), (21, .aload_n 0, 1), (22, .getfield 19, 3), (25, .iload_n 1, 1), (26, .iload_n 2, 1)]
theorem dt_M_floor_0 : dOk cX12_floor T_M_floor_0 := by unfold dOk; decide +kernel
def T_M_floor_1 : DT := [(27, .iastore, 1), (28, .iconst 1, 1), (29, .ireturn, 1)]
theorem dt_M_floor_1 : dOk cX12_floor T_M_floor_1 := by unfold dOk; decide +kernel
section
variable {v : ZV} {l : Launch} {p : Program} {e : Env} {R : Room} {s : State} {m : MethodId} {args : Array Value} {below : List Frame} {meth : Method} {c : Code} {Q : State → Prop} {res : (Int32 × Hp)} 
set_option maxRecDepth 20000 in
theorem lkF_M_floor (hi : zInj wM v) (xc : XC wM v) (nx : NXM v) (X : Cx wM v p R s m args c 0 0 cX12_floor 3 RX12 4) (rt : Rt wM v p l e R s m args below meth c 0 0 Q cX12_floor true (some (.int res.1)) res.2) {a1 : Int32} {a2 : Int32} {σ : Hp}  (h : F_M_floor  a1 a2 σ = some res) : Go wM v p l e R s m args below meth c 0 0 Q 3 0 [(0, .ref 0), (1, .int a1), (2, .int a2)] [] σ := by
  unfold F_M_floor at h
  refine go_iload_n X 1 (dk dt_M_floor_0 0 rfl) rfl rfl ?_
  refine go_iconst X (dk dt_M_floor_0 1 rfl) ci_0 ?_
  refine go_iconst X (dk dt_M_floor_0 2 rfl) ci_1 ?_
  refine go_Si (As := [.int a1, .int (0 : Int32), .int (1 : Int32)]) (rest := []) X so_X12_122 (fun q hq => ct_M_in hi xc nx  hq) (by decide) rfl rfl (Nat.le_of_ble_eq_true rfl) (dk dt_M_floor_0 3 rfl) h (fun q3 h => ?_)
  refine go_if_eq (tgt := 19) X (dk dt_M_floor_0 4 rfl) (by decide) h (fun h => ?_) (fun h => ?_)
  · refine go_iconst X (dk dt_M_floor_0 10 rfl) ci_0 ?_
    exact go_iret rt (dk dt_M_floor_0 11 rfl) h (by decide)
  · refine go_iload_n X 2 (dk dt_M_floor_0 5 rfl) rfl rfl ?_
    refine go_iconst X (dk dt_M_floor_0 6 rfl) ci_0 ?_
    refine go_bipush X (dk dt_M_floor_0 7 rfl) cb_99 ?_
    refine go_Si (As := [.int a2, .int (0 : Int32), .int (99 : Int32)]) (rest := []) X so_X12_122 (fun q hq => ct_M_in hi xc nx  hq) (by decide) rfl rfl (Nat.le_of_ble_eq_true rfl) (dk dt_M_floor_0 8 rfl) h (fun q13 h => ?_)
    refine go_if_ne (tgt := 21) X (dk dt_M_floor_0 9 rfl) (by decide) h (fun h => ?_) (fun h => ?_)
    · refine go_aload_n X 0 (dk dt_M_floor_0 12 rfl) rfl rfl ?_
      refine go_getr X fo_X12_19 lM_0 sM_0 fM_0_3 (dk dt_M_floor_0 13 rfl) ?_
      refine go_iload_n X 1 (dk dt_M_floor_0 14 rfl) rfl rfl ?_
      refine go_iload_n X 2 (dk dt_M_floor_0 15 rfl) rfl rfl ?_
      refine go_iast X lM_4 sM_4 (dk dt_M_floor_1 0 rfl) h (fun h => ?_)
      refine go_iconst X (dk dt_M_floor_1 1 rfl) ci_1 ?_
      exact go_iret rt (dk dt_M_floor_1 2 rfl) h (by decide)
    · refine go_iconst X (dk dt_M_floor_0 10 rfl) ci_0 ?_
      exact go_iret rt (dk dt_M_floor_0 11 rfl) h (by decide)
set_option maxRecDepth 20000 in
theorem ct_M_floor (hi : zInj wM v) (xc : XC wM v) (nx : NXM v)  {a1 : Int32} {a2 : Int32} {σ : Hp}  {q : (Int32 × Hp)} (h : F_M_floor  a1 a2 σ = some q) : Ct wM v l yX12_floor cX12_floor 3 (some .boolean) 4 [.ref 0, .int a1, .int a2] σ (some (.int q.1)) q.2 :=
  Ct.intro true (by decide) hi xc (Nat.le_of_ble_eq_true rfl) rfl (fun p e R s m args below meth c Q X rt => lkF_M_floor hi xc nx X rt  h)
end
def T_M_gcd_0 : DT := [(0, .iload_n 0, 1), (1, .istore_n 2, 1), (2, .iload_n 1, 1), (3, .istore_n 3, 1), (4, .iload_n 3, 1), (5, .ifCond .eq 16, 3), (8, .iload_n 2, 1), (9, .iload_n 3, 1), (10, .irem, 1), (11, .istore 4, 2), (13, .iload_n 3, 1), (14, .istore_n 2, 1), (15, .iload 4, 2), (17, .istore_n 3, 1), (18, .goto (-14), 3), (21, .iload_n 2, 1)]
theorem dt_M_gcd_0 : dOk cX12_gcd T_M_gcd_0 := by unfold dOk; decide +kernel
def T_M_gcd_1 : DT := [(22, .ireturn, 1)]
theorem dt_M_gcd_1 : dOk cX12_gcd T_M_gcd_1 := by unfold dOk; decide +kernel
section
variable {v : ZV} {l : Launch} {p : Program} {e : Env} {R : Room} {s : State} {m : MethodId} {args : Array Value} {below : List Frame} {meth : Method} {c : Code} {Q : State → Prop} {res : (Int32 × Hp)} 
set_option maxRecDepth 20000 in
theorem lkB_M_gcd_4 (hi : zInj wM v) (xc : XC wM v) (nx : NXM v) (X : Cx wM v p R s m args c 0 0 cX12_gcd 5 RX12 2) (rt : Rt wM v p l e R s m args below meth c 0 0 Q cX12_gcd false (some (.int res.1)) res.2) {k4 : Int32 → Int32 → Hp → Option (Int32 × Hp)} {x2 : Int32} {x3 : Int32} {σ : Hp}  (hk4 : ∀ (x2 : Int32) (x3 : Int32) (σ : Hp),  k4 x2 x3 σ = some res → Go wM v p l e R s m args below meth c 0 0 Q 5 4 [(2, .int x2), (3, .int x3)] [] σ) (h : B_M_gcd_4  k4 x2 x3 σ = some res) : Go wM v p l e R s m args below meth c 0 0 Q 5 4 [(2, .int x2), (3, .int x3)] [] σ := by
  unfold B_M_gcd_4 at h
  refine go_iload_n X 1 (dk dt_M_gcd_0 4 rfl) rfl rfl ?_
  refine go_if_eq (tgt := 21) X (dk dt_M_gcd_0 5 rfl) (by decide) h (fun h => ?_) (fun h => ?_)
  · refine go_iload_n X 0 (dk dt_M_gcd_0 15 rfl) rfl rfl ?_
    exact go_iret rt (dk dt_M_gcd_1 0 rfl) h (fun hh => nomatch hh)
  · refine go_iload_n X 0 (dk dt_M_gcd_0 6 rfl) rfl rfl ?_
    refine go_iload_n X 1 (dk dt_M_gcd_0 7 rfl) rfl rfl ?_
    refine go_irem X (dk dt_M_gcd_0 8 rfl) h (fun h => ?_)
    refine go_istore (lv' := [(4, .int (jrem x2 x3)), (2, .int x2), (3, .int x3)]) X (dk dt_M_gcd_0 9 rfl) (by decide) rfl ?_
    refine go_iload_n X 2 (dk dt_M_gcd_0 10 rfl) rfl rfl ?_
    refine go_istore_n (lv' := [(2, .int x3), (4, .int (jrem x2 x3)), (3, .int x3)]) X (dk dt_M_gcd_0 11 rfl) rfl (by decide) rfl ?_
    refine go_iload X 1 (dk dt_M_gcd_0 12 rfl) rfl ?_
    refine go_istore_n (lv' := [(3, .int (jrem x2 x3)), (2, .int x3), (4, .int (jrem x2 x3))]) X (dk dt_M_gcd_0 13 rfl) rfl (by decide) rfl ?_
    refine go_goto (tgt := 4) X (dk dt_M_gcd_0 14 rfl) (by decide) ?_
    refine go_sub [1, 0] rfl ?_
    exact hk4 _ _ _  h
set_option maxRecDepth 20000 in
theorem lkL_M_gcd_4 (hi : zInj wM v) (xc : XC wM v) (nx : NXM v) (X : Cx wM v p R s m args c 0 0 cX12_gcd 5 RX12 2) (rt : Rt wM v p l e R s m args below meth c 0 0 Q cX12_gcd false (some (.int res.1)) res.2)   (n : Nat) : ∀ {x2 : Int32} {x3 : Int32} {σ : Hp},  L_M_gcd_4   n x2 x3 σ = some res → Go wM v p l e R s m args below meth c 0 0 Q 5 4 [(2, .int x2), (3, .int x3)] [] σ := by
  induction n with
  | zero => intro x2 x3 σ  h; cases h
  | succ n ih =>
    intro x2 x3 σ  h
    exact lkB_M_gcd_4 hi xc nx X rt  (fun _ _ _  hh => ih  hh) h
set_option maxRecDepth 20000 in
theorem lkF_M_gcd (hi : zInj wM v) (xc : XC wM v) (nx : NXM v) (X : Cx wM v p R s m args c 0 0 cX12_gcd 5 RX12 2) (rt : Rt wM v p l e R s m args below meth c 0 0 Q cX12_gcd false (some (.int res.1)) res.2) {a0 : Int32} {a1 : Int32} {σ : Hp}  (h : F_M_gcd  a0 a1 σ = some res) : Go wM v p l e R s m args below meth c 0 0 Q 5 0 [(0, .int a0), (1, .int a1)] [] σ := by
  unfold F_M_gcd at h
  refine go_iload_n X 0 (dk dt_M_gcd_0 0 rfl) rfl rfl ?_
  refine go_istore_n (lv' := [(2, .int a0), (0, .int a0), (1, .int a1)]) X (dk dt_M_gcd_0 1 rfl) rfl (by decide) rfl ?_
  refine go_iload_n X 2 (dk dt_M_gcd_0 2 rfl) rfl rfl ?_
  refine go_istore_n (lv' := [(3, .int a1), (2, .int a0), (0, .int a0), (1, .int a1)]) X (dk dt_M_gcd_0 3 rfl) rfl (by decide) rfl ?_
  refine go_sub [1, 0] rfl ?_
  exact lkL_M_gcd_4 hi xc nx X rt  FU  h
set_option maxRecDepth 20000 in
theorem ct_M_gcd (hi : zInj wM v) (xc : XC wM v) (nx : NXM v)  {a0 : Int32} {a1 : Int32} {σ : Hp}  {q : (Int32 × Hp)} (h : F_M_gcd  a0 a1 σ = some q) : Ct wM v l yX12_gcd cX12_gcd 5 (some .int) 2 [.int a0, .int a1] σ (some (.int q.1)) q.2 :=
  Ct.intro false (by decide) hi xc (Nat.le_of_ble_eq_true rfl) rfl (fun p e R s m args below meth c Q X rt => lkF_M_gcd hi xc nx X rt  h)
end
def T_M_size_0 : DT := [(0, .iload_n 0, 1), (1, .ifCond .ge 8, 3), (4, .iload_n 0, 1), (5, .ineg, 1), (6, .goto 4, 3), (9, .iload_n 0, 1), (10, .ireturn, 1)]
theorem dt_M_size_0 : dOk cX12_size T_M_size_0 := by unfold dOk; decide +kernel
section
variable {v : ZV} {l : Launch} {p : Program} {e : Env} {R : Room} {s : State} {m : MethodId} {args : Array Value} {below : List Frame} {meth : Method} {c : Code} {Q : State → Prop} {res : (Int32 × Hp)} 
set_option maxRecDepth 20000 in
theorem lkF_M_size (hi : zInj wM v) (xc : XC wM v) (nx : NXM v) (X : Cx wM v p R s m args c 0 0 cX12_size 1 RX12 2) (rt : Rt wM v p l e R s m args below meth c 0 0 Q cX12_size false (some (.int res.1)) res.2) {a0 : Int32} {σ : Hp}  (h : F_M_size  a0 σ = some res) : Go wM v p l e R s m args below meth c 0 0 Q 1 0 [(0, .int a0)] [] σ := by
  unfold F_M_size at h
  refine go_iload_n X 0 (dk dt_M_size_0 0 rfl) rfl rfl ?_
  refine go_if_ge (tgt := 9) X (dk dt_M_size_0 1 rfl) (by decide) h (fun h => ?_) (fun h => ?_)
  · refine go_iload_n X 0 (dk dt_M_size_0 5 rfl) rfl rfl ?_
    exact go_iret rt (dk dt_M_size_0 6 rfl) h (fun hh => nomatch hh)
  · refine go_iload_n X 0 (dk dt_M_size_0 2 rfl) rfl rfl ?_
    refine go_ineg X (dk dt_M_size_0 3 rfl) ?_
    refine go_goto (tgt := 10) X (dk dt_M_size_0 4 rfl) (by decide) ?_
    exact go_iret rt (dk dt_M_size_0 6 rfl) h (fun hh => nomatch hh)
set_option maxRecDepth 20000 in
theorem ct_M_size (hi : zInj wM v) (xc : XC wM v) (nx : NXM v)  {a0 : Int32} {σ : Hp}  {q : (Int32 × Hp)} (h : F_M_size  a0 σ = some q) : Ct wM v l yX12_size cX12_size 1 (some .int) 2 [.int a0] σ (some (.int q.1)) q.2 :=
  Ct.intro false (by decide) hi xc (Nat.le_of_ble_eq_true rfl) rfl (fun p e R s m args below meth c Q X rt => lkF_M_size hi xc nx X rt  h)
end
def T_M_laysGlasses_0 : DT := [(0, .iconst 0, 1), (1, .istore_n 3, 1), (2, .iload_n 3, 1), (3, .sipush 256, 3), (6, .if_icmp .ge 20, 3), (9, .aload_n 0, 1), (10, .getfield 89, 3), (13, .sipush 2048, 3), (16, .iload_n 3, 1), (17, .iadd, 1), (18, .iconst 0, 1), (19, .iastore, 1), (20, .iinc 3 1, 3), (23, .goto (-21), 3), (26, .bipush 7, 2), (28, .istore_n 3, 1)]
theorem dt_M_laysGlasses_0 : dOk cX12_laysGlasses T_M_laysGlasses_0 := by unfold dOk; decide +kernel
def T_M_laysGlasses_1 : DT := [(29, .iload_n 3, 1), (30, .ifCond .lt 150, 3), (33, .iconst 0, 1), (34, .istore 4, 2), (36, .iload 4, 2), (38, .sipush 256, 3), (41, .if_icmp .ge 133, 3), (44, .aload_n 0, 1), (45, .getfield 89, 3), (48, .sipush 256, 3), (51, .iload_n 3, 1), (52, .iconst 1, 1), (53, .iadd, 1), (54, .imul, 1), (55, .iload 4, 2), (57, .iadd, 1)]
theorem dt_M_laysGlasses_1 : dOk cX12_laysGlasses T_M_laysGlasses_1 := by unfold dOk; decide +kernel
def T_M_laysGlasses_2 : DT := [(58, .iaload, 1), (59, .iload_n 1, 1), (60, .iload_n 3, 1), (61, .invokestatic 141, 3), (64, .ifCond .eq 9, 3), (67, .sipush 1000, 3), (70, .goto 4, 3), (73, .iconst 0, 1), (74, .iadd, 1), (75, .istore 5, 2), (77, .iconst 0, 1), (78, .istore 6, 2), (80, .iload 6, 2), (82, .bipush 8, 2), (84, .if_icmp .ge 69, 3), (87, .iload_n 1, 1)]
theorem dt_M_laysGlasses_2 : dOk cX12_laysGlasses T_M_laysGlasses_2 := by unfold dOk; decide +kernel
def T_M_laysGlasses_3 : DT := [(88, .iload_n 3, 1), (89, .invokestatic 141, 3), (92, .ifCond .eq 55, 3), (95, .iload_n 2, 1), (96, .iload 4, 2), (98, .iconst (-1), 1), (99, .ixor, 1), (100, .iand, 1), (101, .iload 6, 2), (103, .invokestatic 141, 3), (106, .ifCond .ne 6, 3), (109, .goto 38, 3), (112, .iload 5, 2), (114, .aload_n 0, 1), (115, .getfield 89, 3), (118, .sipush 256, 3)]
theorem dt_M_laysGlasses_3 : dOk cX12_laysGlasses T_M_laysGlasses_3 := by unfold dOk; decide +kernel
def T_M_laysGlasses_4 : DT := [(121, .iload_n 3, 1), (122, .iconst 1, 1), (123, .iadd, 1), (124, .imul, 1), (125, .iload 4, 2), (127, .iconst 1, 1), (128, .iload 6, 2), (130, .ishl, 1), (131, .ior, 1), (132, .iadd, 1), (133, .iaload, 1), (134, .iload_n 3, 1), (135, .iload 6, 2), (137, .isub, 1), (138, .invokestatic 384, 3), (141, .iadd, 1)]
theorem dt_M_laysGlasses_4 : dOk cX12_laysGlasses T_M_laysGlasses_4 := by unfold dOk; decide +kernel
def T_M_laysGlasses_5 : DT := [(142, .invokestatic 270, 3), (145, .istore 5, 2), (147, .iinc 6 1, 3), (150, .goto (-70), 3), (153, .aload_n 0, 1), (154, .getfield 89, 3), (157, .sipush 256, 3), (160, .iload_n 3, 1), (161, .imul, 1), (162, .iload 4, 2), (164, .iadd, 1), (165, .iload 5, 2), (167, .iastore, 1), (168, .iinc 4 1, 3), (171, .goto (-135), 3), (174, .iinc 3 (-1), 3)]
theorem dt_M_laysGlasses_5 : dOk cX12_laysGlasses T_M_laysGlasses_5 := by unfold dOk; decide +kernel
def T_M_laysGlasses_6 : DT := [(177, .goto (-148), 3), (180, .return_, 1)]
theorem dt_M_laysGlasses_6 : dOk cX12_laysGlasses T_M_laysGlasses_6 := by unfold dOk; decide +kernel
section
variable {v : ZV} {l : Launch} {p : Program} {e : Env} {R : Room} {s : State} {m : MethodId} {args : Array Value} {below : List Frame} {meth : Method} {c : Code} {Q : State → Prop} {res : Hp} 
set_option maxRecDepth 20000 in
theorem lkB_M_laysGlasses_2 (hi : zInj wM v) (xc : XC wM v) (nx : NXM v) (X : Cx wM v p R s m args c 0 0 cX12_laysGlasses 7 RX12 4) (rt : Rt wM v p l e R s m args below meth c 0 0 Q cX12_laysGlasses false none res) {k26 : Int32 → Int32 → Hp → Option Hp} {k2 : Int32 → Int32 → Int32 → Hp → Option Hp} {x1 : Int32} {x2 : Int32} {x3 : Int32} {σ : Hp}  (hk26 : ∀ (x1 : Int32) (x2 : Int32) (σ : Hp),  k26 x1 x2 σ = some res → Go wM v p l e R s m args below meth c 0 0 Q 7 26 [(0, .ref 0), (1, .int x1), (2, .int x2)] [] σ) (hk2 : ∀ (x1 : Int32) (x2 : Int32) (x3 : Int32) (σ : Hp),  k2 x1 x2 x3 σ = some res → Go wM v p l e R s m args below meth c 0 0 Q 7 2 [(0, .ref 0), (1, .int x1), (2, .int x2), (3, .int x3)] [] σ) (h : B_M_laysGlasses_2  k26 k2 x1 x2 x3 σ = some res) : Go wM v p l e R s m args below meth c 0 0 Q 7 2 [(0, .ref 0), (1, .int x1), (2, .int x2), (3, .int x3)] [] σ := by
  unfold B_M_laysGlasses_2 at h
  refine go_iload_n X 3 (dk dt_M_laysGlasses_0 2 rfl) rfl rfl ?_
  refine go_sipush X (dk dt_M_laysGlasses_0 3 rfl) cs_256 ?_
  refine go_icmp_ge (tgt := 26) X (dk dt_M_laysGlasses_0 4 rfl) (by decide) h (fun h => ?_) (fun h => ?_)
  · refine go_sub [0, 1, 2] rfl ?_
    exact hk26 _ _ _  h
  · refine go_aload_n X 0 (dk dt_M_laysGlasses_0 5 rfl) rfl rfl ?_
    refine go_getr X fo_X12_89 lM_0 sM_0 fM_0_47 (dk dt_M_laysGlasses_0 6 rfl) ?_
    refine go_sipush X (dk dt_M_laysGlasses_0 7 rfl) cs_2048 ?_
    refine go_iload_n X 3 (dk dt_M_laysGlasses_0 8 rfl) rfl rfl ?_
    refine go_iadd X (dk dt_M_laysGlasses_0 9 rfl) ?_
    refine go_iconst X (dk dt_M_laysGlasses_0 10 rfl) ci_0 ?_
    refine go_iast X lM_27 sM_27 (dk dt_M_laysGlasses_0 11 rfl) h (fun h => ?_)
    refine go_iinc (lv' := [(3, .int (x3 + (1 : Int32))), (0, .ref 0), (1, .int x1), (2, .int x2)]) X 3 (dk dt_M_laysGlasses_0 12 rfl) rfl ci_1 (by decide) rfl ?_
    refine go_goto (tgt := 2) X (dk dt_M_laysGlasses_0 13 rfl) (by decide) ?_
    refine go_sub [1, 2, 3, 0] rfl ?_
    exact hk2 _ _ _ _  h
set_option maxRecDepth 20000 in
theorem lkL_M_laysGlasses_2 (hi : zInj wM v) (xc : XC wM v) (nx : NXM v) (X : Cx wM v p R s m args c 0 0 cX12_laysGlasses 7 RX12 4) (rt : Rt wM v p l e R s m args below meth c 0 0 Q cX12_laysGlasses false none res) {k26 : Int32 → Int32 → Hp → Option Hp} (hk26 : ∀ (x1 : Int32) (x2 : Int32) (σ : Hp),  k26 x1 x2 σ = some res → Go wM v p l e R s m args below meth c 0 0 Q 7 26 [(0, .ref 0), (1, .int x1), (2, .int x2)] [] σ) (n : Nat) : ∀ {x1 : Int32} {x2 : Int32} {x3 : Int32} {σ : Hp},  L_M_laysGlasses_2  k26 n x1 x2 x3 σ = some res → Go wM v p l e R s m args below meth c 0 0 Q 7 2 [(0, .ref 0), (1, .int x1), (2, .int x2), (3, .int x3)] [] σ := by
  induction n with
  | zero => intro x1 x2 x3 σ  h; cases h
  | succ n ih =>
    intro x1 x2 x3 σ  h
    exact lkB_M_laysGlasses_2 hi xc nx X rt  hk26 (fun _ _ _ _  hh => ih  hh) h
set_option maxRecDepth 20000 in
theorem lkB_M_laysGlasses_80 (hi : zInj wM v) (xc : XC wM v) (nx : NXM v) (X : Cx wM v p R s m args c 0 0 cX12_laysGlasses 7 RX12 4) (rt : Rt wM v p l e R s m args below meth c 0 0 Q cX12_laysGlasses false none res) {k153 : Int32 → Int32 → Int32 → Int32 → Int32 → Hp → Option Hp} {k80 : Int32 → Int32 → Int32 → Int32 → Int32 → Int32 → Hp → Option Hp} {x1 : Int32} {x2 : Int32} {x3 : Int32} {x4 : Int32} {x5 : Int32} {x6 : Int32} {σ : Hp}  (hk153 : ∀ (x1 : Int32) (x2 : Int32) (x3 : Int32) (x4 : Int32) (x5 : Int32) (σ : Hp),  k153 x1 x2 x3 x4 x5 σ = some res → Go wM v p l e R s m args below meth c 0 0 Q 7 153 [(0, .ref 0), (1, .int x1), (2, .int x2), (3, .int x3), (4, .int x4), (5, .int x5)] [] σ) (hk80 : ∀ (x1 : Int32) (x2 : Int32) (x3 : Int32) (x4 : Int32) (x5 : Int32) (x6 : Int32) (σ : Hp),  k80 x1 x2 x3 x4 x5 x6 σ = some res → Go wM v p l e R s m args below meth c 0 0 Q 7 80 [(0, .ref 0), (1, .int x1), (2, .int x2), (3, .int x3), (4, .int x4), (5, .int x5), (6, .int x6)] [] σ) (h : B_M_laysGlasses_80  k153 k80 x1 x2 x3 x4 x5 x6 σ = some res) : Go wM v p l e R s m args below meth c 0 0 Q 7 80 [(0, .ref 0), (1, .int x1), (2, .int x2), (3, .int x3), (4, .int x4), (5, .int x5), (6, .int x6)] [] σ := by
  unfold B_M_laysGlasses_80 at h
  refine go_iload X 6 (dk dt_M_laysGlasses_2 12 rfl) rfl ?_
  refine go_bipush X (dk dt_M_laysGlasses_2 13 rfl) cb_8 ?_
  refine go_icmp_ge (tgt := 153) X (dk dt_M_laysGlasses_2 14 rfl) (by decide) h (fun h => ?_) (fun h => ?_)
  · refine go_sub [0, 1, 2, 3, 4, 5] rfl ?_
    exact hk153 _ _ _ _ _ _  h
  · refine go_iload_n X 1 (dk dt_M_laysGlasses_2 15 rfl) rfl rfl ?_
    refine go_iload_n X 3 (dk dt_M_laysGlasses_3 0 rfl) rfl rfl ?_
    refine go_Si (As := [.int x1, .int x3]) (rest := []) X so_X12_141 (fun q hq => ct_M_has hi xc nx  hq) (by decide) rfl rfl (Nat.le_of_ble_eq_true rfl) (dk dt_M_laysGlasses_3 1 rfl) h (fun q89 h => ?_)
    refine go_if_eq (tgt := 147) X (dk dt_M_laysGlasses_3 2 rfl) (by decide) h (fun h => ?_) (fun h => ?_)
    · refine go_iinc (lv' := [(6, .int (x6 + (1 : Int32))), (0, .ref 0), (1, .int x1), (2, .int x2), (3, .int x3), (4, .int x4), (5, .int x5)]) X 6 (dk dt_M_laysGlasses_5 2 rfl) rfl ci_1 (by decide) rfl ?_
      refine go_goto (tgt := 80) X (dk dt_M_laysGlasses_5 3 rfl) (by decide) ?_
      refine go_sub [1, 2, 3, 4, 5, 6, 0] rfl ?_
      exact hk80 _ _ _ _ _ _ _  h
    · refine go_iload_n X 2 (dk dt_M_laysGlasses_3 3 rfl) rfl rfl ?_
      refine go_iload X 4 (dk dt_M_laysGlasses_3 4 rfl) rfl ?_
      refine go_iconst X (dk dt_M_laysGlasses_3 5 rfl) ci_m1 ?_
      refine go_ixor X (dk dt_M_laysGlasses_3 6 rfl) ?_
      refine go_iand X (dk dt_M_laysGlasses_3 7 rfl) ?_
      refine go_iload X 6 (dk dt_M_laysGlasses_3 8 rfl) rfl ?_
      refine go_Si (As := [.int (x2 &&& (x4 ^^^ (-1 : Int32))), .int x6]) (rest := []) X so_X12_141 (fun q hq => ct_M_has hi xc nx  hq) (by decide) rfl rfl (Nat.le_of_ble_eq_true rfl) (dk dt_M_laysGlasses_3 9 rfl) h (fun q103 h => ?_)
      refine go_if_ne (tgt := 112) X (dk dt_M_laysGlasses_3 10 rfl) (by decide) h (fun h => ?_) (fun h => ?_)
      · refine go_iload X 5 (dk dt_M_laysGlasses_3 12 rfl) rfl ?_
        refine go_aload_n X 0 (dk dt_M_laysGlasses_3 13 rfl) rfl rfl ?_
        refine go_getr X fo_X12_89 lM_0 sM_0 fM_0_47 (dk dt_M_laysGlasses_3 14 rfl) ?_
        refine go_sipush X (dk dt_M_laysGlasses_3 15 rfl) cs_256 ?_
        refine go_iload_n X 3 (dk dt_M_laysGlasses_4 0 rfl) rfl rfl ?_
        refine go_iconst X (dk dt_M_laysGlasses_4 1 rfl) ci_1 ?_
        refine go_iadd X (dk dt_M_laysGlasses_4 2 rfl) ?_
        refine go_imul X (dk dt_M_laysGlasses_4 3 rfl) ?_
        refine go_iload X 4 (dk dt_M_laysGlasses_4 4 rfl) rfl ?_
        refine go_iconst X (dk dt_M_laysGlasses_4 5 rfl) ci_1 ?_
        refine go_iload X 6 (dk dt_M_laysGlasses_4 6 rfl) rfl ?_
        refine go_ishl X (dk dt_M_laysGlasses_4 7 rfl) ?_
        refine go_ior X (dk dt_M_laysGlasses_4 8 rfl) ?_
        refine go_iadd X (dk dt_M_laysGlasses_4 9 rfl) ?_
        refine go_iald X lM_27 sM_27 (dk dt_M_laysGlasses_4 10 rfl) h (fun h => ?_)
        refine go_iload_n X 3 (dk dt_M_laysGlasses_4 11 rfl) rfl rfl ?_
        refine go_iload X 6 (dk dt_M_laysGlasses_4 12 rfl) rfl ?_
        refine go_isub X (dk dt_M_laysGlasses_4 13 rfl) ?_
        refine go_Si (As := [.int (x3 - x6)]) (rest := [.int (q103.2 27 (Int32.toNatClampNeg (((256 : Int32) * (x3 + (1 : Int32))) + (x4 ||| ((1 : Int32) <<< (x6 &&& 31)))))), .int x5]) X so_X12_384 (fun q hq => ct_M_size hi xc nx  hq) (by decide) rfl rfl (Nat.le_of_ble_eq_true rfl) (dk dt_M_laysGlasses_4 14 rfl) h (fun q138 h => ?_)
        refine go_iadd X (dk dt_M_laysGlasses_4 15 rfl) ?_
        refine go_Si (As := [.int x5, .int ((q103.2 27 (Int32.toNatClampNeg (((256 : Int32) * (x3 + (1 : Int32))) + (x4 ||| ((1 : Int32) <<< (x6 &&& 31)))))) + q138.1)]) (rest := []) X so_X12_270 (fun q hq => ct_M_min hi xc nx  hq) (by decide) rfl rfl (Nat.le_of_ble_eq_true rfl) (dk dt_M_laysGlasses_5 0 rfl) h (fun q142 h => ?_)
        refine go_istore (lv' := [(5, .int q142.1), (0, .ref 0), (1, .int x1), (2, .int x2), (3, .int x3), (4, .int x4), (6, .int x6)]) X (dk dt_M_laysGlasses_5 1 rfl) (by decide) rfl ?_
        refine go_iinc (lv' := [(6, .int (x6 + (1 : Int32))), (5, .int q142.1), (0, .ref 0), (1, .int x1), (2, .int x2), (3, .int x3), (4, .int x4)]) X 6 (dk dt_M_laysGlasses_5 2 rfl) rfl ci_1 (by decide) rfl ?_
        refine go_goto (tgt := 80) X (dk dt_M_laysGlasses_5 3 rfl) (by decide) ?_
        refine go_sub [2, 3, 4, 5, 6, 1, 0] rfl ?_
        exact hk80 _ _ _ _ _ _ _  h
      · refine go_goto (tgt := 147) X (dk dt_M_laysGlasses_3 11 rfl) (by decide) ?_
        refine go_iinc (lv' := [(6, .int (x6 + (1 : Int32))), (0, .ref 0), (1, .int x1), (2, .int x2), (3, .int x3), (4, .int x4), (5, .int x5)]) X 6 (dk dt_M_laysGlasses_5 2 rfl) rfl ci_1 (by decide) rfl ?_
        refine go_goto (tgt := 80) X (dk dt_M_laysGlasses_5 3 rfl) (by decide) ?_
        refine go_sub [1, 2, 3, 4, 5, 6, 0] rfl ?_
        exact hk80 _ _ _ _ _ _ _  h
set_option maxRecDepth 20000 in
theorem lkL_M_laysGlasses_80 (hi : zInj wM v) (xc : XC wM v) (nx : NXM v) (X : Cx wM v p R s m args c 0 0 cX12_laysGlasses 7 RX12 4) (rt : Rt wM v p l e R s m args below meth c 0 0 Q cX12_laysGlasses false none res) {k153 : Int32 → Int32 → Int32 → Int32 → Int32 → Hp → Option Hp} (hk153 : ∀ (x1 : Int32) (x2 : Int32) (x3 : Int32) (x4 : Int32) (x5 : Int32) (σ : Hp),  k153 x1 x2 x3 x4 x5 σ = some res → Go wM v p l e R s m args below meth c 0 0 Q 7 153 [(0, .ref 0), (1, .int x1), (2, .int x2), (3, .int x3), (4, .int x4), (5, .int x5)] [] σ) (n : Nat) : ∀ {x1 : Int32} {x2 : Int32} {x3 : Int32} {x4 : Int32} {x5 : Int32} {x6 : Int32} {σ : Hp},  L_M_laysGlasses_80  k153 n x1 x2 x3 x4 x5 x6 σ = some res → Go wM v p l e R s m args below meth c 0 0 Q 7 80 [(0, .ref 0), (1, .int x1), (2, .int x2), (3, .int x3), (4, .int x4), (5, .int x5), (6, .int x6)] [] σ := by
  induction n with
  | zero => intro x1 x2 x3 x4 x5 x6 σ  h; cases h
  | succ n ih =>
    intro x1 x2 x3 x4 x5 x6 σ  h
    exact lkB_M_laysGlasses_80 hi xc nx X rt  hk153 (fun _ _ _ _ _ _ _  hh => ih  hh) h
set_option maxRecDepth 20000 in
theorem lkJ_M_laysGlasses_153 (hi : zInj wM v) (xc : XC wM v) (nx : NXM v) (X : Cx wM v p R s m args c 0 0 cX12_laysGlasses 7 RX12 4) (rt : Rt wM v p l e R s m args below meth c 0 0 Q cX12_laysGlasses false none res) {k36 : Int32 → Int32 → Int32 → Int32 → Hp → Option Hp} {x1 : Int32} {x2 : Int32} {x3 : Int32} {x4 : Int32} {x5 : Int32} {σ : Hp}  (hk36 : ∀ (x1 : Int32) (x2 : Int32) (x3 : Int32) (x4 : Int32) (σ : Hp),  k36 x1 x2 x3 x4 σ = some res → Go wM v p l e R s m args below meth c 0 0 Q 7 36 [(0, .ref 0), (1, .int x1), (2, .int x2), (3, .int x3), (4, .int x4)] [] σ) (h : J_M_laysGlasses_153  k36 x1 x2 x3 x4 x5 σ = some res) : Go wM v p l e R s m args below meth c 0 0 Q 7 153 [(0, .ref 0), (1, .int x1), (2, .int x2), (3, .int x3), (4, .int x4), (5, .int x5)] [] σ := by
  unfold J_M_laysGlasses_153 at h
  refine go_aload_n X 0 (dk dt_M_laysGlasses_5 4 rfl) rfl rfl ?_
  refine go_getr X fo_X12_89 lM_0 sM_0 fM_0_47 (dk dt_M_laysGlasses_5 5 rfl) ?_
  refine go_sipush X (dk dt_M_laysGlasses_5 6 rfl) cs_256 ?_
  refine go_iload_n X 3 (dk dt_M_laysGlasses_5 7 rfl) rfl rfl ?_
  refine go_imul X (dk dt_M_laysGlasses_5 8 rfl) ?_
  refine go_iload X 4 (dk dt_M_laysGlasses_5 9 rfl) rfl ?_
  refine go_iadd X (dk dt_M_laysGlasses_5 10 rfl) ?_
  refine go_iload X 5 (dk dt_M_laysGlasses_5 11 rfl) rfl ?_
  refine go_iast X lM_27 sM_27 (dk dt_M_laysGlasses_5 12 rfl) h (fun h => ?_)
  refine go_iinc (lv' := [(4, .int (x4 + (1 : Int32))), (0, .ref 0), (1, .int x1), (2, .int x2), (3, .int x3), (5, .int x5)]) X 4 (dk dt_M_laysGlasses_5 13 rfl) rfl ci_1 (by decide) rfl ?_
  refine go_goto (tgt := 36) X (dk dt_M_laysGlasses_5 14 rfl) (by decide) ?_
  refine go_sub [1, 2, 3, 4, 0] rfl ?_
  exact hk36 _ _ _ _ _  h
set_option maxRecDepth 20000 in
theorem lkB_M_laysGlasses_36 (hi : zInj wM v) (xc : XC wM v) (nx : NXM v) (X : Cx wM v p R s m args c 0 0 cX12_laysGlasses 7 RX12 4) (rt : Rt wM v p l e R s m args below meth c 0 0 Q cX12_laysGlasses false none res) {k174 : Int32 → Int32 → Int32 → Hp → Option Hp} {k36 : Int32 → Int32 → Int32 → Int32 → Hp → Option Hp} {x1 : Int32} {x2 : Int32} {x3 : Int32} {x4 : Int32} {σ : Hp}  (hk174 : ∀ (x1 : Int32) (x2 : Int32) (x3 : Int32) (σ : Hp),  k174 x1 x2 x3 σ = some res → Go wM v p l e R s m args below meth c 0 0 Q 7 174 [(0, .ref 0), (1, .int x1), (2, .int x2), (3, .int x3)] [] σ) (hk36 : ∀ (x1 : Int32) (x2 : Int32) (x3 : Int32) (x4 : Int32) (σ : Hp),  k36 x1 x2 x3 x4 σ = some res → Go wM v p l e R s m args below meth c 0 0 Q 7 36 [(0, .ref 0), (1, .int x1), (2, .int x2), (3, .int x3), (4, .int x4)] [] σ) (h : B_M_laysGlasses_36  k174 k36 x1 x2 x3 x4 σ = some res) : Go wM v p l e R s m args below meth c 0 0 Q 7 36 [(0, .ref 0), (1, .int x1), (2, .int x2), (3, .int x3), (4, .int x4)] [] σ := by
  unfold B_M_laysGlasses_36 at h
  refine go_iload X 4 (dk dt_M_laysGlasses_1 4 rfl) rfl ?_
  refine go_sipush X (dk dt_M_laysGlasses_1 5 rfl) cs_256 ?_
  refine go_icmp_ge (tgt := 174) X (dk dt_M_laysGlasses_1 6 rfl) (by decide) h (fun h => ?_) (fun h => ?_)
  · refine go_sub [0, 1, 2, 3] rfl ?_
    exact hk174 _ _ _ _  h
  · refine go_aload_n X 0 (dk dt_M_laysGlasses_1 7 rfl) rfl rfl ?_
    refine go_getr X fo_X12_89 lM_0 sM_0 fM_0_47 (dk dt_M_laysGlasses_1 8 rfl) ?_
    refine go_sipush X (dk dt_M_laysGlasses_1 9 rfl) cs_256 ?_
    refine go_iload_n X 3 (dk dt_M_laysGlasses_1 10 rfl) rfl rfl ?_
    refine go_iconst X (dk dt_M_laysGlasses_1 11 rfl) ci_1 ?_
    refine go_iadd X (dk dt_M_laysGlasses_1 12 rfl) ?_
    refine go_imul X (dk dt_M_laysGlasses_1 13 rfl) ?_
    refine go_iload X 4 (dk dt_M_laysGlasses_1 14 rfl) rfl ?_
    refine go_iadd X (dk dt_M_laysGlasses_1 15 rfl) ?_
    refine go_iald X lM_27 sM_27 (dk dt_M_laysGlasses_2 0 rfl) h (fun h => ?_)
    refine go_iload_n X 1 (dk dt_M_laysGlasses_2 1 rfl) rfl rfl ?_
    refine go_iload_n X 3 (dk dt_M_laysGlasses_2 2 rfl) rfl rfl ?_
    refine go_Si (As := [.int x1, .int x3]) (rest := [.int (σ 27 (Int32.toNatClampNeg (((256 : Int32) * (x3 + (1 : Int32))) + x4)))]) X so_X12_141 (fun q hq => ct_M_has hi xc nx  hq) (by decide) rfl rfl (Nat.le_of_ble_eq_true rfl) (dk dt_M_laysGlasses_2 3 rfl) h (fun q61 h => ?_)
    refine go_if_eq (tgt := 73) X (dk dt_M_laysGlasses_2 4 rfl) (by decide) h (fun h => ?_) (fun h => ?_)
    · refine go_iconst X (dk dt_M_laysGlasses_2 7 rfl) ci_0 ?_
      refine go_iadd X (dk dt_M_laysGlasses_2 8 rfl) ?_
      refine go_istore (lv' := [(5, .int ((σ 27 (Int32.toNatClampNeg (((256 : Int32) * (x3 + (1 : Int32))) + x4))) + (0 : Int32))), (0, .ref 0), (1, .int x1), (2, .int x2), (3, .int x3), (4, .int x4)]) X (dk dt_M_laysGlasses_2 9 rfl) (by decide) rfl ?_
      refine go_iconst X (dk dt_M_laysGlasses_2 10 rfl) ci_0 ?_
      refine go_istore (lv' := [(6, .int (0 : Int32)), (5, .int ((σ 27 (Int32.toNatClampNeg (((256 : Int32) * (x3 + (1 : Int32))) + x4))) + (0 : Int32))), (0, .ref 0), (1, .int x1), (2, .int x2), (3, .int x3), (4, .int x4)]) X (dk dt_M_laysGlasses_2 11 rfl) (by decide) rfl ?_
      refine go_sub [2, 3, 4, 5, 6, 1, 0] rfl ?_
      exact lkL_M_laysGlasses_80 hi xc nx X rt (fun _ _ _ _ _ _  hh => lkJ_M_laysGlasses_153 hi xc nx X rt  hk36 hh) FU  h
    · refine go_sipush X (dk dt_M_laysGlasses_2 5 rfl) cs_1000 ?_
      refine go_goto (tgt := 74) X (dk dt_M_laysGlasses_2 6 rfl) (by decide) ?_
      refine go_iadd X (dk dt_M_laysGlasses_2 8 rfl) ?_
      refine go_istore (lv' := [(5, .int ((σ 27 (Int32.toNatClampNeg (((256 : Int32) * (x3 + (1 : Int32))) + x4))) + (1000 : Int32))), (0, .ref 0), (1, .int x1), (2, .int x2), (3, .int x3), (4, .int x4)]) X (dk dt_M_laysGlasses_2 9 rfl) (by decide) rfl ?_
      refine go_iconst X (dk dt_M_laysGlasses_2 10 rfl) ci_0 ?_
      refine go_istore (lv' := [(6, .int (0 : Int32)), (5, .int ((σ 27 (Int32.toNatClampNeg (((256 : Int32) * (x3 + (1 : Int32))) + x4))) + (1000 : Int32))), (0, .ref 0), (1, .int x1), (2, .int x2), (3, .int x3), (4, .int x4)]) X (dk dt_M_laysGlasses_2 11 rfl) (by decide) rfl ?_
      refine go_sub [2, 3, 4, 5, 6, 1, 0] rfl ?_
      exact lkL_M_laysGlasses_80 hi xc nx X rt (fun _ _ _ _ _ _  hh => lkJ_M_laysGlasses_153 hi xc nx X rt  hk36 hh) FU  h
set_option maxRecDepth 20000 in
theorem lkL_M_laysGlasses_36 (hi : zInj wM v) (xc : XC wM v) (nx : NXM v) (X : Cx wM v p R s m args c 0 0 cX12_laysGlasses 7 RX12 4) (rt : Rt wM v p l e R s m args below meth c 0 0 Q cX12_laysGlasses false none res) {k174 : Int32 → Int32 → Int32 → Hp → Option Hp} (hk174 : ∀ (x1 : Int32) (x2 : Int32) (x3 : Int32) (σ : Hp),  k174 x1 x2 x3 σ = some res → Go wM v p l e R s m args below meth c 0 0 Q 7 174 [(0, .ref 0), (1, .int x1), (2, .int x2), (3, .int x3)] [] σ) (n : Nat) : ∀ {x1 : Int32} {x2 : Int32} {x3 : Int32} {x4 : Int32} {σ : Hp},  L_M_laysGlasses_36  k174 n x1 x2 x3 x4 σ = some res → Go wM v p l e R s m args below meth c 0 0 Q 7 36 [(0, .ref 0), (1, .int x1), (2, .int x2), (3, .int x3), (4, .int x4)] [] σ := by
  induction n with
  | zero => intro x1 x2 x3 x4 σ  h; cases h
  | succ n ih =>
    intro x1 x2 x3 x4 σ  h
    exact lkB_M_laysGlasses_36 hi xc nx X rt  hk174 (fun _ _ _ _ _  hh => ih  hh) h
set_option maxRecDepth 20000 in
theorem lkJ_M_laysGlasses_174 (hi : zInj wM v) (xc : XC wM v) (nx : NXM v) (X : Cx wM v p R s m args c 0 0 cX12_laysGlasses 7 RX12 4) (rt : Rt wM v p l e R s m args below meth c 0 0 Q cX12_laysGlasses false none res) {k29 : Int32 → Int32 → Int32 → Hp → Option Hp} {x1 : Int32} {x2 : Int32} {x3 : Int32} {σ : Hp}  (hk29 : ∀ (x1 : Int32) (x2 : Int32) (x3 : Int32) (σ : Hp),  k29 x1 x2 x3 σ = some res → Go wM v p l e R s m args below meth c 0 0 Q 7 29 [(0, .ref 0), (1, .int x1), (2, .int x2), (3, .int x3)] [] σ) (h : J_M_laysGlasses_174  k29 x1 x2 x3 σ = some res) : Go wM v p l e R s m args below meth c 0 0 Q 7 174 [(0, .ref 0), (1, .int x1), (2, .int x2), (3, .int x3)] [] σ := by
  unfold J_M_laysGlasses_174 at h
  refine go_iinc (lv' := [(3, .int (x3 + (-1 : Int32))), (0, .ref 0), (1, .int x1), (2, .int x2)]) X 3 (dk dt_M_laysGlasses_5 15 rfl) rfl ci_m1 (by decide) rfl ?_
  refine go_goto (tgt := 29) X (dk dt_M_laysGlasses_6 0 rfl) (by decide) ?_
  refine go_sub [1, 2, 3, 0] rfl ?_
  exact hk29 _ _ _ _  h
set_option maxRecDepth 20000 in
theorem lkB_M_laysGlasses_29 (hi : zInj wM v) (xc : XC wM v) (nx : NXM v) (X : Cx wM v p R s m args c 0 0 cX12_laysGlasses 7 RX12 4) (rt : Rt wM v p l e R s m args below meth c 0 0 Q cX12_laysGlasses false none res) {k29 : Int32 → Int32 → Int32 → Hp → Option Hp} {x1 : Int32} {x2 : Int32} {x3 : Int32} {σ : Hp}  (hk29 : ∀ (x1 : Int32) (x2 : Int32) (x3 : Int32) (σ : Hp),  k29 x1 x2 x3 σ = some res → Go wM v p l e R s m args below meth c 0 0 Q 7 29 [(0, .ref 0), (1, .int x1), (2, .int x2), (3, .int x3)] [] σ) (h : B_M_laysGlasses_29  k29 x1 x2 x3 σ = some res) : Go wM v p l e R s m args below meth c 0 0 Q 7 29 [(0, .ref 0), (1, .int x1), (2, .int x2), (3, .int x3)] [] σ := by
  unfold B_M_laysGlasses_29 at h
  refine go_iload_n X 3 (dk dt_M_laysGlasses_1 0 rfl) rfl rfl ?_
  refine go_if_lt (tgt := 180) X (dk dt_M_laysGlasses_1 1 rfl) (by decide) h (fun h => ?_) (fun h => ?_)
  · exact go_vret rt (dk dt_M_laysGlasses_6 1 rfl) h
  · refine go_iconst X (dk dt_M_laysGlasses_1 2 rfl) ci_0 ?_
    refine go_istore (lv' := [(4, .int (0 : Int32)), (0, .ref 0), (1, .int x1), (2, .int x2), (3, .int x3)]) X (dk dt_M_laysGlasses_1 3 rfl) (by decide) rfl ?_
    refine go_sub [1, 2, 3, 4, 0] rfl ?_
    exact lkL_M_laysGlasses_36 hi xc nx X rt (fun _ _ _ _  hh => lkJ_M_laysGlasses_174 hi xc nx X rt  hk29 hh) FU  h
set_option maxRecDepth 20000 in
theorem lkL_M_laysGlasses_29 (hi : zInj wM v) (xc : XC wM v) (nx : NXM v) (X : Cx wM v p R s m args c 0 0 cX12_laysGlasses 7 RX12 4) (rt : Rt wM v p l e R s m args below meth c 0 0 Q cX12_laysGlasses false none res)   (n : Nat) : ∀ {x1 : Int32} {x2 : Int32} {x3 : Int32} {σ : Hp},  L_M_laysGlasses_29   n x1 x2 x3 σ = some res → Go wM v p l e R s m args below meth c 0 0 Q 7 29 [(0, .ref 0), (1, .int x1), (2, .int x2), (3, .int x3)] [] σ := by
  induction n with
  | zero => intro x1 x2 x3 σ  h; cases h
  | succ n ih =>
    intro x1 x2 x3 σ  h
    exact lkB_M_laysGlasses_29 hi xc nx X rt  (fun _ _ _ _  hh => ih  hh) h
set_option maxRecDepth 20000 in
theorem lkJ_M_laysGlasses_26 (hi : zInj wM v) (xc : XC wM v) (nx : NXM v) (X : Cx wM v p R s m args c 0 0 cX12_laysGlasses 7 RX12 4) (rt : Rt wM v p l e R s m args below meth c 0 0 Q cX12_laysGlasses false none res)  {x1 : Int32} {x2 : Int32} {σ : Hp}   (h : J_M_laysGlasses_26   x1 x2 σ = some res) : Go wM v p l e R s m args below meth c 0 0 Q 7 26 [(0, .ref 0), (1, .int x1), (2, .int x2)] [] σ := by
  unfold J_M_laysGlasses_26 at h
  refine go_bipush X (dk dt_M_laysGlasses_0 14 rfl) cb_7 ?_
  refine go_istore_n (lv' := [(3, .int (7 : Int32)), (0, .ref 0), (1, .int x1), (2, .int x2)]) X (dk dt_M_laysGlasses_0 15 rfl) rfl (by decide) rfl ?_
  refine go_sub [1, 2, 3, 0] rfl ?_
  exact lkL_M_laysGlasses_29 hi xc nx X rt  FU  h
set_option maxRecDepth 20000 in
theorem lkF_M_laysGlasses (hi : zInj wM v) (xc : XC wM v) (nx : NXM v) (X : Cx wM v p R s m args c 0 0 cX12_laysGlasses 7 RX12 4) (rt : Rt wM v p l e R s m args below meth c 0 0 Q cX12_laysGlasses false none res) {a1 : Int32} {a2 : Int32} {σ : Hp}  (h : F_M_laysGlasses  a1 a2 σ = some res) : Go wM v p l e R s m args below meth c 0 0 Q 7 0 [(0, .ref 0), (1, .int a1), (2, .int a2)] [] σ := by
  unfold F_M_laysGlasses at h
  refine go_iconst X (dk dt_M_laysGlasses_0 0 rfl) ci_0 ?_
  refine go_istore_n (lv' := [(3, .int (0 : Int32)), (0, .ref 0), (1, .int a1), (2, .int a2)]) X (dk dt_M_laysGlasses_0 1 rfl) rfl (by decide) rfl ?_
  refine go_sub [1, 2, 3, 0] rfl ?_
  exact lkL_M_laysGlasses_2 hi xc nx X rt (fun _ _ _  hh => lkJ_M_laysGlasses_26 hi xc nx X rt   hh) FU  h
set_option maxRecDepth 20000 in
theorem ct_M_laysGlasses (hi : zInj wM v) (xc : XC wM v) (nx : NXM v)  {a1 : Int32} {a2 : Int32} {σ : Hp}  {q : Hp} (h : F_M_laysGlasses  a1 a2 σ = some q) : Ct wM v l yX12_laysGlasses cX12_laysGlasses 7 none 4 [.ref 0, .int a1, .int a2] σ none q :=
  Ct.intro false (by decide) hi xc (Nat.le_of_ble_eq_true rfl) rfl (fun p e R s m args below meth c Q X rt => lkF_M_laysGlasses hi xc nx X rt  h)
end
