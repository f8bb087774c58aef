def T_M_tried_0 : DT := [(0, .iload_n 1, 1), (1, .iconst 1, 1), (2, .bipush 120, 2), (4, .invokestatic 122, 3), (7, .ifCond .eq 58, 3), (10, .iload_n 2, 1), (11, .iconst 0, 1), (12, .iconst 3, 1), (13, .invokestatic 122, 3), (16, .ifCond .ne 51, 3), (19, .iload_n 2, 1), (20, .bipush 10, 2), (22, .bipush 17, 2), (24, .invokestatic 122, 3), (27, .ifCond .eq 15, 3), (30, .aload_n 0, 1)]
theorem dt_M_tried_0 : dOk cX12_tried T_M_tried_0 := by unfold dOk; decide +kernel
def T_M_tried_1 : DT := [(31, .iconst 0, 1), (32, .iload_n 2, 1), (33, .bipush 10, 2), (35, .isub, 1), (36, .invokevirtual 285, 3), (39, .ifCond .ne 28, 3), (42, .iload_n 2, 1), (43, .bipush 20, 2), (45, .bipush 27, 2), (47, .invokestatic 122, 3), (50, .ifCond .eq 15, 3), (53, .aload_n 0, 1), (54, .iconst 1, 1), (55, .iload_n 2, 1), (56, .bipush 20, 2), (58, .isub, 1)]
theorem dt_M_tried_1 : dOk cX12_tried T_M_tried_1 := by unfold dOk; decide +kernel
def T_M_tried_2 : DT := [(59, .invokevirtual 285, 3), (62, .ifCond .ne 5, 3), (65, .iconst (-1), 1), (66, .ireturn, 1), (67, .aload_n 0, 1), (68, .iload_n 1, 1), (69, .invokevirtual 371, 3), (72, .iload_n 2, 1), (73, .ifCond .ne 10, 3), (76, .aload_n 0, 1), (77, .getfield 319, 3), (80, .goto 67, 3), (83, .iload_n 2, 1), (84, .iconst 1, 1), (85, .if_icmp .ne 10, 3), (88, .aload_n 0, 1)]
theorem dt_M_tried_2 : dOk cX12_tried T_M_tried_2 := by unfold dOk; decide +kernel
def T_M_tried_3 : DT := [(89, .getfield 353, 3), (92, .goto 55, 3), (95, .iload_n 2, 1), (96, .iconst 2, 1), (97, .if_icmp .ne 10, 3), (100, .aload_n 0, 1), (101, .getfield 341, 3), (104, .goto 43, 3), (107, .iload_n 2, 1), (108, .iconst 3, 1), (109, .if_icmp .ne 13, 3), (112, .aload_n 0, 1), (113, .getfield 7, 3), (116, .bipush 98, 2), (118, .iaload, 1), (119, .goto 28, 3)]
theorem dt_M_tried_3 : dOk cX12_tried T_M_tried_3 := by unfold dOk; decide +kernel
def T_M_tried_4 : DT := [(122, .aload_n 0, 1), (123, .getfield 7, 3), (126, .bipush 32, 2), (128, .iload_n 2, 1), (129, .bipush 20, 2), (131, .if_icmp .ge 10, 3), (134, .iload_n 2, 1), (135, .bipush 10, 2), (137, .isub, 1), (138, .goto 7, 3), (141, .iload_n 2, 1), (142, .bipush 12, 2), (144, .isub, 1), (145, .iadd, 1), (146, .iaload, 1), (147, .istore_n 3, 1)]
theorem dt_M_tried_4 : dOk cX12_tried T_M_tried_4 := by unfold dOk; decide +kernel
def T_M_tried_5 : DT := [(148, .aload_n 0, 1), (149, .getfield 13, 3), (152, .aload_n 0, 1), (153, .getfield 7, 3), (156, .invokestatic 291, 3), (159, .iload_n 3, 1), (160, .ireturn, 1)]
theorem dt_M_tried_5 : dOk cX12_tried T_M_tried_5 := by unfold dOk; decide +kernel
section
variable {v : ZV} {l : Launch} {p : Program} {e : Env} {R : Room} {s : State} {m : MethodId} {args : Array Value} {below : List Frame} {meth : Method} {c : Code} {Q : State → Prop} {res : (Int32 × Hp)} 
set_option maxRecDepth 20000 in
theorem lkJ_M_tried_147 (hi : zInj wM v) (xc : XC wM v) (nx : NXM v) (X : Cx wM v p R s m args c 0 0 cX12_tried 4 RX12 18) (rt : Rt wM v p l e R s m args below meth c 0 0 Q cX12_tried false (some (.int res.1)) res.2)  {s0 : Int32} {σ : Hp}   (h : J_M_tried_147   s0 σ = some res) : Go wM v p l e R s m args below meth c 0 0 Q 4 147 [(0, .ref 0)] [.int s0] σ := by
  unfold J_M_tried_147 at h
  refine go_istore_n (lv' := [(3, .int s0), (0, .ref 0)]) X (dk dt_M_tried_4 15 rfl) rfl (by decide) rfl ?_
  refine go_aload_n X 1 (dk dt_M_tried_5 0 rfl) rfl rfl ?_
  refine go_getr X fo_X12_13 lM_0 sM_0 fM_0_1 (dk dt_M_tried_5 1 rfl) ?_
  refine go_aload_n X 1 (dk dt_M_tried_5 2 rfl) rfl rfl ?_
  refine go_getr X fo_X12_7 lM_0 sM_0 fM_0_0 (dk dt_M_tried_5 3 rfl) ?_
  refine go_Sv (As := [.ref 2, .ref 1]) (rest := []) X so_X12_291 (fun q hq => ct_M_copies hi xc nx lM_2 sM_2 lM_1 sM_1 hq) (by decide) rfl rfl (Nat.le_of_ble_eq_true rfl) (dk dt_M_tried_5 4 rfl) h (fun q156 h => ?_)
  refine go_iload_n X 0 (dk dt_M_tried_5 5 rfl) rfl rfl ?_
  exact go_iret rt (dk dt_M_tried_5 6 rfl) h (fun hh => nomatch hh)
set_option maxRecDepth 20000 in
theorem lkJ_M_tried_145 (hi : zInj wM v) (xc : XC wM v) (nx : NXM v) (X : Cx wM v p R s m args c 0 0 cX12_tried 4 RX12 18) (rt : Rt wM v p l e R s m args below meth c 0 0 Q cX12_tried false (some (.int res.1)) res.2)  {s0 : Int32} {s1 : Int32} {σ : Hp}   (h : J_M_tried_145   s0 s1 σ = some res) : Go wM v p l e R s m args below meth c 0 0 Q 4 145 [(0, .ref 0)] [.int s0, .int s1, .ref 1] σ := by
  unfold J_M_tried_145 at h
  refine go_iadd X (dk dt_M_tried_4 13 rfl) ?_
  refine go_iald X lM_1 sM_1 (dk dt_M_tried_4 14 rfl) h (fun h => ?_)
  exact lkJ_M_tried_147 hi xc nx X rt   h
set_option maxRecDepth 20000 in
theorem lkJ_M_tried_67 (hi : zInj wM v) (xc : XC wM v) (nx : NXM v) (X : Cx wM v p R s m args c 0 0 cX12_tried 4 RX12 18) (rt : Rt wM v p l e R s m args below meth c 0 0 Q cX12_tried false (some (.int res.1)) res.2)  {x1 : Int32} {x2 : Int32} {σ : Hp}   (h : J_M_tried_67   x1 x2 σ = some res) : Go wM v p l e R s m args below meth c 0 0 Q 4 67 [(0, .ref 0), (1, .int x1), (2, .int x2)] [] σ := by
  unfold J_M_tried_67 at h
  refine go_aload_n X 0 (dk dt_M_tried_2 4 rfl) rfl rfl ?_
  refine go_iload_n X 1 (dk dt_M_tried_2 5 rfl) rfl rfl ?_
  refine go_Vv (As := [.int x1]) (rest := []) X vo_X12_371 (fun q hq => ct_M_triesWatches hi xc nx  hq) (by decide) rfl lM_0 sM_0 rfl rfl (Nat.le_of_ble_eq_true rfl) (dk dt_M_tried_2 6 rfl) h (fun q69 h => ?_)
  refine go_iload_n X 2 (dk dt_M_tried_2 7 rfl) rfl rfl ?_
  refine go_if_ne (tgt := 83) X (dk dt_M_tried_2 8 rfl) (by decide) h (fun h => ?_) (fun h => ?_)
  · refine go_iload_n X 2 (dk dt_M_tried_2 12 rfl) rfl rfl ?_
    refine go_iconst X (dk dt_M_tried_2 13 rfl) ci_1 ?_
    refine go_icmp_ne (tgt := 95) X (dk dt_M_tried_2 14 rfl) (by decide) h (fun h => ?_) (fun h => ?_)
    · refine go_iload_n X 2 (dk dt_M_tried_3 2 rfl) rfl rfl ?_
      refine go_iconst X (dk dt_M_tried_3 3 rfl) ci_2 ?_
      refine go_icmp_ne (tgt := 107) X (dk dt_M_tried_3 4 rfl) (by decide) h (fun h => ?_) (fun h => ?_)
      · refine go_iload_n X 2 (dk dt_M_tried_3 8 rfl) rfl rfl ?_
        refine go_iconst X (dk dt_M_tried_3 9 rfl) ci_3 ?_
        refine go_icmp_ne (tgt := 122) X (dk dt_M_tried_3 10 rfl) (by decide) h (fun h => ?_) (fun h => ?_)
        · refine go_aload_n X 0 (dk dt_M_tried_4 0 rfl) rfl rfl ?_
          refine go_getr X fo_X12_7 lM_0 sM_0 fM_0_0 (dk dt_M_tried_4 1 rfl) ?_
          refine go_bipush X (dk dt_M_tried_4 2 rfl) cb_32 ?_
          refine go_iload_n X 2 (dk dt_M_tried_4 3 rfl) rfl rfl ?_
          refine go_bipush X (dk dt_M_tried_4 4 rfl) cb_20 ?_
          refine go_icmp_ge (tgt := 141) X (dk dt_M_tried_4 5 rfl) (by decide) h (fun h => ?_) (fun h => ?_)
          · refine go_iload_n X 2 (dk dt_M_tried_4 10 rfl) rfl rfl ?_
            refine go_bipush X (dk dt_M_tried_4 11 rfl) cb_12 ?_
            refine go_isub X (dk dt_M_tried_4 12 rfl) ?_
            refine go_sub [0] rfl ?_
            exact lkJ_M_tried_145 hi xc nx X rt   h
          · refine go_iload_n X 2 (dk dt_M_tried_4 6 rfl) rfl rfl ?_
            refine go_bipush X (dk dt_M_tried_4 7 rfl) cb_10 ?_
            refine go_isub X (dk dt_M_tried_4 8 rfl) ?_
            refine go_goto (tgt := 145) X (dk dt_M_tried_4 9 rfl) (by decide) ?_
            refine go_sub [0] rfl ?_
            exact lkJ_M_tried_145 hi xc nx X rt   h
        · refine go_aload_n X 0 (dk dt_M_tried_3 11 rfl) rfl rfl ?_
          refine go_getr X fo_X12_7 lM_0 sM_0 fM_0_0 (dk dt_M_tried_3 12 rfl) ?_
          refine go_bipush X (dk dt_M_tried_3 13 rfl) cb_98 ?_
          refine go_iald X lM_1 sM_1 (dk dt_M_tried_3 14 rfl) h (fun h => ?_)
          refine go_goto (tgt := 147) X (dk dt_M_tried_3 15 rfl) (by decide) ?_
          refine go_sub [0] rfl ?_
          exact lkJ_M_tried_147 hi xc nx X rt   h
      · refine go_aload_n X 0 (dk dt_M_tried_3 5 rfl) rfl rfl ?_
        refine go_geti X fo_X12_341 lM_0 sM_0 fM_0_42 (dk dt_M_tried_3 6 rfl) ?_
        refine go_goto (tgt := 147) X (dk dt_M_tried_3 7 rfl) (by decide) ?_
        refine go_sub [0] rfl ?_
        exact lkJ_M_tried_147 hi xc nx X rt   h
    · refine go_aload_n X 0 (dk dt_M_tried_2 15 rfl) rfl rfl ?_
      refine go_geti X fo_X12_353 lM_0 sM_0 fM_0_41 (dk dt_M_tried_3 0 rfl) ?_
      refine go_goto (tgt := 147) X (dk dt_M_tried_3 1 rfl) (by decide) ?_
      refine go_sub [0] rfl ?_
      exact lkJ_M_tried_147 hi xc nx X rt   h
  · refine go_aload_n X 0 (dk dt_M_tried_2 9 rfl) rfl rfl ?_
    refine go_geti X fo_X12_319 lM_0 sM_0 fM_0_40 (dk dt_M_tried_2 10 rfl) ?_
    refine go_goto (tgt := 147) X (dk dt_M_tried_2 11 rfl) (by decide) ?_
    refine go_sub [0] rfl ?_
    exact lkJ_M_tried_147 hi xc nx X rt   h
set_option maxRecDepth 20000 in
theorem lkJ_M_tried_42 (hi : zInj wM v) (xc : XC wM v) (nx : NXM v) (X : Cx wM v p R s m args c 0 0 cX12_tried 4 RX12 18) (rt : Rt wM v p l e R s m args below meth c 0 0 Q cX12_tried false (some (.int res.1)) res.2)  {x1 : Int32} {x2 : Int32} {σ : Hp}   (h : J_M_tried_42   x1 x2 σ = some res) : Go wM v p l e R s m args below meth c 0 0 Q 4 42 [(0, .ref 0), (1, .int x1), (2, .int x2)] [] σ := by
  unfold J_M_tried_42 at h
  refine go_iload_n X 2 (dk dt_M_tried_1 6 rfl) rfl rfl ?_
  refine go_bipush X (dk dt_M_tried_1 7 rfl) cb_20 ?_
  refine go_bipush X (dk dt_M_tried_1 8 rfl) cb_27 ?_
  refine go_Si (As := [.int x2, .int (20 : Int32), .int (27 : Int32)]) (rest := []) X so_X12_122 (fun q hq => ct_M_in hi xc nx  hq) (by decide) rfl rfl (Nat.le_of_ble_eq_true rfl) (dk dt_M_tried_1 9 rfl) h (fun q47 h => ?_)
  refine go_if_eq (tgt := 65) X (dk dt_M_tried_1 10 rfl) (by decide) h (fun h => ?_) (fun h => ?_)
  · refine go_iconst X (dk dt_M_tried_2 2 rfl) ci_m1 ?_
    exact go_iret rt (dk dt_M_tried_2 3 rfl) h (fun hh => nomatch hh)
  · refine go_aload_n X 0 (dk dt_M_tried_1 11 rfl) rfl rfl ?_
    refine go_iconst X (dk dt_M_tried_1 12 rfl) ci_1 ?_
    refine go_iload_n X 2 (dk dt_M_tried_1 13 rfl) rfl rfl ?_
    refine go_bipush X (dk dt_M_tried_1 14 rfl) cb_20 ?_
    refine go_isub X (dk dt_M_tried_1 15 rfl) ?_
    refine go_Vi (As := [.int (1 : Int32), .int (x2 - (20 : Int32))]) (rest := []) X vo_X12_285 (fun q hq => ct_M_isThere hi xc nx  hq) (by decide) rfl lM_0 sM_0 rfl rfl (Nat.le_of_ble_eq_true rfl) (dk dt_M_tried_2 0 rfl) h (fun q59 h => ?_)
    refine go_if_ne (tgt := 67) X (dk dt_M_tried_2 1 rfl) (by decide) h (fun h => ?_) (fun h => ?_)
    · exact lkJ_M_tried_67 hi xc nx X rt   h
    · refine go_iconst X (dk dt_M_tried_2 2 rfl) ci_m1 ?_
      exact go_iret rt (dk dt_M_tried_2 3 rfl) h (fun hh => nomatch hh)
set_option maxRecDepth 20000 in
theorem lkF_M_tried (hi : zInj wM v) (xc : XC wM v) (nx : NXM v) (X : Cx wM v p R s m args c 0 0 cX12_tried 4 RX12 18) (rt : Rt wM v p l e R s m args below meth c 0 0 Q cX12_tried false (some (.int res.1)) res.2) {a1 : Int32} {a2 : Int32} {σ : Hp}  (h : F_M_tried  a1 a2 σ = some res) : Go wM v p l e R s m args below meth c 0 0 Q 4 0 [(0, .ref 0), (1, .int a1), (2, .int a2)] [] σ := by
  unfold F_M_tried at h
  refine go_iload_n X 1 (dk dt_M_tried_0 0 rfl) rfl rfl ?_
  refine go_iconst X (dk dt_M_tried_0 1 rfl) ci_1 ?_
  refine go_bipush X (dk dt_M_tried_0 2 rfl) cb_120 ?_
  refine go_Si (As := [.int a1, .int (1 : Int32), .int (120 : Int32)]) (rest := []) X so_X12_122 (fun q hq => ct_M_in hi xc nx  hq) (by decide) rfl rfl (Nat.le_of_ble_eq_true rfl) (dk dt_M_tried_0 3 rfl) h (fun q4 h => ?_)
  refine go_if_eq (tgt := 65) X (dk dt_M_tried_0 4 rfl) (by decide) h (fun h => ?_) (fun h => ?_)
  · refine go_iconst X (dk dt_M_tried_2 2 rfl) ci_m1 ?_
    exact go_iret rt (dk dt_M_tried_2 3 rfl) h (fun hh => nomatch hh)
  · refine go_iload_n X 2 (dk dt_M_tried_0 5 rfl) rfl rfl ?_
    refine go_iconst X (dk dt_M_tried_0 6 rfl) ci_0 ?_
    refine go_iconst X (dk dt_M_tried_0 7 rfl) ci_3 ?_
    refine go_Si (As := [.int a2, .int (0 : Int32), .int (3 : Int32)]) (rest := []) X so_X12_122 (fun q hq => ct_M_in hi xc nx  hq) (by decide) rfl rfl (Nat.le_of_ble_eq_true rfl) (dk dt_M_tried_0 8 rfl) h (fun q13 h => ?_)
    refine go_if_ne (tgt := 67) X (dk dt_M_tried_0 9 rfl) (by decide) h (fun h => ?_) (fun h => ?_)
    · exact lkJ_M_tried_67 hi xc nx X rt   h
    · refine go_iload_n X 2 (dk dt_M_tried_0 10 rfl) rfl rfl ?_
      refine go_bipush X (dk dt_M_tried_0 11 rfl) cb_10 ?_
      refine go_bipush X (dk dt_M_tried_0 12 rfl) cb_17 ?_
      refine go_Si (As := [.int a2, .int (10 : Int32), .int (17 : Int32)]) (rest := []) X so_X12_122 (fun q hq => ct_M_in hi xc nx  hq) (by decide) rfl rfl (Nat.le_of_ble_eq_true rfl) (dk dt_M_tried_0 13 rfl) h (fun q24 h => ?_)
      refine go_if_eq (tgt := 42) X (dk dt_M_tried_0 14 rfl) (by decide) h (fun h => ?_) (fun h => ?_)
      · exact lkJ_M_tried_42 hi xc nx X rt   h
      · refine go_aload_n X 0 (dk dt_M_tried_0 15 rfl) rfl rfl ?_
        refine go_iconst X (dk dt_M_tried_1 0 rfl) ci_0 ?_
        refine go_iload_n X 2 (dk dt_M_tried_1 1 rfl) rfl rfl ?_
        refine go_bipush X (dk dt_M_tried_1 2 rfl) cb_10 ?_
        refine go_isub X (dk dt_M_tried_1 3 rfl) ?_
        refine go_Vi (As := [.int (0 : Int32), .int (a2 - (10 : Int32))]) (rest := []) X vo_X12_285 (fun q hq => ct_M_isThere hi xc nx  hq) (by decide) rfl lM_0 sM_0 rfl rfl (Nat.le_of_ble_eq_true rfl) (dk dt_M_tried_1 4 rfl) h (fun q36 h => ?_)
        refine go_if_ne (tgt := 67) X (dk dt_M_tried_1 5 rfl) (by decide) h (fun h => ?_) (fun h => ?_)
        · exact lkJ_M_tried_67 hi xc nx X rt   h
        · exact lkJ_M_tried_42 hi xc nx X rt   h
set_option maxRecDepth 20000 in
theorem ct_M_tried (hi : zInj wM v) (xc : XC wM v) (nx : NXM v)  {a1 : Int32} {a2 : Int32} {σ : Hp}  {q : (Int32 × Hp)} (h : F_M_tried  a1 a2 σ = some q) : Ct wM v l yX12_tried cX12_tried 4 (some .int) 18 [.ref 0, .int a1, .int a2] σ (some (.int q.1)) q.2 :=
  Ct.intro false (by decide) hi xc (Nat.le_of_ble_eq_true rfl) rfl (fun p e R s m args below meth c Q X rt => lkF_M_tried hi xc nx X rt  h)
end
def T_M_undo_0 : DT := [(0, .aload_n 0, 1), (1, .getfield 440, 3), (4, .ifCond .ne 5, 3), (7, .iconst 0, 1), (8, .ireturn, 1), (9, .aload_n 0, 1), (10, .getfield 16, 3), (13, .aload_n 0, 1), (14, .getfield 7, 3), (17, .invokestatic 291, 3), (20, .iconst 1, 1), (21, .ireturn, 1)]
theorem dt_M_undo_0 : dOk cX12_undo T_M_undo_0 := by unfold dOk; decide +kernel
section
variable {v : ZV} {l : Launch} {p : Program} {e : Env} {R : Room} {s : State} {m : MethodId} {args : Array Value} {below : List Frame} {meth : Method} {c : Code} {Q : State → Prop} {res : (Int32 × Hp)} 
set_option maxRecDepth 20000 in
theorem lkF_M_undo (hi : zInj wM v) (xc : XC wM v) (nx : NXM v) (X : Cx wM v p R s m args c 0 0 cX12_undo 1 RX12 4) (rt : Rt wM v p l e R s m args below meth c 0 0 Q cX12_undo true (some (.int res.1)) res.2)  {σ : Hp}  (h : F_M_undo   σ = some res) : Go wM v p l e R s m args below meth c 0 0 Q 1 0 [(0, .ref 0)] [] σ := by
  unfold F_M_undo at h
  refine go_aload_n X 0 (dk dt_M_undo_0 0 rfl) rfl rfl ?_
  refine go_geti X fo_X12_440 lM_0 sM_0 fM_0_61 (dk dt_M_undo_0 1 rfl) ?_
  refine go_if_ne (tgt := 9) X (dk dt_M_undo_0 2 rfl) (by decide) h (fun h => ?_) (fun h => ?_)
  · refine go_aload_n X 0 (dk dt_M_undo_0 5 rfl) rfl rfl ?_
    refine go_getr X fo_X12_16 lM_0 sM_0 fM_0_2 (dk dt_M_undo_0 6 rfl) ?_
    refine go_aload_n X 0 (dk dt_M_undo_0 7 rfl) rfl rfl ?_
    refine go_getr X fo_X12_7 lM_0 sM_0 fM_0_0 (dk dt_M_undo_0 8 rfl) ?_
    refine go_Sv (As := [.ref 3, .ref 1]) (rest := []) X so_X12_291 (fun q hq => ct_M_copies hi xc nx lM_3 sM_3 lM_1 sM_1 hq) (by decide) rfl rfl (Nat.le_of_ble_eq_true rfl) (dk dt_M_undo_0 9 rfl) h (fun q17 h => ?_)
    refine go_iconst X (dk dt_M_undo_0 10 rfl) ci_1 ?_
    exact go_iret rt (dk dt_M_undo_0 11 rfl) h (by decide)
  · refine go_iconst X (dk dt_M_undo_0 3 rfl) ci_0 ?_
    exact go_iret rt (dk dt_M_undo_0 4 rfl) h (by decide)
set_option maxRecDepth 20000 in
theorem ct_M_undo (hi : zInj wM v) (xc : XC wM v) (nx : NXM v)   {σ : Hp}  {q : (Int32 × Hp)} (h : F_M_undo   σ = some q) : Ct wM v l yX12_undo cX12_undo 1 (some .boolean) 4 [.ref 0] σ (some (.int q.1)) q.2 :=
  Ct.intro true (by decide) hi xc (Nat.le_of_ble_eq_true rfl) rfl (fun p e R s m args below meth c Q X rt => lkF_M_undo hi xc nx X rt  h)
end
def T_M_watches_0 : DT := [(0, .iload_n 1, 1), (1, .iconst 1, 1), (2, .bipush 120, 2), (4, .invokestatic 122, 3), (7, .ifCond .ne 5, 3), (10, .iconst (-1), 1), (11, .ireturn, 1), (12, .aload_n 0, 1), (13, .iload_n 1, 1), (14, .invokevirtual 368, 3), (17, .aload_n 0, 1), (18, .getfield 319, 3), (21, .ireturn, 1)]
theorem dt_M_watches_0 : dOk cX12_watches T_M_watches_0 := by unfold dOk; decide +kernel
section
variable {v : ZV} {l : Launch} {p : Program} {e : Env} {R : Room} {s : State} {m : MethodId} {args : Array Value} {below : List Frame} {meth : Method} {c : Code} {Q : State → Prop} {res : (Int32 × Hp)} 
set_option maxRecDepth 20000 in
theorem lkF_M_watches (hi : zInj wM v) (xc : XC wM v) (nx : NXM v) (X : Cx wM v p R s m args c 0 0 cX12_watches 2 RX12 16) (rt : Rt wM v p l e R s m args below meth c 0 0 Q cX12_watches false (some (.int res.1)) res.2) {a1 : Int32} {σ : Hp}  (h : F_M_watches  a1 σ = some res) : Go wM v p l e R s m args below meth c 0 0 Q 2 0 [(0, .ref 0), (1, .int a1)] [] σ := by
  unfold F_M_watches at h
  refine go_iload_n X 1 (dk dt_M_watches_0 0 rfl) rfl rfl ?_
  refine go_iconst X (dk dt_M_watches_0 1 rfl) ci_1 ?_
  refine go_bipush X (dk dt_M_watches_0 2 rfl) cb_120 ?_
  refine go_Si (As := [.int a1, .int (1 : Int32), .int (120 : Int32)]) (rest := []) X so_X12_122 (fun q hq => ct_M_in hi xc nx  hq) (by decide) rfl rfl (Nat.le_of_ble_eq_true rfl) (dk dt_M_watches_0 3 rfl) h (fun q4 h => ?_)
  refine go_if_ne (tgt := 12) X (dk dt_M_watches_0 4 rfl) (by decide) h (fun h => ?_) (fun h => ?_)
  · refine go_aload_n X 0 (dk dt_M_watches_0 7 rfl) rfl rfl ?_
    refine go_iload_n X 1 (dk dt_M_watches_0 8 rfl) rfl rfl ?_
    refine go_Vv (As := [.int a1]) (rest := []) X vo_X12_368 (fun q hq => ct_M_watchesGo hi xc nx  hq) (by decide) rfl lM_0 sM_0 rfl rfl (Nat.le_of_ble_eq_true rfl) (dk dt_M_watches_0 9 rfl) h (fun q14 h => ?_)
    refine go_aload_n X 0 (dk dt_M_watches_0 10 rfl) rfl rfl ?_
    refine go_geti X fo_X12_319 lM_0 sM_0 fM_0_40 (dk dt_M_watches_0 11 rfl) ?_
    exact go_iret rt (dk dt_M_watches_0 12 rfl) h (fun hh => nomatch hh)
  · refine go_iconst X (dk dt_M_watches_0 5 rfl) ci_m1 ?_
    exact go_iret rt (dk dt_M_watches_0 6 rfl) h (fun hh => nomatch hh)
set_option maxRecDepth 20000 in
theorem ct_M_watches (hi : zInj wM v) (xc : XC wM v) (nx : NXM v)  {a1 : Int32} {σ : Hp}  {q : (Int32 × Hp)} (h : F_M_watches  a1 σ = some q) : Ct wM v l yX12_watches cX12_watches 2 (some .int) 16 [.ref 0, .int a1] σ (some (.int q.1)) q.2 :=
  Ct.intro false (by decide) hi xc (Nat.le_of_ble_eq_true rfl) rfl (fun p e R s m args below meth c Q X rt => lkF_M_watches hi xc nx X rt  h)
end
def T_M_whenIn_0 : DT := [(0, .aload_n 0, 1), (1, .iload_n 1, 1), (2, .iload_n 2, 1), (3, .invokevirtual 285, 3), (6, .ifCond .eq 13, 3), (9, .iload_n 3, 1), (10, .iconst 1, 1), (11, .bipush 120, 2), (13, .invokestatic 122, 3), (16, .ifCond .ne 5, 3), (19, .iconst (-1), 1), (20, .ireturn, 1), (21, .bipush 8, 2), (23, .iload_n 1, 1), (24, .imul, 1), (25, .iload_n 2, 1)]
theorem dt_M_whenIn_0 : dOk cX12_whenIn T_M_whenIn_0 := by unfold dOk; decide +kernel
def T_M_whenIn_1 : DT := [(26, .iadd, 1), (27, .istore 4, 2), (29, .aload_n 0, 1), (30, .getfield 7, 3), (33, .bipush 80, 2), (35, .iload 4, 2), (37, .iadd, 1), (38, .iaload, 1), (39, .iconst 2, 1), (40, .if_icmp .ne 5, 3), (43, .iconst 0, 1), (44, .ireturn, 1), (45, .aload_n 0, 1), (46, .iload_n 3, 1), (47, .invokevirtual 371, 3), (50, .aload_n 0, 1)]
theorem dt_M_whenIn_1 : dOk cX12_whenIn T_M_whenIn_1 := by unfold dOk; decide +kernel
def T_M_whenIn_2 : DT := [(51, .getfield 13, 3), (54, .aload_n 0, 1), (55, .getfield 7, 3), (58, .invokestatic 291, 3), (61, .aload_n 0, 1), (62, .getfield 86, 3), (65, .iload 4, 2), (67, .iaload, 1), (68, .ireturn, 1)]
theorem dt_M_whenIn_2 : dOk cX12_whenIn T_M_whenIn_2 := by unfold dOk; decide +kernel
section
variable {v : ZV} {l : Launch} {p : Program} {e : Env} {R : Room} {s : State} {m : MethodId} {args : Array Value} {below : List Frame} {meth : Method} {c : Code} {Q : State → Prop} {res : (Int32 × Hp)} 
set_option maxRecDepth 20000 in
theorem lkF_M_whenIn (hi : zInj wM v) (xc : XC wM v) (nx : NXM v) (X : Cx wM v p R s m args c 0 0 cX12_whenIn 5 RX12 18) (rt : Rt wM v p l e R s m args below meth c 0 0 Q cX12_whenIn false (some (.int res.1)) res.2) {a1 : Int32} {a2 : Int32} {a3 : Int32} {σ : Hp}  (h : F_M_whenIn  a1 a2 a3 σ = some res) : Go wM v p l e R s m args below meth c 0 0 Q 5 0 [(0, .ref 0), (1, .int a1), (2, .int a2), (3, .int a3)] [] σ := by
  unfold F_M_whenIn at h
  refine go_aload_n X 0 (dk dt_M_whenIn_0 0 rfl) rfl rfl ?_
  refine go_iload_n X 1 (dk dt_M_whenIn_0 1 rfl) rfl rfl ?_
  refine go_iload_n X 2 (dk dt_M_whenIn_0 2 rfl) rfl rfl ?_
  refine go_Vi (As := [.int a1, .int a2]) (rest := []) X vo_X12_285 (fun q hq => ct_M_isThere hi xc nx  hq) (by decide) rfl lM_0 sM_0 rfl rfl (Nat.le_of_ble_eq_true rfl) (dk dt_M_whenIn_0 3 rfl) h (fun q3 h => ?_)
  refine go_if_eq (tgt := 19) X (dk dt_M_whenIn_0 4 rfl) (by decide) h (fun h => ?_) (fun h => ?_)
  · refine go_iconst X (dk dt_M_whenIn_0 10 rfl) ci_m1 ?_
    exact go_iret rt (dk dt_M_whenIn_0 11 rfl) h (fun hh => nomatch hh)
  · refine go_iload_n X 3 (dk dt_M_whenIn_0 5 rfl) rfl rfl ?_
    refine go_iconst X (dk dt_M_whenIn_0 6 rfl) ci_1 ?_
    refine go_bipush X (dk dt_M_whenIn_0 7 rfl) cb_120 ?_
    refine go_Si (As := [.int a3, .int (1 : Int32), .int (120 : Int32)]) (rest := []) X so_X12_122 (fun q hq => ct_M_in hi xc nx  hq) (by decide) rfl rfl (Nat.le_of_ble_eq_true rfl) (dk dt_M_whenIn_0 8 rfl) h (fun q13 h => ?_)
    refine go_if_ne (tgt := 21) X (dk dt_M_whenIn_0 9 rfl) (by decide) h (fun h => ?_) (fun h => ?_)
    · refine go_bipush X (dk dt_M_whenIn_0 12 rfl) cb_8 ?_
      refine go_iload_n X 1 (dk dt_M_whenIn_0 13 rfl) rfl rfl ?_
      refine go_imul X (dk dt_M_whenIn_0 14 rfl) ?_
      refine go_iload_n X 2 (dk dt_M_whenIn_0 15 rfl) rfl rfl ?_
      refine go_iadd X (dk dt_M_whenIn_1 0 rfl) ?_
      refine go_istore (lv' := [(4, .int (((8 : Int32) * a1) + a2)), (0, .ref 0), (1, .int a1), (2, .int a2), (3, .int a3)]) X (dk dt_M_whenIn_1 1 rfl) (by decide) rfl ?_
      refine go_aload_n X 1 (dk dt_M_whenIn_1 2 rfl) rfl rfl ?_
      refine go_getr X fo_X12_7 lM_0 sM_0 fM_0_0 (dk dt_M_whenIn_1 3 rfl) ?_
      refine go_bipush X (dk dt_M_whenIn_1 4 rfl) cb_80 ?_
      refine go_iload X 0 (dk dt_M_whenIn_1 5 rfl) rfl ?_
      refine go_iadd X (dk dt_M_whenIn_1 6 rfl) ?_
      refine go_iald X lM_1 sM_1 (dk dt_M_whenIn_1 7 rfl) h (fun h => ?_)
      refine go_iconst X (dk dt_M_whenIn_1 8 rfl) ci_2 ?_
      refine go_icmp_ne (tgt := 45) X (dk dt_M_whenIn_1 9 rfl) (by decide) h (fun h => ?_) (fun h => ?_)
      · refine go_aload_n X 1 (dk dt_M_whenIn_1 12 rfl) rfl rfl ?_
        refine go_iload_n X 4 (dk dt_M_whenIn_1 13 rfl) rfl rfl ?_
        refine go_Vv (As := [.int a3]) (rest := []) X vo_X12_371 (fun q hq => ct_M_triesWatches hi xc nx  hq) (by decide) rfl lM_0 sM_0 rfl rfl (Nat.le_of_ble_eq_true rfl) (dk dt_M_whenIn_1 14 rfl) h (fun q47 h => ?_)
        refine go_aload_n X 1 (dk dt_M_whenIn_1 15 rfl) rfl rfl ?_
        refine go_getr X fo_X12_13 lM_0 sM_0 fM_0_1 (dk dt_M_whenIn_2 0 rfl) ?_
        refine go_aload_n X 1 (dk dt_M_whenIn_2 1 rfl) rfl rfl ?_
        refine go_getr X fo_X12_7 lM_0 sM_0 fM_0_0 (dk dt_M_whenIn_2 2 rfl) ?_
        refine go_Sv (As := [.ref 2, .ref 1]) (rest := []) X so_X12_291 (fun q hq => ct_M_copies hi xc nx lM_2 sM_2 lM_1 sM_1 hq) (by decide) rfl rfl (Nat.le_of_ble_eq_true rfl) (dk dt_M_whenIn_2 3 rfl) h (fun q58 h => ?_)
        refine go_aload_n X 1 (dk dt_M_whenIn_2 4 rfl) rfl rfl ?_
        refine go_getr X fo_X12_86 lM_0 sM_0 fM_0_46 (dk dt_M_whenIn_2 5 rfl) ?_
        refine go_iload X 0 (dk dt_M_whenIn_2 6 rfl) rfl ?_
        refine go_iald X lM_26 sM_26 (dk dt_M_whenIn_2 7 rfl) h (fun h => ?_)
        exact go_iret rt (dk dt_M_whenIn_2 8 rfl) h (fun hh => nomatch hh)
      · refine go_iconst X (dk dt_M_whenIn_1 10 rfl) ci_0 ?_
        exact go_iret rt (dk dt_M_whenIn_1 11 rfl) h (fun hh => nomatch hh)
    · refine go_iconst X (dk dt_M_whenIn_0 10 rfl) ci_m1 ?_
      exact go_iret rt (dk dt_M_whenIn_0 11 rfl) h (fun hh => nomatch hh)
set_option maxRecDepth 20000 in
theorem ct_M_whenIn (hi : zInj wM v) (xc : XC wM v) (nx : NXM v)  {a1 : Int32} {a2 : Int32} {a3 : Int32} {σ : Hp}  {q : (Int32 × Hp)} (h : F_M_whenIn  a1 a2 a3 σ = some q) : Ct wM v l yX12_whenIn cX12_whenIn 5 (some .int) 18 [.ref 0, .int a1, .int a2, .int a3] σ (some (.int q.1)) q.2 :=
  Ct.intro false (by decide) hi xc (Nat.le_of_ble_eq_true rfl) rfl (fun p e R s m args below meth c Q X rt => lkF_M_whenIn hi xc nx X rt  h)
end
