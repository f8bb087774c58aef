def T_M_glasses_0 : DT := [(0, .iload_n 1, 1), (1, .iconst 0, 1), (2, .bipush 7, 2), (4, .invokestatic 122, 3), (7, .ifCond .ne 16, 3), (10, .iload_n 1, 1), (11, .bipush 100, 2), (13, .bipush 101, 2), (15, .invokestatic 122, 3), (18, .ifCond .ne 5, 3), (21, .iconst (-1), 1), (22, .ireturn, 1), (23, .aload_n 0, 1), (24, .iconst 0, 1), (25, .iconst 0, 1), (26, .invokevirtual 137, 3)]
theorem dt_M_glasses_0 : dOk cX12_glasses T_M_glasses_0 := by unfold dOk; decide +kernel
def T_M_glasses_1 : DT := [(29, .istore_n 2, 1), (30, .aload_n 0, 1), (31, .iconst 1, 1), (32, .iconst 0, 1), (33, .invokevirtual 137, 3), (36, .istore_n 3, 1), (37, .aload_n 0, 1), (38, .iload_n 2, 1), (39, .iload_n 3, 1), (40, .invokevirtual 387, 3), (43, .iload_n 1, 1), (44, .bipush 100, 2), (46, .if_icmp .ne 14, 3), (49, .aload_n 0, 1), (50, .getfield 89, 3), (53, .iconst 0, 1)]
theorem dt_M_glasses_1 : dOk cX12_glasses T_M_glasses_1 := by unfold dOk; decide +kernel
def T_M_glasses_2 : DT := [(54, .iaload, 1), (55, .sipush 1000, 3), (58, .irem, 1), (59, .ireturn, 1), (60, .iload_n 1, 1), (61, .bipush 101, 2), (63, .if_icmp .ne 19, 3), (66, .iload_n 2, 1), (67, .invokestatic 258, 3), (70, .aload_n 0, 1), (71, .getfield 89, 3), (74, .iconst 0, 1), (75, .iaload, 1), (76, .sipush 1000, 3), (79, .idiv, 1), (80, .isub, 1)]
theorem dt_M_glasses_2 : dOk cX12_glasses T_M_glasses_2 := by unfold dOk; decide +kernel
def T_M_glasses_3 : DT := [(81, .ireturn, 1), (82, .iconst 0, 1), (83, .istore 4, 2), (85, .bipush (-2), 2), (87, .istore 5, 2), (89, .iconst 0, 1), (90, .istore 6, 2), (92, .iload 6, 2), (94, .iload_n 1, 1), (95, .if_icmp .gt 127, 3), (98, .bipush (-2), 2), (100, .istore 5, 2), (102, .iconst 0, 1), (103, .istore 7, 2), (105, .iload 7, 2), (107, .bipush 8, 2)]
theorem dt_M_glasses_3 : dOk cX12_glasses T_M_glasses_3 := by unfold dOk; decide +kernel
def T_M_glasses_4 : DT := [(109, .if_icmp .ge 93, 3), (112, .iload 5, 2), (114, .bipush (-2), 2), (116, .if_icmp .ne 86, 3), (119, .iload_n 2, 1), (120, .iload 6, 2), (122, .invokestatic 141, 3), (125, .ifCond .eq 71, 3), (128, .iload_n 3, 1), (129, .iload 4, 2), (131, .iconst (-1), 1), (132, .ixor, 1), (133, .iand, 1), (134, .iload 7, 2), (136, .invokestatic 141, 3), (139, .ifCond .ne 6, 3)]
theorem dt_M_glasses_4 : dOk cX12_glasses T_M_glasses_4 := by unfold dOk; decide +kernel
def T_M_glasses_5 : DT := [(142, .goto 54, 3), (145, .aload_n 0, 1), (146, .getfield 89, 3), (149, .sipush 256, 3), (152, .iload 6, 2), (154, .iconst 1, 1), (155, .iadd, 1), (156, .imul, 1), (157, .iload 4, 2), (159, .iconst 1, 1), (160, .iload 7, 2), (162, .ishl, 1), (163, .ior, 1), (164, .iadd, 1), (165, .iaload, 1), (166, .iload 6, 2)]
theorem dt_M_glasses_5 : dOk cX12_glasses T_M_glasses_5 := by unfold dOk; decide +kernel
def T_M_glasses_6 : DT := [(168, .iload 7, 2), (170, .isub, 1), (171, .invokestatic 384, 3), (174, .iadd, 1), (175, .aload_n 0, 1), (176, .getfield 89, 3), (179, .sipush 256, 3), (182, .iload 6, 2), (184, .imul, 1), (185, .iload 4, 2), (187, .iadd, 1), (188, .iaload, 1), (189, .if_icmp .ne 7, 3), (192, .iload 7, 2), (194, .istore 5, 2), (196, .iinc 7 1, 3)]
theorem dt_M_glasses_6 : dOk cX12_glasses T_M_glasses_6 := by unfold dOk; decide +kernel
def T_M_glasses_7 : DT := [(199, .goto (-94), 3), (202, .iload 5, 2), (204, .ifCond .lt 12, 3), (207, .iload 4, 2), (209, .iconst 1, 1), (210, .iload 5, 2), (212, .ishl, 1), (213, .ior, 1), (214, .istore 4, 2), (216, .iinc 6 1, 3), (219, .goto (-127), 3), (222, .iload 5, 2), (224, .ireturn, 1)]
theorem dt_M_glasses_7 : dOk cX12_glasses T_M_glasses_7 := by unfold dOk; decide +kernel
section
variable {v : ZV} {l : Launch} {p : Program} {e : Env} {R : Room} {s : State} {m : MethodId} {args : Array Value} {below : List Frame} {meth : Method} {c : Code} {Q : State → Prop} {res : (Int32 × Hp)} 
set_option maxRecDepth 20000 in
theorem lkB_M_glasses_105 (hi : zInj wM v) (xc : XC wM v) (nx : NXM v) (X : Cx wM v p R s m args c 0 0 cX12_glasses 8 RX12 6) (rt : Rt wM v p l e R s m args below meth c 0 0 Q cX12_glasses false (some (.int res.1)) res.2) {k202 : Int32 → Int32 → Int32 → Int32 → Int32 → Int32 → Hp → Option (Int32 × Hp)} {k105 : Int32 → Int32 → Int32 → Int32 → Int32 → Int32 → Int32 → Hp → Option (Int32 × Hp)} {x1 : Int32} {x2 : Int32} {x3 : Int32} {x4 : Int32} {x5 : Int32} {x6 : Int32} {x7 : Int32} {σ : Hp}  (hk202 : ∀ (x1 : Int32) (x2 : Int32) (x3 : Int32) (x4 : Int32) (x5 : Int32) (x6 : Int32) (σ : Hp),  k202 x1 x2 x3 x4 x5 x6 σ = some res → Go wM v p l e R s m args below meth c 0 0 Q 8 202 [(0, .ref 0), (1, .int x1), (2, .int x2), (3, .int x3), (4, .int x4), (5, .int x5), (6, .int x6)] [] σ) (hk105 : ∀ (x1 : Int32) (x2 : Int32) (x3 : Int32) (x4 : Int32) (x5 : Int32) (x6 : Int32) (x7 : Int32) (σ : Hp),  k105 x1 x2 x3 x4 x5 x6 x7 σ = some res → Go wM v p l e R s m args below meth c 0 0 Q 8 105 [(0, .ref 0), (1, .int x1), (2, .int x2), (3, .int x3), (4, .int x4), (5, .int x5), (6, .int x6), (7, .int x7)] [] σ) (h : B_M_glasses_105  k202 k105 x1 x2 x3 x4 x5 x6 x7 σ = some res) : Go wM v p l e R s m args below meth c 0 0 Q 8 105 [(0, .ref 0), (1, .int x1), (2, .int x2), (3, .int x3), (4, .int x4), (5, .int x5), (6, .int x6), (7, .int x7)] [] σ := by
  unfold B_M_glasses_105 at h
  refine go_iload X 7 (dk dt_M_glasses_3 14 rfl) rfl ?_
  refine go_bipush X (dk dt_M_glasses_3 15 rfl) cb_8 ?_
  refine go_icmp_ge (tgt := 202) X (dk dt_M_glasses_4 0 rfl) (by decide) h (fun h => ?_) (fun h => ?_)
  · refine go_sub [0, 1, 2, 3, 4, 5, 6] rfl ?_
    exact hk202 _ _ _ _ _ _ _  h
  · refine go_iload X 5 (dk dt_M_glasses_4 1 rfl) rfl ?_
    refine go_bipush X (dk dt_M_glasses_4 2 rfl) cb_m2 ?_
    refine go_icmp_ne (tgt := 202) X (dk dt_M_glasses_4 3 rfl) (by decide) h (fun h => ?_) (fun h => ?_)
    · refine go_sub [0, 1, 2, 3, 4, 5, 6] rfl ?_
      exact hk202 _ _ _ _ _ _ _  h
    · refine go_iload_n X 2 (dk dt_M_glasses_4 4 rfl) rfl rfl ?_
      refine go_iload X 6 (dk dt_M_glasses_4 5 rfl) rfl ?_
      refine go_Si (As := [.int x2, .int x6]) (rest := []) X so_X12_141 (fun q hq => ct_M_has hi xc nx  hq) (by decide) rfl rfl (Nat.le_of_ble_eq_true rfl) (dk dt_M_glasses_4 6 rfl) h (fun q122 h => ?_)
      refine go_if_eq (tgt := 196) X (dk dt_M_glasses_4 7 rfl) (by decide) h (fun h => ?_) (fun h => ?_)
      · refine go_iinc (lv' := [(7, .int (x7 + (1 : Int32))), (0, .ref 0), (1, .int x1), (2, .int x2), (3, .int x3), (4, .int x4), (5, .int x5), (6, .int x6)]) X 7 (dk dt_M_glasses_6 15 rfl) rfl ci_1 (by decide) rfl ?_
        refine go_goto (tgt := 105) X (dk dt_M_glasses_7 0 rfl) (by decide) ?_
        refine go_sub [1, 2, 3, 4, 5, 6, 7, 0] rfl ?_
        exact hk105 _ _ _ _ _ _ _ _  h
      · refine go_iload_n X 3 (dk dt_M_glasses_4 8 rfl) rfl rfl ?_
        refine go_iload X 4 (dk dt_M_glasses_4 9 rfl) rfl ?_
        refine go_iconst X (dk dt_M_glasses_4 10 rfl) ci_m1 ?_
        refine go_ixor X (dk dt_M_glasses_4 11 rfl) ?_
        refine go_iand X (dk dt_M_glasses_4 12 rfl) ?_
        refine go_iload X 7 (dk dt_M_glasses_4 13 rfl) rfl ?_
        refine go_Si (As := [.int (x3 &&& (x4 ^^^ (-1 : Int32))), .int x7]) (rest := []) X so_X12_141 (fun q hq => ct_M_has hi xc nx  hq) (by decide) rfl rfl (Nat.le_of_ble_eq_true rfl) (dk dt_M_glasses_4 14 rfl) h (fun q136 h => ?_)
        refine go_if_ne (tgt := 145) X (dk dt_M_glasses_4 15 rfl) (by decide) h (fun h => ?_) (fun h => ?_)
        · refine go_aload_n X 0 (dk dt_M_glasses_5 1 rfl) rfl rfl ?_
          refine go_getr X fo_X12_89 lM_0 sM_0 fM_0_47 (dk dt_M_glasses_5 2 rfl) ?_
          refine go_sipush X (dk dt_M_glasses_5 3 rfl) cs_256 ?_
          refine go_iload X 6 (dk dt_M_glasses_5 4 rfl) rfl ?_
          refine go_iconst X (dk dt_M_glasses_5 5 rfl) ci_1 ?_
          refine go_iadd X (dk dt_M_glasses_5 6 rfl) ?_
          refine go_imul X (dk dt_M_glasses_5 7 rfl) ?_
          refine go_iload X 4 (dk dt_M_glasses_5 8 rfl) rfl ?_
          refine go_iconst X (dk dt_M_glasses_5 9 rfl) ci_1 ?_
          refine go_iload X 7 (dk dt_M_glasses_5 10 rfl) rfl ?_
          refine go_ishl X (dk dt_M_glasses_5 11 rfl) ?_
          refine go_ior X (dk dt_M_glasses_5 12 rfl) ?_
          refine go_iadd X (dk dt_M_glasses_5 13 rfl) ?_
          refine go_iald X lM_27 sM_27 (dk dt_M_glasses_5 14 rfl) h (fun h => ?_)
          refine go_iload X 6 (dk dt_M_glasses_5 15 rfl) rfl ?_
          refine go_iload X 7 (dk dt_M_glasses_6 0 rfl) rfl ?_
          refine go_isub X (dk dt_M_glasses_6 1 rfl) ?_
          refine go_Si (As := [.int (x6 - x7)]) (rest := [.int (q136.2 27 (Int32.toNatClampNeg (((256 : Int32) * (x6 + (1 : Int32))) + (x4 ||| ((1 : Int32) <<< (x7 &&& 31))))))]) X so_X12_384 (fun q hq => ct_M_size hi xc nx  hq) (by decide) rfl rfl (Nat.le_of_ble_eq_true rfl) (dk dt_M_glasses_6 2 rfl) h (fun q171 h => ?_)
          refine go_iadd X (dk dt_M_glasses_6 3 rfl) ?_
          refine go_aload_n X 0 (dk dt_M_glasses_6 4 rfl) rfl rfl ?_
          refine go_getr X fo_X12_89 lM_0 sM_0 fM_0_47 (dk dt_M_glasses_6 5 rfl) ?_
          refine go_sipush X (dk dt_M_glasses_6 6 rfl) cs_256 ?_
          refine go_iload X 6 (dk dt_M_glasses_6 7 rfl) rfl ?_
          refine go_imul X (dk dt_M_glasses_6 8 rfl) ?_
          refine go_iload X 4 (dk dt_M_glasses_6 9 rfl) rfl ?_
          refine go_iadd X (dk dt_M_glasses_6 10 rfl) ?_
          refine go_iald X lM_27 sM_27 (dk dt_M_glasses_6 11 rfl) h (fun h => ?_)
          refine go_icmp_ne (tgt := 196) X (dk dt_M_glasses_6 12 rfl) (by decide) h (fun h => ?_) (fun h => ?_)
          · refine go_iinc (lv' := [(7, .int (x7 + (1 : Int32))), (0, .ref 0), (1, .int x1), (2, .int x2), (3, .int x3), (4, .int x4), (5, .int x5), (6, .int x6)]) X 7 (dk dt_M_glasses_6 15 rfl) rfl ci_1 (by decide) rfl ?_
            refine go_goto (tgt := 105) X (dk dt_M_glasses_7 0 rfl) (by decide) ?_
            refine go_sub [1, 2, 3, 4, 5, 6, 7, 0] rfl ?_
            exact hk105 _ _ _ _ _ _ _ _  h
          · refine go_iload X 7 (dk dt_M_glasses_6 13 rfl) rfl ?_
            refine go_istore (lv' := [(5, .int x7), (0, .ref 0), (1, .int x1), (2, .int x2), (3, .int x3), (4, .int x4), (6, .int x6), (7, .int x7)]) X (dk dt_M_glasses_6 14 rfl) (by decide) rfl ?_
            refine go_iinc (lv' := [(7, .int (x7 + (1 : Int32))), (5, .int x7), (0, .ref 0), (1, .int x1), (2, .int x2), (3, .int x3), (4, .int x4), (6, .int x6)]) X 7 (dk dt_M_glasses_6 15 rfl) rfl ci_1 (by decide) rfl ?_
            refine go_goto (tgt := 105) X (dk dt_M_glasses_7 0 rfl) (by decide) ?_
            refine go_sub [2, 3, 4, 5, 6, 1, 7, 0] rfl ?_
            exact hk105 _ _ _ _ _ _ _ _  h
        · refine go_goto (tgt := 196) X (dk dt_M_glasses_5 0 rfl) (by decide) ?_
          refine go_iinc (lv' := [(7, .int (x7 + (1 : Int32))), (0, .ref 0), (1, .int x1), (2, .int x2), (3, .int x3), (4, .int x4), (5, .int x5), (6, .int x6)]) X 7 (dk dt_M_glasses_6 15 rfl) rfl ci_1 (by decide) rfl ?_
          refine go_goto (tgt := 105) X (dk dt_M_glasses_7 0 rfl) (by decide) ?_
          refine go_sub [1, 2, 3, 4, 5, 6, 7, 0] rfl ?_
          exact hk105 _ _ _ _ _ _ _ _  h
set_option maxRecDepth 20000 in
theorem lkL_M_glasses_105 (hi : zInj wM v) (xc : XC wM v) (nx : NXM v) (X : Cx wM v p R s m args c 0 0 cX12_glasses 8 RX12 6) (rt : Rt wM v p l e R s m args below meth c 0 0 Q cX12_glasses false (some (.int res.1)) res.2) {k202 : Int32 → Int32 → Int32 → Int32 → Int32 → Int32 → Hp → Option (Int32 × Hp)} (hk202 : ∀ (x1 : Int32) (x2 : Int32) (x3 : Int32) (x4 : Int32) (x5 : Int32) (x6 : Int32) (σ : Hp),  k202 x1 x2 x3 x4 x5 x6 σ = some res → Go wM v p l e R s m args below meth c 0 0 Q 8 202 [(0, .ref 0), (1, .int x1), (2, .int x2), (3, .int x3), (4, .int x4), (5, .int x5), (6, .int x6)] [] σ) (n : Nat) : ∀ {x1 : Int32} {x2 : Int32} {x3 : Int32} {x4 : Int32} {x5 : Int32} {x6 : Int32} {x7 : Int32} {σ : Hp},  L_M_glasses_105  k202 n x1 x2 x3 x4 x5 x6 x7 σ = some res → Go wM v p l e R s m args below meth c 0 0 Q 8 105 [(0, .ref 0), (1, .int x1), (2, .int x2), (3, .int x3), (4, .int x4), (5, .int x5), (6, .int x6), (7, .int x7)] [] σ := by
  induction n with
  | zero => intro x1 x2 x3 x4 x5 x6 x7 σ  h; cases h
  | succ n ih =>
    intro x1 x2 x3 x4 x5 x6 x7 σ  h
    exact lkB_M_glasses_105 hi xc nx X rt  hk202 (fun _ _ _ _ _ _ _ _  hh => ih  hh) h
set_option maxRecDepth 20000 in
theorem lkJ_M_glasses_202 (hi : zInj wM v) (xc : XC wM v) (nx : NXM v) (X : Cx wM v p R s m args c 0 0 cX12_glasses 8 RX12 6) (rt : Rt wM v p l e R s m args below meth c 0 0 Q cX12_glasses false (some (.int res.1)) res.2) {k92 : Int32 → Int32 → Int32 → Int32 → Int32 → Int32 → Hp → Option (Int32 × Hp)} {x1 : Int32} {x2 : Int32} {x3 : Int32} {x4 : Int32} {x5 : Int32} {x6 : Int32} {σ : Hp}  (hk92 : ∀ (x1 : Int32) (x2 : Int32) (x3 : Int32) (x4 : Int32) (x5 : Int32) (x6 : Int32) (σ : Hp),  k92 x1 x2 x3 x4 x5 x6 σ = some res → Go wM v p l e R s m args below meth c 0 0 Q 8 92 [(0, .ref 0), (1, .int x1), (2, .int x2), (3, .int x3), (4, .int x4), (5, .int x5), (6, .int x6)] [] σ) (h : J_M_glasses_202  k92 x1 x2 x3 x4 x5 x6 σ = some res) : Go wM v p l e R s m args below meth c 0 0 Q 8 202 [(0, .ref 0), (1, .int x1), (2, .int x2), (3, .int x3), (4, .int x4), (5, .int x5), (6, .int x6)] [] σ := by
  unfold J_M_glasses_202 at h
  refine go_iload X 5 (dk dt_M_glasses_7 1 rfl) rfl ?_
  refine go_if_lt (tgt := 216) X (dk dt_M_glasses_7 2 rfl) (by decide) h (fun h => ?_) (fun h => ?_)
  · refine go_iinc (lv' := [(6, .int (x6 + (1 : Int32))), (0, .ref 0), (1, .int x1), (2, .int x2), (3, .int x3), (4, .int x4), (5, .int x5)]) X 6 (dk dt_M_glasses_7 9 rfl) rfl ci_1 (by decide) rfl ?_
    refine go_goto (tgt := 92) X (dk dt_M_glasses_7 10 rfl) (by decide) ?_
    refine go_sub [1, 2, 3, 4, 5, 6, 0] rfl ?_
    exact hk92 _ _ _ _ _ _ _  h
  · refine go_iload X 4 (dk dt_M_glasses_7 3 rfl) rfl ?_
    refine go_iconst X (dk dt_M_glasses_7 4 rfl) ci_1 ?_
    refine go_iload X 5 (dk dt_M_glasses_7 5 rfl) rfl ?_
    refine go_ishl X (dk dt_M_glasses_7 6 rfl) ?_
    refine go_ior X (dk dt_M_glasses_7 7 rfl) ?_
    refine go_istore (lv' := [(4, .int (x4 ||| ((1 : Int32) <<< (x5 &&& 31)))), (0, .ref 0), (1, .int x1), (2, .int x2), (3, .int x3), (5, .int x5), (6, .int x6)]) X (dk dt_M_glasses_7 8 rfl) (by decide) rfl ?_
    refine go_iinc (lv' := [(6, .int (x6 + (1 : Int32))), (4, .int (x4 ||| ((1 : Int32) <<< (x5 &&& 31)))), (0, .ref 0), (1, .int x1), (2, .int x2), (3, .int x3), (5, .int x5)]) X 6 (dk dt_M_glasses_7 9 rfl) rfl ci_1 (by decide) rfl ?_
    refine go_goto (tgt := 92) X (dk dt_M_glasses_7 10 rfl) (by decide) ?_
    refine go_sub [2, 3, 4, 5, 1, 6, 0] rfl ?_
    exact hk92 _ _ _ _ _ _ _  h
set_option maxRecDepth 20000 in
theorem lkB_M_glasses_92 (hi : zInj wM v) (xc : XC wM v) (nx : NXM v) (X : Cx wM v p R s m args c 0 0 cX12_glasses 8 RX12 6) (rt : Rt wM v p l e R s m args below meth c 0 0 Q cX12_glasses false (some (.int res.1)) res.2) {k92 : Int32 → Int32 → Int32 → Int32 → Int32 → Int32 → Hp → Option (Int32 × Hp)} {x1 : Int32} {x2 : Int32} {x3 : Int32} {x4 : Int32} {x5 : Int32} {x6 : Int32} {σ : Hp}  (hk92 : ∀ (x1 : Int32) (x2 : Int32) (x3 : Int32) (x4 : Int32) (x5 : Int32) (x6 : Int32) (σ : Hp),  k92 x1 x2 x3 x4 x5 x6 σ = some res → Go wM v p l e R s m args below meth c 0 0 Q 8 92 [(0, .ref 0), (1, .int x1), (2, .int x2), (3, .int x3), (4, .int x4), (5, .int x5), (6, .int x6)] [] σ) (h : B_M_glasses_92  k92 x1 x2 x3 x4 x5 x6 σ = some res) : Go wM v p l e R s m args below meth c 0 0 Q 8 92 [(0, .ref 0), (1, .int x1), (2, .int x2), (3, .int x3), (4, .int x4), (5, .int x5), (6, .int x6)] [] σ := by
  unfold B_M_glasses_92 at h
  refine go_iload X 6 (dk dt_M_glasses_3 7 rfl) rfl ?_
  refine go_iload_n X 1 (dk dt_M_glasses_3 8 rfl) rfl rfl ?_
  refine go_icmp_gt (tgt := 222) X (dk dt_M_glasses_3 9 rfl) (by decide) h (fun h => ?_) (fun h => ?_)
  · refine go_iload X 5 (dk dt_M_glasses_7 11 rfl) rfl ?_
    exact go_iret rt (dk dt_M_glasses_7 12 rfl) h (fun hh => nomatch hh)
  · refine go_bipush X (dk dt_M_glasses_3 10 rfl) cb_m2 ?_
    refine go_istore (lv' := [(5, .int (-2 : Int32)), (0, .ref 0), (1, .int x1), (2, .int x2), (3, .int x3), (4, .int x4), (6, .int x6)]) X (dk dt_M_glasses_3 11 rfl) (by decide) rfl ?_
    refine go_iconst X (dk dt_M_glasses_3 12 rfl) ci_0 ?_
    refine go_istore (lv' := [(7, .int (0 : Int32)), (5, .int (-2 : Int32)), (0, .ref 0), (1, .int x1), (2, .int x2), (3, .int x3), (4, .int x4), (6, .int x6)]) X (dk dt_M_glasses_3 13 rfl) (by decide) rfl ?_
    refine go_sub [2, 3, 4, 5, 6, 1, 7, 0] rfl ?_
    exact lkL_M_glasses_105 hi xc nx X rt (fun _ _ _ _ _ _ _  hh => lkJ_M_glasses_202 hi xc nx X rt  hk92 hh) FU  h
set_option maxRecDepth 20000 in
theorem lkL_M_glasses_92 (hi : zInj wM v) (xc : XC wM v) (nx : NXM v) (X : Cx wM v p R s m args c 0 0 cX12_glasses 8 RX12 6) (rt : Rt wM v p l e R s m args below meth c 0 0 Q cX12_glasses false (some (.int res.1)) res.2)   (n : Nat) : ∀ {x1 : Int32} {x2 : Int32} {x3 : Int32} {x4 : Int32} {x5 : Int32} {x6 : Int32} {σ : Hp},  L_M_glasses_92   n x1 x2 x3 x4 x5 x6 σ = some res → Go wM v p l e R s m args below meth c 0 0 Q 8 92 [(0, .ref 0), (1, .int x1), (2, .int x2), (3, .int x3), (4, .int x4), (5, .int x5), (6, .int x6)] [] σ := by
  induction n with
  | zero => intro x1 x2 x3 x4 x5 x6 σ  h; cases h
  | succ n ih =>
    intro x1 x2 x3 x4 x5 x6 σ  h
    exact lkB_M_glasses_92 hi xc nx X rt  (fun _ _ _ _ _ _ _  hh => ih  hh) h
set_option maxRecDepth 20000 in
theorem lkJ_M_glasses_23 (hi : zInj wM v) (xc : XC wM v) (nx : NXM v) (X : Cx wM v p R s m args c 0 0 cX12_glasses 8 RX12 6) (rt : Rt wM v p l e R s m args below meth c 0 0 Q cX12_glasses false (some (.int res.1)) res.2)  {x1 : Int32} {σ : Hp}   (h : J_M_glasses_23   x1 σ = some res) : Go wM v p l e R s m args below meth c 0 0 Q 8 23 [(0, .ref 0), (1, .int x1)] [] σ := by
  unfold J_M_glasses_23 at h
  refine go_aload_n X 0 (dk dt_M_glasses_0 12 rfl) rfl rfl ?_
  refine go_iconst X (dk dt_M_glasses_0 13 rfl) ci_0 ?_
  refine go_iconst X (dk dt_M_glasses_0 14 rfl) ci_0 ?_
  refine go_Vi (As := [.int (0 : Int32), .int (0 : Int32)]) (rest := []) X vo_X12_137 (fun q hq => ct_M_setOf hi xc nx  hq) (by decide) rfl lM_0 sM_0 rfl rfl (Nat.le_of_ble_eq_true rfl) (dk dt_M_glasses_0 15 rfl) h (fun q26 h => ?_)
  refine go_istore_n (lv' := [(2, .int q26.1), (0, .ref 0), (1, .int x1)]) X (dk dt_M_glasses_1 0 rfl) rfl (by decide) rfl ?_
  refine go_aload_n X 1 (dk dt_M_glasses_1 1 rfl) rfl rfl ?_
  refine go_iconst X (dk dt_M_glasses_1 2 rfl) ci_1 ?_
  refine go_iconst X (dk dt_M_glasses_1 3 rfl) ci_0 ?_
  refine go_Vi (As := [.int (1 : Int32), .int (0 : Int32)]) (rest := []) X vo_X12_137 (fun q hq => ct_M_setOf hi xc nx  hq) (by decide) rfl lM_0 sM_0 rfl rfl (Nat.le_of_ble_eq_true rfl) (dk dt_M_glasses_1 4 rfl) h (fun q33 h => ?_)
  refine go_istore_n (lv' := [(3, .int q33.1), (2, .int q26.1), (0, .ref 0), (1, .int x1)]) X (dk dt_M_glasses_1 5 rfl) rfl (by decide) rfl ?_
  refine go_aload_n X 2 (dk dt_M_glasses_1 6 rfl) rfl rfl ?_
  refine go_iload_n X 1 (dk dt_M_glasses_1 7 rfl) rfl rfl ?_
  refine go_iload_n X 0 (dk dt_M_glasses_1 8 rfl) rfl rfl ?_
  refine go_Vv (As := [.int q26.1, .int q33.1]) (rest := []) X vo_X12_387 (fun q hq => ct_M_laysGlasses hi xc nx  hq) (by decide) rfl lM_0 sM_0 rfl rfl (Nat.le_of_ble_eq_true rfl) (dk dt_M_glasses_1 9 rfl) h (fun q40 h => ?_)
  refine go_iload_n X 3 (dk dt_M_glasses_1 10 rfl) rfl rfl ?_
  refine go_bipush X (dk dt_M_glasses_1 11 rfl) cb_100 ?_
  refine go_icmp_ne (tgt := 60) X (dk dt_M_glasses_1 12 rfl) (by decide) h (fun h => ?_) (fun h => ?_)
  · refine go_iload_n X 3 (dk dt_M_glasses_2 4 rfl) rfl rfl ?_
    refine go_bipush X (dk dt_M_glasses_2 5 rfl) cb_101 ?_
    refine go_icmp_ne (tgt := 82) X (dk dt_M_glasses_2 6 rfl) (by decide) h (fun h => ?_) (fun h => ?_)
    · refine go_iconst X (dk dt_M_glasses_3 1 rfl) ci_0 ?_
      refine go_istore (lv' := [(4, .int (0 : Int32)), (3, .int q33.1), (2, .int q26.1), (0, .ref 0), (1, .int x1)]) X (dk dt_M_glasses_3 2 rfl) (by decide) rfl ?_
      refine go_bipush X (dk dt_M_glasses_3 3 rfl) cb_m2 ?_
      refine go_istore (lv' := [(5, .int (-2 : Int32)), (4, .int (0 : Int32)), (3, .int q33.1), (2, .int q26.1), (0, .ref 0), (1, .int x1)]) X (dk dt_M_glasses_3 4 rfl) (by decide) rfl ?_
      refine go_iconst X (dk dt_M_glasses_3 5 rfl) ci_0 ?_
      refine go_istore (lv' := [(6, .int (0 : Int32)), (5, .int (-2 : Int32)), (4, .int (0 : Int32)), (3, .int q33.1), (2, .int q26.1), (0, .ref 0), (1, .int x1)]) X (dk dt_M_glasses_3 6 rfl) (by decide) rfl ?_
      refine go_sub [5, 6, 4, 3, 2, 1, 0] rfl ?_
      exact lkL_M_glasses_92 hi xc nx X rt  FU  h
    · refine go_iload_n X 1 (dk dt_M_glasses_2 7 rfl) rfl rfl ?_
      refine go_Si (As := [.int q26.1]) (rest := []) X so_X12_258 (fun q hq => ct_M_bits hi xc nx  hq) (by decide) rfl rfl (Nat.le_of_ble_eq_true rfl) (dk dt_M_glasses_2 8 rfl) h (fun q67 h => ?_)
      refine go_aload_n X 2 (dk dt_M_glasses_2 9 rfl) rfl rfl ?_
      refine go_getr X fo_X12_89 lM_0 sM_0 fM_0_47 (dk dt_M_glasses_2 10 rfl) ?_
      refine go_iconst X (dk dt_M_glasses_2 11 rfl) ci_0 ?_
      refine go_iald X lM_27 sM_27 (dk dt_M_glasses_2 12 rfl) h (fun h => ?_)
      refine go_sipush X (dk dt_M_glasses_2 13 rfl) cs_1000 ?_
      refine go_idivL X (dk dt_M_glasses_2 14 rfl) (by decide) ?_
      refine go_isub X (dk dt_M_glasses_2 15 rfl) ?_
      exact go_iret rt (dk dt_M_glasses_3 0 rfl) h (fun hh => nomatch hh)
  · refine go_aload_n X 2 (dk dt_M_glasses_1 13 rfl) rfl rfl ?_
    refine go_getr X fo_X12_89 lM_0 sM_0 fM_0_47 (dk dt_M_glasses_1 14 rfl) ?_
    refine go_iconst X (dk dt_M_glasses_1 15 rfl) ci_0 ?_
    refine go_iald X lM_27 sM_27 (dk dt_M_glasses_2 0 rfl) h (fun h => ?_)
    refine go_sipush X (dk dt_M_glasses_2 1 rfl) cs_1000 ?_
    refine go_iremL X (dk dt_M_glasses_2 2 rfl) (by decide) ?_
    exact go_iret rt (dk dt_M_glasses_2 3 rfl) h (fun hh => nomatch hh)
set_option maxRecDepth 20000 in
theorem lkF_M_glasses (hi : zInj wM v) (xc : XC wM v) (nx : NXM v) (X : Cx wM v p R s m args c 0 0 cX12_glasses 8 RX12 6) (rt : Rt wM v p l e R s m args below meth c 0 0 Q cX12_glasses false (some (.int res.1)) res.2) {a1 : Int32} {σ : Hp}  (h : F_M_glasses  a1 σ = some res) : Go wM v p l e R s m args below meth c 0 0 Q 8 0 [(0, .ref 0), (1, .int a1)] [] σ := by
  unfold F_M_glasses at h
  refine go_iload_n X 1 (dk dt_M_glasses_0 0 rfl) rfl rfl ?_
  refine go_iconst X (dk dt_M_glasses_0 1 rfl) ci_0 ?_
  refine go_bipush X (dk dt_M_glasses_0 2 rfl) cb_7 ?_
  refine go_Si (As := [.int a1, .int (0 : Int32), .int (7 : Int32)]) (rest := []) X so_X12_122 (fun q hq => ct_M_in hi xc nx  hq) (by decide) rfl rfl (Nat.le_of_ble_eq_true rfl) (dk dt_M_glasses_0 3 rfl) h (fun q4 h => ?_)
  refine go_if_ne (tgt := 23) X (dk dt_M_glasses_0 4 rfl) (by decide) h (fun h => ?_) (fun h => ?_)
  · exact lkJ_M_glasses_23 hi xc nx X rt   h
  · refine go_iload_n X 1 (dk dt_M_glasses_0 5 rfl) rfl rfl ?_
    refine go_bipush X (dk dt_M_glasses_0 6 rfl) cb_100 ?_
    refine go_bipush X (dk dt_M_glasses_0 7 rfl) cb_101 ?_
    refine go_Si (As := [.int a1, .int (100 : Int32), .int (101 : Int32)]) (rest := []) X so_X12_122 (fun q hq => ct_M_in hi xc nx  hq) (by decide) rfl rfl (Nat.le_of_ble_eq_true rfl) (dk dt_M_glasses_0 8 rfl) h (fun q15 h => ?_)
    refine go_if_ne (tgt := 23) X (dk dt_M_glasses_0 9 rfl) (by decide) h (fun h => ?_) (fun h => ?_)
    · exact lkJ_M_glasses_23 hi xc nx X rt   h
    · refine go_iconst X (dk dt_M_glasses_0 10 rfl) ci_m1 ?_
      exact go_iret rt (dk dt_M_glasses_0 11 rfl) h (fun hh => nomatch hh)
set_option maxRecDepth 20000 in
theorem ct_M_glasses (hi : zInj wM v) (xc : XC wM v) (nx : NXM v)  {a1 : Int32} {σ : Hp}  {q : (Int32 × Hp)} (h : F_M_glasses  a1 σ = some q) : Ct wM v l yX12_glasses cX12_glasses 8 (some .int) 6 [.ref 0, .int a1] σ (some (.int q.1)) q.2 :=
  Ct.intro false (by decide) hi xc (Nat.le_of_ble_eq_true rfl) rfl (fun p e R s m args below meth c Q X rt => lkF_M_glasses hi xc nx X rt  h)
end
def T_M_hasOpenSum_0 : DT := [(0, .iload_n 1, 1), (1, .istore_n 2, 1), (2, .iload_n 2, 1), (3, .aload_n 0, 1), (4, .getfield 185, 3), (7, .if_icmp .ge 25, 3), (10, .aload_n 0, 1), (11, .getfield 32, 3), (14, .iload_n 2, 1), (15, .iaload, 1), (16, .ldc 181, 2), (18, .idiv, 1), (19, .bipush 14, 2), (21, .if_icmp .ne 5, 3), (24, .iconst 1, 1), (25, .ireturn, 1)]
theorem dt_M_hasOpenSum_0 : dOk cX12_hasOpenSum T_M_hasOpenSum_0 := by unfold dOk; decide +kernel
def T_M_hasOpenSum_1 : DT := [(26, .iinc 2 1, 3), (29, .goto (-27), 3), (32, .iconst 0, 1), (33, .ireturn, 1)]
theorem dt_M_hasOpenSum_1 : dOk cX12_hasOpenSum T_M_hasOpenSum_1 := by unfold dOk; decide +kernel
section
variable {v : ZV} {l : Launch} {p : Program} {e : Env} {R : Room} {s : State} {m : MethodId} {args : Array Value} {below : List Frame} {meth : Method} {c : Code} {Q : State → Prop} {res : (Int32 × Hp)} 
set_option maxRecDepth 20000 in
theorem lkB_M_hasOpenSum_2 (hi : zInj wM v) (xc : XC wM v) (nx : NXM v) (X : Cx wM v p R s m args c 0 0 cX12_hasOpenSum 3 RX12 2) (rt : Rt wM v p l e R s m args below meth c 0 0 Q cX12_hasOpenSum true (some (.int res.1)) res.2) {k2 : Int32 → Hp → Option (Int32 × Hp)} {x2 : Int32} {σ : Hp}  (hk2 : ∀ (x2 : Int32) (σ : Hp),  k2 x2 σ = some res → Go wM v p l e R s m args below meth c 0 0 Q 3 2 [(0, .ref 0), (2, .int x2)] [] σ) (h : B_M_hasOpenSum_2  k2 x2 σ = some res) : Go wM v p l e R s m args below meth c 0 0 Q 3 2 [(0, .ref 0), (2, .int x2)] [] σ := by
  unfold B_M_hasOpenSum_2 at h
  refine go_iload_n X 1 (dk dt_M_hasOpenSum_0 2 rfl) rfl rfl ?_
  refine go_aload_n X 0 (dk dt_M_hasOpenSum_0 3 rfl) rfl rfl ?_
  refine go_geti X fo_X12_185 lM_0 sM_0 fM_0_13 (dk dt_M_hasOpenSum_0 4 rfl) ?_
  refine go_icmp_ge (tgt := 32) X (dk dt_M_hasOpenSum_0 5 rfl) (by decide) h (fun h => ?_) (fun h => ?_)
  · refine go_iconst X (dk dt_M_hasOpenSum_1 2 rfl) ci_0 ?_
    exact go_iret rt (dk dt_M_hasOpenSum_1 3 rfl) h (by decide)
  · refine go_aload_n X 0 (dk dt_M_hasOpenSum_0 6 rfl) rfl rfl ?_
    refine go_getr X fo_X12_32 lM_0 sM_0 fM_0_17 (dk dt_M_hasOpenSum_0 7 rfl) ?_
    refine go_iload_n X 1 (dk dt_M_hasOpenSum_0 8 rfl) rfl rfl ?_
    refine go_iald X lM_8 sM_8 (dk dt_M_hasOpenSum_0 9 rfl) h (fun h => ?_)
    refine go_ldc X wd_1387 (dk dt_M_hasOpenSum_0 10 rfl) ?_
    refine go_idivL X (dk dt_M_hasOpenSum_0 11 rfl) (by decide) ?_
    refine go_bipush X (dk dt_M_hasOpenSum_0 12 rfl) cb_14 ?_
    refine go_icmp_ne (tgt := 26) X (dk dt_M_hasOpenSum_0 13 rfl) (by decide) h (fun h => ?_) (fun h => ?_)
    · refine go_iinc (lv' := [(2, .int (x2 + (1 : Int32))), (0, .ref 0)]) X 1 (dk dt_M_hasOpenSum_1 0 rfl) rfl ci_1 (by decide) rfl ?_
      refine go_goto (tgt := 2) X (dk dt_M_hasOpenSum_1 1 rfl) (by decide) ?_
      refine go_sub [1, 0] rfl ?_
      exact hk2 _ _  h
    · refine go_iconst X (dk dt_M_hasOpenSum_0 14 rfl) ci_1 ?_
      exact go_iret rt (dk dt_M_hasOpenSum_0 15 rfl) h (by decide)
set_option maxRecDepth 20000 in
theorem lkL_M_hasOpenSum_2 (hi : zInj wM v) (xc : XC wM v) (nx : NXM v) (X : Cx wM v p R s m args c 0 0 cX12_hasOpenSum 3 RX12 2) (rt : Rt wM v p l e R s m args below meth c 0 0 Q cX12_hasOpenSum true (some (.int res.1)) res.2)   (n : Nat) : ∀ {x2 : Int32} {σ : Hp},  L_M_hasOpenSum_2   n x2 σ = some res → Go wM v p l e R s m args below meth c 0 0 Q 3 2 [(0, .ref 0), (2, .int x2)] [] σ := by
  induction n with
  | zero => intro x2 σ  h; cases h
  | succ n ih =>
    intro x2 σ  h
    exact lkB_M_hasOpenSum_2 hi xc nx X rt  (fun _ _  hh => ih  hh) h
set_option maxRecDepth 20000 in
theorem lkF_M_hasOpenSum (hi : zInj wM v) (xc : XC wM v) (nx : NXM v) (X : Cx wM v p R s m args c 0 0 cX12_hasOpenSum 3 RX12 2) (rt : Rt wM v p l e R s m args below meth c 0 0 Q cX12_hasOpenSum true (some (.int res.1)) res.2) {a1 : Int32} {σ : Hp}  (h : F_M_hasOpenSum  a1 σ = some res) : Go wM v p l e R s m args below meth c 0 0 Q 3 0 [(0, .ref 0), (1, .int a1)] [] σ := by
  unfold F_M_hasOpenSum at h
  refine go_iload_n X 1 (dk dt_M_hasOpenSum_0 0 rfl) rfl rfl ?_
  refine go_istore_n (lv' := [(2, .int a1), (0, .ref 0), (1, .int a1)]) X (dk dt_M_hasOpenSum_0 1 rfl) rfl (by decide) rfl ?_
  refine go_sub [1, 0] rfl ?_
  exact lkL_M_hasOpenSum_2 hi xc nx X rt  FU  h
set_option maxRecDepth 20000 in
theorem ct_M_hasOpenSum (hi : zInj wM v) (xc : XC wM v) (nx : NXM v)  {a1 : Int32} {σ : Hp}  {q : (Int32 × Hp)} (h : F_M_hasOpenSum  a1 σ = some q) : Ct wM v l yX12_hasOpenSum cX12_hasOpenSum 3 (some .boolean) 2 [.ref 0, .int a1] σ (some (.int q.1)) q.2 :=
  Ct.intro true (by decide) hi xc (Nat.le_of_ble_eq_true rfl) rfl (fun p e R s m args below meth c Q X rt => lkF_M_hasOpenSum hi xc nx X rt  h)
end
def T_M_here_0 : DT := [(0, .aload_n 0, 1), (1, .getfield 155, 3), (4, .aload_n 0, 1), (5, .getfield 158, 3), (8, .if_icmp .ge 19, 3), (11, .aload_n 0, 1), (12, .getfield 25, 3), (15, .aload_n 0, 1), (16, .getfield 155, 3), (19, .baload, 1), (20, .sipush 255, 3), (23, .iand, 1), (24, .goto 4, 3), (27, .iconst (-1), 1), (28, .ireturn, 1)]
theorem dt_M_here_0 : dOk cX12_here T_M_here_0 := by unfold dOk; decide +kernel
section
variable {v : ZV} {l : Launch} {p : Program} {e : Env} {R : Room} {s : State} {m : MethodId} {args : Array Value} {below : List Frame} {meth : Method} {c : Code} {Q : State → Prop} {res : (Int32 × Hp)} 
set_option maxRecDepth 20000 in
theorem lkF_M_here (hi : zInj wM v) (xc : XC wM v) (nx : NXM v) (X : Cx wM v p R s m args c 0 0 cX12_here 1 RX12 2) (rt : Rt wM v p l e R s m args below meth c 0 0 Q cX12_here false (some (.int res.1)) res.2)  {σ : Hp}  (h : F_M_here   σ = some res) : Go wM v p l e R s m args below meth c 0 0 Q 1 0 [(0, .ref 0)] [] σ := by
  unfold F_M_here at h
  refine go_aload_n X 0 (dk dt_M_here_0 0 rfl) rfl rfl ?_
  refine go_geti X fo_X12_155 lM_0 sM_0 fM_0_7 (dk dt_M_here_0 1 rfl) ?_
  refine go_aload_n X 0 (dk dt_M_here_0 2 rfl) rfl rfl ?_
  refine go_geti X fo_X12_158 lM_0 sM_0 fM_0_8 (dk dt_M_here_0 3 rfl) ?_
  refine go_icmp_ge (tgt := 27) X (dk dt_M_here_0 4 rfl) (by decide) h (fun h => ?_) (fun h => ?_)
  · refine go_iconst X (dk dt_M_here_0 13 rfl) ci_m1 ?_
    exact go_iret rt (dk dt_M_here_0 14 rfl) h (fun hh => nomatch hh)
  · refine go_aload_n X 0 (dk dt_M_here_0 5 rfl) rfl rfl ?_
    refine go_getr X fo_X12_25 lM_0 sM_0 fM_0_5 (dk dt_M_here_0 6 rfl) ?_
    refine go_aload_n X 0 (dk dt_M_here_0 7 rfl) rfl rfl ?_
    refine go_geti X fo_X12_155 lM_0 sM_0 fM_0_7 (dk dt_M_here_0 8 rfl) ?_
    refine go_bald X lM_6 sM_6 (dk dt_M_here_0 9 rfl) h (fun h => ?_)
    refine go_sipush X (dk dt_M_here_0 10 rfl) cs_255 ?_
    refine go_iand X (dk dt_M_here_0 11 rfl) ?_
    refine go_goto (tgt := 28) X (dk dt_M_here_0 12 rfl) (by decide) ?_
    exact go_iret rt (dk dt_M_here_0 14 rfl) h (fun hh => nomatch hh)
set_option maxRecDepth 20000 in
theorem ct_M_here (hi : zInj wM v) (xc : XC wM v) (nx : NXM v)   {σ : Hp}  {q : (Int32 × Hp)} (h : F_M_here   σ = some q) : Ct wM v l yX12_here cX12_here 1 (some .int) 2 [.ref 0] σ (some (.int q.1)) q.2 :=
  Ct.intro false (by decide) hi xc (Nat.le_of_ble_eq_true rfl) rfl (fun p e R s m args below meth c Q X rt => lkF_M_here hi xc nx X rt  h)
end
def T_M_hidden_0 : DT := [(0, .iload_n 1, 1), (1, .iconst 0, 1), (2, .iconst 2, 1), (3, .invokestatic 122, 3), (6, .ifCond .ne 5, 3), (9, .iconst (-1), 1), (10, .ireturn, 1), (11, .aload_n 0, 1), (12, .iconst 0, 1), (13, .iconst 0, 1), (14, .invokevirtual 137, 3), (17, .istore_n 2, 1), (18, .iconst 0, 1), (19, .istore_n 3, 1), (20, .iconst 0, 1), (21, .istore 4, 2)]
theorem dt_M_hidden_0 : dOk cX12_hidden T_M_hidden_0 := by unfold dOk; decide +kernel
def T_M_hidden_1 : DT := [(23, .ldc_w 380, 3), (26, .istore 5, 2), (28, .iconst 0, 1), (29, .istore 6, 2), (31, .iload 6, 2), (33, .sipush 256, 3), (36, .if_icmp .ge 104, 3), (39, .iload 6, 2), (41, .iload_n 2, 1), (42, .iconst (-1), 1), (43, .ixor, 1), (44, .iand, 1), (45, .ifCond .eq 6, 3), (48, .goto 86, 3), (51, .iconst 0, 1), (52, .istore 7, 2)]
theorem dt_M_hidden_1 : dOk cX12_hidden T_M_hidden_1 := by unfold dOk; decide +kernel
def T_M_hidden_2 : DT := [(54, .iconst 0, 1), (55, .istore 8, 2), (57, .iload 8, 2), (59, .bipush 8, 2), (61, .if_icmp .ge 34, 3), (64, .iload_n 2, 1), (65, .iload 6, 2), (67, .iconst (-1), 1), (68, .ixor, 1), (69, .iand, 1), (70, .iload 8, 2), (72, .invokestatic 141, 3), (75, .ifCond .eq 14, 3), (78, .iload 7, 2), (80, .aload_n 0, 1), (81, .iload 8, 2)]
theorem dt_M_hidden_2 : dOk cX12_hidden T_M_hidden_2 := by unfold dOk; decide +kernel
def T_M_hidden_3 : DT := [(83, .invokevirtual 261, 3), (86, .ior, 1), (87, .istore 7, 2), (89, .iinc 8 1, 3), (92, .goto (-35), 3), (95, .iload 6, 2), (97, .invokestatic 258, 3), (100, .iload 7, 2), (102, .invokestatic 258, 3), (105, .iadd, 1), (106, .iload 5, 2), (108, .if_icmp .lt 6, 3), (111, .goto 23, 3), (114, .iload 6, 2), (116, .invokestatic 258, 3), (119, .iload 7, 2)]
theorem dt_M_hidden_3 : dOk cX12_hidden T_M_hidden_3 := by unfold dOk; decide +kernel
def T_M_hidden_4 : DT := [(121, .invokestatic 258, 3), (124, .iadd, 1), (125, .istore 5, 2), (127, .iload 6, 2), (129, .istore_n 3, 1), (130, .iload 7, 2), (132, .istore 4, 2), (134, .iinc 6 1, 3), (137, .goto (-106), 3), (140, .iload_n 1, 1), (141, .ifCond .ne 8, 3), (144, .iload 5, 2), (146, .goto 14, 3), (149, .iload_n 1, 1), (150, .iconst 1, 1), (151, .if_icmp .ne 7, 3)]
theorem dt_M_hidden_4 : dOk cX12_hidden T_M_hidden_4 := by unfold dOk; decide +kernel
def T_M_hidden_5 : DT := [(154, .iload_n 3, 1), (155, .goto 5, 3), (158, .iload 4, 2), (160, .ireturn, 1)]
theorem dt_M_hidden_5 : dOk cX12_hidden T_M_hidden_5 := by unfold dOk; decide +kernel
section
variable {v : ZV} {l : Launch} {p : Program} {e : Env} {R : Room} {s : State} {m : MethodId} {args : Array Value} {below : List Frame} {meth : Method} {c : Code} {Q : State → Prop} {res : (Int32 × Hp)} 
set_option maxRecDepth 20000 in
theorem lkB_M_hidden_57 (hi : zInj wM v) (xc : XC wM v) (nx : NXM v) (X : Cx wM v p R s m args c 0 0 cX12_hidden 9 RX12 8) (rt : Rt wM v p l e R s m args below meth c 0 0 Q cX12_hidden false (some (.int res.1)) res.2) {k95 : Int32 → Int32 → Int32 → Int32 → Int32 → Int32 → Int32 → Hp → Option (Int32 × Hp)} {k57 : Int32 → Int32 → Int32 → Int32 → Int32 → Int32 → Int32 → Int32 → Hp → Option (Int32 × Hp)} {x1 : Int32} {x2 : Int32} {x3 : Int32} {x4 : Int32} {x5 : Int32} {x6 : Int32} {x7 : Int32} {x8 : Int32} {σ : Hp}  (hk95 : ∀ (x1 : Int32) (x2 : Int32) (x3 : Int32) (x4 : Int32) (x5 : Int32) (x6 : Int32) (x7 : Int32) (σ : Hp),  k95 x1 x2 x3 x4 x5 x6 x7 σ = some res → Go wM v p l e R s m args below meth c 0 0 Q 9 95 [(0, .ref 0), (1, .int x1), (2, .int x2), (3, .int x3), (4, .int x4), (5, .int x5), (6, .int x6), (7, .int x7)] [] σ) (hk57 : ∀ (x1 : Int32) (x2 : Int32) (x3 : Int32) (x4 : Int32) (x5 : Int32) (x6 : Int32) (x7 : Int32) (x8 : Int32) (σ : Hp),  k57 x1 x2 x3 x4 x5 x6 x7 x8 σ = some res → Go wM v p l e R s m args below meth c 0 0 Q 9 57 [(0, .ref 0), (1, .int x1), (2, .int x2), (3, .int x3), (4, .int x4), (5, .int x5), (6, .int x6), (7, .int x7), (8, .int x8)] [] σ) (h : B_M_hidden_57  k95 k57 x1 x2 x3 x4 x5 x6 x7 x8 σ = some res) : Go wM v p l e R s m args below meth c 0 0 Q 9 57 [(0, .ref 0), (1, .int x1), (2, .int x2), (3, .int x3), (4, .int x4), (5, .int x5), (6, .int x6), (7, .int x7), (8, .int x8)] [] σ := by
  unfold B_M_hidden_57 at h
  refine go_iload X 8 (dk dt_M_hidden_2 2 rfl) rfl ?_
  refine go_bipush X (dk dt_M_hidden_2 3 rfl) cb_8 ?_
  refine go_icmp_ge (tgt := 95) X (dk dt_M_hidden_2 4 rfl) (by decide) h (fun h => ?_) (fun h => ?_)
  · refine go_sub [0, 1, 2, 3, 4, 5, 6, 7] rfl ?_
    exact hk95 _ _ _ _ _ _ _ _  h
  · refine go_iload_n X 2 (dk dt_M_hidden_2 5 rfl) rfl rfl ?_
    refine go_iload X 6 (dk dt_M_hidden_2 6 rfl) rfl ?_
    refine go_iconst X (dk dt_M_hidden_2 7 rfl) ci_m1 ?_
    refine go_ixor X (dk dt_M_hidden_2 8 rfl) ?_
    refine go_iand X (dk dt_M_hidden_2 9 rfl) ?_
    refine go_iload X 8 (dk dt_M_hidden_2 10 rfl) rfl ?_
    refine go_Si (As := [.int (x2 &&& (x6 ^^^ (-1 : Int32))), .int x8]) (rest := []) X so_X12_141 (fun q hq => ct_M_has hi xc nx  hq) (by decide) rfl rfl (Nat.le_of_ble_eq_true rfl) (dk dt_M_hidden_2 11 rfl) h (fun q72 h => ?_)
    refine go_if_eq (tgt := 89) X (dk dt_M_hidden_2 12 rfl) (by decide) h (fun h => ?_) (fun h => ?_)
    · refine go_iinc (lv' := [(8, .int (x8 + (1 : Int32))), (0, .ref 0), (1, .int x1), (2, .int x2), (3, .int x3), (4, .int x4), (5, .int x5), (6, .int x6), (7, .int x7)]) X 8 (dk dt_M_hidden_3 3 rfl) rfl ci_1 (by decide) rfl ?_
      refine go_goto (tgt := 57) X (dk dt_M_hidden_3 4 rfl) (by decide) ?_
      refine go_sub [1, 2, 3, 4, 5, 6, 7, 8, 0] rfl ?_
      exact hk57 _ _ _ _ _ _ _ _ _  h
    · refine go_iload X 7 (dk dt_M_hidden_2 13 rfl) rfl ?_
      refine go_aload_n X 0 (dk dt_M_hidden_2 14 rfl) rfl rfl ?_
      refine go_iload X 8 (dk dt_M_hidden_2 15 rfl) rfl ?_
      refine go_Vi (As := [.int x8]) (rest := [.int x7]) X vo_X12_261 (fun q hq => ct_M_seenBy hi xc nx  hq) (by decide) rfl lM_0 sM_0 rfl rfl (Nat.le_of_ble_eq_true rfl) (dk dt_M_hidden_3 0 rfl) h (fun q83 h => ?_)
      refine go_ior X (dk dt_M_hidden_3 1 rfl) ?_
      refine go_istore (lv' := [(7, .int (x7 ||| q83.1)), (0, .ref 0), (1, .int x1), (2, .int x2), (3, .int x3), (4, .int x4), (5, .int x5), (6, .int x6), (8, .int x8)]) X (dk dt_M_hidden_3 2 rfl) (by decide) rfl ?_
      refine go_iinc (lv' := [(8, .int (x8 + (1 : Int32))), (7, .int (x7 ||| q83.1)), (0, .ref 0), (1, .int x1), (2, .int x2), (3, .int x3), (4, .int x4), (5, .int x5), (6, .int x6)]) X 8 (dk dt_M_hidden_3 3 rfl) rfl ci_1 (by decide) rfl ?_
      refine go_goto (tgt := 57) X (dk dt_M_hidden_3 4 rfl) (by decide) ?_
      refine go_sub [2, 3, 4, 5, 6, 7, 8, 1, 0] rfl ?_
      exact hk57 _ _ _ _ _ _ _ _ _  h
set_option maxRecDepth 20000 in
theorem lkL_M_hidden_57 (hi : zInj wM v) (xc : XC wM v) (nx : NXM v) (X : Cx wM v p R s m args c 0 0 cX12_hidden 9 RX12 8) (rt : Rt wM v p l e R s m args below meth c 0 0 Q cX12_hidden false (some (.int res.1)) res.2) {k95 : Int32 → Int32 → Int32 → Int32 → Int32 → Int32 → Int32 → Hp → Option (Int32 × Hp)} (hk95 : ∀ (x1 : Int32) (x2 : Int32) (x3 : Int32) (x4 : Int32) (x5 : Int32) (x6 : Int32) (x7 : Int32) (σ : Hp),  k95 x1 x2 x3 x4 x5 x6 x7 σ = some res → Go wM v p l e R s m args below meth c 0 0 Q 9 95 [(0, .ref 0), (1, .int x1), (2, .int x2), (3, .int x3), (4, .int x4), (5, .int x5), (6, .int x6), (7, .int x7)] [] σ) (n : Nat) : ∀ {x1 : Int32} {x2 : Int32} {x3 : Int32} {x4 : Int32} {x5 : Int32} {x6 : Int32} {x7 : Int32} {x8 : Int32} {σ : Hp},  L_M_hidden_57  k95 n x1 x2 x3 x4 x5 x6 x7 x8 σ = some res → Go wM v p l e R s m args below meth c 0 0 Q 9 57 [(0, .ref 0), (1, .int x1), (2, .int x2), (3, .int x3), (4, .int x4), (5, .int x5), (6, .int x6), (7, .int x7), (8, .int x8)] [] σ := by
  induction n with
  | zero => intro x1 x2 x3 x4 x5 x6 x7 x8 σ  h; cases h
  | succ n ih =>
    intro x1 x2 x3 x4 x5 x6 x7 x8 σ  h
    exact lkB_M_hidden_57 hi xc nx X rt  hk95 (fun _ _ _ _ _ _ _ _ _  hh => ih  hh) h
set_option maxRecDepth 20000 in
theorem lkJ_M_hidden_95 (hi : zInj wM v) (xc : XC wM v) (nx : NXM v) (X : Cx wM v p R s m args c 0 0 cX12_hidden 9 RX12 8) (rt : Rt wM v p l e R s m args below meth c 0 0 Q cX12_hidden false (some (.int res.1)) res.2) {k31 : Int32 → Int32 → Int32 → Int32 → Int32 → Int32 → Hp → Option (Int32 × Hp)} {x1 : Int32} {x2 : Int32} {x3 : Int32} {x4 : Int32} {x5 : Int32} {x6 : Int32} {x7 : Int32} {σ : Hp}  (hk31 : ∀ (x1 : Int32) (x2 : Int32) (x3 : Int32) (x4 : Int32) (x5 : Int32) (x6 : Int32) (σ : Hp),  k31 x1 x2 x3 x4 x5 x6 σ = some res → Go wM v p l e R s m args below meth c 0 0 Q 9 31 [(0, .ref 0), (1, .int x1), (2, .int x2), (3, .int x3), (4, .int x4), (5, .int x5), (6, .int x6)] [] σ) (h : J_M_hidden_95  k31 x1 x2 x3 x4 x5 x6 x7 σ = some res) : Go wM v p l e R s m args below meth c 0 0 Q 9 95 [(0, .ref 0), (1, .int x1), (2, .int x2), (3, .int x3), (4, .int x4), (5, .int x5), (6, .int x6), (7, .int x7)] [] σ := by
  unfold J_M_hidden_95 at h
  refine go_iload X 6 (dk dt_M_hidden_3 5 rfl) rfl ?_
  refine go_Si (As := [.int x6]) (rest := []) X so_X12_258 (fun q hq => ct_M_bits hi xc nx  hq) (by decide) rfl rfl (Nat.le_of_ble_eq_true rfl) (dk dt_M_hidden_3 6 rfl) h (fun q97 h => ?_)
  refine go_iload X 7 (dk dt_M_hidden_3 7 rfl) rfl ?_
  refine go_Si (As := [.int x7]) (rest := [.int q97.1]) X so_X12_258 (fun q hq => ct_M_bits hi xc nx  hq) (by decide) rfl rfl (Nat.le_of_ble_eq_true rfl) (dk dt_M_hidden_3 8 rfl) h (fun q102 h => ?_)
  refine go_iadd X (dk dt_M_hidden_3 9 rfl) ?_
  refine go_iload X 5 (dk dt_M_hidden_3 10 rfl) rfl ?_
  refine go_icmp_lt (tgt := 114) X (dk dt_M_hidden_3 11 rfl) (by decide) h (fun h => ?_) (fun h => ?_)
  · refine go_iload X 6 (dk dt_M_hidden_3 13 rfl) rfl ?_
    refine go_Si (As := [.int x6]) (rest := []) X so_X12_258 (fun q hq => ct_M_bits hi xc nx  hq) (by decide) rfl rfl (Nat.le_of_ble_eq_true rfl) (dk dt_M_hidden_3 14 rfl) h (fun q116 h => ?_)
    refine go_iload X 7 (dk dt_M_hidden_3 15 rfl) rfl ?_
    refine go_Si (As := [.int x7]) (rest := [.int q116.1]) X so_X12_258 (fun q hq => ct_M_bits hi xc nx  hq) (by decide) rfl rfl (Nat.le_of_ble_eq_true rfl) (dk dt_M_hidden_4 0 rfl) h (fun q121 h => ?_)
    refine go_iadd X (dk dt_M_hidden_4 1 rfl) ?_
    refine go_istore (lv' := [(5, .int (q116.1 + q121.1)), (0, .ref 0), (1, .int x1), (2, .int x2), (3, .int x3), (4, .int x4), (6, .int x6), (7, .int x7)]) X (dk dt_M_hidden_4 2 rfl) (by decide) rfl ?_
    refine go_iload X 6 (dk dt_M_hidden_4 3 rfl) rfl ?_
    refine go_istore_n (lv' := [(3, .int x6), (5, .int (q116.1 + q121.1)), (0, .ref 0), (1, .int x1), (2, .int x2), (4, .int x4), (6, .int x6), (7, .int x7)]) X (dk dt_M_hidden_4 4 rfl) rfl (by decide) rfl ?_
    refine go_iload X 7 (dk dt_M_hidden_4 5 rfl) rfl ?_
    refine go_istore (lv' := [(4, .int x7), (3, .int x6), (5, .int (q116.1 + q121.1)), (0, .ref 0), (1, .int x1), (2, .int x2), (6, .int x6), (7, .int x7)]) X (dk dt_M_hidden_4 6 rfl) (by decide) rfl ?_
    refine go_iinc (lv' := [(6, .int (x6 + (1 : Int32))), (4, .int x7), (3, .int x6), (5, .int (q116.1 + q121.1)), (0, .ref 0), (1, .int x1), (2, .int x2), (7, .int x7)]) X 6 (dk dt_M_hidden_4 7 rfl) rfl ci_1 (by decide) rfl ?_
    refine go_goto (tgt := 31) X (dk dt_M_hidden_4 8 rfl) (by decide) ?_
    refine go_sub [4, 5, 6, 2, 1, 3, 0] rfl ?_
    exact hk31 _ _ _ _ _ _ _  h
  · refine go_goto (tgt := 134) X (dk dt_M_hidden_3 12 rfl) (by decide) ?_
    refine go_iinc (lv' := [(6, .int (x6 + (1 : Int32))), (0, .ref 0), (1, .int x1), (2, .int x2), (3, .int x3), (4, .int x4), (5, .int x5), (7, .int x7)]) X 6 (dk dt_M_hidden_4 7 rfl) rfl ci_1 (by decide) rfl ?_
    refine go_goto (tgt := 31) X (dk dt_M_hidden_4 8 rfl) (by decide) ?_
    refine go_sub [1, 2, 3, 4, 5, 6, 0] rfl ?_
    exact hk31 _ _ _ _ _ _ _  h
set_option maxRecDepth 20000 in
theorem lkB_M_hidden_31 (hi : zInj wM v) (xc : XC wM v) (nx : NXM v) (X : Cx wM v p R s m args c 0 0 cX12_hidden 9 RX12 8) (rt : Rt wM v p l e R s m args below meth c 0 0 Q cX12_hidden false (some (.int res.1)) res.2) {k140 : Int32 → Int32 → Int32 → Int32 → Hp → Option (Int32 × Hp)} {k31 : Int32 → Int32 → Int32 → Int32 → Int32 → Int32 → Hp → Option (Int32 × Hp)} {x1 : Int32} {x2 : Int32} {x3 : Int32} {x4 : Int32} {x5 : Int32} {x6 : Int32} {σ : Hp}  (hk140 : ∀ (x1 : Int32) (x3 : Int32) (x4 : Int32) (x5 : Int32) (σ : Hp),  k140 x1 x3 x4 x5 σ = some res → Go wM v p l e R s m args below meth c 0 0 Q 9 140 [(1, .int x1), (3, .int x3), (4, .int x4), (5, .int x5)] [] σ) (hk31 : ∀ (x1 : Int32) (x2 : Int32) (x3 : Int32) (x4 : Int32) (x5 : Int32) (x6 : Int32) (σ : Hp),  k31 x1 x2 x3 x4 x5 x6 σ = some res → Go wM v p l e R s m args below meth c 0 0 Q 9 31 [(0, .ref 0), (1, .int x1), (2, .int x2), (3, .int x3), (4, .int x4), (5, .int x5), (6, .int x6)] [] σ) (h : B_M_hidden_31  k140 k31 x1 x2 x3 x4 x5 x6 σ = some res) : Go wM v p l e R s m args below meth c 0 0 Q 9 31 [(0, .ref 0), (1, .int x1), (2, .int x2), (3, .int x3), (4, .int x4), (5, .int x5), (6, .int x6)] [] σ := by
  unfold B_M_hidden_31 at h
  refine go_iload X 6 (dk dt_M_hidden_1 4 rfl) rfl ?_
  refine go_sipush X (dk dt_M_hidden_1 5 rfl) cs_256 ?_
  refine go_icmp_ge (tgt := 140) X (dk dt_M_hidden_1 6 rfl) (by decide) h (fun h => ?_) (fun h => ?_)
  · refine go_sub [1, 3, 4, 5] rfl ?_
    exact hk140 _ _ _ _ _  h
  · refine go_iload X 6 (dk dt_M_hidden_1 7 rfl) rfl ?_
    refine go_iload_n X 2 (dk dt_M_hidden_1 8 rfl) rfl rfl ?_
    refine go_iconst X (dk dt_M_hidden_1 9 rfl) ci_m1 ?_
    refine go_ixor X (dk dt_M_hidden_1 10 rfl) ?_
    refine go_iand X (dk dt_M_hidden_1 11 rfl) ?_
    refine go_if_eq (tgt := 51) X (dk dt_M_hidden_1 12 rfl) (by decide) h (fun h => ?_) (fun h => ?_)
    · refine go_iconst X (dk dt_M_hidden_1 14 rfl) ci_0 ?_
      refine go_istore (lv' := [(7, .int (0 : Int32)), (0, .ref 0), (1, .int x1), (2, .int x2), (3, .int x3), (4, .int x4), (5, .int x5), (6, .int x6)]) X (dk dt_M_hidden_1 15 rfl) (by decide) rfl ?_
      refine go_iconst X (dk dt_M_hidden_2 0 rfl) ci_0 ?_
      refine go_istore (lv' := [(8, .int (0 : Int32)), (7, .int (0 : Int32)), (0, .ref 0), (1, .int x1), (2, .int x2), (3, .int x3), (4, .int x4), (5, .int x5), (6, .int x6)]) X (dk dt_M_hidden_2 1 rfl) (by decide) rfl ?_
      refine go_sub [2, 3, 4, 5, 6, 7, 8, 1, 0] rfl ?_
      exact lkL_M_hidden_57 hi xc nx X rt (fun _ _ _ _ _ _ _ _  hh => lkJ_M_hidden_95 hi xc nx X rt  hk31 hh) FU  h
    · refine go_goto (tgt := 134) X (dk dt_M_hidden_1 13 rfl) (by decide) ?_
      refine go_iinc (lv' := [(6, .int (x6 + (1 : Int32))), (0, .ref 0), (1, .int x1), (2, .int x2), (3, .int x3), (4, .int x4), (5, .int x5)]) X 6 (dk dt_M_hidden_4 7 rfl) rfl ci_1 (by decide) rfl ?_
      refine go_goto (tgt := 31) X (dk dt_M_hidden_4 8 rfl) (by decide) ?_
      refine go_sub [1, 2, 3, 4, 5, 6, 0] rfl ?_
      exact hk31 _ _ _ _ _ _ _  h
set_option maxRecDepth 20000 in
theorem lkL_M_hidden_31 (hi : zInj wM v) (xc : XC wM v) (nx : NXM v) (X : Cx wM v p R s m args c 0 0 cX12_hidden 9 RX12 8) (rt : Rt wM v p l e R s m args below meth c 0 0 Q cX12_hidden false (some (.int res.1)) res.2) {k140 : Int32 → Int32 → Int32 → Int32 → Hp → Option (Int32 × Hp)} (hk140 : ∀ (x1 : Int32) (x3 : Int32) (x4 : Int32) (x5 : Int32) (σ : Hp),  k140 x1 x3 x4 x5 σ = some res → Go wM v p l e R s m args below meth c 0 0 Q 9 140 [(1, .int x1), (3, .int x3), (4, .int x4), (5, .int x5)] [] σ) (n : Nat) : ∀ {x1 : Int32} {x2 : Int32} {x3 : Int32} {x4 : Int32} {x5 : Int32} {x6 : Int32} {σ : Hp},  L_M_hidden_31  k140 n x1 x2 x3 x4 x5 x6 σ = some res → Go wM v p l e R s m args below meth c 0 0 Q 9 31 [(0, .ref 0), (1, .int x1), (2, .int x2), (3, .int x3), (4, .int x4), (5, .int x5), (6, .int x6)] [] σ := by
  induction n with
  | zero => intro x1 x2 x3 x4 x5 x6 σ  h; cases h
  | succ n ih =>
    intro x1 x2 x3 x4 x5 x6 σ  h
    exact lkB_M_hidden_31 hi xc nx X rt  hk140 (fun _ _ _ _ _ _ _  hh => ih  hh) h
set_option maxRecDepth 20000 in
theorem lkJ_M_hidden_140 (hi : zInj wM v) (xc : XC wM v) (nx : NXM v) (X : Cx wM v p R s m args c 0 0 cX12_hidden 9 RX12 8) (rt : Rt wM v p l e R s m args below meth c 0 0 Q cX12_hidden false (some (.int res.1)) res.2)  {x1 : Int32} {x3 : Int32} {x4 : Int32} {x5 : Int32} {σ : Hp}   (h : J_M_hidden_140   x1 x3 x4 x5 σ = some res) : Go wM v p l e R s m args below meth c 0 0 Q 9 140 [(1, .int x1), (3, .int x3), (4, .int x4), (5, .int x5)] [] σ := by
  unfold J_M_hidden_140 at h
  refine go_iload_n X 0 (dk dt_M_hidden_4 9 rfl) rfl rfl ?_
  refine go_if_ne (tgt := 149) X (dk dt_M_hidden_4 10 rfl) (by decide) h (fun h => ?_) (fun h => ?_)
  · refine go_iload_n X 0 (dk dt_M_hidden_4 13 rfl) rfl rfl ?_
    refine go_iconst X (dk dt_M_hidden_4 14 rfl) ci_1 ?_
    refine go_icmp_ne (tgt := 158) X (dk dt_M_hidden_4 15 rfl) (by decide) h (fun h => ?_) (fun h => ?_)
    · refine go_iload X 2 (dk dt_M_hidden_5 2 rfl) rfl ?_
      exact go_iret rt (dk dt_M_hidden_5 3 rfl) h (fun hh => nomatch hh)
    · refine go_iload_n X 1 (dk dt_M_hidden_5 0 rfl) rfl rfl ?_
      refine go_goto (tgt := 160) X (dk dt_M_hidden_5 1 rfl) (by decide) ?_
      exact go_iret rt (dk dt_M_hidden_5 3 rfl) h (fun hh => nomatch hh)
  · refine go_iload X 3 (dk dt_M_hidden_4 11 rfl) rfl ?_
    refine go_goto (tgt := 160) X (dk dt_M_hidden_4 12 rfl) (by decide) ?_
    exact go_iret rt (dk dt_M_hidden_5 3 rfl) h (fun hh => nomatch hh)
set_option maxRecDepth 20000 in
theorem lkF_M_hidden (hi : zInj wM v) (xc : XC wM v) (nx : NXM v) (X : Cx wM v p R s m args c 0 0 cX12_hidden 9 RX12 8) (rt : Rt wM v p l e R s m args below meth c 0 0 Q cX12_hidden false (some (.int res.1)) res.2) {a1 : Int32} {σ : Hp}  (h : F_M_hidden  a1 σ = some res) : Go wM v p l e R s m args below meth c 0 0 Q 9 0 [(0, .ref 0), (1, .int a1)] [] σ := by
  unfold F_M_hidden at h
  refine go_iload_n X 1 (dk dt_M_hidden_0 0 rfl) rfl rfl ?_
  refine go_iconst X (dk dt_M_hidden_0 1 rfl) ci_0 ?_
  refine go_iconst X (dk dt_M_hidden_0 2 rfl) ci_2 ?_
  refine go_Si (As := [.int a1, .int (0 : Int32), .int (2 : Int32)]) (rest := []) X so_X12_122 (fun q hq => ct_M_in hi xc nx  hq) (by decide) rfl rfl (Nat.le_of_ble_eq_true rfl) (dk dt_M_hidden_0 3 rfl) h (fun q3 h => ?_)
  refine go_if_ne (tgt := 11) X (dk dt_M_hidden_0 4 rfl) (by decide) h (fun h => ?_) (fun h => ?_)
  · refine go_aload_n X 0 (dk dt_M_hidden_0 7 rfl) rfl rfl ?_
    refine go_iconst X (dk dt_M_hidden_0 8 rfl) ci_0 ?_
    refine go_iconst X (dk dt_M_hidden_0 9 rfl) ci_0 ?_
    refine go_Vi (As := [.int (0 : Int32), .int (0 : Int32)]) (rest := []) X vo_X12_137 (fun q hq => ct_M_setOf hi xc nx  hq) (by decide) rfl lM_0 sM_0 rfl rfl (Nat.le_of_ble_eq_true rfl) (dk dt_M_hidden_0 10 rfl) h (fun q14 h => ?_)
    refine go_istore_n (lv' := [(2, .int q14.1), (0, .ref 0), (1, .int a1)]) X (dk dt_M_hidden_0 11 rfl) rfl (by decide) rfl ?_
    refine go_iconst X (dk dt_M_hidden_0 12 rfl) ci_0 ?_
    refine go_istore_n (lv' := [(3, .int (0 : Int32)), (2, .int q14.1), (0, .ref 0), (1, .int a1)]) X (dk dt_M_hidden_0 13 rfl) rfl (by decide) rfl ?_
    refine go_iconst X (dk dt_M_hidden_0 14 rfl) ci_0 ?_
    refine go_istore (lv' := [(4, .int (0 : Int32)), (3, .int (0 : Int32)), (2, .int q14.1), (0, .ref 0), (1, .int a1)]) X (dk dt_M_hidden_0 15 rfl) (by decide) rfl ?_
    refine go_ldcw X wd_1617 (dk dt_M_hidden_1 0 rfl) ?_
    refine go_istore (lv' := [(5, .int (1000000 : Int32)), (4, .int (0 : Int32)), (3, .int (0 : Int32)), (2, .int q14.1), (0, .ref 0), (1, .int a1)]) X (dk dt_M_hidden_1 1 rfl) (by decide) rfl ?_
    refine go_iconst X (dk dt_M_hidden_1 2 rfl) ci_0 ?_
    refine go_istore (lv' := [(6, .int (0 : Int32)), (5, .int (1000000 : Int32)), (4, .int (0 : Int32)), (3, .int (0 : Int32)), (2, .int q14.1), (0, .ref 0), (1, .int a1)]) X (dk dt_M_hidden_1 3 rfl) (by decide) rfl ?_
    refine go_sub [5, 6, 4, 3, 2, 1, 0] rfl ?_
    exact lkL_M_hidden_31 hi xc nx X rt (fun _ _ _ _ _  hh => lkJ_M_hidden_140 hi xc nx X rt   hh) FU  h
  · refine go_iconst X (dk dt_M_hidden_0 5 rfl) ci_m1 ?_
    exact go_iret rt (dk dt_M_hidden_0 6 rfl) h (fun hh => nomatch hh)
set_option maxRecDepth 20000 in
theorem ct_M_hidden (hi : zInj wM v) (xc : XC wM v) (nx : NXM v)  {a1 : Int32} {σ : Hp}  {q : (Int32 × Hp)} (h : F_M_hidden  a1 σ = some q) : Ct wM v l yX12_hidden cX12_hidden 9 (some .int) 8 [.ref 0, .int a1] σ (some (.int q.1)) q.2 :=
  Ct.intro false (by decide) hi xc (Nat.le_of_ble_eq_true rfl) rfl (fun p e R s m args below meth c Q X rt => lkF_M_hidden hi xc nx X rt  h)
end
def T_M_laysCommon_0 : DT := [(0, .aload_n 0, 1), (1, .getfield 71, 3), (4, .iconst 0, 1), (5, .iaload, 1), (6, .istore_n 1, 1), (7, .iload_n 1, 1), (8, .ifCond .lt 153, 3), (11, .aload_n 0, 1), (12, .getfield 71, 3), (15, .iconst 1, 1), (16, .iaload, 1), (17, .istore_n 2, 1), (18, .iload_n 2, 1), (19, .ifCond .lt 136, 3), (22, .iconst 0, 1), (23, .istore_n 3, 1)]
theorem dt_M_laysCommon_0 : dOk cX12_laysCommon T_M_laysCommon_0 := by unfold dOk; decide +kernel
def T_M_laysCommon_1 : DT := [(24, .iload_n 1, 1), (25, .aload_n 0, 1), (26, .getfield 71, 3), (29, .iconst 0, 1), (30, .iaload, 1), (31, .if_icmp .ge 17, 3), (34, .aload_n 0, 1), (35, .getfield 95, 3), (38, .bipush 61, 2), (40, .iload_n 1, 1), (41, .iconst 1, 1), (42, .iadd, 1), (43, .imul, 1), (44, .iload_n 2, 1), (45, .iadd, 1), (46, .baload, 1)]
theorem dt_M_laysCommon_1 : dOk cX12_laysCommon T_M_laysCommon_1 := by unfold dOk; decide +kernel
def T_M_laysCommon_2 : DT := [(47, .istore_n 3, 1), (48, .iload_n 2, 1), (49, .aload_n 0, 1), (50, .getfield 71, 3), (53, .iconst 1, 1), (54, .iaload, 1), (55, .if_icmp .ge 21, 3), (58, .iload_n 3, 1), (59, .aload_n 0, 1), (60, .getfield 95, 3), (63, .bipush 61, 2), (65, .iload_n 1, 1), (66, .imul, 1), (67, .iload_n 2, 1), (68, .iadd, 1), (69, .iconst 1, 1)]
theorem dt_M_laysCommon_2 : dOk cX12_laysCommon T_M_laysCommon_2 := by unfold dOk; decide +kernel
def T_M_laysCommon_3 : DT := [(70, .iadd, 1), (71, .baload, 1), (72, .invokestatic 338, 3), (75, .istore_n 3, 1), (76, .iload_n 1, 1), (77, .aload_n 0, 1), (78, .getfield 71, 3), (81, .iconst 0, 1), (82, .iaload, 1), (83, .if_icmp .ge 53, 3), (86, .iload_n 2, 1), (87, .aload_n 0, 1), (88, .getfield 71, 3), (91, .iconst 1, 1), (92, .iaload, 1), (93, .if_icmp .ge 43, 3)]
theorem dt_M_laysCommon_3 : dOk cX12_laysCommon T_M_laysCommon_3 := by unfold dOk; decide +kernel
def T_M_laysCommon_4 : DT := [(96, .aload_n 0, 1), (97, .getfield 68, 3), (100, .iload_n 1, 1), (101, .baload, 1), (102, .aload_n 0, 1), (103, .getfield 68, 3), (106, .bipush 60, 2), (108, .iload_n 2, 1), (109, .iadd, 1), (110, .baload, 1), (111, .if_icmp .ne 25, 3), (114, .iload_n 3, 1), (115, .iconst 1, 1), (116, .aload_n 0, 1), (117, .getfield 95, 3), (120, .bipush 61, 2)]
theorem dt_M_laysCommon_4 : dOk cX12_laysCommon T_M_laysCommon_4 := by unfold dOk; decide +kernel
def T_M_laysCommon_5 : DT := [(122, .iload_n 1, 1), (123, .iconst 1, 1), (124, .iadd, 1), (125, .imul, 1), (126, .iload_n 2, 1), (127, .iadd, 1), (128, .iconst 1, 1), (129, .iadd, 1), (130, .baload, 1), (131, .iadd, 1), (132, .invokestatic 338, 3), (135, .istore_n 3, 1), (136, .aload_n 0, 1), (137, .getfield 95, 3), (140, .bipush 61, 2), (142, .iload_n 1, 1)]
theorem dt_M_laysCommon_5 : dOk cX12_laysCommon T_M_laysCommon_5 := by unfold dOk; decide +kernel
def T_M_laysCommon_6 : DT := [(143, .imul, 1), (144, .iload_n 2, 1), (145, .iadd, 1), (146, .iload_n 3, 1), (147, .i2b, 1), (148, .bastore, 1), (149, .iinc 2 (-1), 3), (152, .goto (-134), 3), (155, .iinc 1 (-1), 3), (158, .goto (-151), 3), (161, .return_, 1)]
theorem dt_M_laysCommon_6 : dOk cX12_laysCommon T_M_laysCommon_6 := by unfold dOk; decide +kernel
section
variable {v : ZV} {l : Launch} {p : Program} {e : Env} {R : Room} {s : State} {m : MethodId} {args : Array Value} {below : List Frame} {meth : Method} {c : Code} {Q : State → Prop} {res : Hp} 
set_option maxRecDepth 20000 in
theorem lkJ_M_laysCommon_136 (hi : zInj wM v) (xc : XC wM v) (nx : NXM v) (X : Cx wM v p R s m args c 0 0 cX12_laysCommon 4 RX12 4) (rt : Rt wM v p l e R s m args below meth c 0 0 Q cX12_laysCommon false none res) {k18 : Int32 → Int32 → Hp → Option Hp} {x1 : Int32} {x2 : Int32} {x3 : Int32} {σ : Hp}  (hk18 : ∀ (x1 : Int32) (x2 : Int32) (σ : Hp),  k18 x1 x2 σ = some res → Go wM v p l e R s m args below meth c 0 0 Q 4 18 [(0, .ref 0), (1, .int x1), (2, .int x2)] [] σ) (h : J_M_laysCommon_136  k18 x1 x2 x3 σ = some res) : Go wM v p l e R s m args below meth c 0 0 Q 4 136 [(0, .ref 0), (1, .int x1), (2, .int x2), (3, .int x3)] [] σ := by
  unfold J_M_laysCommon_136 at h
  refine go_aload_n X 0 (dk dt_M_laysCommon_5 12 rfl) rfl rfl ?_
  refine go_getr X fo_X12_95 lM_0 sM_0 fM_0_49 (dk dt_M_laysCommon_5 13 rfl) ?_
  refine go_bipush X (dk dt_M_laysCommon_5 14 rfl) cb_61 ?_
  refine go_iload_n X 1 (dk dt_M_laysCommon_5 15 rfl) rfl rfl ?_
  refine go_imul X (dk dt_M_laysCommon_6 0 rfl) ?_
  refine go_iload_n X 2 (dk dt_M_laysCommon_6 1 rfl) rfl rfl ?_
  refine go_iadd X (dk dt_M_laysCommon_6 2 rfl) ?_
  refine go_iload_n X 3 (dk dt_M_laysCommon_6 3 rfl) rfl rfl ?_
  refine go_i2b X (dk dt_M_laysCommon_6 4 rfl) ?_
  refine go_bast X lM_29 sM_29 (dk dt_M_laysCommon_6 5 rfl) h (fun h => ?_)
  refine go_iinc (lv' := [(2, .int (x2 + (-1 : Int32))), (0, .ref 0), (1, .int x1), (3, .int x3)]) X 2 (dk dt_M_laysCommon_6 6 rfl) rfl ci_m1 (by decide) rfl ?_
  refine go_goto (tgt := 18) X (dk dt_M_laysCommon_6 7 rfl) (by decide) ?_
  refine go_sub [1, 2, 0] rfl ?_
  exact hk18 _ _ _  h
set_option maxRecDepth 20000 in
theorem lkJ_M_laysCommon_76 (hi : zInj wM v) (xc : XC wM v) (nx : NXM v) (X : Cx wM v p R s m args c 0 0 cX12_laysCommon 4 RX12 4) (rt : Rt wM v p l e R s m args below meth c 0 0 Q cX12_laysCommon false none res) {k18 : Int32 → Int32 → Hp → Option Hp} {x1 : Int32} {x2 : Int32} {x3 : Int32} {σ : Hp}  (hk18 : ∀ (x1 : Int32) (x2 : Int32) (σ : Hp),  k18 x1 x2 σ = some res → Go wM v p l e R s m args below meth c 0 0 Q 4 18 [(0, .ref 0), (1, .int x1), (2, .int x2)] [] σ) (h : J_M_laysCommon_76  k18 x1 x2 x3 σ = some res) : Go wM v p l e R s m args below meth c 0 0 Q 4 76 [(0, .ref 0), (1, .int x1), (2, .int x2), (3, .int x3)] [] σ := by
  unfold J_M_laysCommon_76 at h
  refine go_iload_n X 1 (dk dt_M_laysCommon_3 4 rfl) rfl rfl ?_
  refine go_aload_n X 0 (dk dt_M_laysCommon_3 5 rfl) rfl rfl ?_
  refine go_getr X fo_X12_71 lM_0 sM_0 fM_0_31 (dk dt_M_laysCommon_3 6 rfl) ?_
  refine go_iconst X (dk dt_M_laysCommon_3 7 rfl) ci_0 ?_
  refine go_iald X lM_21 sM_21 (dk dt_M_laysCommon_3 8 rfl) h (fun h => ?_)
  refine go_icmp_ge (tgt := 136) X (dk dt_M_laysCommon_3 9 rfl) (by decide) h (fun h => ?_) (fun h => ?_)
  · exact lkJ_M_laysCommon_136 hi xc nx X rt  hk18 h
  · refine go_iload_n X 2 (dk dt_M_laysCommon_3 10 rfl) rfl rfl ?_
    refine go_aload_n X 0 (dk dt_M_laysCommon_3 11 rfl) rfl rfl ?_
    refine go_getr X fo_X12_71 lM_0 sM_0 fM_0_31 (dk dt_M_laysCommon_3 12 rfl) ?_
    refine go_iconst X (dk dt_M_laysCommon_3 13 rfl) ci_1 ?_
    refine go_iald X lM_21 sM_21 (dk dt_M_laysCommon_3 14 rfl) h (fun h => ?_)
    refine go_icmp_ge (tgt := 136) X (dk dt_M_laysCommon_3 15 rfl) (by decide) h (fun h => ?_) (fun h => ?_)
    · exact lkJ_M_laysCommon_136 hi xc nx X rt  hk18 h
    · refine go_aload_n X 0 (dk dt_M_laysCommon_4 0 rfl) rfl rfl ?_
      refine go_getr X fo_X12_68 lM_0 sM_0 fM_0_30 (dk dt_M_laysCommon_4 1 rfl) ?_
      refine go_iload_n X 1 (dk dt_M_laysCommon_4 2 rfl) rfl rfl ?_
      refine go_bald X lM_20 sM_20 (dk dt_M_laysCommon_4 3 rfl) h (fun h => ?_)
      refine go_aload_n X 0 (dk dt_M_laysCommon_4 4 rfl) rfl rfl ?_
      refine go_getr X fo_X12_68 lM_0 sM_0 fM_0_30 (dk dt_M_laysCommon_4 5 rfl) ?_
      refine go_bipush X (dk dt_M_laysCommon_4 6 rfl) cb_60 ?_
      refine go_iload_n X 2 (dk dt_M_laysCommon_4 7 rfl) rfl rfl ?_
      refine go_iadd X (dk dt_M_laysCommon_4 8 rfl) ?_
      refine go_bald X lM_20 sM_20 (dk dt_M_laysCommon_4 9 rfl) h (fun h => ?_)
      refine go_icmp_ne (tgt := 136) X (dk dt_M_laysCommon_4 10 rfl) (by decide) h (fun h => ?_) (fun h => ?_)
      · exact lkJ_M_laysCommon_136 hi xc nx X rt  hk18 h
      · refine go_iload_n X 3 (dk dt_M_laysCommon_4 11 rfl) rfl rfl ?_
        refine go_iconst X (dk dt_M_laysCommon_4 12 rfl) ci_1 ?_
        refine go_aload_n X 0 (dk dt_M_laysCommon_4 13 rfl) rfl rfl ?_
        refine go_getr X fo_X12_95 lM_0 sM_0 fM_0_49 (dk dt_M_laysCommon_4 14 rfl) ?_
        refine go_bipush X (dk dt_M_laysCommon_4 15 rfl) cb_61 ?_
        refine go_iload_n X 1 (dk dt_M_laysCommon_5 0 rfl) rfl rfl ?_
        refine go_iconst X (dk dt_M_laysCommon_5 1 rfl) ci_1 ?_
        refine go_iadd X (dk dt_M_laysCommon_5 2 rfl) ?_
        refine go_imul X (dk dt_M_laysCommon_5 3 rfl) ?_
        refine go_iload_n X 2 (dk dt_M_laysCommon_5 4 rfl) rfl rfl ?_
        refine go_iadd X (dk dt_M_laysCommon_5 5 rfl) ?_
        refine go_iconst X (dk dt_M_laysCommon_5 6 rfl) ci_1 ?_
        refine go_iadd X (dk dt_M_laysCommon_5 7 rfl) ?_
        refine go_bald X lM_29 sM_29 (dk dt_M_laysCommon_5 8 rfl) h (fun h => ?_)
        refine go_iadd X (dk dt_M_laysCommon_5 9 rfl) ?_
        refine go_Si (As := [.int x3, .int ((1 : Int32) + (σ 29 (Int32.toNatClampNeg ((((61 : Int32) * (x1 + (1 : Int32))) + x2) + (1 : Int32)))))]) (rest := []) X so_X12_338 (fun q hq => ct_M_max hi xc nx  hq) (by decide) rfl rfl (Nat.le_of_ble_eq_true rfl) (dk dt_M_laysCommon_5 10 rfl) h (fun q132 h => ?_)
        refine go_istore_n (lv' := [(3, .int q132.1), (0, .ref 0), (1, .int x1), (2, .int x2)]) X (dk dt_M_laysCommon_5 11 rfl) rfl (by decide) rfl ?_
        refine go_sub [1, 2, 3, 0] rfl ?_
        exact lkJ_M_laysCommon_136 hi xc nx X rt  hk18 h
set_option maxRecDepth 20000 in
theorem lkJ_M_laysCommon_48 (hi : zInj wM v) (xc : XC wM v) (nx : NXM v) (X : Cx wM v p R s m args c 0 0 cX12_laysCommon 4 RX12 4) (rt : Rt wM v p l e R s m args below meth c 0 0 Q cX12_laysCommon false none res) {k18 : Int32 → Int32 → Hp → Option Hp} {x1 : Int32} {x2 : Int32} {x3 : Int32} {σ : Hp}  (hk18 : ∀ (x1 : Int32) (x2 : Int32) (σ : Hp),  k18 x1 x2 σ = some res → Go wM v p l e R s m args below meth c 0 0 Q 4 18 [(0, .ref 0), (1, .int x1), (2, .int x2)] [] σ) (h : J_M_laysCommon_48  k18 x1 x2 x3 σ = some res) : Go wM v p l e R s m args below meth c 0 0 Q 4 48 [(0, .ref 0), (1, .int x1), (2, .int x2), (3, .int x3)] [] σ := by
  unfold J_M_laysCommon_48 at h
  refine go_iload_n X 2 (dk dt_M_laysCommon_2 1 rfl) rfl rfl ?_
  refine go_aload_n X 0 (dk dt_M_laysCommon_2 2 rfl) rfl rfl ?_
  refine go_getr X fo_X12_71 lM_0 sM_0 fM_0_31 (dk dt_M_laysCommon_2 3 rfl) ?_
  refine go_iconst X (dk dt_M_laysCommon_2 4 rfl) ci_1 ?_
  refine go_iald X lM_21 sM_21 (dk dt_M_laysCommon_2 5 rfl) h (fun h => ?_)
  refine go_icmp_ge (tgt := 76) X (dk dt_M_laysCommon_2 6 rfl) (by decide) h (fun h => ?_) (fun h => ?_)
  · exact lkJ_M_laysCommon_76 hi xc nx X rt  hk18 h
  · refine go_iload_n X 3 (dk dt_M_laysCommon_2 7 rfl) rfl rfl ?_
    refine go_aload_n X 0 (dk dt_M_laysCommon_2 8 rfl) rfl rfl ?_
    refine go_getr X fo_X12_95 lM_0 sM_0 fM_0_49 (dk dt_M_laysCommon_2 9 rfl) ?_
    refine go_bipush X (dk dt_M_laysCommon_2 10 rfl) cb_61 ?_
    refine go_iload_n X 1 (dk dt_M_laysCommon_2 11 rfl) rfl rfl ?_
    refine go_imul X (dk dt_M_laysCommon_2 12 rfl) ?_
    refine go_iload_n X 2 (dk dt_M_laysCommon_2 13 rfl) rfl rfl ?_
    refine go_iadd X (dk dt_M_laysCommon_2 14 rfl) ?_
    refine go_iconst X (dk dt_M_laysCommon_2 15 rfl) ci_1 ?_
    refine go_iadd X (dk dt_M_laysCommon_3 0 rfl) ?_
    refine go_bald X lM_29 sM_29 (dk dt_M_laysCommon_3 1 rfl) h (fun h => ?_)
    refine go_Si (As := [.int x3, .int (σ 29 (Int32.toNatClampNeg ((((61 : Int32) * x1) + x2) + (1 : Int32))))]) (rest := []) X so_X12_338 (fun q hq => ct_M_max hi xc nx  hq) (by decide) rfl rfl (Nat.le_of_ble_eq_true rfl) (dk dt_M_laysCommon_3 2 rfl) h (fun q72 h => ?_)
    refine go_istore_n (lv' := [(3, .int q72.1), (0, .ref 0), (1, .int x1), (2, .int x2)]) X (dk dt_M_laysCommon_3 3 rfl) rfl (by decide) rfl ?_
    refine go_sub [1, 2, 3, 0] rfl ?_
    exact lkJ_M_laysCommon_76 hi xc nx X rt  hk18 h
set_option maxRecDepth 20000 in
theorem lkB_M_laysCommon_18 (hi : zInj wM v) (xc : XC wM v) (nx : NXM v) (X : Cx wM v p R s m args c 0 0 cX12_laysCommon 4 RX12 4) (rt : Rt wM v p l e R s m args below meth c 0 0 Q cX12_laysCommon false none res) {k155 : Int32 → Hp → Option Hp} {k18 : Int32 → Int32 → Hp → Option Hp} {x1 : Int32} {x2 : Int32} {σ : Hp}  (hk155 : ∀ (x1 : Int32) (σ : Hp),  k155 x1 σ = some res → Go wM v p l e R s m args below meth c 0 0 Q 4 155 [(0, .ref 0), (1, .int x1)] [] σ) (hk18 : ∀ (x1 : Int32) (x2 : Int32) (σ : Hp),  k18 x1 x2 σ = some res → Go wM v p l e R s m args below meth c 0 0 Q 4 18 [(0, .ref 0), (1, .int x1), (2, .int x2)] [] σ) (h : B_M_laysCommon_18  k155 k18 x1 x2 σ = some res) : Go wM v p l e R s m args below meth c 0 0 Q 4 18 [(0, .ref 0), (1, .int x1), (2, .int x2)] [] σ := by
  unfold B_M_laysCommon_18 at h
  refine go_iload_n X 2 (dk dt_M_laysCommon_0 12 rfl) rfl rfl ?_
  refine go_if_lt (tgt := 155) X (dk dt_M_laysCommon_0 13 rfl) (by decide) h (fun h => ?_) (fun h => ?_)
  · refine go_sub [0, 1] rfl ?_
    exact hk155 _ _  h
  · refine go_iconst X (dk dt_M_laysCommon_0 14 rfl) ci_0 ?_
    refine go_istore_n (lv' := [(3, .int (0 : Int32)), (0, .ref 0), (1, .int x1), (2, .int x2)]) X (dk dt_M_laysCommon_0 15 rfl) rfl (by decide) rfl ?_
    refine go_iload_n X 2 (dk dt_M_laysCommon_1 0 rfl) rfl rfl ?_
    refine go_aload_n X 1 (dk dt_M_laysCommon_1 1 rfl) rfl rfl ?_
    refine go_getr X fo_X12_71 lM_0 sM_0 fM_0_31 (dk dt_M_laysCommon_1 2 rfl) ?_
    refine go_iconst X (dk dt_M_laysCommon_1 3 rfl) ci_0 ?_
    refine go_iald X lM_21 sM_21 (dk dt_M_laysCommon_1 4 rfl) h (fun h => ?_)
    refine go_icmp_ge (tgt := 48) X (dk dt_M_laysCommon_1 5 rfl) (by decide) h (fun h => ?_) (fun h => ?_)
    · refine go_sub [1, 2, 3, 0] rfl ?_
      exact lkJ_M_laysCommon_48 hi xc nx X rt  hk18 h
    · refine go_aload_n X 1 (dk dt_M_laysCommon_1 6 rfl) rfl rfl ?_
      refine go_getr X fo_X12_95 lM_0 sM_0 fM_0_49 (dk dt_M_laysCommon_1 7 rfl) ?_
      refine go_bipush X (dk dt_M_laysCommon_1 8 rfl) cb_61 ?_
      refine go_iload_n X 2 (dk dt_M_laysCommon_1 9 rfl) rfl rfl ?_
      refine go_iconst X (dk dt_M_laysCommon_1 10 rfl) ci_1 ?_
      refine go_iadd X (dk dt_M_laysCommon_1 11 rfl) ?_
      refine go_imul X (dk dt_M_laysCommon_1 12 rfl) ?_
      refine go_iload_n X 3 (dk dt_M_laysCommon_1 13 rfl) rfl rfl ?_
      refine go_iadd X (dk dt_M_laysCommon_1 14 rfl) ?_
      refine go_bald X lM_29 sM_29 (dk dt_M_laysCommon_1 15 rfl) h (fun h => ?_)
      refine go_istore_n (lv' := [(3, .int (σ 29 (Int32.toNatClampNeg (((61 : Int32) * (x1 + (1 : Int32))) + x2)))), (0, .ref 0), (1, .int x1), (2, .int x2)]) X (dk dt_M_laysCommon_2 0 rfl) rfl (by decide) rfl ?_
      refine go_sub [1, 2, 3, 0] rfl ?_
      exact lkJ_M_laysCommon_48 hi xc nx X rt  hk18 h
set_option maxRecDepth 20000 in
theorem lkL_M_laysCommon_18 (hi : zInj wM v) (xc : XC wM v) (nx : NXM v) (X : Cx wM v p R s m args c 0 0 cX12_laysCommon 4 RX12 4) (rt : Rt wM v p l e R s m args below meth c 0 0 Q cX12_laysCommon false none res) {k155 : Int32 → Hp → Option Hp} (hk155 : ∀ (x1 : Int32) (σ : Hp),  k155 x1 σ = some res → Go wM v p l e R s m args below meth c 0 0 Q 4 155 [(0, .ref 0), (1, .int x1)] [] σ) (n : Nat) : ∀ {x1 : Int32} {x2 : Int32} {σ : Hp},  L_M_laysCommon_18  k155 n x1 x2 σ = some res → Go wM v p l e R s m args below meth c 0 0 Q 4 18 [(0, .ref 0), (1, .int x1), (2, .int x2)] [] σ := by
  induction n with
  | zero => intro x1 x2 σ  h; cases h
  | succ n ih =>
    intro x1 x2 σ  h
    exact lkB_M_laysCommon_18 hi xc nx X rt  hk155 (fun _ _ _  hh => ih  hh) h
set_option maxRecDepth 20000 in
theorem lkJ_M_laysCommon_155 (hi : zInj wM v) (xc : XC wM v) (nx : NXM v) (X : Cx wM v p R s m args c 0 0 cX12_laysCommon 4 RX12 4) (rt : Rt wM v p l e R s m args below meth c 0 0 Q cX12_laysCommon false none res) {k7 : Int32 → Hp → Option Hp} {x1 : Int32} {σ : Hp}  (hk7 : ∀ (x1 : Int32) (σ : Hp),  k7 x1 σ = some res → Go wM v p l e R s m args below meth c 0 0 Q 4 7 [(0, .ref 0), (1, .int x1)] [] σ) (h : J_M_laysCommon_155  k7 x1 σ = some res) : Go wM v p l e R s m args below meth c 0 0 Q 4 155 [(0, .ref 0), (1, .int x1)] [] σ := by
  unfold J_M_laysCommon_155 at h
  refine go_iinc (lv' := [(1, .int (x1 + (-1 : Int32))), (0, .ref 0)]) X 1 (dk dt_M_laysCommon_6 8 rfl) rfl ci_m1 (by decide) rfl ?_
  refine go_goto (tgt := 7) X (dk dt_M_laysCommon_6 9 rfl) (by decide) ?_
  refine go_sub [1, 0] rfl ?_
  exact hk7 _ _  h
set_option maxRecDepth 20000 in
theorem lkB_M_laysCommon_7 (hi : zInj wM v) (xc : XC wM v) (nx : NXM v) (X : Cx wM v p R s m args c 0 0 cX12_laysCommon 4 RX12 4) (rt : Rt wM v p l e R s m args below meth c 0 0 Q cX12_laysCommon false none res) {k7 : Int32 → Hp → Option Hp} {x1 : Int32} {σ : Hp}  (hk7 : ∀ (x1 : Int32) (σ : Hp),  k7 x1 σ = some res → Go wM v p l e R s m args below meth c 0 0 Q 4 7 [(0, .ref 0), (1, .int x1)] [] σ) (h : B_M_laysCommon_7  k7 x1 σ = some res) : Go wM v p l e R s m args below meth c 0 0 Q 4 7 [(0, .ref 0), (1, .int x1)] [] σ := by
  unfold B_M_laysCommon_7 at h
  refine go_iload_n X 1 (dk dt_M_laysCommon_0 5 rfl) rfl rfl ?_
  refine go_if_lt (tgt := 161) X (dk dt_M_laysCommon_0 6 rfl) (by decide) h (fun h => ?_) (fun h => ?_)
  · exact go_vret rt (dk dt_M_laysCommon_6 10 rfl) h
  · refine go_aload_n X 0 (dk dt_M_laysCommon_0 7 rfl) rfl rfl ?_
    refine go_getr X fo_X12_71 lM_0 sM_0 fM_0_31 (dk dt_M_laysCommon_0 8 rfl) ?_
    refine go_iconst X (dk dt_M_laysCommon_0 9 rfl) ci_1 ?_
    refine go_iald X lM_21 sM_21 (dk dt_M_laysCommon_0 10 rfl) h (fun h => ?_)
    refine go_istore_n (lv' := [(2, .int (σ 21 (Int32.toNatClampNeg (1 : Int32)))), (0, .ref 0), (1, .int x1)]) X (dk dt_M_laysCommon_0 11 rfl) rfl (by decide) rfl ?_
    refine go_sub [1, 2, 0] rfl ?_
    exact lkL_M_laysCommon_18 hi xc nx X rt (fun _ _  hh => lkJ_M_laysCommon_155 hi xc nx X rt  hk7 hh) FU  h
set_option maxRecDepth 20000 in
theorem lkL_M_laysCommon_7 (hi : zInj wM v) (xc : XC wM v) (nx : NXM v) (X : Cx wM v p R s m args c 0 0 cX12_laysCommon 4 RX12 4) (rt : Rt wM v p l e R s m args below meth c 0 0 Q cX12_laysCommon false none res)   (n : Nat) : ∀ {x1 : Int32} {σ : Hp},  L_M_laysCommon_7   n x1 σ = some res → Go wM v p l e R s m args below meth c 0 0 Q 4 7 [(0, .ref 0), (1, .int x1)] [] σ := by
  induction n with
  | zero => intro x1 σ  h; cases h
  | succ n ih =>
    intro x1 σ  h
    exact lkB_M_laysCommon_7 hi xc nx X rt  (fun _ _  hh => ih  hh) h
set_option maxRecDepth 20000 in
theorem lkF_M_laysCommon (hi : zInj wM v) (xc : XC wM v) (nx : NXM v) (X : Cx wM v p R s m args c 0 0 cX12_laysCommon 4 RX12 4) (rt : Rt wM v p l e R s m args below meth c 0 0 Q cX12_laysCommon false none res)  {σ : Hp}  (h : F_M_laysCommon   σ = some res) : Go wM v p l e R s m args below meth c 0 0 Q 4 0 [(0, .ref 0)] [] σ := by
  unfold F_M_laysCommon at h
  refine go_aload_n X 0 (dk dt_M_laysCommon_0 0 rfl) rfl rfl ?_
  refine go_getr X fo_X12_71 lM_0 sM_0 fM_0_31 (dk dt_M_laysCommon_0 1 rfl) ?_
  refine go_iconst X (dk dt_M_laysCommon_0 2 rfl) ci_0 ?_
  refine go_iald X lM_21 sM_21 (dk dt_M_laysCommon_0 3 rfl) h (fun h => ?_)
  refine go_istore_n (lv' := [(1, .int (σ 21 (Int32.toNatClampNeg (0 : Int32)))), (0, .ref 0)]) X (dk dt_M_laysCommon_0 4 rfl) rfl (by decide) rfl ?_
  refine go_sub [1, 0] rfl ?_
  exact lkL_M_laysCommon_7 hi xc nx X rt  FU  h
set_option maxRecDepth 20000 in
theorem ct_M_laysCommon (hi : zInj wM v) (xc : XC wM v) (nx : NXM v)   {σ : Hp}  {q : Hp} (h : F_M_laysCommon   σ = some q) : Ct wM v l yX12_laysCommon cX12_laysCommon 4 none 4 [.ref 0] σ none q :=
  Ct.intro false (by decide) hi xc (Nat.le_of_ble_eq_true rfl) rfl (fun p e R s m args below meth c Q X rt => lkF_M_laysCommon hi xc nx X rt  h)
end
def T_M_nextOf_0 : DT := [(0, .iload_n 2, 1), (1, .istore 4, 2), (3, .iload 4, 2), (5, .aload_n 0, 1), (6, .getfield 71, 3), (9, .iload_n 1, 1), (10, .iaload, 1), (11, .if_icmp .ge 28, 3), (14, .aload_n 0, 1), (15, .getfield 68, 3), (18, .bipush 60, 2), (20, .iload_n 1, 1), (21, .imul, 1), (22, .iload 4, 2), (24, .iadd, 1), (25, .baload, 1)]
theorem dt_M_nextOf_0 : dOk cX12_nextOf T_M_nextOf_0 := by unfold dOk; decide +kernel
def T_M_nextOf_1 : DT := [(26, .iload_n 3, 1), (27, .if_icmp .ne 6, 3), (30, .iload 4, 2), (32, .ireturn, 1), (33, .iinc 4 1, 3), (36, .goto (-33), 3), (39, .iconst (-1), 1), (40, .ireturn, 1)]
theorem dt_M_nextOf_1 : dOk cX12_nextOf T_M_nextOf_1 := by unfold dOk; decide +kernel
section
variable {v : ZV} {l : Launch} {p : Program} {e : Env} {R : Room} {s : State} {m : MethodId} {args : Array Value} {below : List Frame} {meth : Method} {c : Code} {Q : State → Prop} {res : (Int32 × Hp)} 
set_option maxRecDepth 20000 in
theorem lkB_M_nextOf_3 (hi : zInj wM v) (xc : XC wM v) (nx : NXM v) (X : Cx wM v p R s m args c 0 0 cX12_nextOf 5 RX12 2) (rt : Rt wM v p l e R s m args below meth c 0 0 Q cX12_nextOf false (some (.int res.1)) res.2) {k3 : Int32 → Int32 → Int32 → Hp → Option (Int32 × Hp)} {x1 : Int32} {x3 : Int32} {x4 : Int32} {σ : Hp}  (hk3 : ∀ (x1 : Int32) (x3 : Int32) (x4 : Int32) (σ : Hp),  k3 x1 x3 x4 σ = some res → Go wM v p l e R s m args below meth c 0 0 Q 5 3 [(0, .ref 0), (1, .int x1), (3, .int x3), (4, .int x4)] [] σ) (h : B_M_nextOf_3  k3 x1 x3 x4 σ = some res) : Go wM v p l e R s m args below meth c 0 0 Q 5 3 [(0, .ref 0), (1, .int x1), (3, .int x3), (4, .int x4)] [] σ := by
  unfold B_M_nextOf_3 at h
  refine go_iload X 3 (dk dt_M_nextOf_0 2 rfl) rfl ?_
  refine go_aload_n X 0 (dk dt_M_nextOf_0 3 rfl) rfl rfl ?_
  refine go_getr X fo_X12_71 lM_0 sM_0 fM_0_31 (dk dt_M_nextOf_0 4 rfl) ?_
  refine go_iload_n X 1 (dk dt_M_nextOf_0 5 rfl) rfl rfl ?_
  refine go_iald X lM_21 sM_21 (dk dt_M_nextOf_0 6 rfl) h (fun h => ?_)
  refine go_icmp_ge (tgt := 39) X (dk dt_M_nextOf_0 7 rfl) (by decide) h (fun h => ?_) (fun h => ?_)
  · refine go_iconst X (dk dt_M_nextOf_1 6 rfl) ci_m1 ?_
    exact go_iret rt (dk dt_M_nextOf_1 7 rfl) h (fun hh => nomatch hh)
  · refine go_aload_n X 0 (dk dt_M_nextOf_0 8 rfl) rfl rfl ?_
    refine go_getr X fo_X12_68 lM_0 sM_0 fM_0_30 (dk dt_M_nextOf_0 9 rfl) ?_
    refine go_bipush X (dk dt_M_nextOf_0 10 rfl) cb_60 ?_
    refine go_iload_n X 1 (dk dt_M_nextOf_0 11 rfl) rfl rfl ?_
    refine go_imul X (dk dt_M_nextOf_0 12 rfl) ?_
    refine go_iload X 3 (dk dt_M_nextOf_0 13 rfl) rfl ?_
    refine go_iadd X (dk dt_M_nextOf_0 14 rfl) ?_
    refine go_bald X lM_20 sM_20 (dk dt_M_nextOf_0 15 rfl) h (fun h => ?_)
    refine go_iload_n X 2 (dk dt_M_nextOf_1 0 rfl) rfl rfl ?_
    refine go_icmp_ne (tgt := 33) X (dk dt_M_nextOf_1 1 rfl) (by decide) h (fun h => ?_) (fun h => ?_)
    · refine go_iinc (lv' := [(4, .int (x4 + (1 : Int32))), (0, .ref 0), (1, .int x1), (3, .int x3)]) X 3 (dk dt_M_nextOf_1 4 rfl) rfl ci_1 (by decide) rfl ?_
      refine go_goto (tgt := 3) X (dk dt_M_nextOf_1 5 rfl) (by decide) ?_
      refine go_sub [1, 2, 3, 0] rfl ?_
      exact hk3 _ _ _ _  h
    · refine go_iload X 3 (dk dt_M_nextOf_1 2 rfl) rfl ?_
      exact go_iret rt (dk dt_M_nextOf_1 3 rfl) h (fun hh => nomatch hh)
set_option maxRecDepth 20000 in
theorem lkL_M_nextOf_3 (hi : zInj wM v) (xc : XC wM v) (nx : NXM v) (X : Cx wM v p R s m args c 0 0 cX12_nextOf 5 RX12 2) (rt : Rt wM v p l e R s m args below meth c 0 0 Q cX12_nextOf false (some (.int res.1)) res.2)   (n : Nat) : ∀ {x1 : Int32} {x3 : Int32} {x4 : Int32} {σ : Hp},  L_M_nextOf_3   n x1 x3 x4 σ = some res → Go wM v p l e R s m args below meth c 0 0 Q 5 3 [(0, .ref 0), (1, .int x1), (3, .int x3), (4, .int x4)] [] σ := by
  induction n with
  | zero => intro x1 x3 x4 σ  h; cases h
  | succ n ih =>
    intro x1 x3 x4 σ  h
    exact lkB_M_nextOf_3 hi xc nx X rt  (fun _ _ _ _  hh => ih  hh) h
set_option maxRecDepth 20000 in
theorem lkF_M_nextOf (hi : zInj wM v) (xc : XC wM v) (nx : NXM v) (X : Cx wM v p R s m args c 0 0 cX12_nextOf 5 RX12 2) (rt : Rt wM v p l e R s m args below meth c 0 0 Q cX12_nextOf false (some (.int res.1)) res.2) {a1 : Int32} {a2 : Int32} {a3 : Int32} {σ : Hp}  (h : F_M_nextOf  a1 a2 a3 σ = some res) : Go wM v p l e R s m args below meth c 0 0 Q 5 0 [(0, .ref 0), (1, .int a1), (2, .int a2), (3, .int a3)] [] σ := by
  unfold F_M_nextOf at h
  refine go_iload_n X 2 (dk dt_M_nextOf_0 0 rfl) rfl rfl ?_
  refine go_istore (lv' := [(4, .int a2), (0, .ref 0), (1, .int a1), (2, .int a2), (3, .int a3)]) X (dk dt_M_nextOf_0 1 rfl) (by decide) rfl ?_
  refine go_sub [1, 2, 4, 0] rfl ?_
  exact lkL_M_nextOf_3 hi xc nx X rt  FU  h
set_option maxRecDepth 20000 in
theorem ct_M_nextOf (hi : zInj wM v) (xc : XC wM v) (nx : NXM v)  {a1 : Int32} {a2 : Int32} {a3 : Int32} {σ : Hp}  {q : (Int32 × Hp)} (h : F_M_nextOf  a1 a2 a3 σ = some q) : Ct wM v l yX12_nextOf cX12_nextOf 5 (some .int) 2 [.ref 0, .int a1, .int a2, .int a3] σ (some (.int q.1)) q.2 :=
  Ct.intro false (by decide) hi xc (Nat.le_of_ble_eq_true rfl) rfl (fun p e R s m args below meth c Q X rt => lkF_M_nextOf hi xc nx X rt  h)
end
def T_M_inCommon_0 : DT := [(0, .iload_n 1, 1), (1, .bipush 100, 2), (3, .if_icmp .eq 15, 3), (6, .iload_n 1, 1), (7, .iconst 0, 1), (8, .bipush 59, 2), (10, .invokestatic 122, 3), (13, .ifCond .ne 5, 3), (16, .iconst (-1), 1), (17, .ireturn, 1), (18, .aload_n 0, 1), (19, .invokevirtual 390, 3), (22, .iload_n 1, 1), (23, .bipush 100, 2), (25, .if_icmp .ne 10, 3), (28, .aload_n 0, 1)]
theorem dt_M_inCommon_0 : dOk cX12_inCommon T_M_inCommon_0 := by unfold dOk; decide +kernel
def T_M_inCommon_1 : DT := [(29, .getfield 95, 3), (32, .iconst 0, 1), (33, .baload, 1), (34, .ireturn, 1), (35, .iload_n 1, 1), (36, .aload_n 0, 1), (37, .getfield 95, 3), (40, .iconst 0, 1), (41, .baload, 1), (42, .if_icmp .lt 6, 3), (45, .bipush (-4), 2), (47, .ireturn, 1), (48, .iconst 0, 1), (49, .istore_n 2, 1), (50, .iconst 0, 1), (51, .istore_n 3, 1)]
theorem dt_M_inCommon_1 : dOk cX12_inCommon T_M_inCommon_1 := by unfold dOk; decide +kernel
def T_M_inCommon_2 : DT := [(52, .iconst (-1), 1), (53, .istore 4, 2), (55, .iconst 0, 1), (56, .istore 5, 2), (58, .iload 5, 2), (60, .iload_n 1, 1), (61, .if_icmp .gt 118, 3), (64, .aload_n 0, 1), (65, .getfield 95, 3), (68, .iconst 0, 1), (69, .baload, 1), (70, .iload 5, 2), (72, .isub, 1), (73, .istore 6, 2), (75, .iconst (-1), 1), (76, .istore 4, 2)]
theorem dt_M_inCommon_2 : dOk cX12_inCommon T_M_inCommon_2 := by unfold dOk; decide +kernel
def T_M_inCommon_3 : DT := [(78, .iconst 0, 1), (79, .istore 7, 2), (81, .iload 7, 2), (83, .bipush 6, 2), (85, .if_icmp .ge 88, 3), (88, .iload 4, 2), (90, .iconst (-1), 1), (91, .if_icmp .ne 82, 3), (94, .aload_n 0, 1), (95, .iconst 0, 1), (96, .iload_n 2, 1), (97, .iload 7, 2), (99, .invokevirtual 393, 3), (102, .istore 8, 2), (104, .aload_n 0, 1), (105, .iconst 1, 1)]
theorem dt_M_inCommon_3 : dOk cX12_inCommon T_M_inCommon_3 := by unfold dOk; decide +kernel
def T_M_inCommon_4 : DT := [(106, .iload_n 3, 1), (107, .iload 7, 2), (109, .invokevirtual 393, 3), (112, .istore 9, 2), (114, .iload 8, 2), (116, .iconst (-1), 1), (117, .if_icmp .eq 50, 3), (120, .iload 9, 2), (122, .iconst (-1), 1), (123, .if_icmp .eq 44, 3), (126, .iconst 1, 1), (127, .aload_n 0, 1), (128, .getfield 95, 3), (131, .bipush 61, 2), (133, .iload 8, 2), (135, .iconst 1, 1)]
theorem dt_M_inCommon_4 : dOk cX12_inCommon T_M_inCommon_4 := by unfold dOk; decide +kernel
def T_M_inCommon_5 : DT := [(136, .iadd, 1), (137, .imul, 1), (138, .iload 9, 2), (140, .iadd, 1), (141, .iconst 1, 1), (142, .iadd, 1), (143, .baload, 1), (144, .iadd, 1), (145, .iload 6, 2), (147, .if_icmp .eq 6, 3), (150, .goto 17, 3), (153, .iload 7, 2), (155, .istore 4, 2), (157, .iload 8, 2), (159, .iconst 1, 1), (160, .iadd, 1)]
theorem dt_M_inCommon_5 : dOk cX12_inCommon T_M_inCommon_5 := by unfold dOk; decide +kernel
def T_M_inCommon_6 : DT := [(161, .istore_n 2, 1), (162, .iload 9, 2), (164, .iconst 1, 1), (165, .iadd, 1), (166, .istore_n 3, 1), (167, .iinc 7 1, 3), (170, .goto (-89), 3), (173, .iinc 5 1, 3), (176, .goto (-118), 3), (179, .iload 4, 2), (181, .ireturn, 1)]
theorem dt_M_inCommon_6 : dOk cX12_inCommon T_M_inCommon_6 := by unfold dOk; decide +kernel
section
variable {v : ZV} {l : Launch} {p : Program} {e : Env} {R : Room} {s : State} {m : MethodId} {args : Array Value} {below : List Frame} {meth : Method} {c : Code} {Q : State → Prop} {res : (Int32 × Hp)} 
set_option maxRecDepth 20000 in
theorem lkB_M_inCommon_81 (hi : zInj wM v) (xc : XC wM v) (nx : NXM v) (X : Cx wM v p R s m args c 0 0 cX12_inCommon 10 RX12 6) (rt : Rt wM v p l e R s m args below meth c 0 0 Q cX12_inCommon false (some (.int res.1)) res.2) {k173 : Int32 → Int32 → Int32 → Int32 → Int32 → Hp → Option (Int32 × Hp)} {k81 : Int32 → Int32 → Int32 → Int32 → Int32 → Int32 → Int32 → Hp → Option (Int32 × Hp)} {x1 : Int32} {x2 : Int32} {x3 : Int32} {x4 : Int32} {x5 : Int32} {x6 : Int32} {x7 : Int32} {σ : Hp}  (hk173 : ∀ (x1 : Int32) (x2 : Int32) (x3 : Int32) (x4 : Int32) (x5 : Int32) (σ : Hp),  k173 x1 x2 x3 x4 x5 σ = some res → Go wM v p l e R s m args below meth c 0 0 Q 10 173 [(0, .ref 0), (1, .int x1), (2, .int x2), (3, .int x3), (4, .int x4), (5, .int x5)] [] σ) (hk81 : ∀ (x1 : Int32) (x2 : Int32) (x3 : Int32) (x4 : Int32) (x5 : Int32) (x6 : Int32) (x7 : Int32) (σ : Hp),  k81 x1 x2 x3 x4 x5 x6 x7 σ = some res → Go wM v p l e R s m args below meth c 0 0 Q 10 81 [(0, .ref 0), (1, .int x1), (2, .int x2), (3, .int x3), (4, .int x4), (5, .int x5), (6, .int x6), (7, .int x7)] [] σ) (h : B_M_inCommon_81  k173 k81 x1 x2 x3 x4 x5 x6 x7 σ = some res) : Go wM v p l e R s m args below meth c 0 0 Q 10 81 [(0, .ref 0), (1, .int x1), (2, .int x2), (3, .int x3), (4, .int x4), (5, .int x5), (6, .int x6), (7, .int x7)] [] σ := by
  unfold B_M_inCommon_81 at h
  refine go_iload X 7 (dk dt_M_inCommon_3 2 rfl) rfl ?_
  refine go_bipush X (dk dt_M_inCommon_3 3 rfl) cb_6 ?_
  refine go_icmp_ge (tgt := 173) X (dk dt_M_inCommon_3 4 rfl) (by decide) h (fun h => ?_) (fun h => ?_)
  · refine go_sub [0, 1, 2, 3, 4, 5] rfl ?_
    exact hk173 _ _ _ _ _ _  h
  · refine go_iload X 4 (dk dt_M_inCommon_3 5 rfl) rfl ?_
    refine go_iconst X (dk dt_M_inCommon_3 6 rfl) ci_m1 ?_
    refine go_icmp_ne (tgt := 173) X (dk dt_M_inCommon_3 7 rfl) (by decide) h (fun h => ?_) (fun h => ?_)
    · refine go_sub [0, 1, 2, 3, 4, 5] rfl ?_
      exact hk173 _ _ _ _ _ _  h
    · refine go_aload_n X 0 (dk dt_M_inCommon_3 8 rfl) rfl rfl ?_
      refine go_iconst X (dk dt_M_inCommon_3 9 rfl) ci_0 ?_
      refine go_iload_n X 2 (dk dt_M_inCommon_3 10 rfl) rfl rfl ?_
      refine go_iload X 7 (dk dt_M_inCommon_3 11 rfl) rfl ?_
      refine go_Vi (As := [.int (0 : Int32), .int x2, .int x7]) (rest := []) X vo_X12_393 (fun q hq => ct_M_nextOf hi xc nx  hq) (by decide) rfl lM_0 sM_0 rfl rfl (Nat.le_of_ble_eq_true rfl) (dk dt_M_inCommon_3 12 rfl) h (fun q99 h => ?_)
      refine go_istore (lv' := [(8, .int q99.1), (0, .ref 0), (1, .int x1), (2, .int x2), (3, .int x3), (4, .int x4), (5, .int x5), (6, .int x6), (7, .int x7)]) X (dk dt_M_inCommon_3 13 rfl) (by decide) rfl ?_
      refine go_aload_n X 1 (dk dt_M_inCommon_3 14 rfl) rfl rfl ?_
      refine go_iconst X (dk dt_M_inCommon_3 15 rfl) ci_1 ?_
      refine go_iload_n X 4 (dk dt_M_inCommon_4 0 rfl) rfl rfl ?_
      refine go_iload X 8 (dk dt_M_inCommon_4 1 rfl) rfl ?_
      refine go_Vi (As := [.int (1 : Int32), .int x3, .int x7]) (rest := []) X vo_X12_393 (fun q hq => ct_M_nextOf hi xc nx  hq) (by decide) rfl lM_0 sM_0 rfl rfl (Nat.le_of_ble_eq_true rfl) (dk dt_M_inCommon_4 2 rfl) h (fun q109 h => ?_)
      refine go_istore (lv' := [(9, .int q109.1), (8, .int q99.1), (0, .ref 0), (1, .int x1), (2, .int x2), (3, .int x3), (4, .int x4), (5, .int x5), (6, .int x6), (7, .int x7)]) X (dk dt_M_inCommon_4 3 rfl) (by decide) rfl ?_
      refine go_iload X 1 (dk dt_M_inCommon_4 4 rfl) rfl ?_
      refine go_iconst X (dk dt_M_inCommon_4 5 rfl) ci_m1 ?_
      refine go_icmp_eq (tgt := 167) X (dk dt_M_inCommon_4 6 rfl) (by decide) h (fun h => ?_) (fun h => ?_)
      · refine go_iinc (lv' := [(7, .int (x7 + (1 : Int32))), (9, .int q109.1), (8, .int q99.1), (0, .ref 0), (1, .int x1), (2, .int x2), (3, .int x3), (4, .int x4), (5, .int x5), (6, .int x6)]) X 9 (dk dt_M_inCommon_6 5 rfl) rfl ci_1 (by decide) rfl ?_
        refine go_goto (tgt := 81) X (dk dt_M_inCommon_6 6 rfl) (by decide) ?_
        refine go_sub [3, 4, 5, 6, 7, 8, 9, 0] rfl ?_
        exact hk81 _ _ _ _ _ _ _ _  h
      · refine go_iload X 0 (dk dt_M_inCommon_4 7 rfl) rfl ?_
        refine go_iconst X (dk dt_M_inCommon_4 8 rfl) ci_m1 ?_
        refine go_icmp_eq (tgt := 167) X (dk dt_M_inCommon_4 9 rfl) (by decide) h (fun h => ?_) (fun h => ?_)
        · refine go_iinc (lv' := [(7, .int (x7 + (1 : Int32))), (9, .int q109.1), (8, .int q99.1), (0, .ref 0), (1, .int x1), (2, .int x2), (3, .int x3), (4, .int x4), (5, .int x5), (6, .int x6)]) X 9 (dk dt_M_inCommon_6 5 rfl) rfl ci_1 (by decide) rfl ?_
          refine go_goto (tgt := 81) X (dk dt_M_inCommon_6 6 rfl) (by decide) ?_
          refine go_sub [3, 4, 5, 6, 7, 8, 9, 0] rfl ?_
          exact hk81 _ _ _ _ _ _ _ _  h
        · refine go_iconst X (dk dt_M_inCommon_4 10 rfl) ci_1 ?_
          refine go_aload_n X 2 (dk dt_M_inCommon_4 11 rfl) rfl rfl ?_
          refine go_getr X fo_X12_95 lM_0 sM_0 fM_0_49 (dk dt_M_inCommon_4 12 rfl) ?_
          refine go_bipush X (dk dt_M_inCommon_4 13 rfl) cb_61 ?_
          refine go_iload X 1 (dk dt_M_inCommon_4 14 rfl) rfl ?_
          refine go_iconst X (dk dt_M_inCommon_4 15 rfl) ci_1 ?_
          refine go_iadd X (dk dt_M_inCommon_5 0 rfl) ?_
          refine go_imul X (dk dt_M_inCommon_5 1 rfl) ?_
          refine go_iload X 0 (dk dt_M_inCommon_5 2 rfl) rfl ?_
          refine go_iadd X (dk dt_M_inCommon_5 3 rfl) ?_
          refine go_iconst X (dk dt_M_inCommon_5 4 rfl) ci_1 ?_
          refine go_iadd X (dk dt_M_inCommon_5 5 rfl) ?_
          refine go_bald X lM_29 sM_29 (dk dt_M_inCommon_5 6 rfl) h (fun h => ?_)
          refine go_iadd X (dk dt_M_inCommon_5 7 rfl) ?_
          refine go_iload X 8 (dk dt_M_inCommon_5 8 rfl) rfl ?_
          refine go_icmp_eq (tgt := 153) X (dk dt_M_inCommon_5 9 rfl) (by decide) h (fun h => ?_) (fun h => ?_)
          · refine go_iload X 9 (dk dt_M_inCommon_5 11 rfl) rfl ?_
            refine go_istore (lv' := [(4, .int x7), (9, .int q109.1), (8, .int q99.1), (0, .ref 0), (1, .int x1), (2, .int x2), (3, .int x3), (5, .int x5), (6, .int x6), (7, .int x7)]) X (dk dt_M_inCommon_5 12 rfl) (by decide) rfl ?_
            refine go_iload X 2 (dk dt_M_inCommon_5 13 rfl) rfl ?_
            refine go_iconst X (dk dt_M_inCommon_5 14 rfl) ci_1 ?_
            refine go_iadd X (dk dt_M_inCommon_5 15 rfl) ?_
            refine go_istore_n (lv' := [(2, .int (q99.1 + (1 : Int32))), (4, .int x7), (9, .int q109.1), (8, .int q99.1), (0, .ref 0), (1, .int x1), (3, .int x3), (5, .int x5), (6, .int x6), (7, .int x7)]) X (dk dt_M_inCommon_6 0 rfl) rfl (by decide) rfl ?_
            refine go_iload X 2 (dk dt_M_inCommon_6 1 rfl) rfl ?_
            refine go_iconst X (dk dt_M_inCommon_6 2 rfl) ci_1 ?_
            refine go_iadd X (dk dt_M_inCommon_6 3 rfl) ?_
            refine go_istore_n (lv' := [(3, .int (q109.1 + (1 : Int32))), (2, .int (q99.1 + (1 : Int32))), (4, .int x7), (9, .int q109.1), (8, .int q99.1), (0, .ref 0), (1, .int x1), (5, .int x5), (6, .int x6), (7, .int x7)]) X (dk dt_M_inCommon_6 4 rfl) rfl (by decide) rfl ?_
            refine go_iinc (lv' := [(7, .int (x7 + (1 : Int32))), (3, .int (q109.1 + (1 : Int32))), (2, .int (q99.1 + (1 : Int32))), (4, .int x7), (9, .int q109.1), (8, .int q99.1), (0, .ref 0), (1, .int x1), (5, .int x5), (6, .int x6)]) X 9 (dk dt_M_inCommon_6 5 rfl) rfl ci_1 (by decide) rfl ?_
            refine go_goto (tgt := 81) X (dk dt_M_inCommon_6 6 rfl) (by decide) ?_
            refine go_sub [6, 7, 2, 1, 3, 8, 9, 0] rfl ?_
            exact hk81 _ _ _ _ _ _ _ _  h
          · refine go_goto (tgt := 167) X (dk dt_M_inCommon_5 10 rfl) (by decide) ?_
            refine go_iinc (lv' := [(7, .int (x7 + (1 : Int32))), (9, .int q109.1), (8, .int q99.1), (0, .ref 0), (1, .int x1), (2, .int x2), (3, .int x3), (4, .int x4), (5, .int x5), (6, .int x6)]) X 9 (dk dt_M_inCommon_6 5 rfl) rfl ci_1 (by decide) rfl ?_
            refine go_goto (tgt := 81) X (dk dt_M_inCommon_6 6 rfl) (by decide) ?_
            refine go_sub [3, 4, 5, 6, 7, 8, 9, 0] rfl ?_
            exact hk81 _ _ _ _ _ _ _ _  h
set_option maxRecDepth 20000 in
theorem lkL_M_inCommon_81 (hi : zInj wM v) (xc : XC wM v) (nx : NXM v) (X : Cx wM v p R s m args c 0 0 cX12_inCommon 10 RX12 6) (rt : Rt wM v p l e R s m args below meth c 0 0 Q cX12_inCommon false (some (.int res.1)) res.2) {k173 : Int32 → Int32 → Int32 → Int32 → Int32 → Hp → Option (Int32 × Hp)} (hk173 : ∀ (x1 : Int32) (x2 : Int32) (x3 : Int32) (x4 : Int32) (x5 : Int32) (σ : Hp),  k173 x1 x2 x3 x4 x5 σ = some res → Go wM v p l e R s m args below meth c 0 0 Q 10 173 [(0, .ref 0), (1, .int x1), (2, .int x2), (3, .int x3), (4, .int x4), (5, .int x5)] [] σ) (n : Nat) : ∀ {x1 : Int32} {x2 : Int32} {x3 : Int32} {x4 : Int32} {x5 : Int32} {x6 : Int32} {x7 : Int32} {σ : Hp},  L_M_inCommon_81  k173 n x1 x2 x3 x4 x5 x6 x7 σ = some res → Go wM v p l e R s m args below meth c 0 0 Q 10 81 [(0, .ref 0), (1, .int x1), (2, .int x2), (3, .int x3), (4, .int x4), (5, .int x5), (6, .int x6), (7, .int x7)] [] σ := by
  induction n with
  | zero => intro x1 x2 x3 x4 x5 x6 x7 σ  h; cases h
  | succ n ih =>
    intro x1 x2 x3 x4 x5 x6 x7 σ  h
    exact lkB_M_inCommon_81 hi xc nx X rt  hk173 (fun _ _ _ _ _ _ _ _  hh => ih  hh) h
set_option maxRecDepth 20000 in
theorem lkJ_M_inCommon_173 (hi : zInj wM v) (xc : XC wM v) (nx : NXM v) (X : Cx wM v p R s m args c 0 0 cX12_inCommon 10 RX12 6) (rt : Rt wM v p l e R s m args below meth c 0 0 Q cX12_inCommon false (some (.int res.1)) res.2) {k58 : Int32 → Int32 → Int32 → Int32 → Int32 → Hp → Option (Int32 × Hp)} {x1 : Int32} {x2 : Int32} {x3 : Int32} {x4 : Int32} {x5 : Int32} {σ : Hp}  (hk58 : ∀ (x1 : Int32) (x2 : Int32) (x3 : Int32) (x4 : Int32) (x5 : Int32) (σ : Hp),  k58 x1 x2 x3 x4 x5 σ = some res → Go wM v p l e R s m args below meth c 0 0 Q 10 58 [(0, .ref 0), (1, .int x1), (2, .int x2), (3, .int x3), (4, .int x4), (5, .int x5)] [] σ) (h : J_M_inCommon_173  k58 x1 x2 x3 x4 x5 σ = some res) : Go wM v p l e R s m args below meth c 0 0 Q 10 173 [(0, .ref 0), (1, .int x1), (2, .int x2), (3, .int x3), (4, .int x4), (5, .int x5)] [] σ := by
  unfold J_M_inCommon_173 at h
  refine go_iinc (lv' := [(5, .int (x5 + (1 : Int32))), (0, .ref 0), (1, .int x1), (2, .int x2), (3, .int x3), (4, .int x4)]) X 5 (dk dt_M_inCommon_6 7 rfl) rfl ci_1 (by decide) rfl ?_
  refine go_goto (tgt := 58) X (dk dt_M_inCommon_6 8 rfl) (by decide) ?_
  refine go_sub [1, 2, 3, 4, 5, 0] rfl ?_
  exact hk58 _ _ _ _ _ _  h
set_option maxRecDepth 20000 in
theorem lkB_M_inCommon_58 (hi : zInj wM v) (xc : XC wM v) (nx : NXM v) (X : Cx wM v p R s m args c 0 0 cX12_inCommon 10 RX12 6) (rt : Rt wM v p l e R s m args below meth c 0 0 Q cX12_inCommon false (some (.int res.1)) res.2) {k58 : Int32 → Int32 → Int32 → Int32 → Int32 → Hp → Option (Int32 × Hp)} {x1 : Int32} {x2 : Int32} {x3 : Int32} {x4 : Int32} {x5 : Int32} {σ : Hp}  (hk58 : ∀ (x1 : Int32) (x2 : Int32) (x3 : Int32) (x4 : Int32) (x5 : Int32) (σ : Hp),  k58 x1 x2 x3 x4 x5 σ = some res → Go wM v p l e R s m args below meth c 0 0 Q 10 58 [(0, .ref 0), (1, .int x1), (2, .int x2), (3, .int x3), (4, .int x4), (5, .int x5)] [] σ) (h : B_M_inCommon_58  k58 x1 x2 x3 x4 x5 σ = some res) : Go wM v p l e R s m args below meth c 0 0 Q 10 58 [(0, .ref 0), (1, .int x1), (2, .int x2), (3, .int x3), (4, .int x4), (5, .int x5)] [] σ := by
  unfold B_M_inCommon_58 at h
  refine go_iload X 5 (dk dt_M_inCommon_2 4 rfl) rfl ?_
  refine go_iload_n X 1 (dk dt_M_inCommon_2 5 rfl) rfl rfl ?_
  refine go_icmp_gt (tgt := 179) X (dk dt_M_inCommon_2 6 rfl) (by decide) h (fun h => ?_) (fun h => ?_)
  · refine go_iload X 4 (dk dt_M_inCommon_6 9 rfl) rfl ?_
    exact go_iret rt (dk dt_M_inCommon_6 10 rfl) h (fun hh => nomatch hh)
  · refine go_aload_n X 0 (dk dt_M_inCommon_2 7 rfl) rfl rfl ?_
    refine go_getr X fo_X12_95 lM_0 sM_0 fM_0_49 (dk dt_M_inCommon_2 8 rfl) ?_
    refine go_iconst X (dk dt_M_inCommon_2 9 rfl) ci_0 ?_
    refine go_bald X lM_29 sM_29 (dk dt_M_inCommon_2 10 rfl) h (fun h => ?_)
    refine go_iload X 5 (dk dt_M_inCommon_2 11 rfl) rfl ?_
    refine go_isub X (dk dt_M_inCommon_2 12 rfl) ?_
    refine go_istore (lv' := [(6, .int ((σ 29 (Int32.toNatClampNeg (0 : Int32))) - x5)), (0, .ref 0), (1, .int x1), (2, .int x2), (3, .int x3), (4, .int x4), (5, .int x5)]) X (dk dt_M_inCommon_2 13 rfl) (by decide) rfl ?_
    refine go_iconst X (dk dt_M_inCommon_2 14 rfl) ci_m1 ?_
    refine go_istore (lv' := [(4, .int (-1 : Int32)), (6, .int ((σ 29 (Int32.toNatClampNeg (0 : Int32))) - x5)), (0, .ref 0), (1, .int x1), (2, .int x2), (3, .int x3), (5, .int x5)]) X (dk dt_M_inCommon_2 15 rfl) (by decide) rfl ?_
    refine go_iconst X (dk dt_M_inCommon_3 0 rfl) ci_0 ?_
    refine go_istore (lv' := [(7, .int (0 : Int32)), (4, .int (-1 : Int32)), (6, .int ((σ 29 (Int32.toNatClampNeg (0 : Int32))) - x5)), (0, .ref 0), (1, .int x1), (2, .int x2), (3, .int x3), (5, .int x5)]) X (dk dt_M_inCommon_3 1 rfl) (by decide) rfl ?_
    refine go_sub [3, 4, 5, 6, 1, 7, 2, 0] rfl ?_
    exact lkL_M_inCommon_81 hi xc nx X rt (fun _ _ _ _ _ _  hh => lkJ_M_inCommon_173 hi xc nx X rt  hk58 hh) FU  h
set_option maxRecDepth 20000 in
theorem lkL_M_inCommon_58 (hi : zInj wM v) (xc : XC wM v) (nx : NXM v) (X : Cx wM v p R s m args c 0 0 cX12_inCommon 10 RX12 6) (rt : Rt wM v p l e R s m args below meth c 0 0 Q cX12_inCommon false (some (.int res.1)) res.2)   (n : Nat) : ∀ {x1 : Int32} {x2 : Int32} {x3 : Int32} {x4 : Int32} {x5 : Int32} {σ : Hp},  L_M_inCommon_58   n x1 x2 x3 x4 x5 σ = some res → Go wM v p l e R s m args below meth c 0 0 Q 10 58 [(0, .ref 0), (1, .int x1), (2, .int x2), (3, .int x3), (4, .int x4), (5, .int x5)] [] σ := by
  induction n with
  | zero => intro x1 x2 x3 x4 x5 σ  h; cases h
  | succ n ih =>
    intro x1 x2 x3 x4 x5 σ  h
    exact lkB_M_inCommon_58 hi xc nx X rt  (fun _ _ _ _ _ _  hh => ih  hh) h
set_option maxRecDepth 20000 in
theorem lkJ_M_inCommon_18 (hi : zInj wM v) (xc : XC wM v) (nx : NXM v) (X : Cx wM v p R s m args c 0 0 cX12_inCommon 10 RX12 6) (rt : Rt wM v p l e R s m args below meth c 0 0 Q cX12_inCommon false (some (.int res.1)) res.2)  {x1 : Int32} {σ : Hp}   (h : J_M_inCommon_18   x1 σ = some res) : Go wM v p l e R s m args below meth c 0 0 Q 10 18 [(0, .ref 0), (1, .int x1)] [] σ := by
  unfold J_M_inCommon_18 at h
  refine go_aload_n X 0 (dk dt_M_inCommon_0 10 rfl) rfl rfl ?_
  refine go_Vv (As := []) (rest := []) X vo_X12_390 (fun q hq => ct_M_laysCommon hi xc nx  hq) (by decide) rfl lM_0 sM_0 rfl rfl (Nat.le_of_ble_eq_true rfl) (dk dt_M_inCommon_0 11 rfl) h (fun q19 h => ?_)
  refine go_iload_n X 1 (dk dt_M_inCommon_0 12 rfl) rfl rfl ?_
  refine go_bipush X (dk dt_M_inCommon_0 13 rfl) cb_100 ?_
  refine go_icmp_ne (tgt := 35) X (dk dt_M_inCommon_0 14 rfl) (by decide) h (fun h => ?_) (fun h => ?_)
  · refine go_iload_n X 1 (dk dt_M_inCommon_1 4 rfl) rfl rfl ?_
    refine go_aload_n X 0 (dk dt_M_inCommon_1 5 rfl) rfl rfl ?_
    refine go_getr X fo_X12_95 lM_0 sM_0 fM_0_49 (dk dt_M_inCommon_1 6 rfl) ?_
    refine go_iconst X (dk dt_M_inCommon_1 7 rfl) ci_0 ?_
    refine go_bald X lM_29 sM_29 (dk dt_M_inCommon_1 8 rfl) h (fun h => ?_)
    refine go_icmp_lt (tgt := 48) X (dk dt_M_inCommon_1 9 rfl) (by decide) h (fun h => ?_) (fun h => ?_)
    · refine go_iconst X (dk dt_M_inCommon_1 12 rfl) ci_0 ?_
      refine go_istore_n (lv' := [(2, .int (0 : Int32)), (0, .ref 0), (1, .int x1)]) X (dk dt_M_inCommon_1 13 rfl) rfl (by decide) rfl ?_
      refine go_iconst X (dk dt_M_inCommon_1 14 rfl) ci_0 ?_
      refine go_istore_n (lv' := [(3, .int (0 : Int32)), (2, .int (0 : Int32)), (0, .ref 0), (1, .int x1)]) X (dk dt_M_inCommon_1 15 rfl) rfl (by decide) rfl ?_
      refine go_iconst X (dk dt_M_inCommon_2 0 rfl) ci_m1 ?_
      refine go_istore (lv' := [(4, .int (-1 : Int32)), (3, .int (0 : Int32)), (2, .int (0 : Int32)), (0, .ref 0), (1, .int x1)]) X (dk dt_M_inCommon_2 1 rfl) (by decide) rfl ?_
      refine go_iconst X (dk dt_M_inCommon_2 2 rfl) ci_0 ?_
      refine go_istore (lv' := [(5, .int (0 : Int32)), (4, .int (-1 : Int32)), (3, .int (0 : Int32)), (2, .int (0 : Int32)), (0, .ref 0), (1, .int x1)]) X (dk dt_M_inCommon_2 3 rfl) (by decide) rfl ?_
      refine go_sub [4, 5, 3, 2, 1, 0] rfl ?_
      exact lkL_M_inCommon_58 hi xc nx X rt  FU  h
    · refine go_bipush X (dk dt_M_inCommon_1 10 rfl) cb_m4 ?_
      exact go_iret rt (dk dt_M_inCommon_1 11 rfl) h (fun hh => nomatch hh)
  · refine go_aload_n X 0 (dk dt_M_inCommon_0 15 rfl) rfl rfl ?_
    refine go_getr X fo_X12_95 lM_0 sM_0 fM_0_49 (dk dt_M_inCommon_1 0 rfl) ?_
    refine go_iconst X (dk dt_M_inCommon_1 1 rfl) ci_0 ?_
    refine go_bald X lM_29 sM_29 (dk dt_M_inCommon_1 2 rfl) h (fun h => ?_)
    exact go_iret rt (dk dt_M_inCommon_1 3 rfl) h (fun hh => nomatch hh)
set_option maxRecDepth 20000 in
theorem lkF_M_inCommon (hi : zInj wM v) (xc : XC wM v) (nx : NXM v) (X : Cx wM v p R s m args c 0 0 cX12_inCommon 10 RX12 6) (rt : Rt wM v p l e R s m args below meth c 0 0 Q cX12_inCommon false (some (.int res.1)) res.2) {a1 : Int32} {σ : Hp}  (h : F_M_inCommon  a1 σ = some res) : Go wM v p l e R s m args below meth c 0 0 Q 10 0 [(0, .ref 0), (1, .int a1)] [] σ := by
  unfold F_M_inCommon at h
  refine go_iload_n X 1 (dk dt_M_inCommon_0 0 rfl) rfl rfl ?_
  refine go_bipush X (dk dt_M_inCommon_0 1 rfl) cb_100 ?_
  refine go_icmp_eq (tgt := 18) X (dk dt_M_inCommon_0 2 rfl) (by decide) h (fun h => ?_) (fun h => ?_)
  · exact lkJ_M_inCommon_18 hi xc nx X rt   h
  · refine go_iload_n X 1 (dk dt_M_inCommon_0 3 rfl) rfl rfl ?_
    refine go_iconst X (dk dt_M_inCommon_0 4 rfl) ci_0 ?_
    refine go_bipush X (dk dt_M_inCommon_0 5 rfl) cb_59 ?_
    refine go_Si (As := [.int a1, .int (0 : Int32), .int (59 : Int32)]) (rest := []) X so_X12_122 (fun q hq => ct_M_in hi xc nx  hq) (by decide) rfl rfl (Nat.le_of_ble_eq_true rfl) (dk dt_M_inCommon_0 6 rfl) h (fun q10 h => ?_)
    refine go_if_ne (tgt := 18) X (dk dt_M_inCommon_0 7 rfl) (by decide) h (fun h => ?_) (fun h => ?_)
    · exact lkJ_M_inCommon_18 hi xc nx X rt   h
    · refine go_iconst X (dk dt_M_inCommon_0 8 rfl) ci_m1 ?_
      exact go_iret rt (dk dt_M_inCommon_0 9 rfl) h (fun hh => nomatch hh)
set_option maxRecDepth 20000 in
theorem ct_M_inCommon (hi : zInj wM v) (xc : XC wM v) (nx : NXM v)  {a1 : Int32} {σ : Hp}  {q : (Int32 × Hp)} (h : F_M_inCommon  a1 σ = some q) : Ct wM v l yX12_inCommon cX12_inCommon 10 (some .int) 6 [.ref 0, .int a1] σ (some (.int q.1)) q.2 :=
  Ct.intro false (by decide) hi xc (Nat.le_of_ble_eq_true rfl) rfl (fun p e R s m args below meth c Q X rt => lkF_M_inCommon hi xc nx X rt  h)
end
def T_M_isDigit_0 : DT := [(0, .aload_n 0, 1), (1, .invokevirtual 161, 3), (4, .bipush 48, 2), (6, .if_icmp .lt 16, 3), (9, .aload_n 0, 1), (10, .invokevirtual 161, 3), (13, .bipush 57, 2), (15, .if_icmp .gt 7, 3), (18, .iconst 1, 1), (19, .goto 4, 3), (22, .iconst 0, 1), (23, .ireturn, 1)]
theorem dt_M_isDigit_0 : dOk cX12_isDigit T_M_isDigit_0 := by unfold dOk; decide +kernel
section
variable {v : ZV} {l : Launch} {p : Program} {e : Env} {R : Room} {s : State} {m : MethodId} {args : Array Value} {below : List Frame} {meth : Method} {c : Code} {Q : State → Prop} {res : (Int32 × Hp)} 
set_option maxRecDepth 20000 in
theorem lkF_M_isDigit (hi : zInj wM v) (xc : XC wM v) (nx : NXM v) (X : Cx wM v p R s m args c 0 0 cX12_isDigit 1 RX12 4) (rt : Rt wM v p l e R s m args below meth c 0 0 Q cX12_isDigit true (some (.int res.1)) res.2)  {σ : Hp}  (h : F_M_isDigit   σ = some res) : Go wM v p l e R s m args below meth c 0 0 Q 1 0 [(0, .ref 0)] [] σ := by
  unfold F_M_isDigit at h
  refine go_aload_n X 0 (dk dt_M_isDigit_0 0 rfl) rfl rfl ?_
  refine go_Vi (As := []) (rest := []) X vo_X12_161 (fun q hq => ct_M_here hi xc nx  hq) (by decide) rfl lM_0 sM_0 rfl rfl (Nat.le_of_ble_eq_true rfl) (dk dt_M_isDigit_0 1 rfl) h (fun q1 h => ?_)
  refine go_bipush X (dk dt_M_isDigit_0 2 rfl) cb_48 ?_
  refine go_icmp_lt (tgt := 22) X (dk dt_M_isDigit_0 3 rfl) (by decide) h (fun h => ?_) (fun h => ?_)
  · refine go_iconst X (dk dt_M_isDigit_0 10 rfl) ci_0 ?_
    exact go_iret rt (dk dt_M_isDigit_0 11 rfl) h (by decide)
  · refine go_aload_n X 0 (dk dt_M_isDigit_0 4 rfl) rfl rfl ?_
    refine go_Vi (As := []) (rest := []) X vo_X12_161 (fun q hq => ct_M_here hi xc nx  hq) (by decide) rfl lM_0 sM_0 rfl rfl (Nat.le_of_ble_eq_true rfl) (dk dt_M_isDigit_0 5 rfl) h (fun q10 h => ?_)
    refine go_bipush X (dk dt_M_isDigit_0 6 rfl) cb_57 ?_
    refine go_icmp_gt (tgt := 22) X (dk dt_M_isDigit_0 7 rfl) (by decide) h (fun h => ?_) (fun h => ?_)
    · refine go_iconst X (dk dt_M_isDigit_0 10 rfl) ci_0 ?_
      exact go_iret rt (dk dt_M_isDigit_0 11 rfl) h (by decide)
    · refine go_iconst X (dk dt_M_isDigit_0 8 rfl) ci_1 ?_
      refine go_goto (tgt := 23) X (dk dt_M_isDigit_0 9 rfl) (by decide) ?_
      exact go_iret rt (dk dt_M_isDigit_0 11 rfl) h (by decide)
set_option maxRecDepth 20000 in
theorem ct_M_isDigit (hi : zInj wM v) (xc : XC wM v) (nx : NXM v)   {σ : Hp}  {q : (Int32 × Hp)} (h : F_M_isDigit   σ = some q) : Ct wM v l yX12_isDigit cX12_isDigit 1 (some .boolean) 4 [.ref 0] σ (some (.int q.1)) q.2 :=
  Ct.intro true (by decide) hi xc (Nat.le_of_ble_eq_true rfl) rfl (fun p e R s m args below meth c Q X rt => lkF_M_isDigit hi xc nx X rt  h)
end
def T_M_jumps_0 : DT := [(0, .aload_n 0, 1), (1, .getfield 32, 3), (4, .aload_n 0, 1), (5, .getfield 185, 3), (8, .ldc 181, 2), (10, .iload_n 1, 1), (11, .imul, 1), (12, .aload_n 0, 1), (13, .getfield 178, 3), (16, .iadd, 1), (17, .iastore, 1), (18, .aload_n 0, 1), (19, .aload_n 0, 1), (20, .getfield 185, 3), (23, .iconst 1, 1), (24, .iadd, 1)]
theorem dt_M_jumps_0 : dOk cX12_jumps T_M_jumps_0 := by unfold dOk; decide +kernel
def T_M_jumps_1 : DT := [(25, .putfield 185, 3), (28, .aload_n 0, 1), (29, .iload_n 1, 1), (30, .iconst 0, 1), (31, .invokevirtual 191, 3), (34, .aload_n 0, 1), (35, .aload_n 0, 1), (36, .getfield 155, 3), (39, .iconst 1, 1), (40, .iadd, 1), (41, .putfield 155, 3), (44, .return_, 1)]
theorem dt_M_jumps_1 : dOk cX12_jumps T_M_jumps_1 := by unfold dOk; decide +kernel
section
variable {v : ZV} {l : Launch} {p : Program} {e : Env} {R : Room} {s : State} {m : MethodId} {args : Array Value} {below : List Frame} {meth : Method} {c : Code} {Q : State → Prop} {res : Hp} 
set_option maxRecDepth 20000 in
theorem lkF_M_jumps (hi : zInj wM v) (xc : XC wM v) (nx : NXM v) (X : Cx wM v p R s m args c 0 0 cX12_jumps 2 RX12 4) (rt : Rt wM v p l e R s m args below meth c 0 0 Q cX12_jumps false none res) {a1 : Int32} {σ : Hp}  (h : F_M_jumps  a1 σ = some res) : Go wM v p l e R s m args below meth c 0 0 Q 2 0 [(0, .ref 0), (1, .int a1)] [] σ := by
  unfold F_M_jumps at h
  refine go_aload_n X 0 (dk dt_M_jumps_0 0 rfl) rfl rfl ?_
  refine go_getr X fo_X12_32 lM_0 sM_0 fM_0_17 (dk dt_M_jumps_0 1 rfl) ?_
  refine go_aload_n X 0 (dk dt_M_jumps_0 2 rfl) rfl rfl ?_
  refine go_geti X fo_X12_185 lM_0 sM_0 fM_0_13 (dk dt_M_jumps_0 3 rfl) ?_
  refine go_ldc X wd_1387 (dk dt_M_jumps_0 4 rfl) ?_
  refine go_iload_n X 1 (dk dt_M_jumps_0 5 rfl) rfl rfl ?_
  refine go_imul X (dk dt_M_jumps_0 6 rfl) ?_
  refine go_aload_n X 0 (dk dt_M_jumps_0 7 rfl) rfl rfl ?_
  refine go_geti X fo_X12_178 lM_0 sM_0 fM_0_12 (dk dt_M_jumps_0 8 rfl) ?_
  refine go_iadd X (dk dt_M_jumps_0 9 rfl) ?_
  refine go_iast X lM_8 sM_8 (dk dt_M_jumps_0 10 rfl) h (fun h => ?_)
  refine go_aload_n X 0 (dk dt_M_jumps_0 11 rfl) rfl rfl ?_
  refine go_aload_n X 0 (dk dt_M_jumps_0 12 rfl) rfl rfl ?_
  refine go_geti X fo_X12_185 lM_0 sM_0 fM_0_13 (dk dt_M_jumps_0 13 rfl) ?_
  refine go_iconst X (dk dt_M_jumps_0 14 rfl) ci_1 ?_
  refine go_iadd X (dk dt_M_jumps_0 15 rfl) ?_
  refine go_puti X fo_X12_185 pf_12_13 lM_0 sM_0 fM_0_13 (dk dt_M_jumps_1 0 rfl) ?_
  refine go_aload_n X 0 (dk dt_M_jumps_1 1 rfl) rfl rfl ?_
  refine go_iload_n X 1 (dk dt_M_jumps_1 2 rfl) rfl rfl ?_
  refine go_iconst X (dk dt_M_jumps_1 3 rfl) ci_0 ?_
  refine go_Vv (As := [.int a1, .int (0 : Int32)]) (rest := []) X vo_X12_191 (fun q hq => ct_M_notes hi xc nx  hq) (by decide) rfl lM_0 sM_0 rfl rfl (Nat.le_of_ble_eq_true rfl) (dk dt_M_jumps_1 4 rfl) h (fun q31 h => ?_)
  refine go_aload_n X 0 (dk dt_M_jumps_1 5 rfl) rfl rfl ?_
  refine go_aload_n X 0 (dk dt_M_jumps_1 6 rfl) rfl rfl ?_
  refine go_geti X fo_X12_155 lM_0 sM_0 fM_0_7 (dk dt_M_jumps_1 7 rfl) ?_
  refine go_iconst X (dk dt_M_jumps_1 8 rfl) ci_1 ?_
  refine go_iadd X (dk dt_M_jumps_1 9 rfl) ?_
  refine go_puti X fo_X12_155 pf_12_7 lM_0 sM_0 fM_0_7 (dk dt_M_jumps_1 10 rfl) ?_
  exact go_vret rt (dk dt_M_jumps_1 11 rfl) h
set_option maxRecDepth 20000 in
theorem ct_M_jumps (hi : zInj wM v) (xc : XC wM v) (nx : NXM v)  {a1 : Int32} {σ : Hp}  {q : Hp} (h : F_M_jumps  a1 σ = some q) : Ct wM v l yX12_jumps cX12_jumps 2 none 4 [.ref 0, .int a1] σ none q :=
  Ct.intro false (by decide) hi xc (Nat.le_of_ble_eq_true rfl) rfl (fun p e R s m args below meth c Q X rt => lkF_M_jumps hi xc nx X rt  h)
end
def T_M_keep_0 : DT := [(0, .aload_n 0, 1), (1, .iconst 1, 1), (2, .putfield 440, 3), (5, .aload_n 0, 1), (6, .getfield 7, 3), (9, .aload_n 0, 1), (10, .getfield 16, 3), (13, .invokestatic 291, 3), (16, .aload_n 0, 1), (17, .getfield 7, 3), (20, .bipush 97, 2), (22, .iaload, 1), (23, .ireturn, 1)]
theorem dt_M_keep_0 : dOk cX12_keep T_M_keep_0 := by unfold dOk; decide +kernel
section
variable {v : ZV} {l : Launch} {p : Program} {e : Env} {R : Room} {s : State} {m : MethodId} {args : Array Value} {below : List Frame} {meth : Method} {c : Code} {Q : State → Prop} {res : (Int32 × Hp)} 
set_option maxRecDepth 20000 in
theorem lkF_M_keep (hi : zInj wM v) (xc : XC wM v) (nx : NXM v) (X : Cx wM v p R s m args c 0 0 cX12_keep 1 RX12 4) (rt : Rt wM v p l e R s m args below meth c 0 0 Q cX12_keep false (some (.int res.1)) res.2)  {σ : Hp}  (h : F_M_keep   σ = some res) : Go wM v p l e R s m args below meth c 0 0 Q 1 0 [(0, .ref 0)] [] σ := by
  unfold F_M_keep at h
  refine go_aload_n X 0 (dk dt_M_keep_0 0 rfl) rfl rfl ?_
  refine go_iconst X (dk dt_M_keep_0 1 rfl) ci_1 ?_
  refine go_putz X fo_X12_440 pf_12_61 lM_0 sM_0 fM_0_61 (dk dt_M_keep_0 2 rfl) h (fun h => ?_)
  refine go_aload_n X 0 (dk dt_M_keep_0 3 rfl) rfl rfl ?_
  refine go_getr X fo_X12_7 lM_0 sM_0 fM_0_0 (dk dt_M_keep_0 4 rfl) ?_
  refine go_aload_n X 0 (dk dt_M_keep_0 5 rfl) rfl rfl ?_
  refine go_getr X fo_X12_16 lM_0 sM_0 fM_0_2 (dk dt_M_keep_0 6 rfl) ?_
  refine go_Sv (As := [.ref 1, .ref 3]) (rest := []) X so_X12_291 (fun q hq => ct_M_copies hi xc nx lM_1 sM_1 lM_3 sM_3 hq) (by decide) rfl rfl (Nat.le_of_ble_eq_true rfl) (dk dt_M_keep_0 7 rfl) h (fun q13 h => ?_)
  refine go_aload_n X 0 (dk dt_M_keep_0 8 rfl) rfl rfl ?_
  refine go_getr X fo_X12_7 lM_0 sM_0 fM_0_0 (dk dt_M_keep_0 9 rfl) ?_
  refine go_bipush X (dk dt_M_keep_0 10 rfl) cb_97 ?_
  refine go_iald X lM_1 sM_1 (dk dt_M_keep_0 11 rfl) h (fun h => ?_)
  exact go_iret rt (dk dt_M_keep_0 12 rfl) h (fun hh => nomatch hh)
set_option maxRecDepth 20000 in
theorem ct_M_keep (hi : zInj wM v) (xc : XC wM v) (nx : NXM v)   {σ : Hp}  {q : (Int32 × Hp)} (h : F_M_keep   σ = some q) : Ct wM v l yX12_keep cX12_keep 1 (some .int) 4 [.ref 0] σ (some (.int q.1)) q.2 :=
  Ct.intro false (by decide) hi xc (Nat.le_of_ble_eq_true rfl) rfl (fun p e R s m args below meth c Q X rt => lkF_M_keep hi xc nx X rt  h)
end
def T_M_lamps_0 : DT := [(0, .iload_n 1, 1), (1, .iconst 0, 1), (2, .iconst 1, 1), (3, .invokestatic 122, 3), (6, .ifCond .eq 12, 3), (9, .iload_n 2, 1), (10, .iconst 0, 1), (11, .iconst 5, 1), (12, .invokestatic 122, 3), (15, .ifCond .ne 5, 3), (18, .iconst (-1), 1), (19, .ireturn, 1), (20, .iconst 0, 1), (21, .istore_n 3, 1), (22, .iconst 0, 1), (23, .istore 4, 2)]
theorem dt_M_lamps_0 : dOk cX12_lamps T_M_lamps_0 := by unfold dOk; decide +kernel
def T_M_lamps_1 : DT := [(25, .iload 4, 2), (27, .aload_n 0, 1), (28, .getfield 71, 3), (31, .iload_n 1, 1), (32, .iaload, 1), (33, .if_icmp .ge 33, 3), (36, .iload_n 3, 1), (37, .aload_n 0, 1), (38, .getfield 68, 3), (41, .bipush 60, 2), (43, .iload_n 1, 1), (44, .imul, 1), (45, .iload 4, 2), (47, .iadd, 1), (48, .baload, 1), (49, .iload_n 2, 1)]
theorem dt_M_lamps_1 : dOk cX12_lamps T_M_lamps_1 := by unfold dOk; decide +kernel
def T_M_lamps_2 : DT := [(50, .if_icmp .ne 7, 3), (53, .iconst 1, 1), (54, .goto 4, 3), (57, .iconst 0, 1), (58, .iadd, 1), (59, .istore_n 3, 1), (60, .iinc 4 1, 3), (63, .goto (-38), 3), (66, .iload_n 3, 1), (67, .ireturn, 1)]
theorem dt_M_lamps_2 : dOk cX12_lamps T_M_lamps_2 := by unfold dOk; decide +kernel
section
variable {v : ZV} {l : Launch} {p : Program} {e : Env} {R : Room} {s : State} {m : MethodId} {args : Array Value} {below : List Frame} {meth : Method} {c : Code} {Q : State → Prop} {res : (Int32 × Hp)} 
set_option maxRecDepth 20000 in
theorem lkB_M_lamps_25 (hi : zInj wM v) (xc : XC wM v) (nx : NXM v) (X : Cx wM v p R s m args c 0 0 cX12_lamps 5 RX12 4) (rt : Rt wM v p l e R s m args below meth c 0 0 Q cX12_lamps false (some (.int res.1)) res.2) {k25 : Int32 → Int32 → Int32 → Int32 → Hp → Option (Int32 × Hp)} {x1 : Int32} {x2 : Int32} {x3 : Int32} {x4 : Int32} {σ : Hp}  (hk25 : ∀ (x1 : Int32) (x2 : Int32) (x3 : Int32) (x4 : Int32) (σ : Hp),  k25 x1 x2 x3 x4 σ = some res → Go wM v p l e R s m args below meth c 0 0 Q 5 25 [(0, .ref 0), (1, .int x1), (2, .int x2), (3, .int x3), (4, .int x4)] [] σ) (h : B_M_lamps_25  k25 x1 x2 x3 x4 σ = some res) : Go wM v p l e R s m args below meth c 0 0 Q 5 25 [(0, .ref 0), (1, .int x1), (2, .int x2), (3, .int x3), (4, .int x4)] [] σ := by
  unfold B_M_lamps_25 at h
  refine go_iload X 4 (dk dt_M_lamps_1 0 rfl) rfl ?_
  refine go_aload_n X 0 (dk dt_M_lamps_1 1 rfl) rfl rfl ?_
  refine go_getr X fo_X12_71 lM_0 sM_0 fM_0_31 (dk dt_M_lamps_1 2 rfl) ?_
  refine go_iload_n X 1 (dk dt_M_lamps_1 3 rfl) rfl rfl ?_
  refine go_iald X lM_21 sM_21 (dk dt_M_lamps_1 4 rfl) h (fun h => ?_)
  refine go_icmp_ge (tgt := 66) X (dk dt_M_lamps_1 5 rfl) (by decide) h (fun h => ?_) (fun h => ?_)
  · refine go_iload_n X 3 (dk dt_M_lamps_2 8 rfl) rfl rfl ?_
    exact go_iret rt (dk dt_M_lamps_2 9 rfl) h (fun hh => nomatch hh)
  · refine go_iload_n X 3 (dk dt_M_lamps_1 6 rfl) rfl rfl ?_
    refine go_aload_n X 0 (dk dt_M_lamps_1 7 rfl) rfl rfl ?_
    refine go_getr X fo_X12_68 lM_0 sM_0 fM_0_30 (dk dt_M_lamps_1 8 rfl) ?_
    refine go_bipush X (dk dt_M_lamps_1 9 rfl) cb_60 ?_
    refine go_iload_n X 1 (dk dt_M_lamps_1 10 rfl) rfl rfl ?_
    refine go_imul X (dk dt_M_lamps_1 11 rfl) ?_
    refine go_iload X 4 (dk dt_M_lamps_1 12 rfl) rfl ?_
    refine go_iadd X (dk dt_M_lamps_1 13 rfl) ?_
    refine go_bald X lM_20 sM_20 (dk dt_M_lamps_1 14 rfl) h (fun h => ?_)
    refine go_iload_n X 2 (dk dt_M_lamps_1 15 rfl) rfl rfl ?_
    refine go_icmp_ne (tgt := 57) X (dk dt_M_lamps_2 0 rfl) (by decide) h (fun h => ?_) (fun h => ?_)
    · refine go_iconst X (dk dt_M_lamps_2 3 rfl) ci_0 ?_
      refine go_iadd X (dk dt_M_lamps_2 4 rfl) ?_
      refine go_istore_n (lv' := [(3, .int (x3 + (0 : Int32))), (0, .ref 0), (1, .int x1), (2, .int x2), (4, .int x4)]) X (dk dt_M_lamps_2 5 rfl) rfl (by decide) rfl ?_
      refine go_iinc (lv' := [(4, .int (x4 + (1 : Int32))), (3, .int (x3 + (0 : Int32))), (0, .ref 0), (1, .int x1), (2, .int x2)]) X 4 (dk dt_M_lamps_2 6 rfl) rfl ci_1 (by decide) rfl ?_
      refine go_goto (tgt := 25) X (dk dt_M_lamps_2 7 rfl) (by decide) ?_
      refine go_sub [2, 3, 4, 1, 0] rfl ?_
      exact hk25 _ _ _ _ _  h
    · refine go_iconst X (dk dt_M_lamps_2 1 rfl) ci_1 ?_
      refine go_goto (tgt := 58) X (dk dt_M_lamps_2 2 rfl) (by decide) ?_
      refine go_iadd X (dk dt_M_lamps_2 4 rfl) ?_
      refine go_istore_n (lv' := [(3, .int (x3 + (1 : Int32))), (0, .ref 0), (1, .int x1), (2, .int x2), (4, .int x4)]) X (dk dt_M_lamps_2 5 rfl) rfl (by decide) rfl ?_
      refine go_iinc (lv' := [(4, .int (x4 + (1 : Int32))), (3, .int (x3 + (1 : Int32))), (0, .ref 0), (1, .int x1), (2, .int x2)]) X 4 (dk dt_M_lamps_2 6 rfl) rfl ci_1 (by decide) rfl ?_
      refine go_goto (tgt := 25) X (dk dt_M_lamps_2 7 rfl) (by decide) ?_
      refine go_sub [2, 3, 4, 1, 0] rfl ?_
      exact hk25 _ _ _ _ _  h
set_option maxRecDepth 20000 in
theorem lkL_M_lamps_25 (hi : zInj wM v) (xc : XC wM v) (nx : NXM v) (X : Cx wM v p R s m args c 0 0 cX12_lamps 5 RX12 4) (rt : Rt wM v p l e R s m args below meth c 0 0 Q cX12_lamps false (some (.int res.1)) res.2)   (n : Nat) : ∀ {x1 : Int32} {x2 : Int32} {x3 : Int32} {x4 : Int32} {σ : Hp},  L_M_lamps_25   n x1 x2 x3 x4 σ = some res → Go wM v p l e R s m args below meth c 0 0 Q 5 25 [(0, .ref 0), (1, .int x1), (2, .int x2), (3, .int x3), (4, .int x4)] [] σ := by
  induction n with
  | zero => intro x1 x2 x3 x4 σ  h; cases h
  | succ n ih =>
    intro x1 x2 x3 x4 σ  h
    exact lkB_M_lamps_25 hi xc nx X rt  (fun _ _ _ _ _  hh => ih  hh) h
set_option maxRecDepth 20000 in
theorem lkF_M_lamps (hi : zInj wM v) (xc : XC wM v) (nx : NXM v) (X : Cx wM v p R s m args c 0 0 cX12_lamps 5 RX12 4) (rt : Rt wM v p l e R s m args below meth c 0 0 Q cX12_lamps false (some (.int res.1)) res.2) {a1 : Int32} {a2 : Int32} {σ : Hp}  (h : F_M_lamps  a1 a2 σ = some res) : Go wM v p l e R s m args below meth c 0 0 Q 5 0 [(0, .ref 0), (1, .int a1), (2, .int a2)] [] σ := by
  unfold F_M_lamps at h
  refine go_iload_n X 1 (dk dt_M_lamps_0 0 rfl) rfl rfl ?_
  refine go_iconst X (dk dt_M_lamps_0 1 rfl) ci_0 ?_
  refine go_iconst X (dk dt_M_lamps_0 2 rfl) ci_1 ?_
  refine go_Si (As := [.int a1, .int (0 : Int32), .int (1 : Int32)]) (rest := []) X so_X12_122 (fun q hq => ct_M_in hi xc nx  hq) (by decide) rfl rfl (Nat.le_of_ble_eq_true rfl) (dk dt_M_lamps_0 3 rfl) h (fun q3 h => ?_)
  refine go_if_eq (tgt := 18) X (dk dt_M_lamps_0 4 rfl) (by decide) h (fun h => ?_) (fun h => ?_)
  · refine go_iconst X (dk dt_M_lamps_0 10 rfl) ci_m1 ?_
    exact go_iret rt (dk dt_M_lamps_0 11 rfl) h (fun hh => nomatch hh)
  · refine go_iload_n X 2 (dk dt_M_lamps_0 5 rfl) rfl rfl ?_
    refine go_iconst X (dk dt_M_lamps_0 6 rfl) ci_0 ?_
    refine go_iconst X (dk dt_M_lamps_0 7 rfl) ci_5 ?_
    refine go_Si (As := [.int a2, .int (0 : Int32), .int (5 : Int32)]) (rest := []) X so_X12_122 (fun q hq => ct_M_in hi xc nx  hq) (by decide) rfl rfl (Nat.le_of_ble_eq_true rfl) (dk dt_M_lamps_0 8 rfl) h (fun q12 h => ?_)
    refine go_if_ne (tgt := 20) X (dk dt_M_lamps_0 9 rfl) (by decide) h (fun h => ?_) (fun h => ?_)
    · refine go_iconst X (dk dt_M_lamps_0 12 rfl) ci_0 ?_
      refine go_istore_n (lv' := [(3, .int (0 : Int32)), (0, .ref 0), (1, .int a1), (2, .int a2)]) X (dk dt_M_lamps_0 13 rfl) rfl (by decide) rfl ?_
      refine go_iconst X (dk dt_M_lamps_0 14 rfl) ci_0 ?_
      refine go_istore (lv' := [(4, .int (0 : Int32)), (3, .int (0 : Int32)), (0, .ref 0), (1, .int a1), (2, .int a2)]) X (dk dt_M_lamps_0 15 rfl) (by decide) rfl ?_
      refine go_sub [2, 3, 4, 1, 0] rfl ?_
      exact lkL_M_lamps_25 hi xc nx X rt  FU  h
    · refine go_iconst X (dk dt_M_lamps_0 10 rfl) ci_m1 ?_
      exact go_iret rt (dk dt_M_lamps_0 11 rfl) h (fun hh => nomatch hh)
set_option maxRecDepth 20000 in
theorem ct_M_lamps (hi : zInj wM v) (xc : XC wM v) (nx : NXM v)  {a1 : Int32} {a2 : Int32} {σ : Hp}  {q : (Int32 × Hp)} (h : F_M_lamps  a1 a2 σ = some q) : Ct wM v l yX12_lamps cX12_lamps 5 (some .int) 4 [.ref 0, .int a1, .int a2] σ (some (.int q.1)) q.2 :=
  Ct.intro false (by decide) hi xc (Nat.le_of_ble_eq_true rfl) rfl (fun p e R s m args below meth c Q X rt => lkF_M_lamps hi xc nx X rt  h)
end
def T_M_lands_0 : DT := [(0, .aload_n 0, 1), (1, .invokevirtual 188, 3), (4, .bipush 11, 2), (6, .if_icmp .eq 16, 3), (9, .iload_n 1, 1), (10, .ifCond .eq 63, 3), (13, .aload_n 0, 1), (14, .invokevirtual 188, 3), (17, .bipush 12, 2), (19, .if_icmp .ne 54, 3), (22, .aload_n 0, 1), (23, .getfield 32, 3), (26, .aload_n 0, 1), (27, .getfield 185, 3), (30, .iconst 1, 1), (31, .isub, 1)]
theorem dt_M_lands_0 : dOk cX12_lands T_M_lands_0 := by unfold dOk; decide +kernel
def T_M_lands_1 : DT := [(32, .iaload, 1), (33, .ldc 181, 2), (35, .irem, 1), (36, .istore_n 2, 1), (37, .aload_n 0, 1), (38, .getfield 29, 3), (41, .iload_n 2, 1), (42, .ldc 181, 2), (44, .aload_n 0, 1), (45, .getfield 29, 3), (48, .iload_n 2, 1), (49, .iaload, 1), (50, .ldc 181, 2), (52, .idiv, 1), (53, .imul, 1), (54, .aload_n 0, 1)]
theorem dt_M_lands_1 : dOk cX12_lands T_M_lands_1 := by unfold dOk; decide +kernel
def T_M_lands_2 : DT := [(55, .getfield 178, 3), (58, .iadd, 1), (59, .iastore, 1), (60, .aload_n 0, 1), (61, .aload_n 0, 1), (62, .getfield 185, 3), (65, .iconst 1, 1), (66, .isub, 1), (67, .putfield 185, 3), (70, .goto (-70), 3), (73, .return_, 1)]
theorem dt_M_lands_2 : dOk cX12_lands T_M_lands_2 := by unfold dOk; decide +kernel
section
variable {v : ZV} {l : Launch} {p : Program} {e : Env} {R : Room} {s : State} {m : MethodId} {args : Array Value} {below : List Frame} {meth : Method} {c : Code} {Q : State → Prop} {res : Hp} 
set_option maxRecDepth 20000 in
theorem lkJ_M_lands_22 (hi : zInj wM v) (xc : XC wM v) (nx : NXM v) (X : Cx wM v p R s m args c 0 0 cX12_lands 3 RX12 4) (rt : Rt wM v p l e R s m args below meth c 0 0 Q cX12_lands false none res) {k0 : Int32 → Hp → Option Hp} {x1 : Int32} {σ : Hp}  (hk0 : ∀ (x1 : Int32) (σ : Hp),  k0 x1 σ = some res → Go wM v p l e R s m args below meth c 0 0 Q 3 0 [(0, .ref 0), (1, .int x1)] [] σ) (h : J_M_lands_22  k0 x1 σ = some res) : Go wM v p l e R s m args below meth c 0 0 Q 3 22 [(0, .ref 0), (1, .int x1)] [] σ := by
  unfold J_M_lands_22 at h
  refine go_aload_n X 0 (dk dt_M_lands_0 10 rfl) rfl rfl ?_
  refine go_getr X fo_X12_32 lM_0 sM_0 fM_0_17 (dk dt_M_lands_0 11 rfl) ?_
  refine go_aload_n X 0 (dk dt_M_lands_0 12 rfl) rfl rfl ?_
  refine go_geti X fo_X12_185 lM_0 sM_0 fM_0_13 (dk dt_M_lands_0 13 rfl) ?_
  refine go_iconst X (dk dt_M_lands_0 14 rfl) ci_1 ?_
  refine go_isub X (dk dt_M_lands_0 15 rfl) ?_
  refine go_iald X lM_8 sM_8 (dk dt_M_lands_1 0 rfl) h (fun h => ?_)
  refine go_ldc X wd_1387 (dk dt_M_lands_1 1 rfl) ?_
  refine go_iremL X (dk dt_M_lands_1 2 rfl) (by decide) ?_
  refine go_istore_n (lv' := [(2, .int (jrem (σ 8 (Int32.toNatClampNeg ((σ 0 13) - (1 : Int32)))) (1048576 : Int32))), (0, .ref 0), (1, .int x1)]) X (dk dt_M_lands_1 3 rfl) rfl (by decide) rfl ?_
  refine go_aload_n X 1 (dk dt_M_lands_1 4 rfl) rfl rfl ?_
  refine go_getr X fo_X12_29 lM_0 sM_0 fM_0_16 (dk dt_M_lands_1 5 rfl) ?_
  refine go_iload_n X 0 (dk dt_M_lands_1 6 rfl) rfl rfl ?_
  refine go_ldc X wd_1387 (dk dt_M_lands_1 7 rfl) ?_
  refine go_aload_n X 1 (dk dt_M_lands_1 8 rfl) rfl rfl ?_
  refine go_getr X fo_X12_29 lM_0 sM_0 fM_0_16 (dk dt_M_lands_1 9 rfl) ?_
  refine go_iload_n X 0 (dk dt_M_lands_1 10 rfl) rfl rfl ?_
  refine go_iald X lM_7 sM_7 (dk dt_M_lands_1 11 rfl) h (fun h => ?_)
  refine go_ldc X wd_1387 (dk dt_M_lands_1 12 rfl) ?_
  refine go_idivL X (dk dt_M_lands_1 13 rfl) (by decide) ?_
  refine go_imul X (dk dt_M_lands_1 14 rfl) ?_
  refine go_aload_n X 1 (dk dt_M_lands_1 15 rfl) rfl rfl ?_
  refine go_geti X fo_X12_178 lM_0 sM_0 fM_0_12 (dk dt_M_lands_2 0 rfl) ?_
  refine go_iadd X (dk dt_M_lands_2 1 rfl) ?_
  refine go_iast X lM_7 sM_7 (dk dt_M_lands_2 2 rfl) h (fun h => ?_)
  refine go_aload_n X 1 (dk dt_M_lands_2 3 rfl) rfl rfl ?_
  refine go_aload_n X 1 (dk dt_M_lands_2 4 rfl) rfl rfl ?_
  refine go_geti X fo_X12_185 lM_0 sM_0 fM_0_13 (dk dt_M_lands_2 5 rfl) ?_
  refine go_iconst X (dk dt_M_lands_2 6 rfl) ci_1 ?_
  refine go_isub X (dk dt_M_lands_2 7 rfl) ?_
  refine go_puti X fo_X12_185 pf_12_13 lM_0 sM_0 fM_0_13 (dk dt_M_lands_2 8 rfl) ?_
  refine go_goto (tgt := 0) X (dk dt_M_lands_2 9 rfl) (by decide) ?_
  refine go_sub [1, 2] rfl ?_
  exact hk0 _ _  h
set_option maxRecDepth 20000 in
theorem lkB_M_lands_0 (hi : zInj wM v) (xc : XC wM v) (nx : NXM v) (X : Cx wM v p R s m args c 0 0 cX12_lands 3 RX12 4) (rt : Rt wM v p l e R s m args below meth c 0 0 Q cX12_lands false none res) {k0 : Int32 → Hp → Option Hp} {x1 : Int32} {σ : Hp}  (hk0 : ∀ (x1 : Int32) (σ : Hp),  k0 x1 σ = some res → Go wM v p l e R s m args below meth c 0 0 Q 3 0 [(0, .ref 0), (1, .int x1)] [] σ) (h : B_M_lands_0  k0 x1 σ = some res) : Go wM v p l e R s m args below meth c 0 0 Q 3 0 [(0, .ref 0), (1, .int x1)] [] σ := by
  unfold B_M_lands_0 at h
  refine go_aload_n X 0 (dk dt_M_lands_0 0 rfl) rfl rfl ?_
  refine go_Vi (As := []) (rest := []) X vo_X12_188 (fun q hq => ct_M_waitTop hi xc nx  hq) (by decide) rfl lM_0 sM_0 rfl rfl (Nat.le_of_ble_eq_true rfl) (dk dt_M_lands_0 1 rfl) h (fun q1 h => ?_)
  refine go_bipush X (dk dt_M_lands_0 2 rfl) cb_11 ?_
  refine go_icmp_eq (tgt := 22) X (dk dt_M_lands_0 3 rfl) (by decide) h (fun h => ?_) (fun h => ?_)
  · exact lkJ_M_lands_22 hi xc nx X rt  hk0 h
  · refine go_iload_n X 1 (dk dt_M_lands_0 4 rfl) rfl rfl ?_
    refine go_if_eq (tgt := 73) X (dk dt_M_lands_0 5 rfl) (by decide) h (fun h => ?_) (fun h => ?_)
    · exact go_vret rt (dk dt_M_lands_2 10 rfl) h
    · refine go_aload_n X 0 (dk dt_M_lands_0 6 rfl) rfl rfl ?_
      refine go_Vi (As := []) (rest := []) X vo_X12_188 (fun q hq => ct_M_waitTop hi xc nx  hq) (by decide) rfl lM_0 sM_0 rfl rfl (Nat.le_of_ble_eq_true rfl) (dk dt_M_lands_0 7 rfl) h (fun q14 h => ?_)
      refine go_bipush X (dk dt_M_lands_0 8 rfl) cb_12 ?_
      refine go_icmp_ne (tgt := 73) X (dk dt_M_lands_0 9 rfl) (by decide) h (fun h => ?_) (fun h => ?_)
      · exact go_vret rt (dk dt_M_lands_2 10 rfl) h
      · exact lkJ_M_lands_22 hi xc nx X rt  hk0 h
set_option maxRecDepth 20000 in
theorem lkL_M_lands_0 (hi : zInj wM v) (xc : XC wM v) (nx : NXM v) (X : Cx wM v p R s m args c 0 0 cX12_lands 3 RX12 4) (rt : Rt wM v p l e R s m args below meth c 0 0 Q cX12_lands false none res)   (n : Nat) : ∀ {x1 : Int32} {σ : Hp},  L_M_lands_0   n x1 σ = some res → Go wM v p l e R s m args below meth c 0 0 Q 3 0 [(0, .ref 0), (1, .int x1)] [] σ := by
  induction n with
  | zero => intro x1 σ  h; cases h
  | succ n ih =>
    intro x1 σ  h
    exact lkB_M_lands_0 hi xc nx X rt  (fun _ _  hh => ih  hh) h
set_option maxRecDepth 20000 in
theorem lkF_M_lands (hi : zInj wM v) (xc : XC wM v) (nx : NXM v) (X : Cx wM v p R s m args c 0 0 cX12_lands 3 RX12 4) (rt : Rt wM v p l e R s m args below meth c 0 0 Q cX12_lands false none res) {a1 : Int32} {σ : Hp}  (h : F_M_lands  a1 σ = some res) : Go wM v p l e R s m args below meth c 0 0 Q 3 0 [(0, .ref 0), (1, .int a1)] [] σ := by
  unfold F_M_lands at h
  exact lkL_M_lands_0 hi xc nx X rt  FU  h
set_option maxRecDepth 20000 in
theorem ct_M_lands (hi : zInj wM v) (xc : XC wM v) (nx : NXM v)  {a1 : Int32} {σ : Hp}  {q : Hp} (h : F_M_lands  a1 σ = some q) : Ct wM v l yX12_lands cX12_lands 3 none 4 [.ref 0, .int a1] σ none q :=
  Ct.intro false (by decide) hi xc (Nat.le_of_ble_eq_true rfl) rfl (fun p e R s m args below meth c Q X rt => lkF_M_lands hi xc nx X rt  h)
end
def T_M_lastsWith_0 : DT := [(0, .aload_n 0, 1), (1, .iload_n 1, 1), (2, .invokevirtual 332, 3), (5, .iload_n 3, 1), (6, .istore 4, 2), (8, .aload_n 0, 1), (9, .getfield 7, 3), (12, .bipush 32, 2), (14, .iload_n 1, 1), (15, .iadd, 1), (16, .iaload, 1), (17, .istore 5, 2), (19, .iconst 0, 1), (20, .istore 6, 2), (22, .iload 6, 2), (24, .iload_n 2, 1)]
theorem dt_M_lastsWith_0 : dOk cX12_lastsWith T_M_lastsWith_0 := by unfold dOk; decide +kernel
def T_M_lastsWith_1 : DT := [(25, .if_icmp .ge 118, 3), (28, .aload_n 0, 1), (29, .getfield 65, 3), (32, .iconst 3, 1), (33, .iload 5, 2), (35, .iastore, 1), (36, .aload_n 0, 1), (37, .getfield 65, 3), (40, .iconst 4, 1), (41, .iload 4, 2), (43, .iastore, 1), (44, .aload_n 0, 1), (45, .getfield 65, 3), (48, .bipush 9, 2), (50, .aload_n 0, 1), (51, .getfield 7, 3)]
theorem dt_M_lastsWith_1 : dOk cX12_lastsWith T_M_lastsWith_1 := by unfold dOk; decide +kernel
def T_M_lastsWith_2 : DT := [(54, .bipush 96, 2), (56, .iaload, 1), (57, .iload 6, 2), (59, .iadd, 1), (60, .bipush 6, 2), (62, .irem, 1), (63, .iastore, 1), (64, .aload_n 0, 1), (65, .getfield 65, 3), (68, .bipush 10, 2), (70, .aload_n 0, 1), (71, .getfield 7, 3), (74, .bipush 97, 2), (76, .iaload, 1), (77, .aload_n 0, 1), (78, .getfield 7, 3)]
theorem dt_M_lastsWith_2 : dOk cX12_lastsWith T_M_lastsWith_2 := by unfold dOk; decide +kernel
def T_M_lastsWith_3 : DT := [(81, .bipush 96, 2), (83, .iaload, 1), (84, .iload 6, 2), (86, .iadd, 1), (87, .bipush 6, 2), (89, .idiv, 1), (90, .iadd, 1), (91, .bipush 100, 2), (93, .irem, 1), (94, .iastore, 1), (95, .aload_n 0, 1), (96, .bipush 98, 2), (98, .bipush 99, 2), (100, .invokevirtual 335, 3), (103, .istore 7, 2), (105, .iload 4, 2)]
theorem dt_M_lastsWith_3 : dOk cX12_lastsWith T_M_lastsWith_3 := by unfold dOk; decide +kernel
def T_M_lastsWith_4 : DT := [(107, .aload_n 0, 1), (108, .bipush 116, 2), (110, .bipush 99, 2), (112, .invokevirtual 335, 3), (115, .isub, 1), (116, .istore 4, 2), (118, .bipush 99, 2), (120, .iload 5, 2), (122, .iload 7, 2), (124, .iadd, 1), (125, .invokestatic 270, 3), (128, .istore 5, 2), (130, .iload 4, 2), (132, .ifCond .gt 5, 3), (135, .iconst 0, 1), (136, .ireturn, 1)]
theorem dt_M_lastsWith_4 : dOk cX12_lastsWith T_M_lastsWith_4 := by unfold dOk; decide +kernel
def T_M_lastsWith_5 : DT := [(137, .iinc 6 1, 3), (140, .goto (-118), 3), (143, .iconst 1, 1), (144, .ireturn, 1)]
theorem dt_M_lastsWith_5 : dOk cX12_lastsWith T_M_lastsWith_5 := by unfold dOk; decide +kernel
section
variable {v : ZV} {l : Launch} {p : Program} {e : Env} {R : Room} {s : State} {m : MethodId} {args : Array Value} {below : List Frame} {meth : Method} {c : Code} {Q : State → Prop} {res : (Int32 × Hp)} 
set_option maxRecDepth 20000 in
theorem lkB_M_lastsWith_22 (hi : zInj wM v) (xc : XC wM v) (nx : NXM v) (X : Cx wM v p R s m args c 0 0 cX12_lastsWith 8 RX12 10) (rt : Rt wM v p l e R s m args below meth c 0 0 Q cX12_lastsWith true (some (.int res.1)) res.2) {k22 : Int32 → Int32 → Int32 → Int32 → Hp → Option (Int32 × Hp)} {x2 : Int32} {x4 : Int32} {x5 : Int32} {x6 : Int32} {σ : Hp}  (hk22 : ∀ (x2 : Int32) (x4 : Int32) (x5 : Int32) (x6 : Int32) (σ : Hp),  k22 x2 x4 x5 x6 σ = some res → Go wM v p l e R s m args below meth c 0 0 Q 8 22 [(0, .ref 0), (2, .int x2), (4, .int x4), (5, .int x5), (6, .int x6)] [] σ) (h : B_M_lastsWith_22  k22 x2 x4 x5 x6 σ = some res) : Go wM v p l e R s m args below meth c 0 0 Q 8 22 [(0, .ref 0), (2, .int x2), (4, .int x4), (5, .int x5), (6, .int x6)] [] σ := by
  unfold B_M_lastsWith_22 at h
  refine go_iload X 4 (dk dt_M_lastsWith_0 14 rfl) rfl ?_
  refine go_iload_n X 1 (dk dt_M_lastsWith_0 15 rfl) rfl rfl ?_
  refine go_icmp_ge (tgt := 143) X (dk dt_M_lastsWith_1 0 rfl) (by decide) h (fun h => ?_) (fun h => ?_)
  · refine go_iconst X (dk dt_M_lastsWith_5 2 rfl) ci_1 ?_
    exact go_iret rt (dk dt_M_lastsWith_5 3 rfl) h (by decide)
  · refine go_aload_n X 0 (dk dt_M_lastsWith_1 1 rfl) rfl rfl ?_
    refine go_getr X fo_X12_65 lM_0 sM_0 fM_0_28 (dk dt_M_lastsWith_1 2 rfl) ?_
    refine go_iconst X (dk dt_M_lastsWith_1 3 rfl) ci_3 ?_
    refine go_iload X 3 (dk dt_M_lastsWith_1 4 rfl) rfl ?_
    refine go_iast X lM_19 sM_19 (dk dt_M_lastsWith_1 5 rfl) h (fun h => ?_)
    refine go_aload_n X 0 (dk dt_M_lastsWith_1 6 rfl) rfl rfl ?_
    refine go_getr X fo_X12_65 lM_0 sM_0 fM_0_28 (dk dt_M_lastsWith_1 7 rfl) ?_
    refine go_iconst X (dk dt_M_lastsWith_1 8 rfl) ci_4 ?_
    refine go_iload X 2 (dk dt_M_lastsWith_1 9 rfl) rfl ?_
    refine go_iast X lM_19 sM_19 (dk dt_M_lastsWith_1 10 rfl) h (fun h => ?_)
    refine go_aload_n X 0 (dk dt_M_lastsWith_1 11 rfl) rfl rfl ?_
    refine go_getr X fo_X12_65 lM_0 sM_0 fM_0_28 (dk dt_M_lastsWith_1 12 rfl) ?_
    refine go_bipush X (dk dt_M_lastsWith_1 13 rfl) cb_9 ?_
    refine go_aload_n X 0 (dk dt_M_lastsWith_1 14 rfl) rfl rfl ?_
    refine go_getr X fo_X12_7 lM_0 sM_0 fM_0_0 (dk dt_M_lastsWith_1 15 rfl) ?_
    refine go_bipush X (dk dt_M_lastsWith_2 0 rfl) cb_96 ?_
    refine go_iald X lM_1 sM_1 (dk dt_M_lastsWith_2 1 rfl) h (fun h => ?_)
    refine go_iload X 4 (dk dt_M_lastsWith_2 2 rfl) rfl ?_
    refine go_iadd X (dk dt_M_lastsWith_2 3 rfl) ?_
    refine go_bipush X (dk dt_M_lastsWith_2 4 rfl) cb_6 ?_
    refine go_iremL X (dk dt_M_lastsWith_2 5 rfl) (by decide) ?_
    refine go_iast X lM_19 sM_19 (dk dt_M_lastsWith_2 6 rfl) h (fun h => ?_)
    refine go_aload_n X 0 (dk dt_M_lastsWith_2 7 rfl) rfl rfl ?_
    refine go_getr X fo_X12_65 lM_0 sM_0 fM_0_28 (dk dt_M_lastsWith_2 8 rfl) ?_
    refine go_bipush X (dk dt_M_lastsWith_2 9 rfl) cb_10 ?_
    refine go_aload_n X 0 (dk dt_M_lastsWith_2 10 rfl) rfl rfl ?_
    refine go_getr X fo_X12_7 lM_0 sM_0 fM_0_0 (dk dt_M_lastsWith_2 11 rfl) ?_
    refine go_bipush X (dk dt_M_lastsWith_2 12 rfl) cb_97 ?_
    refine go_iald X lM_1 sM_1 (dk dt_M_lastsWith_2 13 rfl) h (fun h => ?_)
    refine go_aload_n X 0 (dk dt_M_lastsWith_2 14 rfl) rfl rfl ?_
    refine go_getr X fo_X12_7 lM_0 sM_0 fM_0_0 (dk dt_M_lastsWith_2 15 rfl) ?_
    refine go_bipush X (dk dt_M_lastsWith_3 0 rfl) cb_96 ?_
    refine go_iald X lM_1 sM_1 (dk dt_M_lastsWith_3 1 rfl) h (fun h => ?_)
    refine go_iload X 4 (dk dt_M_lastsWith_3 2 rfl) rfl ?_
    refine go_iadd X (dk dt_M_lastsWith_3 3 rfl) ?_
    refine go_bipush X (dk dt_M_lastsWith_3 4 rfl) cb_6 ?_
    refine go_idivL X (dk dt_M_lastsWith_3 5 rfl) (by decide) ?_
    refine go_iadd X (dk dt_M_lastsWith_3 6 rfl) ?_
    refine go_bipush X (dk dt_M_lastsWith_3 7 rfl) cb_100 ?_
    refine go_iremL X (dk dt_M_lastsWith_3 8 rfl) (by decide) ?_
    refine go_iast X lM_19 sM_19 (dk dt_M_lastsWith_3 9 rfl) h (fun h => ?_)
    refine go_aload_n X 0 (dk dt_M_lastsWith_3 10 rfl) rfl rfl ?_
    refine go_bipush X (dk dt_M_lastsWith_3 11 rfl) cb_98 ?_
    refine go_bipush X (dk dt_M_lastsWith_3 12 rfl) cb_99 ?_
    refine go_Vi (As := [.int (98 : Int32), .int (99 : Int32)]) (rest := []) X vo_X12_335 (fun q hq => ct_M_byLaw hi xc nx  hq) (by decide) rfl lM_0 sM_0 rfl rfl (Nat.le_of_ble_eq_true rfl) (dk dt_M_lastsWith_3 13 rfl) h (fun q100 h => ?_)
    refine go_istore (lv' := [(7, .int q100.1), (0, .ref 0), (2, .int x2), (4, .int x4), (5, .int x5), (6, .int x6)]) X (dk dt_M_lastsWith_3 14 rfl) (by decide) rfl ?_
    refine go_iload X 3 (dk dt_M_lastsWith_3 15 rfl) rfl ?_
    refine go_aload_n X 1 (dk dt_M_lastsWith_4 0 rfl) rfl rfl ?_
    refine go_bipush X (dk dt_M_lastsWith_4 1 rfl) cb_116 ?_
    refine go_bipush X (dk dt_M_lastsWith_4 2 rfl) cb_99 ?_
    refine go_Vi (As := [.int (116 : Int32), .int (99 : Int32)]) (rest := [.int x4]) X vo_X12_335 (fun q hq => ct_M_byLaw hi xc nx  hq) (by decide) rfl lM_0 sM_0 rfl rfl (Nat.le_of_ble_eq_true rfl) (dk dt_M_lastsWith_4 3 rfl) h (fun q112 h => ?_)
    refine go_isub X (dk dt_M_lastsWith_4 4 rfl) ?_
    refine go_istore (lv' := [(4, .int (x4 - q112.1)), (7, .int q100.1), (0, .ref 0), (2, .int x2), (5, .int x5), (6, .int x6)]) X (dk dt_M_lastsWith_4 5 rfl) (by decide) rfl ?_
    refine go_bipush X (dk dt_M_lastsWith_4 6 rfl) cb_99 ?_
    refine go_iload X 4 (dk dt_M_lastsWith_4 7 rfl) rfl ?_
    refine go_iload X 1 (dk dt_M_lastsWith_4 8 rfl) rfl ?_
    refine go_iadd X (dk dt_M_lastsWith_4 9 rfl) ?_
    refine go_Si (As := [.int (99 : Int32), .int (x5 + q100.1)]) (rest := []) X so_X12_270 (fun q hq => ct_M_min hi xc nx  hq) (by decide) rfl rfl (Nat.le_of_ble_eq_true rfl) (dk dt_M_lastsWith_4 10 rfl) h (fun q125 h => ?_)
    refine go_istore (lv' := [(5, .int q125.1), (4, .int (x4 - q112.1)), (7, .int q100.1), (0, .ref 0), (2, .int x2), (6, .int x6)]) X (dk dt_M_lastsWith_4 11 rfl) (by decide) rfl ?_
    refine go_iload X 1 (dk dt_M_lastsWith_4 12 rfl) rfl ?_
    refine go_if_gt (tgt := 137) X (dk dt_M_lastsWith_4 13 rfl) (by decide) h (fun h => ?_) (fun h => ?_)
    · refine go_iinc (lv' := [(6, .int (x6 + (1 : Int32))), (5, .int q125.1), (4, .int (x4 - q112.1)), (7, .int q100.1), (0, .ref 0), (2, .int x2)]) X 5 (dk dt_M_lastsWith_5 0 rfl) rfl ci_1 (by decide) rfl ?_
      refine go_goto (tgt := 22) X (dk dt_M_lastsWith_5 1 rfl) (by decide) ?_
      refine go_sub [4, 5, 2, 1, 0] rfl ?_
      exact hk22 _ _ _ _ _  h
    · refine go_iconst X (dk dt_M_lastsWith_4 14 rfl) ci_0 ?_
      exact go_iret rt (dk dt_M_lastsWith_4 15 rfl) h (by decide)
set_option maxRecDepth 20000 in
theorem lkL_M_lastsWith_22 (hi : zInj wM v) (xc : XC wM v) (nx : NXM v) (X : Cx wM v p R s m args c 0 0 cX12_lastsWith 8 RX12 10) (rt : Rt wM v p l e R s m args below meth c 0 0 Q cX12_lastsWith true (some (.int res.1)) res.2)   (n : Nat) : ∀ {x2 : Int32} {x4 : Int32} {x5 : Int32} {x6 : Int32} {σ : Hp},  L_M_lastsWith_22   n x2 x4 x5 x6 σ = some res → Go wM v p l e R s m args below meth c 0 0 Q 8 22 [(0, .ref 0), (2, .int x2), (4, .int x4), (5, .int x5), (6, .int x6)] [] σ := by
  induction n with
  | zero => intro x2 x4 x5 x6 σ  h; cases h
  | succ n ih =>
    intro x2 x4 x5 x6 σ  h
    exact lkB_M_lastsWith_22 hi xc nx X rt  (fun _ _ _ _ _  hh => ih  hh) h
set_option maxRecDepth 20000 in
theorem lkF_M_lastsWith (hi : zInj wM v) (xc : XC wM v) (nx : NXM v) (X : Cx wM v p R s m args c 0 0 cX12_lastsWith 8 RX12 10) (rt : Rt wM v p l e R s m args below meth c 0 0 Q cX12_lastsWith true (some (.int res.1)) res.2) {a1 : Int32} {a2 : Int32} {a3 : Int32} {σ : Hp}  (h : F_M_lastsWith  a1 a2 a3 σ = some res) : Go wM v p l e R s m args below meth c 0 0 Q 8 0 [(0, .ref 0), (1, .int a1), (2, .int a2), (3, .int a3)] [] σ := by
  unfold F_M_lastsWith at h
  refine go_aload_n X 0 (dk dt_M_lastsWith_0 0 rfl) rfl rfl ?_
  refine go_iload_n X 1 (dk dt_M_lastsWith_0 1 rfl) rfl rfl ?_
  refine go_Vv (As := [.int a1]) (rest := []) X vo_X12_332 (fun q hq => ct_M_feels hi xc nx  hq) (by decide) rfl lM_0 sM_0 rfl rfl (Nat.le_of_ble_eq_true rfl) (dk dt_M_lastsWith_0 2 rfl) h (fun q2 h => ?_)
  refine go_iload_n X 3 (dk dt_M_lastsWith_0 3 rfl) rfl rfl ?_
  refine go_istore (lv' := [(4, .int a3), (0, .ref 0), (1, .int a1), (2, .int a2), (3, .int a3)]) X (dk dt_M_lastsWith_0 4 rfl) (by decide) rfl ?_
  refine go_aload_n X 1 (dk dt_M_lastsWith_0 5 rfl) rfl rfl ?_
  refine go_getr X fo_X12_7 lM_0 sM_0 fM_0_0 (dk dt_M_lastsWith_0 6 rfl) ?_
  refine go_bipush X (dk dt_M_lastsWith_0 7 rfl) cb_32 ?_
  refine go_iload_n X 2 (dk dt_M_lastsWith_0 8 rfl) rfl rfl ?_
  refine go_iadd X (dk dt_M_lastsWith_0 9 rfl) ?_
  refine go_iald X lM_1 sM_1 (dk dt_M_lastsWith_0 10 rfl) h (fun h => ?_)
  refine go_istore (lv' := [(5, .int (q2 1 (Int32.toNatClampNeg ((32 : Int32) + a1)))), (4, .int a3), (0, .ref 0), (1, .int a1), (2, .int a2), (3, .int a3)]) X (dk dt_M_lastsWith_0 11 rfl) (by decide) rfl ?_
  refine go_iconst X (dk dt_M_lastsWith_0 12 rfl) ci_0 ?_
  refine go_istore (lv' := [(6, .int (0 : Int32)), (5, .int (q2 1 (Int32.toNatClampNeg ((32 : Int32) + a1)))), (4, .int a3), (0, .ref 0), (1, .int a1), (2, .int a2), (3, .int a3)]) X (dk dt_M_lastsWith_0 13 rfl) (by decide) rfl ?_
  refine go_sub [3, 5, 2, 1, 0] rfl ?_
  exact lkL_M_lastsWith_22 hi xc nx X rt  FU  h
set_option maxRecDepth 20000 in
theorem ct_M_lastsWith (hi : zInj wM v) (xc : XC wM v) (nx : NXM v)  {a1 : Int32} {a2 : Int32} {a3 : Int32} {σ : Hp}  {q : (Int32 × Hp)} (h : F_M_lastsWith  a1 a2 a3 σ = some q) : Ct wM v l yX12_lastsWith cX12_lastsWith 8 (some .boolean) 10 [.ref 0, .int a1, .int a2, .int a3] σ (some (.int q.1)) q.2 :=
  Ct.intro true (by decide) hi xc (Nat.le_of_ble_eq_true rfl) rfl (fun p e R s m args below meth c Q X rt => lkF_M_lastsWith hi xc nx X rt  h)
end
def T_M_lasts_0 : DT := [(0, .aload_n 0, 1), (1, .iload_n 1, 1), (2, .iload_n 2, 1), (3, .invokevirtual 285, 3), (6, .ifCond .eq 26, 3), (9, .aload_n 0, 1), (10, .bipush 8, 2), (12, .iload_n 1, 1), (13, .imul, 1), (14, .iload_n 2, 1), (15, .iadd, 1), (16, .invokevirtual 359, 3), (19, .ifCond .eq 13, 3), (22, .iload_n 3, 1), (23, .iconst 1, 1), (24, .bipush 60, 2)]
theorem dt_M_lasts_0 : dOk cX12_lasts T_M_lasts_0 := by unfold dOk; decide +kernel
def T_M_lasts_1 : DT := [(26, .invokestatic 122, 3), (29, .ifCond .ne 5, 3), (32, .iconst (-1), 1), (33, .ireturn, 1), (34, .bipush 8, 2), (36, .iload_n 1, 1), (37, .imul, 1), (38, .iload_n 2, 1), (39, .iadd, 1), (40, .istore 4, 2), (42, .iconst 0, 1), (43, .istore 5, 2), (45, .iload 5, 2), (47, .bipush 99, 2), (49, .if_icmp .gt 35, 3), (52, .aload_n 0, 1)]
theorem dt_M_lasts_1 : dOk cX12_lasts T_M_lasts_1 := by unfold dOk; decide +kernel
def T_M_lasts_2 : DT := [(53, .iload 4, 2), (55, .iload_n 3, 1), (56, .aload_n 0, 1), (57, .getfield 7, 3), (60, .bipush 48, 2), (62, .iload 4, 2), (64, .iadd, 1), (65, .iaload, 1), (66, .iload 5, 2), (68, .iadd, 1), (69, .invokevirtual 381, 3), (72, .ifCond .eq 6, 3), (75, .iload 5, 2), (77, .ireturn, 1), (78, .iinc 5 1, 3), (81, .goto (-36), 3)]
theorem dt_M_lasts_2 : dOk cX12_lasts T_M_lasts_2 := by unfold dOk; decide +kernel
def T_M_lasts_3 : DT := [(84, .bipush (-2), 2), (86, .ireturn, 1)]
theorem dt_M_lasts_3 : dOk cX12_lasts T_M_lasts_3 := by unfold dOk; decide +kernel
section
variable {v : ZV} {l : Launch} {p : Program} {e : Env} {R : Room} {s : State} {m : MethodId} {args : Array Value} {below : List Frame} {meth : Method} {c : Code} {Q : State → Prop} {res : (Int32 × Hp)} 
set_option maxRecDepth 20000 in
theorem lkB_M_lasts_45 (hi : zInj wM v) (xc : XC wM v) (nx : NXM v) (X : Cx wM v p R s m args c 0 0 cX12_lasts 6 RX12 12) (rt : Rt wM v p l e R s m args below meth c 0 0 Q cX12_lasts false (some (.int res.1)) res.2) {k45 : Int32 → Int32 → Int32 → Hp → Option (Int32 × Hp)} {x3 : Int32} {x4 : Int32} {x5 : Int32} {σ : Hp}  (hk45 : ∀ (x3 : Int32) (x4 : Int32) (x5 : Int32) (σ : Hp),  k45 x3 x4 x5 σ = some res → Go wM v p l e R s m args below meth c 0 0 Q 6 45 [(0, .ref 0), (3, .int x3), (4, .int x4), (5, .int x5)] [] σ) (h : B_M_lasts_45  k45 x3 x4 x5 σ = some res) : Go wM v p l e R s m args below meth c 0 0 Q 6 45 [(0, .ref 0), (3, .int x3), (4, .int x4), (5, .int x5)] [] σ := by
  unfold B_M_lasts_45 at h
  refine go_iload X 3 (dk dt_M_lasts_1 12 rfl) rfl ?_
  refine go_bipush X (dk dt_M_lasts_1 13 rfl) cb_99 ?_
  refine go_icmp_gt (tgt := 84) X (dk dt_M_lasts_1 14 rfl) (by decide) h (fun h => ?_) (fun h => ?_)
  · refine go_bipush X (dk dt_M_lasts_3 0 rfl) cb_m2 ?_
    exact go_iret rt (dk dt_M_lasts_3 1 rfl) h (fun hh => nomatch hh)
  · refine go_aload_n X 0 (dk dt_M_lasts_1 15 rfl) rfl rfl ?_
    refine go_iload X 2 (dk dt_M_lasts_2 0 rfl) rfl ?_
    refine go_iload_n X 1 (dk dt_M_lasts_2 1 rfl) rfl rfl ?_
    refine go_aload_n X 0 (dk dt_M_lasts_2 2 rfl) rfl rfl ?_
    refine go_getr X fo_X12_7 lM_0 sM_0 fM_0_0 (dk dt_M_lasts_2 3 rfl) ?_
    refine go_bipush X (dk dt_M_lasts_2 4 rfl) cb_48 ?_
    refine go_iload X 2 (dk dt_M_lasts_2 5 rfl) rfl ?_
    refine go_iadd X (dk dt_M_lasts_2 6 rfl) ?_
    refine go_iald X lM_1 sM_1 (dk dt_M_lasts_2 7 rfl) h (fun h => ?_)
    refine go_iload X 3 (dk dt_M_lasts_2 8 rfl) rfl ?_
    refine go_iadd X (dk dt_M_lasts_2 9 rfl) ?_
    refine go_Vi (As := [.int x4, .int x3, .int ((σ 1 (Int32.toNatClampNeg ((48 : Int32) + x4))) + x5)]) (rest := []) X vo_X12_381 (fun q hq => ct_M_lastsWith hi xc nx  hq) (by decide) rfl lM_0 sM_0 rfl rfl (Nat.le_of_ble_eq_true rfl) (dk dt_M_lasts_2 10 rfl) h (fun q69 h => ?_)
    refine go_if_eq (tgt := 78) X (dk dt_M_lasts_2 11 rfl) (by decide) h (fun h => ?_) (fun h => ?_)
    · refine go_iinc (lv' := [(5, .int (x5 + (1 : Int32))), (0, .ref 0), (3, .int x3), (4, .int x4)]) X 3 (dk dt_M_lasts_2 14 rfl) rfl ci_1 (by decide) rfl ?_
      refine go_goto (tgt := 45) X (dk dt_M_lasts_2 15 rfl) (by decide) ?_
      refine go_sub [1, 2, 3, 0] rfl ?_
      exact hk45 _ _ _ _  h
    · refine go_iload X 3 (dk dt_M_lasts_2 12 rfl) rfl ?_
      exact go_iret rt (dk dt_M_lasts_2 13 rfl) h (fun hh => nomatch hh)
set_option maxRecDepth 20000 in
theorem lkL_M_lasts_45 (hi : zInj wM v) (xc : XC wM v) (nx : NXM v) (X : Cx wM v p R s m args c 0 0 cX12_lasts 6 RX12 12) (rt : Rt wM v p l e R s m args below meth c 0 0 Q cX12_lasts false (some (.int res.1)) res.2)   (n : Nat) : ∀ {x3 : Int32} {x4 : Int32} {x5 : Int32} {σ : Hp},  L_M_lasts_45   n x3 x4 x5 σ = some res → Go wM v p l e R s m args below meth c 0 0 Q 6 45 [(0, .ref 0), (3, .int x3), (4, .int x4), (5, .int x5)] [] σ := by
  induction n with
  | zero => intro x3 x4 x5 σ  h; cases h
  | succ n ih =>
    intro x3 x4 x5 σ  h
    exact lkB_M_lasts_45 hi xc nx X rt  (fun _ _ _ _  hh => ih  hh) h
set_option maxRecDepth 20000 in
theorem lkF_M_lasts (hi : zInj wM v) (xc : XC wM v) (nx : NXM v) (X : Cx wM v p R s m args c 0 0 cX12_lasts 6 RX12 12) (rt : Rt wM v p l e R s m args below meth c 0 0 Q cX12_lasts false (some (.int res.1)) res.2) {a1 : Int32} {a2 : Int32} {a3 : Int32} {σ : Hp}  (h : F_M_lasts  a1 a2 a3 σ = some res) : Go wM v p l e R s m args below meth c 0 0 Q 6 0 [(0, .ref 0), (1, .int a1), (2, .int a2), (3, .int a3)] [] σ := by
  unfold F_M_lasts at h
  refine go_aload_n X 0 (dk dt_M_lasts_0 0 rfl) rfl rfl ?_
  refine go_iload_n X 1 (dk dt_M_lasts_0 1 rfl) rfl rfl ?_
  refine go_iload_n X 2 (dk dt_M_lasts_0 2 rfl) rfl rfl ?_
  refine go_Vi (As := [.int a1, .int a2]) (rest := []) X vo_X12_285 (fun q hq => ct_M_isThere hi xc nx  hq) (by decide) rfl lM_0 sM_0 rfl rfl (Nat.le_of_ble_eq_true rfl) (dk dt_M_lasts_0 3 rfl) h (fun q3 h => ?_)
  refine go_if_eq (tgt := 32) X (dk dt_M_lasts_0 4 rfl) (by decide) h (fun h => ?_) (fun h => ?_)
  · refine go_iconst X (dk dt_M_lasts_1 2 rfl) ci_m1 ?_
    exact go_iret rt (dk dt_M_lasts_1 3 rfl) h (fun hh => nomatch hh)
  · refine go_aload_n X 0 (dk dt_M_lasts_0 5 rfl) rfl rfl ?_
    refine go_bipush X (dk dt_M_lasts_0 6 rfl) cb_8 ?_
    refine go_iload_n X 1 (dk dt_M_lasts_0 7 rfl) rfl rfl ?_
    refine go_imul X (dk dt_M_lasts_0 8 rfl) ?_
    refine go_iload_n X 2 (dk dt_M_lasts_0 9 rfl) rfl rfl ?_
    refine go_iadd X (dk dt_M_lasts_0 10 rfl) ?_
    refine go_Vi (As := [.int (((8 : Int32) * a1) + a2)]) (rest := []) X vo_X12_359 (fun q hq => ct_M_sitsIn hi xc nx  hq) (by decide) rfl lM_0 sM_0 rfl rfl (Nat.le_of_ble_eq_true rfl) (dk dt_M_lasts_0 11 rfl) h (fun q16 h => ?_)
    refine go_if_eq (tgt := 32) X (dk dt_M_lasts_0 12 rfl) (by decide) h (fun h => ?_) (fun h => ?_)
    · refine go_iconst X (dk dt_M_lasts_1 2 rfl) ci_m1 ?_
      exact go_iret rt (dk dt_M_lasts_1 3 rfl) h (fun hh => nomatch hh)
    · refine go_iload_n X 3 (dk dt_M_lasts_0 13 rfl) rfl rfl ?_
      refine go_iconst X (dk dt_M_lasts_0 14 rfl) ci_1 ?_
      refine go_bipush X (dk dt_M_lasts_0 15 rfl) cb_60 ?_
      refine go_Si (As := [.int a3, .int (1 : Int32), .int (60 : Int32)]) (rest := []) X so_X12_122 (fun q hq => ct_M_in hi xc nx  hq) (by decide) rfl rfl (Nat.le_of_ble_eq_true rfl) (dk dt_M_lasts_1 0 rfl) h (fun q26 h => ?_)
      refine go_if_ne (tgt := 34) X (dk dt_M_lasts_1 1 rfl) (by decide) h (fun h => ?_) (fun h => ?_)
      · refine go_bipush X (dk dt_M_lasts_1 4 rfl) cb_8 ?_
        refine go_iload_n X 1 (dk dt_M_lasts_1 5 rfl) rfl rfl ?_
        refine go_imul X (dk dt_M_lasts_1 6 rfl) ?_
        refine go_iload_n X 2 (dk dt_M_lasts_1 7 rfl) rfl rfl ?_
        refine go_iadd X (dk dt_M_lasts_1 8 rfl) ?_
        refine go_istore (lv' := [(4, .int (((8 : Int32) * a1) + a2)), (0, .ref 0), (1, .int a1), (2, .int a2), (3, .int a3)]) X (dk dt_M_lasts_1 9 rfl) (by decide) rfl ?_
        refine go_iconst X (dk dt_M_lasts_1 10 rfl) ci_0 ?_
        refine go_istore (lv' := [(5, .int (0 : Int32)), (4, .int (((8 : Int32) * a1) + a2)), (0, .ref 0), (1, .int a1), (2, .int a2), (3, .int a3)]) X (dk dt_M_lasts_1 11 rfl) (by decide) rfl ?_
        refine go_sub [2, 5, 1, 0] rfl ?_
        exact lkL_M_lasts_45 hi xc nx X rt  FU  h
      · refine go_iconst X (dk dt_M_lasts_1 2 rfl) ci_m1 ?_
        exact go_iret rt (dk dt_M_lasts_1 3 rfl) h (fun hh => nomatch hh)
set_option maxRecDepth 20000 in
theorem ct_M_lasts (hi : zInj wM v) (xc : XC wM v) (nx : NXM v)  {a1 : Int32} {a2 : Int32} {a3 : Int32} {σ : Hp}  {q : (Int32 × Hp)} (h : F_M_lasts  a1 a2 a3 σ = some q) : Ct wM v l yX12_lasts cX12_lasts 6 (some .int) 12 [.ref 0, .int a1, .int a2, .int a3] σ (some (.int q.1)) q.2 :=
  Ct.intro false (by decide) hi xc (Nat.le_of_ble_eq_true rfl) rfl (fun p e R s m args below meth c Q X rt => lkF_M_lasts hi xc nx X rt  h)
end
def T_M_wrongAt_0 : DT := [(0, .aload_n 0, 1), (1, .sipush (-1000), 3), (4, .iload_n 1, 1), (5, .imul, 1), (6, .iload_n 2, 1), (7, .isub, 1), (8, .putfield 165, 3), (11, .iconst 0, 1), (12, .ireturn, 1)]
theorem dt_M_wrongAt_0 : dOk cX12_wrongAt T_M_wrongAt_0 := by unfold dOk; decide +kernel
section
variable {v : ZV} {l : Launch} {p : Program} {e : Env} {R : Room} {s : State} {m : MethodId} {args : Array Value} {below : List Frame} {meth : Method} {c : Code} {Q : State → Prop} {res : (Int32 × Hp)} 
set_option maxRecDepth 20000 in
theorem lkF_M_wrongAt (hi : zInj wM v) (xc : XC wM v) (nx : NXM v) (X : Cx wM v p R s m args c 0 0 cX12_wrongAt 3 RX12 2) (rt : Rt wM v p l e R s m args below meth c 0 0 Q cX12_wrongAt true (some (.int res.1)) res.2) {a1 : Int32} {a2 : Int32} {σ : Hp}  (h : F_M_wrongAt  a1 a2 σ = some res) : Go wM v p l e R s m args below meth c 0 0 Q 3 0 [(0, .ref 0), (1, .int a1), (2, .int a2)] [] σ := by
  unfold F_M_wrongAt at h
  refine go_aload_n X 0 (dk dt_M_wrongAt_0 0 rfl) rfl rfl ?_
  refine go_sipush X (dk dt_M_wrongAt_0 1 rfl) cs_m1000 ?_
  refine go_iload_n X 1 (dk dt_M_wrongAt_0 2 rfl) rfl rfl ?_
  refine go_imul X (dk dt_M_wrongAt_0 3 rfl) ?_
  refine go_iload_n X 2 (dk dt_M_wrongAt_0 4 rfl) rfl rfl ?_
  refine go_isub X (dk dt_M_wrongAt_0 5 rfl) ?_
  refine go_puti X fo_X12_165 pf_12_9 lM_0 sM_0 fM_0_9 (dk dt_M_wrongAt_0 6 rfl) ?_
  refine go_iconst X (dk dt_M_wrongAt_0 7 rfl) ci_0 ?_
  exact go_iret rt (dk dt_M_wrongAt_0 8 rfl) h (by decide)
set_option maxRecDepth 20000 in
theorem ct_M_wrongAt (hi : zInj wM v) (xc : XC wM v) (nx : NXM v)  {a1 : Int32} {a2 : Int32} {σ : Hp}  {q : (Int32 × Hp)} (h : F_M_wrongAt  a1 a2 σ = some q) : Ct wM v l yX12_wrongAt cX12_wrongAt 3 (some .boolean) 2 [.ref 0, .int a1, .int a2] σ (some (.int q.1)) q.2 :=
  Ct.intro true (by decide) hi xc (Nat.le_of_ble_eq_true rfl) rfl (fun p e R s m args below meth c Q X rt => lkF_M_wrongAt hi xc nx X rt  h)
end
def T_M_opens_0 : DT := [(0, .aload_n 0, 1), (1, .getfield 182, 3), (4, .bipush 6, 2), (6, .if_icmp .ne 13, 3), (9, .aload_n 0, 1), (10, .iconst 5, 1), (11, .aload_n 0, 1), (12, .getfield 155, 3), (15, .invokevirtual 168, 3), (18, .ireturn, 1), (19, .aload_n 0, 1), (20, .aload_n 0, 1), (21, .getfield 182, 3), (24, .iconst 1, 1), (25, .iadd, 1), (26, .putfield 182, 3)]
theorem dt_M_opens_0 : dOk cX12_opens T_M_opens_0 := by unfold dOk; decide +kernel
def T_M_opens_1 : DT := [(29, .aload_n 0, 1), (30, .getfield 32, 3), (33, .aload_n 0, 1), (34, .getfield 185, 3), (37, .ldc 181, 2), (39, .iload_n 1, 1), (40, .imul, 1), (41, .iastore, 1), (42, .aload_n 0, 1), (43, .aload_n 0, 1), (44, .getfield 185, 3), (47, .iconst 1, 1), (48, .iadd, 1), (49, .putfield 185, 3), (52, .aload_n 0, 1), (53, .aload_n 0, 1)]
theorem dt_M_opens_1 : dOk cX12_opens T_M_opens_1 := by unfold dOk; decide +kernel
def T_M_opens_2 : DT := [(54, .getfield 155, 3), (57, .iconst 1, 1), (58, .iadd, 1), (59, .putfield 155, 3), (62, .iconst 1, 1), (63, .ireturn, 1)]
theorem dt_M_opens_2 : dOk cX12_opens T_M_opens_2 := by unfold dOk; decide +kernel
section
variable {v : ZV} {l : Launch} {p : Program} {e : Env} {R : Room} {s : State} {m : MethodId} {args : Array Value} {below : List Frame} {meth : Method} {c : Code} {Q : State → Prop} {res : (Int32 × Hp)} 
set_option maxRecDepth 20000 in
theorem lkF_M_opens (hi : zInj wM v) (xc : XC wM v) (nx : NXM v) (X : Cx wM v p R s m args c 0 0 cX12_opens 2 RX12 4) (rt : Rt wM v p l e R s m args below meth c 0 0 Q cX12_opens true (some (.int res.1)) res.2) {a1 : Int32} {σ : Hp}  (h : F_M_opens  a1 σ = some res) : Go wM v p l e R s m args below meth c 0 0 Q 2 0 [(0, .ref 0), (1, .int a1)] [] σ := by
  unfold F_M_opens at h
  refine go_aload_n X 0 (dk dt_M_opens_0 0 rfl) rfl rfl ?_
  refine go_geti X fo_X12_182 lM_0 sM_0 fM_0_11 (dk dt_M_opens_0 1 rfl) ?_
  refine go_bipush X (dk dt_M_opens_0 2 rfl) cb_6 ?_
  refine go_icmp_ne (tgt := 19) X (dk dt_M_opens_0 3 rfl) (by decide) h (fun h => ?_) (fun h => ?_)
  · refine go_aload_n X 0 (dk dt_M_opens_0 10 rfl) rfl rfl ?_
    refine go_aload_n X 0 (dk dt_M_opens_0 11 rfl) rfl rfl ?_
    refine go_geti X fo_X12_182 lM_0 sM_0 fM_0_11 (dk dt_M_opens_0 12 rfl) ?_
    refine go_iconst X (dk dt_M_opens_0 13 rfl) ci_1 ?_
    refine go_iadd X (dk dt_M_opens_0 14 rfl) ?_
    refine go_puti X fo_X12_182 pf_12_11 lM_0 sM_0 fM_0_11 (dk dt_M_opens_0 15 rfl) ?_
    refine go_aload_n X 0 (dk dt_M_opens_1 0 rfl) rfl rfl ?_
    refine go_getr X fo_X12_32 lM_0 sM_0 fM_0_17 (dk dt_M_opens_1 1 rfl) ?_
    refine go_aload_n X 0 (dk dt_M_opens_1 2 rfl) rfl rfl ?_
    refine go_geti X fo_X12_185 lM_0 sM_0 fM_0_13 (dk dt_M_opens_1 3 rfl) ?_
    refine go_ldc X wd_1387 (dk dt_M_opens_1 4 rfl) ?_
    refine go_iload_n X 1 (dk dt_M_opens_1 5 rfl) rfl rfl ?_
    refine go_imul X (dk dt_M_opens_1 6 rfl) ?_
    refine go_iast X lM_8 sM_8 (dk dt_M_opens_1 7 rfl) h (fun h => ?_)
    refine go_aload_n X 0 (dk dt_M_opens_1 8 rfl) rfl rfl ?_
    refine go_aload_n X 0 (dk dt_M_opens_1 9 rfl) rfl rfl ?_
    refine go_geti X fo_X12_185 lM_0 sM_0 fM_0_13 (dk dt_M_opens_1 10 rfl) ?_
    refine go_iconst X (dk dt_M_opens_1 11 rfl) ci_1 ?_
    refine go_iadd X (dk dt_M_opens_1 12 rfl) ?_
    refine go_puti X fo_X12_185 pf_12_13 lM_0 sM_0 fM_0_13 (dk dt_M_opens_1 13 rfl) ?_
    refine go_aload_n X 0 (dk dt_M_opens_1 14 rfl) rfl rfl ?_
    refine go_aload_n X 0 (dk dt_M_opens_1 15 rfl) rfl rfl ?_
    refine go_geti X fo_X12_155 lM_0 sM_0 fM_0_7 (dk dt_M_opens_2 0 rfl) ?_
    refine go_iconst X (dk dt_M_opens_2 1 rfl) ci_1 ?_
    refine go_iadd X (dk dt_M_opens_2 2 rfl) ?_
    refine go_puti X fo_X12_155 pf_12_7 lM_0 sM_0 fM_0_7 (dk dt_M_opens_2 3 rfl) ?_
    refine go_iconst X (dk dt_M_opens_2 4 rfl) ci_1 ?_
    exact go_iret rt (dk dt_M_opens_2 5 rfl) h (by decide)
  · refine go_aload_n X 0 (dk dt_M_opens_0 4 rfl) rfl rfl ?_
    refine go_iconst X (dk dt_M_opens_0 5 rfl) ci_5 ?_
    refine go_aload_n X 0 (dk dt_M_opens_0 6 rfl) rfl rfl ?_
    refine go_geti X fo_X12_155 lM_0 sM_0 fM_0_7 (dk dt_M_opens_0 7 rfl) ?_
    refine go_Vi (As := [.int (5 : Int32), .int (σ 0 7)]) (rest := []) X vo_X12_168 (fun q hq => ct_M_wrongAt hi xc nx  hq) (by decide) rfl lM_0 sM_0 rfl rfl (Nat.le_of_ble_eq_true rfl) (dk dt_M_opens_0 8 rfl) h (fun q15 h => ?_)
    exact go_zret rt (dk dt_M_opens_0 9 rfl) h
set_option maxRecDepth 20000 in
theorem ct_M_opens (hi : zInj wM v) (xc : XC wM v) (nx : NXM v)  {a1 : Int32} {σ : Hp}  {q : (Int32 × Hp)} (h : F_M_opens  a1 σ = some q) : Ct wM v l yX12_opens cX12_opens 2 (some .boolean) 4 [.ref 0, .int a1] σ (some (.int q.1)) q.2 :=
  Ct.intro true (by decide) hi xc (Nat.le_of_ble_eq_true rfl) rfl (fun p e R s m args below meth c Q X rt => lkF_M_opens hi xc nx X rt  h)
end
def T_M_readsNumber_0 : DT := [(0, .aload_n 0, 1), (1, .getfield 155, 3), (4, .istore_n 1, 1), (5, .aload_n 0, 1), (6, .iconst 0, 1), (7, .putfield 171, 3), (10, .aload_n 0, 1), (11, .invokevirtual 174, 3), (14, .ifCond .eq 55, 3), (17, .aload_n 0, 1), (18, .getfield 155, 3), (21, .iload_n 1, 1), (22, .iconst 5, 1), (23, .iadd, 1), (24, .if_icmp .ne 13, 3), (27, .aload_n 0, 1)]
theorem dt_M_readsNumber_0 : dOk cX12_readsNumber T_M_readsNumber_0 := by unfold dOk; decide +kernel
def T_M_readsNumber_1 : DT := [(28, .iconst 2, 1), (29, .aload_n 0, 1), (30, .getfield 155, 3), (33, .invokevirtual 168, 3), (36, .ireturn, 1), (37, .aload_n 0, 1), (38, .bipush 10, 2), (40, .aload_n 0, 1), (41, .getfield 171, 3), (44, .imul, 1), (45, .aload_n 0, 1), (46, .invokevirtual 161, 3), (49, .iadd, 1), (50, .bipush 48, 2), (52, .isub, 1), (53, .putfield 171, 3)]
theorem dt_M_readsNumber_1 : dOk cX12_readsNumber T_M_readsNumber_1 := by unfold dOk; decide +kernel
def T_M_readsNumber_2 : DT := [(56, .aload_n 0, 1), (57, .aload_n 0, 1), (58, .getfield 155, 3), (61, .iconst 1, 1), (62, .iadd, 1), (63, .putfield 155, 3), (66, .goto (-56), 3), (69, .iconst 1, 1), (70, .ireturn, 1)]
theorem dt_M_readsNumber_2 : dOk cX12_readsNumber T_M_readsNumber_2 := by unfold dOk; decide +kernel
section
variable {v : ZV} {l : Launch} {p : Program} {e : Env} {R : Room} {s : State} {m : MethodId} {args : Array Value} {below : List Frame} {meth : Method} {c : Code} {Q : State → Prop} {res : (Int32 × Hp)} 
set_option maxRecDepth 20000 in
theorem lkB_M_readsNumber_10 (hi : zInj wM v) (xc : XC wM v) (nx : NXM v) (X : Cx wM v p R s m args c 0 0 cX12_readsNumber 2 RX12 6) (rt : Rt wM v p l e R s m args below meth c 0 0 Q cX12_readsNumber true (some (.int res.1)) res.2) {k10 : Int32 → Hp → Option (Int32 × Hp)} {k27 : Hp → Option (Int32 × Hp)} {x1 : Int32} {σ : Hp}  (hk10 : ∀ (x1 : Int32) (σ : Hp),  k10 x1 σ = some res → Go wM v p l e R s m args below meth c 0 0 Q 2 10 [(0, .ref 0), (1, .int x1)] [] σ) (hk27 : ∀  (σ : Hp),  k27  σ = some res → Go wM v p l e R s m args below meth c 0 0 Q 2 27 [(0, .ref 0)] [] σ) (h : B_M_readsNumber_10  k10 k27 x1 σ = some res) : Go wM v p l e R s m args below meth c 0 0 Q 2 10 [(0, .ref 0), (1, .int x1)] [] σ := by
  unfold B_M_readsNumber_10 at h
  refine go_aload_n X 0 (dk dt_M_readsNumber_0 6 rfl) rfl rfl ?_
  refine go_Vi (As := []) (rest := []) X vo_X12_174 (fun q hq => ct_M_isDigit hi xc nx  hq) (by decide) rfl lM_0 sM_0 rfl rfl (Nat.le_of_ble_eq_true rfl) (dk dt_M_readsNumber_0 7 rfl) h (fun q11 h => ?_)
  refine go_if_eq (tgt := 69) X (dk dt_M_readsNumber_0 8 rfl) (by decide) h (fun h => ?_) (fun h => ?_)
  · refine go_iconst X (dk dt_M_readsNumber_2 7 rfl) ci_1 ?_
    exact go_iret rt (dk dt_M_readsNumber_2 8 rfl) h (by decide)
  · refine go_aload_n X 0 (dk dt_M_readsNumber_0 9 rfl) rfl rfl ?_
    refine go_geti X fo_X12_155 lM_0 sM_0 fM_0_7 (dk dt_M_readsNumber_0 10 rfl) ?_
    refine go_iload_n X 1 (dk dt_M_readsNumber_0 11 rfl) rfl rfl ?_
    refine go_iconst X (dk dt_M_readsNumber_0 12 rfl) ci_5 ?_
    refine go_iadd X (dk dt_M_readsNumber_0 13 rfl) ?_
    refine go_icmp_ne (tgt := 37) X (dk dt_M_readsNumber_0 14 rfl) (by decide) h (fun h => ?_) (fun h => ?_)
    · refine go_aload_n X 0 (dk dt_M_readsNumber_1 5 rfl) rfl rfl ?_
      refine go_bipush X (dk dt_M_readsNumber_1 6 rfl) cb_10 ?_
      refine go_aload_n X 0 (dk dt_M_readsNumber_1 7 rfl) rfl rfl ?_
      refine go_geti X fo_X12_171 lM_0 sM_0 fM_0_10 (dk dt_M_readsNumber_1 8 rfl) ?_
      refine go_imul X (dk dt_M_readsNumber_1 9 rfl) ?_
      refine go_aload_n X 0 (dk dt_M_readsNumber_1 10 rfl) rfl rfl ?_
      refine go_Vi (As := []) (rest := [.int ((10 : Int32) * (q11.2 0 10)), .ref 0]) X vo_X12_161 (fun q hq => ct_M_here hi xc nx  hq) (by decide) rfl lM_0 sM_0 rfl rfl (Nat.le_of_ble_eq_true rfl) (dk dt_M_readsNumber_1 11 rfl) h (fun q46 h => ?_)
      refine go_iadd X (dk dt_M_readsNumber_1 12 rfl) ?_
      refine go_bipush X (dk dt_M_readsNumber_1 13 rfl) cb_48 ?_
      refine go_isub X (dk dt_M_readsNumber_1 14 rfl) ?_
      refine go_puti X fo_X12_171 pf_12_10 lM_0 sM_0 fM_0_10 (dk dt_M_readsNumber_1 15 rfl) ?_
      refine go_aload_n X 0 (dk dt_M_readsNumber_2 0 rfl) rfl rfl ?_
      refine go_aload_n X 0 (dk dt_M_readsNumber_2 1 rfl) rfl rfl ?_
      refine go_geti X fo_X12_155 lM_0 sM_0 fM_0_7 (dk dt_M_readsNumber_2 2 rfl) ?_
      refine go_iconst X (dk dt_M_readsNumber_2 3 rfl) ci_1 ?_
      refine go_iadd X (dk dt_M_readsNumber_2 4 rfl) ?_
      refine go_puti X fo_X12_155 pf_12_7 lM_0 sM_0 fM_0_7 (dk dt_M_readsNumber_2 5 rfl) ?_
      refine go_goto (tgt := 10) X (dk dt_M_readsNumber_2 6 rfl) (by decide) ?_
      exact hk10 _ _  h
    · refine go_sub [0] rfl ?_
      exact hk27  _  h
set_option maxRecDepth 20000 in
theorem lkL_M_readsNumber_10 (hi : zInj wM v) (xc : XC wM v) (nx : NXM v) (X : Cx wM v p R s m args c 0 0 cX12_readsNumber 2 RX12 6) (rt : Rt wM v p l e R s m args below meth c 0 0 Q cX12_readsNumber true (some (.int res.1)) res.2) {k27 : Hp → Option (Int32 × Hp)} (hk27 : ∀  (σ : Hp),  k27  σ = some res → Go wM v p l e R s m args below meth c 0 0 Q 2 27 [(0, .ref 0)] [] σ) (n : Nat) : ∀ {x1 : Int32} {σ : Hp},  L_M_readsNumber_10  k27 n x1 σ = some res → Go wM v p l e R s m args below meth c 0 0 Q 2 10 [(0, .ref 0), (1, .int x1)] [] σ := by
  induction n with
  | zero => intro x1 σ  h; cases h
  | succ n ih =>
    intro x1 σ  h
    exact lkB_M_readsNumber_10 hi xc nx X rt  (fun _ _  hh => ih  hh) hk27 h
set_option maxRecDepth 20000 in
theorem lkJ_M_readsNumber_27 (hi : zInj wM v) (xc : XC wM v) (nx : NXM v) (X : Cx wM v p R s m args c 0 0 cX12_readsNumber 2 RX12 6) (rt : Rt wM v p l e R s m args below meth c 0 0 Q cX12_readsNumber true (some (.int res.1)) res.2)   {σ : Hp}   (h : J_M_readsNumber_27    σ = some res) : Go wM v p l e R s m args below meth c 0 0 Q 2 27 [(0, .ref 0)] [] σ := by
  unfold J_M_readsNumber_27 at h
  refine go_aload_n X 0 (dk dt_M_readsNumber_0 15 rfl) rfl rfl ?_
  refine go_iconst X (dk dt_M_readsNumber_1 0 rfl) ci_2 ?_
  refine go_aload_n X 0 (dk dt_M_readsNumber_1 1 rfl) rfl rfl ?_
  refine go_geti X fo_X12_155 lM_0 sM_0 fM_0_7 (dk dt_M_readsNumber_1 2 rfl) ?_
  refine go_Vi (As := [.int (2 : Int32), .int (σ 0 7)]) (rest := []) X vo_X12_168 (fun q hq => ct_M_wrongAt hi xc nx  hq) (by decide) rfl lM_0 sM_0 rfl rfl (Nat.le_of_ble_eq_true rfl) (dk dt_M_readsNumber_1 3 rfl) h (fun q33 h => ?_)
  exact go_zret rt (dk dt_M_readsNumber_1 4 rfl) h
set_option maxRecDepth 20000 in
theorem lkF_M_readsNumber (hi : zInj wM v) (xc : XC wM v) (nx : NXM v) (X : Cx wM v p R s m args c 0 0 cX12_readsNumber 2 RX12 6) (rt : Rt wM v p l e R s m args below meth c 0 0 Q cX12_readsNumber true (some (.int res.1)) res.2)  {σ : Hp}  (h : F_M_readsNumber   σ = some res) : Go wM v p l e R s m args below meth c 0 0 Q 2 0 [(0, .ref 0)] [] σ := by
  unfold F_M_readsNumber at h
  refine go_aload_n X 0 (dk dt_M_readsNumber_0 0 rfl) rfl rfl ?_
  refine go_geti X fo_X12_155 lM_0 sM_0 fM_0_7 (dk dt_M_readsNumber_0 1 rfl) ?_
  refine go_istore_n (lv' := [(1, .int (σ 0 7)), (0, .ref 0)]) X (dk dt_M_readsNumber_0 2 rfl) rfl (by decide) rfl ?_
  refine go_aload_n X 1 (dk dt_M_readsNumber_0 3 rfl) rfl rfl ?_
  refine go_iconst X (dk dt_M_readsNumber_0 4 rfl) ci_0 ?_
  refine go_puti X fo_X12_171 pf_12_10 lM_0 sM_0 fM_0_10 (dk dt_M_readsNumber_0 5 rfl) ?_
  refine go_sub [1, 0] rfl ?_
  exact lkL_M_readsNumber_10 hi xc nx X rt (fun  _  hh => lkJ_M_readsNumber_27 hi xc nx X rt   hh) FU  h
set_option maxRecDepth 20000 in
theorem ct_M_readsNumber (hi : zInj wM v) (xc : XC wM v) (nx : NXM v)   {σ : Hp}  {q : (Int32 × Hp)} (h : F_M_readsNumber   σ = some q) : Ct wM v l yX12_readsNumber cX12_readsNumber 2 (some .boolean) 6 [.ref 0] σ (some (.int q.1)) q.2 :=
  Ct.intro true (by decide) hi xc (Nat.le_of_ble_eq_true rfl) rfl (fun p e R s m args below meth c Q X rt => lkF_M_readsNumber hi xc nx X rt  h)
end
