def T_M_comesTo_0 : DT := [(0, .iconst 0, 1), (1, .istore_n 3, 1), (2, .sipush 260, 3), (5, .iload_n 1, 1), (6, .sipush 260, 3), (9, .idiv, 1), (10, .imul, 1), (11, .istore 4, 2), (13, .iload_n 1, 1), (14, .istore 5, 2), (16, .iload 5, 2), (18, .iload_n 2, 1), (19, .if_icmp .ge 214, 3), (22, .aload_n 0, 1), (23, .getfield 47, 3), (26, .iload 5, 2)]
theorem dt_M_comesTo_0 : dOk cX12_comesTo T_M_comesTo_0 := by unfold dOk; decide +kernel
def T_M_comesTo_1 : DT := [(28, .iaload, 1), (29, .ldc 181, 2), (31, .idiv, 1), (32, .istore 6, 2), (34, .aload_n 0, 1), (35, .getfield 47, 3), (38, .iload 5, 2), (40, .iaload, 1), (41, .ldc 181, 2), (43, .irem, 1), (44, .istore 7, 2), (46, .iload 5, 2), (48, .iconst 1, 1), (49, .iadd, 1), (50, .istore 5, 2), (52, .iload 6, 2)]
theorem dt_M_comesTo_1 : dOk cX12_comesTo T_M_comesTo_1 := by unfold dOk; decide +kernel
def T_M_comesTo_2 : DT := [(54, .ifCond .eq 9, 3), (57, .iload 6, 2), (59, .iconst 1, 1), (60, .if_icmp .ne 33, 3), (63, .aload_n 0, 1), (64, .getfield 62, 3), (67, .iload_n 3, 1), (68, .iload 6, 2), (70, .ifCond .ne 8, 3), (73, .iload 7, 2), (75, .goto 10, 3), (78, .aload_n 0, 1), (79, .getfield 65, 3), (82, .iload 7, 2), (84, .iaload, 1), (85, .iastore, 1)]
theorem dt_M_comesTo_2 : dOk cX12_comesTo T_M_comesTo_2 := by unfold dOk; decide +kernel
def T_M_comesTo_3 : DT := [(86, .iload_n 3, 1), (87, .iconst 1, 1), (88, .iadd, 1), (89, .istore_n 3, 1), (90, .goto 140, 3), (93, .iload 6, 2), (95, .bipush 10, 2), (97, .if_icmp .ne 24, 3), (100, .aload_n 0, 1), (101, .getfield 62, 3), (104, .iload_n 3, 1), (105, .iconst 1, 1), (106, .isub, 1), (107, .iconst 1, 1), (108, .aload_n 0, 1), (109, .getfield 62, 3)]
theorem dt_M_comesTo_3 : dOk cX12_comesTo T_M_comesTo_3 := by unfold dOk; decide +kernel
def T_M_comesTo_4 : DT := [(112, .iload_n 3, 1), (113, .iconst 1, 1), (114, .isub, 1), (115, .iaload, 1), (116, .isub, 1), (117, .iastore, 1), (118, .goto 112, 3), (121, .iload 6, 2), (123, .bipush 11, 2), (125, .if_icmp .eq 10, 3), (128, .iload 6, 2), (130, .bipush 12, 2), (132, .if_icmp .ne 43, 3), (135, .aload_n 0, 1), (136, .getfield 62, 3), (139, .iload_n 3, 1)]
theorem dt_M_comesTo_4 : dOk cX12_comesTo T_M_comesTo_4 := by unfold dOk; decide +kernel
def T_M_comesTo_5 : DT := [(140, .iconst 1, 1), (141, .isub, 1), (142, .iaload, 1), (143, .iload 6, 2), (145, .bipush 12, 2), (147, .if_icmp .ne 7, 3), (150, .iconst 1, 1), (151, .goto 4, 3), (154, .iconst 0, 1), (155, .if_icmp .ne 13, 3), (158, .iload 4, 2), (160, .iload 7, 2), (162, .iadd, 1), (163, .istore 5, 2), (165, .goto 65, 3), (168, .iload_n 3, 1)]
theorem dt_M_comesTo_5 : dOk cX12_comesTo T_M_comesTo_5 := by unfold dOk; decide +kernel
def T_M_comesTo_6 : DT := [(169, .iconst 1, 1), (170, .isub, 1), (171, .istore_n 3, 1), (172, .goto 58, 3), (175, .iload_n 3, 1), (176, .iconst 1, 1), (177, .isub, 1), (178, .istore_n 3, 1), (179, .iload 6, 2), (181, .iconst 5, 1), (182, .if_icmp .eq 10, 3), (185, .iload 6, 2), (187, .bipush 6, 2), (189, .if_icmp .ne 14, 3), (192, .aload_n 0, 1), (193, .getfield 62, 3)]
theorem dt_M_comesTo_6 : dOk cX12_comesTo T_M_comesTo_6 := by unfold dOk; decide +kernel
def T_M_comesTo_7 : DT := [(196, .iload_n 3, 1), (197, .iaload, 1), (198, .ifCond .ne 5, 3), (201, .iconst 0, 1), (202, .ireturn, 1), (203, .aload_n 0, 1), (204, .getfield 62, 3), (207, .iload_n 3, 1), (208, .iconst 1, 1), (209, .isub, 1), (210, .iload 6, 2), (212, .aload_n 0, 1), (213, .getfield 62, 3), (216, .iload_n 3, 1), (217, .iconst 1, 1), (218, .isub, 1)]
theorem dt_M_comesTo_7 : dOk cX12_comesTo T_M_comesTo_7 := by unfold dOk; decide +kernel
def T_M_comesTo_8 : DT := [(219, .iaload, 1), (220, .aload_n 0, 1), (221, .getfield 62, 3), (224, .iload_n 3, 1), (225, .iaload, 1), (226, .invokestatic 251, 3), (229, .iastore, 1), (230, .goto (-214), 3), (233, .aload_n 0, 1), (234, .getfield 62, 3), (237, .iconst 0, 1), (238, .iaload, 1), (239, .ireturn, 1)]
theorem dt_M_comesTo_8 : dOk cX12_comesTo T_M_comesTo_8 := by unfold dOk; decide +kernel
section
variable {v : ZV} {l : Launch} {p : Program} {e : Env} {R : Room} {s : State} {m : MethodId} {args : Array Value} {below : List Frame} {meth : Method} {c : Code} {Q : State → Prop} {res : (Int32 × Hp)} 
set_option maxRecDepth 20000 in
theorem lkJ_M_comesTo_85 (hi : zInj wM v) (xc : XC wM v) (nx : NXM v) (X : Cx wM v p R s m args c 0 0 cX12_comesTo 8 RX12 4) (rt : Rt wM v p l e R s m args below meth c 0 0 Q cX12_comesTo false (some (.int res.1)) res.2) {k16 : Int32 → Int32 → Int32 → Int32 → Hp → Option (Int32 × Hp)} {x2 : Int32} {x3 : Int32} {x4 : Int32} {x5 : Int32} {s0 : Int32} {s1 : Int32} {σ : Hp}  (hk16 : ∀ (x2 : Int32) (x3 : Int32) (x4 : Int32) (x5 : Int32) (σ : Hp),  k16 x2 x3 x4 x5 σ = some res → Go wM v p l e R s m args below meth c 0 0 Q 8 16 [(0, .ref 0), (2, .int x2), (3, .int x3), (4, .int x4), (5, .int x5)] [] σ) (h : J_M_comesTo_85  k16 x2 x3 x4 x5 s0 s1 σ = some res) : Go wM v p l e R s m args below meth c 0 0 Q 8 85 [(0, .ref 0), (2, .int x2), (3, .int x3), (4, .int x4), (5, .int x5)] [.int s0, .int s1, .ref 18] σ := by
  unfold J_M_comesTo_85 at h
  refine go_iast X lM_18 sM_18 (dk dt_M_comesTo_2 15 rfl) h (fun h => ?_)
  refine go_iload_n X 2 (dk dt_M_comesTo_3 0 rfl) rfl rfl ?_
  refine go_iconst X (dk dt_M_comesTo_3 1 rfl) ci_1 ?_
  refine go_iadd X (dk dt_M_comesTo_3 2 rfl) ?_
  refine go_istore_n (lv' := [(3, .int (x3 + (1 : Int32))), (0, .ref 0), (2, .int x2), (4, .int x4), (5, .int x5)]) X (dk dt_M_comesTo_3 3 rfl) rfl (by decide) rfl ?_
  refine go_goto (tgt := 230) X (dk dt_M_comesTo_3 4 rfl) (by decide) ?_
  refine go_goto (tgt := 16) X (dk dt_M_comesTo_8 7 rfl) (by decide) ?_
  refine go_sub [1, 2, 0, 3, 4] rfl ?_
  exact hk16 _ _ _ _ _  h
set_option maxRecDepth 20000 in
theorem lkJ_M_comesTo_63 (hi : zInj wM v) (xc : XC wM v) (nx : NXM v) (X : Cx wM v p R s m args c 0 0 cX12_comesTo 8 RX12 4) (rt : Rt wM v p l e R s m args below meth c 0 0 Q cX12_comesTo false (some (.int res.1)) res.2) {k16 : Int32 → Int32 → Int32 → Int32 → Hp → Option (Int32 × Hp)} {x2 : Int32} {x3 : Int32} {x4 : Int32} {x5 : Int32} {x6 : Int32} {x7 : Int32} {σ : Hp}  (hk16 : ∀ (x2 : Int32) (x3 : Int32) (x4 : Int32) (x5 : Int32) (σ : Hp),  k16 x2 x3 x4 x5 σ = some res → Go wM v p l e R s m args below meth c 0 0 Q 8 16 [(0, .ref 0), (2, .int x2), (3, .int x3), (4, .int x4), (5, .int x5)] [] σ) (h : J_M_comesTo_63  k16 x2 x3 x4 x5 x6 x7 σ = some res) : Go wM v p l e R s m args below meth c 0 0 Q 8 63 [(0, .ref 0), (2, .int x2), (3, .int x3), (4, .int x4), (5, .int x5), (6, .int x6), (7, .int x7)] [] σ := by
  unfold J_M_comesTo_63 at h
  refine go_aload_n X 0 (dk dt_M_comesTo_2 4 rfl) rfl rfl ?_
  refine go_getr X fo_X12_62 lM_0 sM_0 fM_0_27 (dk dt_M_comesTo_2 5 rfl) ?_
  refine go_iload_n X 2 (dk dt_M_comesTo_2 6 rfl) rfl rfl ?_
  refine go_iload X 5 (dk dt_M_comesTo_2 7 rfl) rfl ?_
  refine go_if_ne (tgt := 78) X (dk dt_M_comesTo_2 8 rfl) (by decide) h (fun h => ?_) (fun h => ?_)
  · refine go_aload_n X 0 (dk dt_M_comesTo_2 11 rfl) rfl rfl ?_
    refine go_getr X fo_X12_65 lM_0 sM_0 fM_0_28 (dk dt_M_comesTo_2 12 rfl) ?_
    refine go_iload X 6 (dk dt_M_comesTo_2 13 rfl) rfl ?_
    refine go_iald X lM_19 sM_19 (dk dt_M_comesTo_2 14 rfl) h (fun h => ?_)
    refine go_sub [0, 1, 2, 3, 4] rfl ?_
    exact lkJ_M_comesTo_85 hi xc nx X rt  hk16 h
  · refine go_iload X 6 (dk dt_M_comesTo_2 9 rfl) rfl ?_
    refine go_goto (tgt := 85) X (dk dt_M_comesTo_2 10 rfl) (by decide) ?_
    refine go_sub [0, 1, 2, 3, 4] rfl ?_
    exact lkJ_M_comesTo_85 hi xc nx X rt  hk16 h
set_option maxRecDepth 20000 in
theorem lkJ_M_comesTo_155 (hi : zInj wM v) (xc : XC wM v) (nx : NXM v) (X : Cx wM v p R s m args c 0 0 cX12_comesTo 8 RX12 4) (rt : Rt wM v p l e R s m args below meth c 0 0 Q cX12_comesTo false (some (.int res.1)) res.2) {k16 : Int32 → Int32 → Int32 → Int32 → Hp → Option (Int32 × Hp)} {x2 : Int32} {x3 : Int32} {x4 : Int32} {x5 : Int32} {x7 : Int32} {s0 : Int32} {s1 : Int32} {σ : Hp}  (hk16 : ∀ (x2 : Int32) (x3 : Int32) (x4 : Int32) (x5 : Int32) (σ : Hp),  k16 x2 x3 x4 x5 σ = some res → Go wM v p l e R s m args below meth c 0 0 Q 8 16 [(0, .ref 0), (2, .int x2), (3, .int x3), (4, .int x4), (5, .int x5)] [] σ) (h : J_M_comesTo_155  k16 x2 x3 x4 x5 x7 s0 s1 σ = some res) : Go wM v p l e R s m args below meth c 0 0 Q 8 155 [(0, .ref 0), (2, .int x2), (3, .int x3), (4, .int x4), (5, .int x5), (7, .int x7)] [.int s0, .int s1] σ := by
  unfold J_M_comesTo_155 at h
  refine go_icmp_ne (tgt := 168) X (dk dt_M_comesTo_5 9 rfl) (by decide) h (fun h => ?_) (fun h => ?_)
  · refine go_iload_n X 2 (dk dt_M_comesTo_5 15 rfl) rfl rfl ?_
    refine go_iconst X (dk dt_M_comesTo_6 0 rfl) ci_1 ?_
    refine go_isub X (dk dt_M_comesTo_6 1 rfl) ?_
    refine go_istore_n (lv' := [(3, .int (x3 - (1 : Int32))), (0, .ref 0), (2, .int x2), (4, .int x4), (5, .int x5), (7, .int x7)]) X (dk dt_M_comesTo_6 2 rfl) rfl (by decide) rfl ?_
    refine go_goto (tgt := 230) X (dk dt_M_comesTo_6 3 rfl) (by decide) ?_
    refine go_goto (tgt := 16) X (dk dt_M_comesTo_8 7 rfl) (by decide) ?_
    refine go_sub [1, 2, 0, 3, 4] rfl ?_
    exact hk16 _ _ _ _ _  h
  · refine go_iload X 3 (dk dt_M_comesTo_5 10 rfl) rfl ?_
    refine go_iload X 5 (dk dt_M_comesTo_5 11 rfl) rfl ?_
    refine go_iadd X (dk dt_M_comesTo_5 12 rfl) ?_
    refine go_istore (lv' := [(5, .int (x4 + x7)), (0, .ref 0), (2, .int x2), (3, .int x3), (4, .int x4), (7, .int x7)]) X (dk dt_M_comesTo_5 13 rfl) (by decide) rfl ?_
    refine go_goto (tgt := 230) X (dk dt_M_comesTo_5 14 rfl) (by decide) ?_
    refine go_goto (tgt := 16) X (dk dt_M_comesTo_8 7 rfl) (by decide) ?_
    refine go_sub [1, 2, 3, 4, 0] rfl ?_
    exact hk16 _ _ _ _ _  h
set_option maxRecDepth 20000 in
theorem lkJ_M_comesTo_135 (hi : zInj wM v) (xc : XC wM v) (nx : NXM v) (X : Cx wM v p R s m args c 0 0 cX12_comesTo 8 RX12 4) (rt : Rt wM v p l e R s m args below meth c 0 0 Q cX12_comesTo false (some (.int res.1)) res.2) {k16 : Int32 → Int32 → Int32 → Int32 → Hp → Option (Int32 × Hp)} {x2 : Int32} {x3 : Int32} {x4 : Int32} {x5 : Int32} {x6 : Int32} {x7 : Int32} {σ : Hp}  (hk16 : ∀ (x2 : Int32) (x3 : Int32) (x4 : Int32) (x5 : Int32) (σ : Hp),  k16 x2 x3 x4 x5 σ = some res → Go wM v p l e R s m args below meth c 0 0 Q 8 16 [(0, .ref 0), (2, .int x2), (3, .int x3), (4, .int x4), (5, .int x5)] [] σ) (h : J_M_comesTo_135  k16 x2 x3 x4 x5 x6 x7 σ = some res) : Go wM v p l e R s m args below meth c 0 0 Q 8 135 [(0, .ref 0), (2, .int x2), (3, .int x3), (4, .int x4), (5, .int x5), (6, .int x6), (7, .int x7)] [] σ := by
  unfold J_M_comesTo_135 at h
  refine go_aload_n X 0 (dk dt_M_comesTo_4 13 rfl) rfl rfl ?_
  refine go_getr X fo_X12_62 lM_0 sM_0 fM_0_27 (dk dt_M_comesTo_4 14 rfl) ?_
  refine go_iload_n X 2 (dk dt_M_comesTo_4 15 rfl) rfl rfl ?_
  refine go_iconst X (dk dt_M_comesTo_5 0 rfl) ci_1 ?_
  refine go_isub X (dk dt_M_comesTo_5 1 rfl) ?_
  refine go_iald X lM_18 sM_18 (dk dt_M_comesTo_5 2 rfl) h (fun h => ?_)
  refine go_iload X 5 (dk dt_M_comesTo_5 3 rfl) rfl ?_
  refine go_bipush X (dk dt_M_comesTo_5 4 rfl) cb_12 ?_
  refine go_icmp_ne (tgt := 154) X (dk dt_M_comesTo_5 5 rfl) (by decide) h (fun h => ?_) (fun h => ?_)
  · refine go_iconst X (dk dt_M_comesTo_5 8 rfl) ci_0 ?_
    refine go_sub [0, 1, 2, 3, 4, 6] rfl ?_
    exact lkJ_M_comesTo_155 hi xc nx X rt  hk16 h
  · refine go_iconst X (dk dt_M_comesTo_5 6 rfl) ci_1 ?_
    refine go_goto (tgt := 155) X (dk dt_M_comesTo_5 7 rfl) (by decide) ?_
    refine go_sub [0, 1, 2, 3, 4, 6] rfl ?_
    exact lkJ_M_comesTo_155 hi xc nx X rt  hk16 h
set_option maxRecDepth 20000 in
theorem lkJ_M_comesTo_203 (hi : zInj wM v) (xc : XC wM v) (nx : NXM v) (X : Cx wM v p R s m args c 0 0 cX12_comesTo 8 RX12 4) (rt : Rt wM v p l e R s m args below meth c 0 0 Q cX12_comesTo false (some (.int res.1)) res.2) {k16 : Int32 → Int32 → Int32 → Int32 → Hp → Option (Int32 × Hp)} {x2 : Int32} {x3 : Int32} {x4 : Int32} {x5 : Int32} {x6 : Int32} {σ : Hp}  (hk16 : ∀ (x2 : Int32) (x3 : Int32) (x4 : Int32) (x5 : Int32) (σ : Hp),  k16 x2 x3 x4 x5 σ = some res → Go wM v p l e R s m args below meth c 0 0 Q 8 16 [(0, .ref 0), (2, .int x2), (3, .int x3), (4, .int x4), (5, .int x5)] [] σ) (h : J_M_comesTo_203  k16 x2 x3 x4 x5 x6 σ = some res) : Go wM v p l e R s m args below meth c 0 0 Q 8 203 [(0, .ref 0), (2, .int x2), (3, .int x3), (4, .int x4), (5, .int x5), (6, .int x6)] [] σ := by
  unfold J_M_comesTo_203 at h
  refine go_aload_n X 0 (dk dt_M_comesTo_7 5 rfl) rfl rfl ?_
  refine go_getr X fo_X12_62 lM_0 sM_0 fM_0_27 (dk dt_M_comesTo_7 6 rfl) ?_
  refine go_iload_n X 2 (dk dt_M_comesTo_7 7 rfl) rfl rfl ?_
  refine go_iconst X (dk dt_M_comesTo_7 8 rfl) ci_1 ?_
  refine go_isub X (dk dt_M_comesTo_7 9 rfl) ?_
  refine go_iload X 5 (dk dt_M_comesTo_7 10 rfl) rfl ?_
  refine go_aload_n X 0 (dk dt_M_comesTo_7 11 rfl) rfl rfl ?_
  refine go_getr X fo_X12_62 lM_0 sM_0 fM_0_27 (dk dt_M_comesTo_7 12 rfl) ?_
  refine go_iload_n X 2 (dk dt_M_comesTo_7 13 rfl) rfl rfl ?_
  refine go_iconst X (dk dt_M_comesTo_7 14 rfl) ci_1 ?_
  refine go_isub X (dk dt_M_comesTo_7 15 rfl) ?_
  refine go_iald X lM_18 sM_18 (dk dt_M_comesTo_8 0 rfl) h (fun h => ?_)
  refine go_aload_n X 0 (dk dt_M_comesTo_8 1 rfl) rfl rfl ?_
  refine go_getr X fo_X12_62 lM_0 sM_0 fM_0_27 (dk dt_M_comesTo_8 2 rfl) ?_
  refine go_iload_n X 2 (dk dt_M_comesTo_8 3 rfl) rfl rfl ?_
  refine go_iald X lM_18 sM_18 (dk dt_M_comesTo_8 4 rfl) h (fun h => ?_)
  refine go_Si (As := [.int x6, .int (σ 18 (Int32.toNatClampNeg (x3 - (1 : Int32)))), .int (σ 18 (Int32.toNatClampNeg x3))]) (rest := [.int (x3 - (1 : Int32)), .ref 18]) X so_X12_251 (fun q hq => ct_M_reckon hi xc nx  hq) (by decide) rfl rfl (Nat.le_of_ble_eq_true rfl) (dk dt_M_comesTo_8 5 rfl) h (fun q226 h => ?_)
  refine go_iast X lM_18 sM_18 (dk dt_M_comesTo_8 6 rfl) h (fun h => ?_)
  refine go_goto (tgt := 16) X (dk dt_M_comesTo_8 7 rfl) (by decide) ?_
  refine go_sub [0, 1, 2, 3, 4] rfl ?_
  exact hk16 _ _ _ _ _  h
set_option maxRecDepth 20000 in
theorem lkJ_M_comesTo_192 (hi : zInj wM v) (xc : XC wM v) (nx : NXM v) (X : Cx wM v p R s m args c 0 0 cX12_comesTo 8 RX12 4) (rt : Rt wM v p l e R s m args below meth c 0 0 Q cX12_comesTo false (some (.int res.1)) res.2) {k16 : Int32 → Int32 → Int32 → Int32 → Hp → Option (Int32 × Hp)} {x2 : Int32} {x3 : Int32} {x4 : Int32} {x5 : Int32} {x6 : Int32} {σ : Hp}  (hk16 : ∀ (x2 : Int32) (x3 : Int32) (x4 : Int32) (x5 : Int32) (σ : Hp),  k16 x2 x3 x4 x5 σ = some res → Go wM v p l e R s m args below meth c 0 0 Q 8 16 [(0, .ref 0), (2, .int x2), (3, .int x3), (4, .int x4), (5, .int x5)] [] σ) (h : J_M_comesTo_192  k16 x2 x3 x4 x5 x6 σ = some res) : Go wM v p l e R s m args below meth c 0 0 Q 8 192 [(0, .ref 0), (2, .int x2), (3, .int x3), (4, .int x4), (5, .int x5), (6, .int x6)] [] σ := by
  unfold J_M_comesTo_192 at h
  refine go_aload_n X 0 (dk dt_M_comesTo_6 14 rfl) rfl rfl ?_
  refine go_getr X fo_X12_62 lM_0 sM_0 fM_0_27 (dk dt_M_comesTo_6 15 rfl) ?_
  refine go_iload_n X 2 (dk dt_M_comesTo_7 0 rfl) rfl rfl ?_
  refine go_iald X lM_18 sM_18 (dk dt_M_comesTo_7 1 rfl) h (fun h => ?_)
  refine go_if_ne (tgt := 203) X (dk dt_M_comesTo_7 2 rfl) (by decide) h (fun h => ?_) (fun h => ?_)
  · exact lkJ_M_comesTo_203 hi xc nx X rt  hk16 h
  · refine go_iconst X (dk dt_M_comesTo_7 3 rfl) ci_0 ?_
    exact go_iret rt (dk dt_M_comesTo_7 4 rfl) h (fun hh => nomatch hh)
set_option maxRecDepth 20000 in
theorem lkB_M_comesTo_16 (hi : zInj wM v) (xc : XC wM v) (nx : NXM v) (X : Cx wM v p R s m args c 0 0 cX12_comesTo 8 RX12 4) (rt : Rt wM v p l e R s m args below meth c 0 0 Q cX12_comesTo false (some (.int res.1)) res.2) {k16 : Int32 → Int32 → Int32 → Int32 → Hp → Option (Int32 × Hp)} {x2 : Int32} {x3 : Int32} {x4 : Int32} {x5 : Int32} {σ : Hp}  (hk16 : ∀ (x2 : Int32) (x3 : Int32) (x4 : Int32) (x5 : Int32) (σ : Hp),  k16 x2 x3 x4 x5 σ = some res → Go wM v p l e R s m args below meth c 0 0 Q 8 16 [(0, .ref 0), (2, .int x2), (3, .int x3), (4, .int x4), (5, .int x5)] [] σ) (h : B_M_comesTo_16  k16 x2 x3 x4 x5 σ = some res) : Go wM v p l e R s m args below meth c 0 0 Q 8 16 [(0, .ref 0), (2, .int x2), (3, .int x3), (4, .int x4), (5, .int x5)] [] σ := by
  unfold B_M_comesTo_16 at h
  refine go_iload X 4 (dk dt_M_comesTo_0 10 rfl) rfl ?_
  refine go_iload_n X 1 (dk dt_M_comesTo_0 11 rfl) rfl rfl ?_
  refine go_icmp_ge (tgt := 233) X (dk dt_M_comesTo_0 12 rfl) (by decide) h (fun h => ?_) (fun h => ?_)
  · refine go_aload_n X 0 (dk dt_M_comesTo_8 8 rfl) rfl rfl ?_
    refine go_getr X fo_X12_62 lM_0 sM_0 fM_0_27 (dk dt_M_comesTo_8 9 rfl) ?_
    refine go_iconst X (dk dt_M_comesTo_8 10 rfl) ci_0 ?_
    refine go_iald X lM_18 sM_18 (dk dt_M_comesTo_8 11 rfl) h (fun h => ?_)
    exact go_iret rt (dk dt_M_comesTo_8 12 rfl) h (fun hh => nomatch hh)
  · refine go_aload_n X 0 (dk dt_M_comesTo_0 13 rfl) rfl rfl ?_
    refine go_getr X fo_X12_47 lM_0 sM_0 fM_0_22 (dk dt_M_comesTo_0 14 rfl) ?_
    refine go_iload X 4 (dk dt_M_comesTo_0 15 rfl) rfl ?_
    refine go_iald X lM_13 sM_13 (dk dt_M_comesTo_1 0 rfl) h (fun h => ?_)
    refine go_ldc X wd_1387 (dk dt_M_comesTo_1 1 rfl) ?_
    refine go_idivL X (dk dt_M_comesTo_1 2 rfl) (by decide) ?_
    refine go_istore (lv' := [(6, .int ((σ 13 (Int32.toNatClampNeg x5)) / (1048576 : Int32))), (0, .ref 0), (2, .int x2), (3, .int x3), (4, .int x4), (5, .int x5)]) X (dk dt_M_comesTo_1 3 rfl) (by decide) rfl ?_
    refine go_aload_n X 1 (dk dt_M_comesTo_1 4 rfl) rfl rfl ?_
    refine go_getr X fo_X12_47 lM_0 sM_0 fM_0_22 (dk dt_M_comesTo_1 5 rfl) ?_
    refine go_iload X 5 (dk dt_M_comesTo_1 6 rfl) rfl ?_
    refine go_iald X lM_13 sM_13 (dk dt_M_comesTo_1 7 rfl) h (fun h => ?_)
    refine go_ldc X wd_1387 (dk dt_M_comesTo_1 8 rfl) ?_
    refine go_iremL X (dk dt_M_comesTo_1 9 rfl) (by decide) ?_
    refine go_istore (lv' := [(7, .int (jrem (σ 13 (Int32.toNatClampNeg x5)) (1048576 : Int32))), (6, .int ((σ 13 (Int32.toNatClampNeg x5)) / (1048576 : Int32))), (0, .ref 0), (2, .int x2), (3, .int x3), (4, .int x4), (5, .int x5)]) X (dk dt_M_comesTo_1 10 rfl) (by decide) rfl ?_
    refine go_iload X 6 (dk dt_M_comesTo_1 11 rfl) rfl ?_
    refine go_iconst X (dk dt_M_comesTo_1 12 rfl) ci_1 ?_
    refine go_iadd X (dk dt_M_comesTo_1 13 rfl) ?_
    refine go_istore (lv' := [(5, .int (x5 + (1 : Int32))), (7, .int (jrem (σ 13 (Int32.toNatClampNeg x5)) (1048576 : Int32))), (6, .int ((σ 13 (Int32.toNatClampNeg x5)) / (1048576 : Int32))), (0, .ref 0), (2, .int x2), (3, .int x3), (4, .int x4)]) X (dk dt_M_comesTo_1 14 rfl) (by decide) rfl ?_
    refine go_iload X 2 (dk dt_M_comesTo_1 15 rfl) rfl ?_
    refine go_if_eq (tgt := 63) X (dk dt_M_comesTo_2 0 rfl) (by decide) h (fun h => ?_) (fun h => ?_)
    · refine go_sub [3, 4, 5, 6, 0, 2, 1] rfl ?_
      exact lkJ_M_comesTo_63 hi xc nx X rt  hk16 h
    · refine go_iload X 2 (dk dt_M_comesTo_2 1 rfl) rfl ?_
      refine go_iconst X (dk dt_M_comesTo_2 2 rfl) ci_1 ?_
      refine go_icmp_ne (tgt := 93) X (dk dt_M_comesTo_2 3 rfl) (by decide) h (fun h => ?_) (fun h => ?_)
      · refine go_iload X 2 (dk dt_M_comesTo_3 5 rfl) rfl ?_
        refine go_bipush X (dk dt_M_comesTo_3 6 rfl) cb_10 ?_
        refine go_icmp_ne (tgt := 121) X (dk dt_M_comesTo_3 7 rfl) (by decide) h (fun h => ?_) (fun h => ?_)
        · refine go_iload X 2 (dk dt_M_comesTo_4 7 rfl) rfl ?_
          refine go_bipush X (dk dt_M_comesTo_4 8 rfl) cb_11 ?_
          refine go_icmp_eq (tgt := 135) X (dk dt_M_comesTo_4 9 rfl) (by decide) h (fun h => ?_) (fun h => ?_)
          · refine go_sub [3, 4, 5, 6, 0, 2, 1] rfl ?_
            exact lkJ_M_comesTo_135 hi xc nx X rt  hk16 h
          · refine go_iload X 2 (dk dt_M_comesTo_4 10 rfl) rfl ?_
            refine go_bipush X (dk dt_M_comesTo_4 11 rfl) cb_12 ?_
            refine go_icmp_ne (tgt := 175) X (dk dt_M_comesTo_4 12 rfl) (by decide) h (fun h => ?_) (fun h => ?_)
            · refine go_iload_n X 5 (dk dt_M_comesTo_6 4 rfl) rfl rfl ?_
              refine go_iconst X (dk dt_M_comesTo_6 5 rfl) ci_1 ?_
              refine go_isub X (dk dt_M_comesTo_6 6 rfl) ?_
              refine go_istore_n (lv' := [(3, .int (x3 - (1 : Int32))), (5, .int (x5 + (1 : Int32))), (7, .int (jrem (σ 13 (Int32.toNatClampNeg x5)) (1048576 : Int32))), (6, .int ((σ 13 (Int32.toNatClampNeg x5)) / (1048576 : Int32))), (0, .ref 0), (2, .int x2), (4, .int x4)]) X (dk dt_M_comesTo_6 7 rfl) rfl (by decide) rfl ?_
              refine go_iload X 3 (dk dt_M_comesTo_6 8 rfl) rfl ?_
              refine go_iconst X (dk dt_M_comesTo_6 9 rfl) ci_5 ?_
              refine go_icmp_eq (tgt := 192) X (dk dt_M_comesTo_6 10 rfl) (by decide) h (fun h => ?_) (fun h => ?_)
              · refine go_sub [4, 5, 0, 6, 1, 3] rfl ?_
                exact lkJ_M_comesTo_192 hi xc nx X rt  hk16 h
              · refine go_iload X 3 (dk dt_M_comesTo_6 11 rfl) rfl ?_
                refine go_bipush X (dk dt_M_comesTo_6 12 rfl) cb_6 ?_
                refine go_icmp_ne (tgt := 203) X (dk dt_M_comesTo_6 13 rfl) (by decide) h (fun h => ?_) (fun h => ?_)
                · refine go_sub [4, 5, 0, 6, 1, 3] rfl ?_
                  exact lkJ_M_comesTo_203 hi xc nx X rt  hk16 h
                · refine go_sub [4, 5, 0, 6, 1, 3] rfl ?_
                  exact lkJ_M_comesTo_192 hi xc nx X rt  hk16 h
            · refine go_sub [3, 4, 5, 6, 0, 2, 1] rfl ?_
              exact lkJ_M_comesTo_135 hi xc nx X rt  hk16 h
        · refine go_aload_n X 3 (dk dt_M_comesTo_3 8 rfl) rfl rfl ?_
          refine go_getr X fo_X12_62 lM_0 sM_0 fM_0_27 (dk dt_M_comesTo_3 9 rfl) ?_
          refine go_iload_n X 5 (dk dt_M_comesTo_3 10 rfl) rfl rfl ?_
          refine go_iconst X (dk dt_M_comesTo_3 11 rfl) ci_1 ?_
          refine go_isub X (dk dt_M_comesTo_3 12 rfl) ?_
          refine go_iconst X (dk dt_M_comesTo_3 13 rfl) ci_1 ?_
          refine go_aload_n X 3 (dk dt_M_comesTo_3 14 rfl) rfl rfl ?_
          refine go_getr X fo_X12_62 lM_0 sM_0 fM_0_27 (dk dt_M_comesTo_3 15 rfl) ?_
          refine go_iload_n X 5 (dk dt_M_comesTo_4 0 rfl) rfl rfl ?_
          refine go_iconst X (dk dt_M_comesTo_4 1 rfl) ci_1 ?_
          refine go_isub X (dk dt_M_comesTo_4 2 rfl) ?_
          refine go_iald X lM_18 sM_18 (dk dt_M_comesTo_4 3 rfl) h (fun h => ?_)
          refine go_isub X (dk dt_M_comesTo_4 4 rfl) ?_
          refine go_iast X lM_18 sM_18 (dk dt_M_comesTo_4 5 rfl) h (fun h => ?_)
          refine go_goto (tgt := 230) X (dk dt_M_comesTo_4 6 rfl) (by decide) ?_
          refine go_goto (tgt := 16) X (dk dt_M_comesTo_8 7 rfl) (by decide) ?_
          refine go_sub [3, 4, 5, 6, 0] rfl ?_
          exact hk16 _ _ _ _ _  h
      · refine go_sub [3, 4, 5, 6, 0, 2, 1] rfl ?_
        exact lkJ_M_comesTo_63 hi xc nx X rt  hk16 h
set_option maxRecDepth 20000 in
theorem lkL_M_comesTo_16 (hi : zInj wM v) (xc : XC wM v) (nx : NXM v) (X : Cx wM v p R s m args c 0 0 cX12_comesTo 8 RX12 4) (rt : Rt wM v p l e R s m args below meth c 0 0 Q cX12_comesTo false (some (.int res.1)) res.2)   (n : Nat) : ∀ {x2 : Int32} {x3 : Int32} {x4 : Int32} {x5 : Int32} {σ : Hp},  L_M_comesTo_16   n x2 x3 x4 x5 σ = some res → Go wM v p l e R s m args below meth c 0 0 Q 8 16 [(0, .ref 0), (2, .int x2), (3, .int x3), (4, .int x4), (5, .int x5)] [] σ := by
  induction n with
  | zero => intro x2 x3 x4 x5 σ  h; cases h
  | succ n ih =>
    intro x2 x3 x4 x5 σ  h
    exact lkB_M_comesTo_16 hi xc nx X rt  (fun _ _ _ _ _  hh => ih  hh) h
set_option maxRecDepth 20000 in
theorem lkF_M_comesTo (hi : zInj wM v) (xc : XC wM v) (nx : NXM v) (X : Cx wM v p R s m args c 0 0 cX12_comesTo 8 RX12 4) (rt : Rt wM v p l e R s m args below meth c 0 0 Q cX12_comesTo false (some (.int res.1)) res.2) {a1 : Int32} {a2 : Int32} {σ : Hp}  (h : F_M_comesTo  a1 a2 σ = some res) : Go wM v p l e R s m args below meth c 0 0 Q 8 0 [(0, .ref 0), (1, .int a1), (2, .int a2)] [] σ := by
  unfold F_M_comesTo at h
  refine go_iconst X (dk dt_M_comesTo_0 0 rfl) ci_0 ?_
  refine go_istore_n (lv' := [(3, .int (0 : Int32)), (0, .ref 0), (1, .int a1), (2, .int a2)]) X (dk dt_M_comesTo_0 1 rfl) rfl (by decide) rfl ?_
  refine go_sipush X (dk dt_M_comesTo_0 2 rfl) cs_260 ?_
  refine go_iload_n X 2 (dk dt_M_comesTo_0 3 rfl) rfl rfl ?_
  refine go_sipush X (dk dt_M_comesTo_0 4 rfl) cs_260 ?_
  refine go_idivL X (dk dt_M_comesTo_0 5 rfl) (by decide) ?_
  refine go_imul X (dk dt_M_comesTo_0 6 rfl) ?_
  refine go_istore (lv' := [(4, .int ((260 : Int32) * (a1 / (260 : Int32)))), (3, .int (0 : Int32)), (0, .ref 0), (1, .int a1), (2, .int a2)]) X (dk dt_M_comesTo_0 7 rfl) (by decide) rfl ?_
  refine go_iload_n X 3 (dk dt_M_comesTo_0 8 rfl) rfl rfl ?_
  refine go_istore (lv' := [(5, .int a1), (4, .int ((260 : Int32) * (a1 / (260 : Int32)))), (3, .int (0 : Int32)), (0, .ref 0), (1, .int a1), (2, .int a2)]) X (dk dt_M_comesTo_0 9 rfl) (by decide) rfl ?_
  refine go_sub [3, 5, 2, 1, 0] rfl ?_
  exact lkL_M_comesTo_16 hi xc nx X rt  FU  h
set_option maxRecDepth 20000 in
theorem ct_M_comesTo (hi : zInj wM v) (xc : XC wM v) (nx : NXM v)  {a1 : Int32} {a2 : Int32} {σ : Hp}  {q : (Int32 × Hp)} (h : F_M_comesTo  a1 a2 σ = some q) : Ct wM v l yX12_comesTo cX12_comesTo 8 (some .int) 4 [.ref 0, .int a1, .int a2] σ (some (.int q.1)) q.2 :=
  Ct.intro false (by decide) hi xc (Nat.le_of_ble_eq_true rfl) rfl (fun p e R s m args below meth c Q X rt => lkF_M_comesTo hi xc nx X rt  h)
end
def T_M_byLaw_0 : DT := [(0, .iconst 0, 1), (1, .istore_n 3, 1), (2, .iload_n 3, 1), (3, .aload_n 0, 1), (4, .getfield 248, 3), (7, .if_icmp .ge 82, 3), (10, .aload_n 0, 1), (11, .getfield 50, 3), (14, .iload_n 3, 1), (15, .iaload, 1), (16, .iload_n 1, 1), (17, .if_icmp .ne 66, 3), (20, .aload_n 0, 1), (21, .aload_n 0, 1), (22, .getfield 56, 3), (25, .iload_n 3, 1)]
theorem dt_M_byLaw_0 : dOk cX12_byLaw T_M_byLaw_0 := by unfold dOk; decide +kernel
def T_M_byLaw_1 : DT := [(26, .iaload, 1), (27, .aload_n 0, 1), (28, .getfield 59, 3), (31, .iload_n 3, 1), (32, .iaload, 1), (33, .invokevirtual 255, 3), (36, .iconst 1, 1), (37, .if_icmp .eq 6, 3), (40, .goto 43, 3), (43, .aload_n 0, 1), (44, .aload_n 0, 1), (45, .getfield 53, 3), (48, .iload_n 3, 1), (49, .iaload, 1), (50, .aload_n 0, 1), (51, .getfield 56, 3)]
theorem dt_M_byLaw_1 : dOk cX12_byLaw T_M_byLaw_1 := by unfold dOk; decide +kernel
def T_M_byLaw_2 : DT := [(54, .iload_n 3, 1), (55, .iaload, 1), (56, .invokevirtual 255, 3), (59, .istore 4, 2), (61, .iload 4, 2), (63, .ifCond .ge 7, 3), (66, .iconst 0, 1), (67, .goto 15, 3), (70, .iload 4, 2), (72, .iload_n 2, 1), (73, .if_icmp .le 7, 3), (76, .iload_n 2, 1), (77, .goto 5, 3), (80, .iload 4, 2), (82, .ireturn, 1), (83, .iinc 3 1, 3)]
theorem dt_M_byLaw_2 : dOk cX12_byLaw T_M_byLaw_2 := by unfold dOk; decide +kernel
def T_M_byLaw_3 : DT := [(86, .goto (-84), 3), (89, .iconst 0, 1), (90, .ireturn, 1)]
theorem dt_M_byLaw_3 : dOk cX12_byLaw T_M_byLaw_3 := by unfold dOk; decide +kernel
section
variable {v : ZV} {l : Launch} {p : Program} {e : Env} {R : Room} {s : State} {m : MethodId} {args : Array Value} {below : List Frame} {meth : Method} {c : Code} {Q : State → Prop} {res : (Int32 × Hp)} 
set_option maxRecDepth 20000 in
theorem lkB_M_byLaw_2 (hi : zInj wM v) (xc : XC wM v) (nx : NXM v) (X : Cx wM v p R s m args c 0 0 cX12_byLaw 5 RX12 6) (rt : Rt wM v p l e R s m args below meth c 0 0 Q cX12_byLaw false (some (.int res.1)) res.2) {k2 : Int32 → Int32 → Int32 → Hp → Option (Int32 × Hp)} {k43 : Int32 → Int32 → Hp → Option (Int32 × Hp)} {x1 : Int32} {x2 : Int32} {x3 : Int32} {σ : Hp}  (hk2 : ∀ (x1 : Int32) (x2 : Int32) (x3 : Int32) (σ : Hp),  k2 x1 x2 x3 σ = some res → Go wM v p l e R s m args below meth c 0 0 Q 5 2 [(0, .ref 0), (1, .int x1), (2, .int x2), (3, .int x3)] [] σ) (hk43 : ∀ (x2 : Int32) (x3 : Int32) (σ : Hp),  k43 x2 x3 σ = some res → Go wM v p l e R s m args below meth c 0 0 Q 5 43 [(0, .ref 0), (2, .int x2), (3, .int x3)] [] σ) (h : B_M_byLaw_2  k2 k43 x1 x2 x3 σ = some res) : Go wM v p l e R s m args below meth c 0 0 Q 5 2 [(0, .ref 0), (1, .int x1), (2, .int x2), (3, .int x3)] [] σ := by
  unfold B_M_byLaw_2 at h
  refine go_iload_n X 3 (dk dt_M_byLaw_0 2 rfl) rfl rfl ?_
  refine go_aload_n X 0 (dk dt_M_byLaw_0 3 rfl) rfl rfl ?_
  refine go_geti X fo_X12_248 lM_0 sM_0 fM_0_15 (dk dt_M_byLaw_0 4 rfl) ?_
  refine go_icmp_ge (tgt := 89) X (dk dt_M_byLaw_0 5 rfl) (by decide) h (fun h => ?_) (fun h => ?_)
  · refine go_iconst X (dk dt_M_byLaw_3 1 rfl) ci_0 ?_
    exact go_iret rt (dk dt_M_byLaw_3 2 rfl) h (fun hh => nomatch hh)
  · refine go_aload_n X 0 (dk dt_M_byLaw_0 6 rfl) rfl rfl ?_
    refine go_getr X fo_X12_50 lM_0 sM_0 fM_0_23 (dk dt_M_byLaw_0 7 rfl) ?_
    refine go_iload_n X 3 (dk dt_M_byLaw_0 8 rfl) rfl rfl ?_
    refine go_iald X lM_14 sM_14 (dk dt_M_byLaw_0 9 rfl) h (fun h => ?_)
    refine go_iload_n X 1 (dk dt_M_byLaw_0 10 rfl) rfl rfl ?_
    refine go_icmp_ne (tgt := 83) X (dk dt_M_byLaw_0 11 rfl) (by decide) h (fun h => ?_) (fun h => ?_)
    · refine go_iinc (lv' := [(3, .int (x3 + (1 : Int32))), (0, .ref 0), (1, .int x1), (2, .int x2)]) X 3 (dk dt_M_byLaw_2 15 rfl) rfl ci_1 (by decide) rfl ?_
      refine go_goto (tgt := 2) X (dk dt_M_byLaw_3 0 rfl) (by decide) ?_
      refine go_sub [1, 2, 3, 0] rfl ?_
      exact hk2 _ _ _ _  h
    · refine go_aload_n X 0 (dk dt_M_byLaw_0 12 rfl) rfl rfl ?_
      refine go_aload_n X 0 (dk dt_M_byLaw_0 13 rfl) rfl rfl ?_
      refine go_getr X fo_X12_56 lM_0 sM_0 fM_0_25 (dk dt_M_byLaw_0 14 rfl) ?_
      refine go_iload_n X 3 (dk dt_M_byLaw_0 15 rfl) rfl rfl ?_
      refine go_iald X lM_16 sM_16 (dk dt_M_byLaw_1 0 rfl) h (fun h => ?_)
      refine go_aload_n X 0 (dk dt_M_byLaw_1 1 rfl) rfl rfl ?_
      refine go_getr X fo_X12_59 lM_0 sM_0 fM_0_26 (dk dt_M_byLaw_1 2 rfl) ?_
      refine go_iload_n X 3 (dk dt_M_byLaw_1 3 rfl) rfl rfl ?_
      refine go_iald X lM_17 sM_17 (dk dt_M_byLaw_1 4 rfl) h (fun h => ?_)
      refine go_Vi (As := [.int (σ 16 (Int32.toNatClampNeg x3)), .int (σ 17 (Int32.toNatClampNeg x3))]) (rest := []) X vo_X12_255 (fun q hq => ct_M_comesTo hi xc nx  hq) (by decide) rfl lM_0 sM_0 rfl rfl (Nat.le_of_ble_eq_true rfl) (dk dt_M_byLaw_1 5 rfl) h (fun q33 h => ?_)
      refine go_iconst X (dk dt_M_byLaw_1 6 rfl) ci_1 ?_
      refine go_icmp_eq (tgt := 43) X (dk dt_M_byLaw_1 7 rfl) (by decide) h (fun h => ?_) (fun h => ?_)
      · refine go_sub [0, 2, 3] rfl ?_
        exact hk43 _ _ _  h
      · refine go_goto (tgt := 83) X (dk dt_M_byLaw_1 8 rfl) (by decide) ?_
        refine go_iinc (lv' := [(3, .int (x3 + (1 : Int32))), (0, .ref 0), (1, .int x1), (2, .int x2)]) X 3 (dk dt_M_byLaw_2 15 rfl) rfl ci_1 (by decide) rfl ?_
        refine go_goto (tgt := 2) X (dk dt_M_byLaw_3 0 rfl) (by decide) ?_
        refine go_sub [1, 2, 3, 0] rfl ?_
        exact hk2 _ _ _ _  h
set_option maxRecDepth 20000 in
theorem lkL_M_byLaw_2 (hi : zInj wM v) (xc : XC wM v) (nx : NXM v) (X : Cx wM v p R s m args c 0 0 cX12_byLaw 5 RX12 6) (rt : Rt wM v p l e R s m args below meth c 0 0 Q cX12_byLaw false (some (.int res.1)) res.2) {k43 : Int32 → Int32 → Hp → Option (Int32 × Hp)} (hk43 : ∀ (x2 : Int32) (x3 : Int32) (σ : Hp),  k43 x2 x3 σ = some res → Go wM v p l e R s m args below meth c 0 0 Q 5 43 [(0, .ref 0), (2, .int x2), (3, .int x3)] [] σ) (n : Nat) : ∀ {x1 : Int32} {x2 : Int32} {x3 : Int32} {σ : Hp},  L_M_byLaw_2  k43 n x1 x2 x3 σ = some res → Go wM v p l e R s m args below meth c 0 0 Q 5 2 [(0, .ref 0), (1, .int x1), (2, .int x2), (3, .int x3)] [] σ := by
  induction n with
  | zero => intro x1 x2 x3 σ  h; cases h
  | succ n ih =>
    intro x1 x2 x3 σ  h
    exact lkB_M_byLaw_2 hi xc nx X rt  (fun _ _ _ _  hh => ih  hh) hk43 h
set_option maxRecDepth 20000 in
theorem lkJ_M_byLaw_43 (hi : zInj wM v) (xc : XC wM v) (nx : NXM v) (X : Cx wM v p R s m args c 0 0 cX12_byLaw 5 RX12 6) (rt : Rt wM v p l e R s m args below meth c 0 0 Q cX12_byLaw false (some (.int res.1)) res.2)  {x2 : Int32} {x3 : Int32} {σ : Hp}   (h : J_M_byLaw_43   x2 x3 σ = some res) : Go wM v p l e R s m args below meth c 0 0 Q 5 43 [(0, .ref 0), (2, .int x2), (3, .int x3)] [] σ := by
  unfold J_M_byLaw_43 at h
  refine go_aload_n X 0 (dk dt_M_byLaw_1 9 rfl) rfl rfl ?_
  refine go_aload_n X 0 (dk dt_M_byLaw_1 10 rfl) rfl rfl ?_
  refine go_getr X fo_X12_53 lM_0 sM_0 fM_0_24 (dk dt_M_byLaw_1 11 rfl) ?_
  refine go_iload_n X 2 (dk dt_M_byLaw_1 12 rfl) rfl rfl ?_
  refine go_iald X lM_15 sM_15 (dk dt_M_byLaw_1 13 rfl) h (fun h => ?_)
  refine go_aload_n X 0 (dk dt_M_byLaw_1 14 rfl) rfl rfl ?_
  refine go_getr X fo_X12_56 lM_0 sM_0 fM_0_25 (dk dt_M_byLaw_1 15 rfl) ?_
  refine go_iload_n X 2 (dk dt_M_byLaw_2 0 rfl) rfl rfl ?_
  refine go_iald X lM_16 sM_16 (dk dt_M_byLaw_2 1 rfl) h (fun h => ?_)
  refine go_Vi (As := [.int (σ 15 (Int32.toNatClampNeg x3)), .int (σ 16 (Int32.toNatClampNeg x3))]) (rest := []) X vo_X12_255 (fun q hq => ct_M_comesTo hi xc nx  hq) (by decide) rfl lM_0 sM_0 rfl rfl (Nat.le_of_ble_eq_true rfl) (dk dt_M_byLaw_2 2 rfl) h (fun q56 h => ?_)
  refine go_istore (lv' := [(4, .int q56.1), (0, .ref 0), (2, .int x2), (3, .int x3)]) X (dk dt_M_byLaw_2 3 rfl) (by decide) rfl ?_
  refine go_iload X 0 (dk dt_M_byLaw_2 4 rfl) rfl ?_
  refine go_if_ge (tgt := 70) X (dk dt_M_byLaw_2 5 rfl) (by decide) h (fun h => ?_) (fun h => ?_)
  · refine go_iload X 0 (dk dt_M_byLaw_2 8 rfl) rfl ?_
    refine go_iload_n X 2 (dk dt_M_byLaw_2 9 rfl) rfl rfl ?_
    refine go_icmp_le (tgt := 80) X (dk dt_M_byLaw_2 10 rfl) (by decide) h (fun h => ?_) (fun h => ?_)
    · refine go_iload X 0 (dk dt_M_byLaw_2 13 rfl) rfl ?_
      exact go_iret rt (dk dt_M_byLaw_2 14 rfl) h (fun hh => nomatch hh)
    · refine go_iload_n X 2 (dk dt_M_byLaw_2 11 rfl) rfl rfl ?_
      refine go_goto (tgt := 82) X (dk dt_M_byLaw_2 12 rfl) (by decide) ?_
      exact go_iret rt (dk dt_M_byLaw_2 14 rfl) h (fun hh => nomatch hh)
  · refine go_iconst X (dk dt_M_byLaw_2 6 rfl) ci_0 ?_
    refine go_goto (tgt := 82) X (dk dt_M_byLaw_2 7 rfl) (by decide) ?_
    exact go_iret rt (dk dt_M_byLaw_2 14 rfl) h (fun hh => nomatch hh)
set_option maxRecDepth 20000 in
theorem lkF_M_byLaw (hi : zInj wM v) (xc : XC wM v) (nx : NXM v) (X : Cx wM v p R s m args c 0 0 cX12_byLaw 5 RX12 6) (rt : Rt wM v p l e R s m args below meth c 0 0 Q cX12_byLaw false (some (.int res.1)) res.2) {a1 : Int32} {a2 : Int32} {σ : Hp}  (h : F_M_byLaw  a1 a2 σ = some res) : Go wM v p l e R s m args below meth c 0 0 Q 5 0 [(0, .ref 0), (1, .int a1), (2, .int a2)] [] σ := by
  unfold F_M_byLaw at h
  refine go_iconst X (dk dt_M_byLaw_0 0 rfl) ci_0 ?_
  refine go_istore_n (lv' := [(3, .int (0 : Int32)), (0, .ref 0), (1, .int a1), (2, .int a2)]) X (dk dt_M_byLaw_0 1 rfl) rfl (by decide) rfl ?_
  refine go_sub [1, 2, 3, 0] rfl ?_
  exact lkL_M_byLaw_2 hi xc nx X rt (fun _ _ _  hh => lkJ_M_byLaw_43 hi xc nx X rt   hh) FU  h
set_option maxRecDepth 20000 in
theorem ct_M_byLaw (hi : zInj wM v) (xc : XC wM v) (nx : NXM v)  {a1 : Int32} {a2 : Int32} {σ : Hp}  {q : (Int32 × Hp)} (h : F_M_byLaw  a1 a2 σ = some q) : Ct wM v l yX12_byLaw cX12_byLaw 5 (some .int) 6 [.ref 0, .int a1, .int a2] σ (some (.int q.1)) q.2 :=
  Ct.intro false (by decide) hi xc (Nat.le_of_ble_eq_true rfl) rfl (fun p e R s m args below meth c Q X rt => lkF_M_byLaw hi xc nx X rt  h)
end
def T_M_isChair_0 : DT := [(0, .iload_n 0, 1), (1, .iconst 0, 1), (2, .iconst 1, 1), (3, .invokestatic 122, 3), (6, .ifCond .eq 17, 3), (9, .iload_n 1, 1), (10, .iconst 0, 1), (11, .bipush 7, 2), (13, .invokestatic 122, 3), (16, .ifCond .eq 7, 3), (19, .iconst 1, 1), (20, .goto 4, 3), (23, .iconst 0, 1), (24, .ireturn, 1)]
theorem dt_M_isChair_0 : dOk cX12_isChair T_M_isChair_0 := by unfold dOk; decide +kernel
section
variable {v : ZV} {l : Launch} {p : Program} {e : Env} {R : Room} {s : State} {m : MethodId} {args : Array Value} {below : List Frame} {meth : Method} {c : Code} {Q : State → Prop} {res : (Int32 × Hp)} 
set_option maxRecDepth 20000 in
theorem lkF_M_isChair (hi : zInj wM v) (xc : XC wM v) (nx : NXM v) (X : Cx wM v p R s m args c 0 0 cX12_isChair 2 RX12 4) (rt : Rt wM v p l e R s m args below meth c 0 0 Q cX12_isChair true (some (.int res.1)) res.2) {a0 : Int32} {a1 : Int32} {σ : Hp}  (h : F_M_isChair  a0 a1 σ = some res) : Go wM v p l e R s m args below meth c 0 0 Q 2 0 [(0, .int a0), (1, .int a1)] [] σ := by
  unfold F_M_isChair at h
  refine go_iload_n X 0 (dk dt_M_isChair_0 0 rfl) rfl rfl ?_
  refine go_iconst X (dk dt_M_isChair_0 1 rfl) ci_0 ?_
  refine go_iconst X (dk dt_M_isChair_0 2 rfl) ci_1 ?_
  refine go_Si (As := [.int a0, .int (0 : Int32), .int (1 : Int32)]) (rest := []) X so_X12_122 (fun q hq => ct_M_in hi xc nx  hq) (by decide) rfl rfl (Nat.le_of_ble_eq_true rfl) (dk dt_M_isChair_0 3 rfl) h (fun q3 h => ?_)
  refine go_if_eq (tgt := 23) X (dk dt_M_isChair_0 4 rfl) (by decide) h (fun h => ?_) (fun h => ?_)
  · refine go_iconst X (dk dt_M_isChair_0 12 rfl) ci_0 ?_
    exact go_iret rt (dk dt_M_isChair_0 13 rfl) h (by decide)
  · refine go_iload_n X 1 (dk dt_M_isChair_0 5 rfl) rfl rfl ?_
    refine go_iconst X (dk dt_M_isChair_0 6 rfl) ci_0 ?_
    refine go_bipush X (dk dt_M_isChair_0 7 rfl) cb_7 ?_
    refine go_Si (As := [.int a1, .int (0 : Int32), .int (7 : Int32)]) (rest := []) X so_X12_122 (fun q hq => ct_M_in hi xc nx  hq) (by decide) rfl rfl (Nat.le_of_ble_eq_true rfl) (dk dt_M_isChair_0 8 rfl) h (fun q13 h => ?_)
    refine go_if_eq (tgt := 23) X (dk dt_M_isChair_0 9 rfl) (by decide) h (fun h => ?_) (fun h => ?_)
    · refine go_iconst X (dk dt_M_isChair_0 12 rfl) ci_0 ?_
      exact go_iret rt (dk dt_M_isChair_0 13 rfl) h (by decide)
    · refine go_iconst X (dk dt_M_isChair_0 10 rfl) ci_1 ?_
      refine go_goto (tgt := 24) X (dk dt_M_isChair_0 11 rfl) (by decide) ?_
      exact go_iret rt (dk dt_M_isChair_0 13 rfl) h (by decide)
set_option maxRecDepth 20000 in
theorem ct_M_isChair (hi : zInj wM v) (xc : XC wM v) (nx : NXM v)  {a0 : Int32} {a1 : Int32} {σ : Hp}  {q : (Int32 × Hp)} (h : F_M_isChair  a0 a1 σ = some q) : Ct wM v l yX12_isChair cX12_isChair 2 (some .boolean) 4 [.int a0, .int a1] σ (some (.int q.1)) q.2 :=
  Ct.intro true (by decide) hi xc (Nat.le_of_ble_eq_true rfl) rfl (fun p e R s m args below meth c Q X rt => lkF_M_isChair hi xc nx X rt  h)
end
def T_M_isThere_0 : DT := [(0, .iload_n 1, 1), (1, .iload_n 2, 1), (2, .invokestatic 126, 3), (5, .ifCond .eq 24, 3), (8, .aload_n 0, 1), (9, .getfield 7, 3), (12, .iconst 0, 1), (13, .bipush 8, 2), (15, .iload_n 1, 1), (16, .imul, 1), (17, .iadd, 1), (18, .iload_n 2, 1), (19, .iadd, 1), (20, .iaload, 1), (21, .iconst 1, 1), (22, .if_icmp .ne 7, 3)]
theorem dt_M_isThere_0 : dOk cX12_isThere T_M_isThere_0 := by unfold dOk; decide +kernel
def T_M_isThere_1 : DT := [(25, .iconst 1, 1), (26, .goto 4, 3), (29, .iconst 0, 1), (30, .ireturn, 1)]
theorem dt_M_isThere_1 : dOk cX12_isThere T_M_isThere_1 := by unfold dOk; decide +kernel
section
variable {v : ZV} {l : Launch} {p : Program} {e : Env} {R : Room} {s : State} {m : MethodId} {args : Array Value} {below : List Frame} {meth : Method} {c : Code} {Q : State → Prop} {res : (Int32 × Hp)} 
set_option maxRecDepth 20000 in
theorem lkF_M_isThere (hi : zInj wM v) (xc : XC wM v) (nx : NXM v) (X : Cx wM v p R s m args c 0 0 cX12_isThere 3 RX12 6) (rt : Rt wM v p l e R s m args below meth c 0 0 Q cX12_isThere true (some (.int res.1)) res.2) {a1 : Int32} {a2 : Int32} {σ : Hp}  (h : F_M_isThere  a1 a2 σ = some res) : Go wM v p l e R s m args below meth c 0 0 Q 3 0 [(0, .ref 0), (1, .int a1), (2, .int a2)] [] σ := by
  unfold F_M_isThere at h
  refine go_iload_n X 1 (dk dt_M_isThere_0 0 rfl) rfl rfl ?_
  refine go_iload_n X 2 (dk dt_M_isThere_0 1 rfl) rfl rfl ?_
  refine go_Si (As := [.int a1, .int a2]) (rest := []) X so_X12_126 (fun q hq => ct_M_isChair hi xc nx  hq) (by decide) rfl rfl (Nat.le_of_ble_eq_true rfl) (dk dt_M_isThere_0 2 rfl) h (fun q2 h => ?_)
  refine go_if_eq (tgt := 29) X (dk dt_M_isThere_0 3 rfl) (by decide) h (fun h => ?_) (fun h => ?_)
  · refine go_iconst X (dk dt_M_isThere_1 2 rfl) ci_0 ?_
    exact go_iret rt (dk dt_M_isThere_1 3 rfl) h (by decide)
  · refine go_aload_n X 0 (dk dt_M_isThere_0 4 rfl) rfl rfl ?_
    refine go_getr X fo_X12_7 lM_0 sM_0 fM_0_0 (dk dt_M_isThere_0 5 rfl) ?_
    refine go_iconst X (dk dt_M_isThere_0 6 rfl) ci_0 ?_
    refine go_bipush X (dk dt_M_isThere_0 7 rfl) cb_8 ?_
    refine go_iload_n X 1 (dk dt_M_isThere_0 8 rfl) rfl rfl ?_
    refine go_imul X (dk dt_M_isThere_0 9 rfl) ?_
    refine go_iadd X (dk dt_M_isThere_0 10 rfl) ?_
    refine go_iload_n X 2 (dk dt_M_isThere_0 11 rfl) rfl rfl ?_
    refine go_iadd X (dk dt_M_isThere_0 12 rfl) ?_
    refine go_iald X lM_1 sM_1 (dk dt_M_isThere_0 13 rfl) h (fun h => ?_)
    refine go_iconst X (dk dt_M_isThere_0 14 rfl) ci_1 ?_
    refine go_icmp_ne (tgt := 29) X (dk dt_M_isThere_0 15 rfl) (by decide) h (fun h => ?_) (fun h => ?_)
    · refine go_iconst X (dk dt_M_isThere_1 2 rfl) ci_0 ?_
      exact go_iret rt (dk dt_M_isThere_1 3 rfl) h (by decide)
    · refine go_iconst X (dk dt_M_isThere_1 0 rfl) ci_1 ?_
      refine go_goto (tgt := 30) X (dk dt_M_isThere_1 1 rfl) (by decide) ?_
      exact go_iret rt (dk dt_M_isThere_1 3 rfl) h (by decide)
set_option maxRecDepth 20000 in
theorem ct_M_isThere (hi : zInj wM v) (xc : XC wM v) (nx : NXM v)  {a1 : Int32} {a2 : Int32} {σ : Hp}  {q : (Int32 × Hp)} (h : F_M_isThere  a1 a2 σ = some q) : Ct wM v l yX12_isThere cX12_isThere 3 (some .boolean) 6 [.ref 0, .int a1, .int a2] σ (some (.int q.1)) q.2 :=
  Ct.intro true (by decide) hi xc (Nat.le_of_ble_eq_true rfl) rfl (fun p e R s m args below meth c Q X rt => lkF_M_isThere hi xc nx X rt  h)
end
def T_M_eyeOf_0 : DT := [(0, .aload_n 0, 1), (1, .getfield 19, 3), (4, .iload_n 1, 1), (5, .bipush 8, 2), (7, .idiv, 1), (8, .iaload, 1), (9, .iconst 5, 1), (10, .aload_n 0, 1), (11, .getfield 7, 3), (14, .bipush 64, 2), (16, .iload_n 1, 1), (17, .iadd, 1), (18, .iaload, 1), (19, .imul, 1), (20, .iadd, 1), (21, .ireturn, 1)]
theorem dt_M_eyeOf_0 : dOk cX12_eyeOf T_M_eyeOf_0 := by unfold dOk; decide +kernel
section
variable {v : ZV} {l : Launch} {p : Program} {e : Env} {R : Room} {s : State} {m : MethodId} {args : Array Value} {below : List Frame} {meth : Method} {c : Code} {Q : State → Prop} {res : (Int32 × Hp)} 
set_option maxRecDepth 20000 in
theorem lkF_M_eyeOf (hi : zInj wM v) (xc : XC wM v) (nx : NXM v) (X : Cx wM v p R s m args c 0 0 cX12_eyeOf 2 RX12 2) (rt : Rt wM v p l e R s m args below meth c 0 0 Q cX12_eyeOf false (some (.int res.1)) res.2) {a1 : Int32} {σ : Hp}  (h : F_M_eyeOf  a1 σ = some res) : Go wM v p l e R s m args below meth c 0 0 Q 2 0 [(0, .ref 0), (1, .int a1)] [] σ := by
  unfold F_M_eyeOf at h
  refine go_aload_n X 0 (dk dt_M_eyeOf_0 0 rfl) rfl rfl ?_
  refine go_getr X fo_X12_19 lM_0 sM_0 fM_0_3 (dk dt_M_eyeOf_0 1 rfl) ?_
  refine go_iload_n X 1 (dk dt_M_eyeOf_0 2 rfl) rfl rfl ?_
  refine go_bipush X (dk dt_M_eyeOf_0 3 rfl) cb_8 ?_
  refine go_idivL X (dk dt_M_eyeOf_0 4 rfl) (by decide) ?_
  refine go_iald X lM_4 sM_4 (dk dt_M_eyeOf_0 5 rfl) h (fun h => ?_)
  refine go_iconst X (dk dt_M_eyeOf_0 6 rfl) ci_5 ?_
  refine go_aload_n X 0 (dk dt_M_eyeOf_0 7 rfl) rfl rfl ?_
  refine go_getr X fo_X12_7 lM_0 sM_0 fM_0_0 (dk dt_M_eyeOf_0 8 rfl) ?_
  refine go_bipush X (dk dt_M_eyeOf_0 9 rfl) cb_64 ?_
  refine go_iload_n X 1 (dk dt_M_eyeOf_0 10 rfl) rfl rfl ?_
  refine go_iadd X (dk dt_M_eyeOf_0 11 rfl) ?_
  refine go_iald X lM_1 sM_1 (dk dt_M_eyeOf_0 12 rfl) h (fun h => ?_)
  refine go_imul X (dk dt_M_eyeOf_0 13 rfl) ?_
  refine go_iadd X (dk dt_M_eyeOf_0 14 rfl) ?_
  exact go_iret rt (dk dt_M_eyeOf_0 15 rfl) h (fun hh => nomatch hh)
set_option maxRecDepth 20000 in
theorem ct_M_eyeOf (hi : zInj wM v) (xc : XC wM v) (nx : NXM v)  {a1 : Int32} {σ : Hp}  {q : (Int32 × Hp)} (h : F_M_eyeOf  a1 σ = some q) : Ct wM v l yX12_eyeOf cX12_eyeOf 2 (some .int) 2 [.ref 0, .int a1] σ (some (.int q.1)) q.2 :=
  Ct.intro false (by decide) hi xc (Nat.le_of_ble_eq_true rfl) rfl (fun p e R s m args below meth c Q X rt => lkF_M_eyeOf hi xc nx X rt  h)
end
def T_M_seesOver_0 : DT := [(0, .iconst 0, 1), (1, .istore 4, 2), (3, .iload 4, 2), (5, .bipush 24, 2), (7, .if_icmp .ge 47, 3), (10, .iload 4, 2), (12, .iload_n 3, 1), (13, .if_icmp .ne 6, 3), (16, .goto 32, 3), (19, .bipush 25, 2), (21, .aload_n 0, 1), (22, .getfield 22, 3), (25, .iload 4, 2), (27, .iaload, 1), (28, .imul, 1), (29, .iload_n 1, 1)]
theorem dt_M_seesOver_0 : dOk cX12_seesOver T_M_seesOver_0 := by unfold dOk; decide +kernel
def T_M_seesOver_1 : DT := [(30, .bipush 24, 2), (32, .iload 4, 2), (34, .isub, 1), (35, .imul, 1), (36, .iload_n 2, 1), (37, .iload 4, 2), (39, .iconst 1, 1), (40, .iadd, 1), (41, .imul, 1), (42, .iadd, 1), (43, .if_icmp .lt 5, 3), (46, .iconst 0, 1), (47, .ireturn, 1), (48, .iinc 4 1, 3), (51, .goto (-48), 3), (54, .iconst 1, 1)]
theorem dt_M_seesOver_1 : dOk cX12_seesOver T_M_seesOver_1 := by unfold dOk; decide +kernel
def T_M_seesOver_2 : DT := [(55, .ireturn, 1)]
theorem dt_M_seesOver_2 : dOk cX12_seesOver T_M_seesOver_2 := by unfold dOk; decide +kernel
section
variable {v : ZV} {l : Launch} {p : Program} {e : Env} {R : Room} {s : State} {m : MethodId} {args : Array Value} {below : List Frame} {meth : Method} {c : Code} {Q : State → Prop} {res : (Int32 × Hp)} 
set_option maxRecDepth 20000 in
theorem lkB_M_seesOver_3 (hi : zInj wM v) (xc : XC wM v) (nx : NXM v) (X : Cx wM v p R s m args c 0 0 cX12_seesOver 5 RX12 2) (rt : Rt wM v p l e R s m args below meth c 0 0 Q cX12_seesOver true (some (.int res.1)) res.2) {k3 : Int32 → Int32 → Int32 → Int32 → Hp → Option (Int32 × Hp)} {x1 : Int32} {x2 : Int32} {x3 : Int32} {x4 : Int32} {σ : Hp}  (hk3 : ∀ (x1 : Int32) (x2 : Int32) (x3 : Int32) (x4 : Int32) (σ : Hp),  k3 x1 x2 x3 x4 σ = some res → Go wM v p l e R s m args below meth c 0 0 Q 5 3 [(0, .ref 0), (1, .int x1), (2, .int x2), (3, .int x3), (4, .int x4)] [] σ) (h : B_M_seesOver_3  k3 x1 x2 x3 x4 σ = some res) : Go wM v p l e R s m args below meth c 0 0 Q 5 3 [(0, .ref 0), (1, .int x1), (2, .int x2), (3, .int x3), (4, .int x4)] [] σ := by
  unfold B_M_seesOver_3 at h
  refine go_iload X 4 (dk dt_M_seesOver_0 2 rfl) rfl ?_
  refine go_bipush X (dk dt_M_seesOver_0 3 rfl) cb_24 ?_
  refine go_icmp_ge (tgt := 54) X (dk dt_M_seesOver_0 4 rfl) (by decide) h (fun h => ?_) (fun h => ?_)
  · refine go_iconst X (dk dt_M_seesOver_1 15 rfl) ci_1 ?_
    exact go_iret rt (dk dt_M_seesOver_2 0 rfl) h (by decide)
  · refine go_iload X 4 (dk dt_M_seesOver_0 5 rfl) rfl ?_
    refine go_iload_n X 3 (dk dt_M_seesOver_0 6 rfl) rfl rfl ?_
    refine go_icmp_ne (tgt := 19) X (dk dt_M_seesOver_0 7 rfl) (by decide) h (fun h => ?_) (fun h => ?_)
    · refine go_bipush X (dk dt_M_seesOver_0 9 rfl) cb_25 ?_
      refine go_aload_n X 0 (dk dt_M_seesOver_0 10 rfl) rfl rfl ?_
      refine go_getr X fo_X12_22 lM_0 sM_0 fM_0_4 (dk dt_M_seesOver_0 11 rfl) ?_
      refine go_iload X 4 (dk dt_M_seesOver_0 12 rfl) rfl ?_
      refine go_iald X lM_5 sM_5 (dk dt_M_seesOver_0 13 rfl) h (fun h => ?_)
      refine go_imul X (dk dt_M_seesOver_0 14 rfl) ?_
      refine go_iload_n X 1 (dk dt_M_seesOver_0 15 rfl) rfl rfl ?_
      refine go_bipush X (dk dt_M_seesOver_1 0 rfl) cb_24 ?_
      refine go_iload X 4 (dk dt_M_seesOver_1 1 rfl) rfl ?_
      refine go_isub X (dk dt_M_seesOver_1 2 rfl) ?_
      refine go_imul X (dk dt_M_seesOver_1 3 rfl) ?_
      refine go_iload_n X 2 (dk dt_M_seesOver_1 4 rfl) rfl rfl ?_
      refine go_iload X 4 (dk dt_M_seesOver_1 5 rfl) rfl ?_
      refine go_iconst X (dk dt_M_seesOver_1 6 rfl) ci_1 ?_
      refine go_iadd X (dk dt_M_seesOver_1 7 rfl) ?_
      refine go_imul X (dk dt_M_seesOver_1 8 rfl) ?_
      refine go_iadd X (dk dt_M_seesOver_1 9 rfl) ?_
      refine go_icmp_lt (tgt := 48) X (dk dt_M_seesOver_1 10 rfl) (by decide) h (fun h => ?_) (fun h => ?_)
      · refine go_iinc (lv' := [(4, .int (x4 + (1 : Int32))), (0, .ref 0), (1, .int x1), (2, .int x2), (3, .int x3)]) X 4 (dk dt_M_seesOver_1 13 rfl) rfl ci_1 (by decide) rfl ?_
        refine go_goto (tgt := 3) X (dk dt_M_seesOver_1 14 rfl) (by decide) ?_
        refine go_sub [1, 2, 3, 4, 0] rfl ?_
        exact hk3 _ _ _ _ _  h
      · refine go_iconst X (dk dt_M_seesOver_1 11 rfl) ci_0 ?_
        exact go_iret rt (dk dt_M_seesOver_1 12 rfl) h (by decide)
    · refine go_goto (tgt := 48) X (dk dt_M_seesOver_0 8 rfl) (by decide) ?_
      refine go_iinc (lv' := [(4, .int (x4 + (1 : Int32))), (0, .ref 0), (1, .int x1), (2, .int x2), (3, .int x3)]) X 4 (dk dt_M_seesOver_1 13 rfl) rfl ci_1 (by decide) rfl ?_
      refine go_goto (tgt := 3) X (dk dt_M_seesOver_1 14 rfl) (by decide) ?_
      refine go_sub [1, 2, 3, 4, 0] rfl ?_
      exact hk3 _ _ _ _ _  h
set_option maxRecDepth 20000 in
theorem lkL_M_seesOver_3 (hi : zInj wM v) (xc : XC wM v) (nx : NXM v) (X : Cx wM v p R s m args c 0 0 cX12_seesOver 5 RX12 2) (rt : Rt wM v p l e R s m args below meth c 0 0 Q cX12_seesOver true (some (.int res.1)) res.2)   (n : Nat) : ∀ {x1 : Int32} {x2 : Int32} {x3 : Int32} {x4 : Int32} {σ : Hp},  L_M_seesOver_3   n x1 x2 x3 x4 σ = some res → Go wM v p l e R s m args below meth c 0 0 Q 5 3 [(0, .ref 0), (1, .int x1), (2, .int x2), (3, .int x3), (4, .int x4)] [] σ := by
  induction n with
  | zero => intro x1 x2 x3 x4 σ  h; cases h
  | succ n ih =>
    intro x1 x2 x3 x4 σ  h
    exact lkB_M_seesOver_3 hi xc nx X rt  (fun _ _ _ _ _  hh => ih  hh) h
set_option maxRecDepth 20000 in
theorem lkF_M_seesOver (hi : zInj wM v) (xc : XC wM v) (nx : NXM v) (X : Cx wM v p R s m args c 0 0 cX12_seesOver 5 RX12 2) (rt : Rt wM v p l e R s m args below meth c 0 0 Q cX12_seesOver true (some (.int res.1)) res.2) {a1 : Int32} {a2 : Int32} {a3 : Int32} {σ : Hp}  (h : F_M_seesOver  a1 a2 a3 σ = some res) : Go wM v p l e R s m args below meth c 0 0 Q 5 0 [(0, .ref 0), (1, .int a1), (2, .int a2), (3, .int a3)] [] σ := by
  unfold F_M_seesOver at h
  refine go_iconst X (dk dt_M_seesOver_0 0 rfl) ci_0 ?_
  refine go_istore (lv' := [(4, .int (0 : Int32)), (0, .ref 0), (1, .int a1), (2, .int a2), (3, .int a3)]) X (dk dt_M_seesOver_0 1 rfl) (by decide) rfl ?_
  refine go_sub [1, 2, 3, 4, 0] rfl ?_
  exact lkL_M_seesOver_3 hi xc nx X rt  FU  h
set_option maxRecDepth 20000 in
theorem ct_M_seesOver (hi : zInj wM v) (xc : XC wM v) (nx : NXM v)  {a1 : Int32} {a2 : Int32} {a3 : Int32} {σ : Hp}  {q : (Int32 × Hp)} (h : F_M_seesOver  a1 a2 a3 σ = some q) : Ct wM v l yX12_seesOver cX12_seesOver 5 (some .boolean) 2 [.ref 0, .int a1, .int a2, .int a3] σ (some (.int q.1)) q.2 :=
  Ct.intro true (by decide) hi xc (Nat.le_of_ble_eq_true rfl) rfl (fun p e R s m args below meth c Q X rt => lkF_M_seesOver hi xc nx X rt  h)
end
def T_M_seesOne_0 : DT := [(0, .aload_n 0, 1), (1, .aload_n 0, 1), (2, .iload_n 1, 1), (3, .invokevirtual 130, 3), (6, .aload_n 0, 1), (7, .bipush 8, 2), (9, .iload_n 2, 1), (10, .iadd, 1), (11, .invokevirtual 130, 3), (14, .iconst (-1), 1), (15, .invokevirtual 134, 3), (18, .ireturn, 1)]
theorem dt_M_seesOne_0 : dOk cX12_seesOne T_M_seesOne_0 := by unfold dOk; decide +kernel
section
variable {v : ZV} {l : Launch} {p : Program} {e : Env} {R : Room} {s : State} {m : MethodId} {args : Array Value} {below : List Frame} {meth : Method} {c : Code} {Q : State → Prop} {res : (Int32 × Hp)} 
set_option maxRecDepth 20000 in
theorem lkF_M_seesOne (hi : zInj wM v) (xc : XC wM v) (nx : NXM v) (X : Cx wM v p R s m args c 0 0 cX12_seesOne 3 RX12 4) (rt : Rt wM v p l e R s m args below meth c 0 0 Q cX12_seesOne true (some (.int res.1)) res.2) {a1 : Int32} {a2 : Int32} {σ : Hp}  (h : F_M_seesOne  a1 a2 σ = some res) : Go wM v p l e R s m args below meth c 0 0 Q 3 0 [(0, .ref 0), (1, .int a1), (2, .int a2)] [] σ := by
  unfold F_M_seesOne at h
  refine go_aload_n X 0 (dk dt_M_seesOne_0 0 rfl) rfl rfl ?_
  refine go_aload_n X 0 (dk dt_M_seesOne_0 1 rfl) rfl rfl ?_
  refine go_iload_n X 1 (dk dt_M_seesOne_0 2 rfl) rfl rfl ?_
  refine go_Vi (As := [.int a1]) (rest := [.ref 0]) X vo_X12_130 (fun q hq => ct_M_eyeOf hi xc nx  hq) (by decide) rfl lM_0 sM_0 rfl rfl (Nat.le_of_ble_eq_true rfl) (dk dt_M_seesOne_0 3 rfl) h (fun q3 h => ?_)
  refine go_aload_n X 0 (dk dt_M_seesOne_0 4 rfl) rfl rfl ?_
  refine go_bipush X (dk dt_M_seesOne_0 5 rfl) cb_8 ?_
  refine go_iload_n X 2 (dk dt_M_seesOne_0 6 rfl) rfl rfl ?_
  refine go_iadd X (dk dt_M_seesOne_0 7 rfl) ?_
  refine go_Vi (As := [.int ((8 : Int32) + a2)]) (rest := [.int q3.1, .ref 0]) X vo_X12_130 (fun q hq => ct_M_eyeOf hi xc nx  hq) (by decide) rfl lM_0 sM_0 rfl rfl (Nat.le_of_ble_eq_true rfl) (dk dt_M_seesOne_0 8 rfl) h (fun q11 h => ?_)
  refine go_iconst X (dk dt_M_seesOne_0 9 rfl) ci_m1 ?_
  refine go_Vi (As := [.int q3.1, .int q11.1, .int (-1 : Int32)]) (rest := []) X vo_X12_134 (fun q hq => ct_M_seesOver hi xc nx  hq) (by decide) rfl lM_0 sM_0 rfl rfl (Nat.le_of_ble_eq_true rfl) (dk dt_M_seesOne_0 10 rfl) h (fun q15 h => ?_)
  exact go_zret rt (dk dt_M_seesOne_0 11 rfl) h
set_option maxRecDepth 20000 in
theorem ct_M_seesOne (hi : zInj wM v) (xc : XC wM v) (nx : NXM v)  {a1 : Int32} {a2 : Int32} {σ : Hp}  {q : (Int32 × Hp)} (h : F_M_seesOne  a1 a2 σ = some q) : Ct wM v l yX12_seesOne cX12_seesOne 3 (some .boolean) 4 [.ref 0, .int a1, .int a2] σ (some (.int q.1)) q.2 :=
  Ct.intro true (by decide) hi xc (Nat.le_of_ble_eq_true rfl) rfl (fun p e R s m args below meth c Q X rt => lkF_M_seesOne hi xc nx X rt  h)
end
def T_M_sitsIn_0 : DT := [(0, .aload_n 0, 1), (1, .getfield 7, 3), (4, .iconst 0, 1), (5, .iload_n 1, 1), (6, .iadd, 1), (7, .iaload, 1), (8, .iconst 1, 1), (9, .if_icmp .ne 19, 3), (12, .aload_n 0, 1), (13, .getfield 7, 3), (16, .bipush 80, 2), (18, .iload_n 1, 1), (19, .iadd, 1), (20, .iaload, 1), (21, .ifCond .ne 7, 3), (24, .iconst 1, 1)]
theorem dt_M_sitsIn_0 : dOk cX12_sitsIn T_M_sitsIn_0 := by unfold dOk; decide +kernel
def T_M_sitsIn_1 : DT := [(25, .goto 4, 3), (28, .iconst 0, 1), (29, .ireturn, 1)]
theorem dt_M_sitsIn_1 : dOk cX12_sitsIn T_M_sitsIn_1 := by unfold dOk; decide +kernel
section
variable {v : ZV} {l : Launch} {p : Program} {e : Env} {R : Room} {s : State} {m : MethodId} {args : Array Value} {below : List Frame} {meth : Method} {c : Code} {Q : State → Prop} {res : (Int32 × Hp)} 
set_option maxRecDepth 20000 in
theorem lkF_M_sitsIn (hi : zInj wM v) (xc : XC wM v) (nx : NXM v) (X : Cx wM v p R s m args c 0 0 cX12_sitsIn 2 RX12 2) (rt : Rt wM v p l e R s m args below meth c 0 0 Q cX12_sitsIn true (some (.int res.1)) res.2) {a1 : Int32} {σ : Hp}  (h : F_M_sitsIn  a1 σ = some res) : Go wM v p l e R s m args below meth c 0 0 Q 2 0 [(0, .ref 0), (1, .int a1)] [] σ := by
  unfold F_M_sitsIn at h
  refine go_aload_n X 0 (dk dt_M_sitsIn_0 0 rfl) rfl rfl ?_
  refine go_getr X fo_X12_7 lM_0 sM_0 fM_0_0 (dk dt_M_sitsIn_0 1 rfl) ?_
  refine go_iconst X (dk dt_M_sitsIn_0 2 rfl) ci_0 ?_
  refine go_iload_n X 1 (dk dt_M_sitsIn_0 3 rfl) rfl rfl ?_
  refine go_iadd X (dk dt_M_sitsIn_0 4 rfl) ?_
  refine go_iald X lM_1 sM_1 (dk dt_M_sitsIn_0 5 rfl) h (fun h => ?_)
  refine go_iconst X (dk dt_M_sitsIn_0 6 rfl) ci_1 ?_
  refine go_icmp_ne (tgt := 28) X (dk dt_M_sitsIn_0 7 rfl) (by decide) h (fun h => ?_) (fun h => ?_)
  · refine go_iconst X (dk dt_M_sitsIn_1 1 rfl) ci_0 ?_
    exact go_iret rt (dk dt_M_sitsIn_1 2 rfl) h (by decide)
  · refine go_aload_n X 0 (dk dt_M_sitsIn_0 8 rfl) rfl rfl ?_
    refine go_getr X fo_X12_7 lM_0 sM_0 fM_0_0 (dk dt_M_sitsIn_0 9 rfl) ?_
    refine go_bipush X (dk dt_M_sitsIn_0 10 rfl) cb_80 ?_
    refine go_iload_n X 1 (dk dt_M_sitsIn_0 11 rfl) rfl rfl ?_
    refine go_iadd X (dk dt_M_sitsIn_0 12 rfl) ?_
    refine go_iald X lM_1 sM_1 (dk dt_M_sitsIn_0 13 rfl) h (fun h => ?_)
    refine go_if_ne (tgt := 28) X (dk dt_M_sitsIn_0 14 rfl) (by decide) h (fun h => ?_) (fun h => ?_)
    · refine go_iconst X (dk dt_M_sitsIn_1 1 rfl) ci_0 ?_
      exact go_iret rt (dk dt_M_sitsIn_1 2 rfl) h (by decide)
    · refine go_iconst X (dk dt_M_sitsIn_0 15 rfl) ci_1 ?_
      refine go_goto (tgt := 29) X (dk dt_M_sitsIn_1 0 rfl) (by decide) ?_
      exact go_iret rt (dk dt_M_sitsIn_1 2 rfl) h (by decide)
set_option maxRecDepth 20000 in
theorem ct_M_sitsIn (hi : zInj wM v) (xc : XC wM v) (nx : NXM v)  {a1 : Int32} {σ : Hp}  {q : (Int32 × Hp)} (h : F_M_sitsIn  a1 σ = some q) : Ct wM v l yX12_sitsIn cX12_sitsIn 2 (some .boolean) 2 [.ref 0, .int a1] σ (some (.int q.1)) q.2 :=
  Ct.intro true (by decide) hi xc (Nat.le_of_ble_eq_true rfl) rfl (fun p e R s m args below meth c Q X rt => lkF_M_sitsIn hi xc nx X rt  h)
end
def T_M_capture_0 : DT := [(0, .aload_n 0, 1), (1, .getfield 7, 3), (4, .bipush 96, 2), (6, .iaload, 1), (7, .iconst 5, 1), (8, .if_icmp .ne 23, 3), (11, .aload_n 0, 1), (12, .iload_n 1, 1), (13, .iload_n 2, 1), (14, .invokevirtual 285, 3), (17, .ifCond .eq 14, 3), (20, .aload_n 0, 1), (21, .iconst 1, 1), (22, .iload_n 1, 1), (23, .isub, 1), (24, .iload_n 3, 1)]
theorem dt_M_capture_0 : dOk cX12_capture T_M_capture_0 := by unfold dOk; decide +kernel
def T_M_capture_1 : DT := [(25, .invokevirtual 285, 3), (28, .ifCond .ne 5, 3), (31, .iconst 0, 1), (32, .ireturn, 1), (33, .bipush 8, 2), (35, .iload_n 1, 1), (36, .imul, 1), (37, .iload_n 2, 1), (38, .iadd, 1), (39, .istore 4, 2), (41, .bipush 8, 2), (43, .iconst 1, 1), (44, .iload_n 1, 1), (45, .isub, 1), (46, .imul, 1), (47, .iload_n 3, 1)]
theorem dt_M_capture_1 : dOk cX12_capture T_M_capture_1 := by unfold dOk; decide +kernel
def T_M_capture_2 : DT := [(48, .iadd, 1), (49, .istore 5, 2), (51, .iload_n 1, 1), (52, .ifCond .ne 12, 3), (55, .aload_n 0, 1), (56, .iload_n 2, 1), (57, .iload_n 3, 1), (58, .invokevirtual 144, 3), (61, .goto 9, 3), (64, .aload_n 0, 1), (65, .iload_n 3, 1), (66, .iload_n 2, 1), (67, .invokevirtual 144, 3), (70, .istore 6, 2), (72, .aload_n 0, 1), (73, .iload 4, 2)]
theorem dt_M_capture_2 : dOk cX12_capture T_M_capture_2 := by unfold dOk; decide +kernel
def T_M_capture_3 : DT := [(75, .invokevirtual 359, 3), (78, .ifCond .eq 45, 3), (81, .aload_n 0, 1), (82, .iload 5, 2), (84, .invokevirtual 359, 3), (87, .ifCond .ne 36, 3), (90, .iload 6, 2), (92, .ifCond .eq 31, 3), (95, .aload_n 0, 1), (96, .getfield 7, 3), (99, .bipush 64, 2), (101, .iload 5, 2), (103, .iadd, 1), (104, .iaload, 1), (105, .ifCond .eq 18, 3), (108, .aload_n 0, 1)]
theorem dt_M_capture_3 : dOk cX12_capture T_M_capture_3 := by unfold dOk; decide +kernel
def T_M_capture_4 : DT := [(109, .getfield 7, 3), (112, .bipush 64, 2), (114, .iload 4, 2), (116, .iadd, 1), (117, .iaload, 1), (118, .bipush 9, 2), (120, .if_icmp .ne 5, 3), (123, .iconst 0, 1), (124, .ireturn, 1), (125, .aload_n 0, 1), (126, .getfield 7, 3), (129, .bipush 64, 2), (131, .iload 4, 2), (133, .iadd, 1), (134, .aload_n 0, 1), (135, .getfield 7, 3)]
theorem dt_M_capture_4 : dOk cX12_capture T_M_capture_4 := by unfold dOk; decide +kernel
def T_M_capture_5 : DT := [(138, .bipush 64, 2), (140, .iload 4, 2), (142, .iadd, 1), (143, .iaload, 1), (144, .iconst 1, 1), (145, .iadd, 1), (146, .iastore, 1), (147, .aload_n 0, 1), (148, .getfield 7, 3), (151, .bipush 64, 2), (153, .iload 5, 2), (155, .iadd, 1), (156, .aload_n 0, 1), (157, .getfield 7, 3), (160, .bipush 64, 2), (162, .iload 5, 2)]
theorem dt_M_capture_5 : dOk cX12_capture T_M_capture_5 := by unfold dOk; decide +kernel
def T_M_capture_6 : DT := [(164, .iadd, 1), (165, .iaload, 1), (166, .iconst 1, 1), (167, .isub, 1), (168, .iastore, 1), (169, .iconst 1, 1), (170, .ireturn, 1)]
theorem dt_M_capture_6 : dOk cX12_capture T_M_capture_6 := by unfold dOk; decide +kernel
section
variable {v : ZV} {l : Launch} {p : Program} {e : Env} {R : Room} {s : State} {m : MethodId} {args : Array Value} {below : List Frame} {meth : Method} {c : Code} {Q : State → Prop} {res : (Int32 × Hp)} 
set_option maxRecDepth 20000 in
theorem lkJ_M_capture_70 (hi : zInj wM v) (xc : XC wM v) (nx : NXM v) (X : Cx wM v p R s m args c 0 0 cX12_capture 7 RX12 8) (rt : Rt wM v p l e R s m args below meth c 0 0 Q cX12_capture true (some (.int res.1)) res.2)  {x4 : Int32} {x5 : Int32} {s0 : Int32} {σ : Hp}   (h : J_M_capture_70   x4 x5 s0 σ = some res) : Go wM v p l e R s m args below meth c 0 0 Q 7 70 [(0, .ref 0), (4, .int x4), (5, .int x5)] [.int s0] σ := by
  unfold J_M_capture_70 at h
  refine go_istore (lv' := [(6, .int s0), (0, .ref 0), (4, .int x4), (5, .int x5)]) X (dk dt_M_capture_2 13 rfl) (by decide) rfl ?_
  refine go_aload_n X 1 (dk dt_M_capture_2 14 rfl) rfl rfl ?_
  refine go_iload X 2 (dk dt_M_capture_2 15 rfl) rfl ?_
  refine go_Vi (As := [.int x4]) (rest := []) X vo_X12_359 (fun q hq => ct_M_sitsIn hi xc nx  hq) (by decide) rfl lM_0 sM_0 rfl rfl (Nat.le_of_ble_eq_true rfl) (dk dt_M_capture_3 0 rfl) h (fun q75 h => ?_)
  refine go_if_eq (tgt := 123) X (dk dt_M_capture_3 1 rfl) (by decide) h (fun h => ?_) (fun h => ?_)
  · refine go_iconst X (dk dt_M_capture_4 7 rfl) ci_0 ?_
    exact go_iret rt (dk dt_M_capture_4 8 rfl) h (by decide)
  · refine go_aload_n X 1 (dk dt_M_capture_3 2 rfl) rfl rfl ?_
    refine go_iload X 3 (dk dt_M_capture_3 3 rfl) rfl ?_
    refine go_Vi (As := [.int x5]) (rest := []) X vo_X12_359 (fun q hq => ct_M_sitsIn hi xc nx  hq) (by decide) rfl lM_0 sM_0 rfl rfl (Nat.le_of_ble_eq_true rfl) (dk dt_M_capture_3 4 rfl) h (fun q84 h => ?_)
    refine go_if_ne (tgt := 123) X (dk dt_M_capture_3 5 rfl) (by decide) h (fun h => ?_) (fun h => ?_)
    · refine go_iconst X (dk dt_M_capture_4 7 rfl) ci_0 ?_
      exact go_iret rt (dk dt_M_capture_4 8 rfl) h (by decide)
    · refine go_iload X 0 (dk dt_M_capture_3 6 rfl) rfl ?_
      refine go_if_eq (tgt := 123) X (dk dt_M_capture_3 7 rfl) (by decide) h (fun h => ?_) (fun h => ?_)
      · refine go_iconst X (dk dt_M_capture_4 7 rfl) ci_0 ?_
        exact go_iret rt (dk dt_M_capture_4 8 rfl) h (by decide)
      · refine go_aload_n X 1 (dk dt_M_capture_3 8 rfl) rfl rfl ?_
        refine go_getr X fo_X12_7 lM_0 sM_0 fM_0_0 (dk dt_M_capture_3 9 rfl) ?_
        refine go_bipush X (dk dt_M_capture_3 10 rfl) cb_64 ?_
        refine go_iload X 3 (dk dt_M_capture_3 11 rfl) rfl ?_
        refine go_iadd X (dk dt_M_capture_3 12 rfl) ?_
        refine go_iald X lM_1 sM_1 (dk dt_M_capture_3 13 rfl) h (fun h => ?_)
        refine go_if_eq (tgt := 123) X (dk dt_M_capture_3 14 rfl) (by decide) h (fun h => ?_) (fun h => ?_)
        · refine go_iconst X (dk dt_M_capture_4 7 rfl) ci_0 ?_
          exact go_iret rt (dk dt_M_capture_4 8 rfl) h (by decide)
        · refine go_aload_n X 1 (dk dt_M_capture_3 15 rfl) rfl rfl ?_
          refine go_getr X fo_X12_7 lM_0 sM_0 fM_0_0 (dk dt_M_capture_4 0 rfl) ?_
          refine go_bipush X (dk dt_M_capture_4 1 rfl) cb_64 ?_
          refine go_iload X 2 (dk dt_M_capture_4 2 rfl) rfl ?_
          refine go_iadd X (dk dt_M_capture_4 3 rfl) ?_
          refine go_iald X lM_1 sM_1 (dk dt_M_capture_4 4 rfl) h (fun h => ?_)
          refine go_bipush X (dk dt_M_capture_4 5 rfl) cb_9 ?_
          refine go_icmp_ne (tgt := 125) X (dk dt_M_capture_4 6 rfl) (by decide) h (fun h => ?_) (fun h => ?_)
          · refine go_aload_n X 1 (dk dt_M_capture_4 9 rfl) rfl rfl ?_
            refine go_getr X fo_X12_7 lM_0 sM_0 fM_0_0 (dk dt_M_capture_4 10 rfl) ?_
            refine go_bipush X (dk dt_M_capture_4 11 rfl) cb_64 ?_
            refine go_iload X 2 (dk dt_M_capture_4 12 rfl) rfl ?_
            refine go_iadd X (dk dt_M_capture_4 13 rfl) ?_
            refine go_aload_n X 1 (dk dt_M_capture_4 14 rfl) rfl rfl ?_
            refine go_getr X fo_X12_7 lM_0 sM_0 fM_0_0 (dk dt_M_capture_4 15 rfl) ?_
            refine go_bipush X (dk dt_M_capture_5 0 rfl) cb_64 ?_
            refine go_iload X 2 (dk dt_M_capture_5 1 rfl) rfl ?_
            refine go_iadd X (dk dt_M_capture_5 2 rfl) ?_
            refine go_iald X lM_1 sM_1 (dk dt_M_capture_5 3 rfl) h (fun h => ?_)
            refine go_iconst X (dk dt_M_capture_5 4 rfl) ci_1 ?_
            refine go_iadd X (dk dt_M_capture_5 5 rfl) ?_
            refine go_iast X lM_1 sM_1 (dk dt_M_capture_5 6 rfl) h (fun h => ?_)
            refine go_aload_n X 1 (dk dt_M_capture_5 7 rfl) rfl rfl ?_
            refine go_getr X fo_X12_7 lM_0 sM_0 fM_0_0 (dk dt_M_capture_5 8 rfl) ?_
            refine go_bipush X (dk dt_M_capture_5 9 rfl) cb_64 ?_
            refine go_iload X 3 (dk dt_M_capture_5 10 rfl) rfl ?_
            refine go_iadd X (dk dt_M_capture_5 11 rfl) ?_
            refine go_aload_n X 1 (dk dt_M_capture_5 12 rfl) rfl rfl ?_
            refine go_getr X fo_X12_7 lM_0 sM_0 fM_0_0 (dk dt_M_capture_5 13 rfl) ?_
            refine go_bipush X (dk dt_M_capture_5 14 rfl) cb_64 ?_
            refine go_iload X 3 (dk dt_M_capture_5 15 rfl) rfl ?_
            refine go_iadd X (dk dt_M_capture_6 0 rfl) ?_
            refine go_iald X lM_1 sM_1 (dk dt_M_capture_6 1 rfl) h (fun h => ?_)
            refine go_iconst X (dk dt_M_capture_6 2 rfl) ci_1 ?_
            refine go_isub X (dk dt_M_capture_6 3 rfl) ?_
            refine go_iast X lM_1 sM_1 (dk dt_M_capture_6 4 rfl) h (fun h => ?_)
            refine go_iconst X (dk dt_M_capture_6 5 rfl) ci_1 ?_
            exact go_iret rt (dk dt_M_capture_6 6 rfl) h (by decide)
          · refine go_iconst X (dk dt_M_capture_4 7 rfl) ci_0 ?_
            exact go_iret rt (dk dt_M_capture_4 8 rfl) h (by decide)
set_option maxRecDepth 20000 in
theorem lkF_M_capture (hi : zInj wM v) (xc : XC wM v) (nx : NXM v) (X : Cx wM v p R s m args c 0 0 cX12_capture 7 RX12 8) (rt : Rt wM v p l e R s m args below meth c 0 0 Q cX12_capture true (some (.int res.1)) res.2) {a1 : Int32} {a2 : Int32} {a3 : Int32} {σ : Hp}  (h : F_M_capture  a1 a2 a3 σ = some res) : Go wM v p l e R s m args below meth c 0 0 Q 7 0 [(0, .ref 0), (1, .int a1), (2, .int a2), (3, .int a3)] [] σ := by
  unfold F_M_capture at h
  refine go_aload_n X 0 (dk dt_M_capture_0 0 rfl) rfl rfl ?_
  refine go_getr X fo_X12_7 lM_0 sM_0 fM_0_0 (dk dt_M_capture_0 1 rfl) ?_
  refine go_bipush X (dk dt_M_capture_0 2 rfl) cb_96 ?_
  refine go_iald X lM_1 sM_1 (dk dt_M_capture_0 3 rfl) h (fun h => ?_)
  refine go_iconst X (dk dt_M_capture_0 4 rfl) ci_5 ?_
  refine go_icmp_ne (tgt := 31) X (dk dt_M_capture_0 5 rfl) (by decide) h (fun h => ?_) (fun h => ?_)
  · refine go_iconst X (dk dt_M_capture_1 2 rfl) ci_0 ?_
    exact go_iret rt (dk dt_M_capture_1 3 rfl) h (by decide)
  · refine go_aload_n X 0 (dk dt_M_capture_0 6 rfl) rfl rfl ?_
    refine go_iload_n X 1 (dk dt_M_capture_0 7 rfl) rfl rfl ?_
    refine go_iload_n X 2 (dk dt_M_capture_0 8 rfl) rfl rfl ?_
    refine go_Vi (As := [.int a1, .int a2]) (rest := []) X vo_X12_285 (fun q hq => ct_M_isThere hi xc nx  hq) (by decide) rfl lM_0 sM_0 rfl rfl (Nat.le_of_ble_eq_true rfl) (dk dt_M_capture_0 9 rfl) h (fun q14 h => ?_)
    refine go_if_eq (tgt := 31) X (dk dt_M_capture_0 10 rfl) (by decide) h (fun h => ?_) (fun h => ?_)
    · refine go_iconst X (dk dt_M_capture_1 2 rfl) ci_0 ?_
      exact go_iret rt (dk dt_M_capture_1 3 rfl) h (by decide)
    · refine go_aload_n X 0 (dk dt_M_capture_0 11 rfl) rfl rfl ?_
      refine go_iconst X (dk dt_M_capture_0 12 rfl) ci_1 ?_
      refine go_iload_n X 1 (dk dt_M_capture_0 13 rfl) rfl rfl ?_
      refine go_isub X (dk dt_M_capture_0 14 rfl) ?_
      refine go_iload_n X 3 (dk dt_M_capture_0 15 rfl) rfl rfl ?_
      refine go_Vi (As := [.int ((1 : Int32) - a1), .int a3]) (rest := []) X vo_X12_285 (fun q hq => ct_M_isThere hi xc nx  hq) (by decide) rfl lM_0 sM_0 rfl rfl (Nat.le_of_ble_eq_true rfl) (dk dt_M_capture_1 0 rfl) h (fun q25 h => ?_)
      refine go_if_ne (tgt := 33) X (dk dt_M_capture_1 1 rfl) (by decide) h (fun h => ?_) (fun h => ?_)
      · refine go_bipush X (dk dt_M_capture_1 4 rfl) cb_8 ?_
        refine go_iload_n X 1 (dk dt_M_capture_1 5 rfl) rfl rfl ?_
        refine go_imul X (dk dt_M_capture_1 6 rfl) ?_
        refine go_iload_n X 2 (dk dt_M_capture_1 7 rfl) rfl rfl ?_
        refine go_iadd X (dk dt_M_capture_1 8 rfl) ?_
        refine go_istore (lv' := [(4, .int (((8 : Int32) * a1) + a2)), (0, .ref 0), (1, .int a1), (2, .int a2), (3, .int a3)]) X (dk dt_M_capture_1 9 rfl) (by decide) rfl ?_
        refine go_bipush X (dk dt_M_capture_1 10 rfl) cb_8 ?_
        refine go_iconst X (dk dt_M_capture_1 11 rfl) ci_1 ?_
        refine go_iload_n X 2 (dk dt_M_capture_1 12 rfl) rfl rfl ?_
        refine go_isub X (dk dt_M_capture_1 13 rfl) ?_
        refine go_imul X (dk dt_M_capture_1 14 rfl) ?_
        refine go_iload_n X 4 (dk dt_M_capture_1 15 rfl) rfl rfl ?_
        refine go_iadd X (dk dt_M_capture_2 0 rfl) ?_
        refine go_istore (lv' := [(5, .int (((8 : Int32) * ((1 : Int32) - a1)) + a3)), (4, .int (((8 : Int32) * a1) + a2)), (0, .ref 0), (1, .int a1), (2, .int a2), (3, .int a3)]) X (dk dt_M_capture_2 1 rfl) (by decide) rfl ?_
        refine go_iload_n X 3 (dk dt_M_capture_2 2 rfl) rfl rfl ?_
        refine go_if_ne (tgt := 64) X (dk dt_M_capture_2 3 rfl) (by decide) h (fun h => ?_) (fun h => ?_)
        · refine go_aload_n X 2 (dk dt_M_capture_2 9 rfl) rfl rfl ?_
          refine go_iload_n X 5 (dk dt_M_capture_2 10 rfl) rfl rfl ?_
          refine go_iload_n X 4 (dk dt_M_capture_2 11 rfl) rfl rfl ?_
          refine go_Vi (As := [.int a3, .int a2]) (rest := []) X vo_X12_144 (fun q hq => ct_M_seesOne hi xc nx  hq) (by decide) rfl lM_0 sM_0 rfl rfl (Nat.le_of_ble_eq_true rfl) (dk dt_M_capture_2 12 rfl) h (fun q67 h => ?_)
          refine go_sub [2, 1, 0] rfl ?_
          exact lkJ_M_capture_70 hi xc nx X rt   h
        · refine go_aload_n X 2 (dk dt_M_capture_2 4 rfl) rfl rfl ?_
          refine go_iload_n X 4 (dk dt_M_capture_2 5 rfl) rfl rfl ?_
          refine go_iload_n X 5 (dk dt_M_capture_2 6 rfl) rfl rfl ?_
          refine go_Vi (As := [.int a2, .int a3]) (rest := []) X vo_X12_144 (fun q hq => ct_M_seesOne hi xc nx  hq) (by decide) rfl lM_0 sM_0 rfl rfl (Nat.le_of_ble_eq_true rfl) (dk dt_M_capture_2 7 rfl) h (fun q58 h => ?_)
          refine go_goto (tgt := 70) X (dk dt_M_capture_2 8 rfl) (by decide) ?_
          refine go_sub [2, 1, 0] rfl ?_
          exact lkJ_M_capture_70 hi xc nx X rt   h
      · refine go_iconst X (dk dt_M_capture_1 2 rfl) ci_0 ?_
        exact go_iret rt (dk dt_M_capture_1 3 rfl) h (by decide)
set_option maxRecDepth 20000 in
theorem ct_M_capture (hi : zInj wM v) (xc : XC wM v) (nx : NXM v)  {a1 : Int32} {a2 : Int32} {a3 : Int32} {σ : Hp}  {q : (Int32 × Hp)} (h : F_M_capture  a1 a2 a3 σ = some q) : Ct wM v l yX12_capture cX12_capture 7 (some .boolean) 8 [.ref 0, .int a1, .int a2, .int a3] σ (some (.int q.1)) q.2 :=
  Ct.intro true (by decide) hi xc (Nat.le_of_ble_eq_true rfl) rfl (fun p e R s m args below meth c Q X rt => lkF_M_capture hi xc nx X rt  h)
end
def T_M_chair_0 : DT := [(0, .iload_n 1, 1), (1, .iload_n 2, 1), (2, .invokestatic 126, 3), (5, .ifCond .eq 35, 3), (8, .iload_n 3, 1), (9, .iconst 0, 1), (10, .bipush 9, 2), (12, .invokestatic 122, 3), (15, .ifCond .eq 25, 3), (18, .iload 4, 2), (20, .iconst 0, 1), (21, .bipush 99, 2), (23, .invokestatic 122, 3), (26, .ifCond .eq 14, 3), (29, .iload 5, 2), (31, .iconst 0, 1)]
theorem dt_M_chair_0 : dOk cX12_chair T_M_chair_0 := by unfold dOk; decide +kernel
def T_M_chair_1 : DT := [(32, .bipush 9, 2), (34, .invokestatic 122, 3), (37, .ifCond .ne 5, 3), (40, .iconst 0, 1), (41, .ireturn, 1), (42, .bipush 8, 2), (44, .iload_n 1, 1), (45, .imul, 1), (46, .iload_n 2, 1), (47, .iadd, 1), (48, .istore 6, 2), (50, .aload_n 0, 1), (51, .getfield 7, 3), (54, .iconst 0, 1), (55, .iload 6, 2), (57, .iadd, 1)]
theorem dt_M_chair_1 : dOk cX12_chair T_M_chair_1 := by unfold dOk; decide +kernel
def T_M_chair_2 : DT := [(58, .iconst 1, 1), (59, .iastore, 1), (60, .aload_n 0, 1), (61, .getfield 7, 3), (64, .bipush 16, 2), (66, .iload 6, 2), (68, .iadd, 1), (69, .iload_n 3, 1), (70, .iastore, 1), (71, .aload_n 0, 1), (72, .getfield 7, 3), (75, .bipush 32, 2), (77, .iload 6, 2), (79, .iadd, 1), (80, .iconst 0, 1), (81, .iastore, 1)]
theorem dt_M_chair_2 : dOk cX12_chair T_M_chair_2 := by unfold dOk; decide +kernel
def T_M_chair_3 : DT := [(82, .aload_n 0, 1), (83, .getfield 7, 3), (86, .bipush 48, 2), (88, .iload 6, 2), (90, .iadd, 1), (91, .iload 4, 2), (93, .iastore, 1), (94, .aload_n 0, 1), (95, .getfield 7, 3), (98, .bipush 64, 2), (100, .iload 6, 2), (102, .iadd, 1), (103, .iload 5, 2), (105, .iastore, 1), (106, .aload_n 0, 1), (107, .getfield 7, 3)]
theorem dt_M_chair_3 : dOk cX12_chair T_M_chair_3 := by unfold dOk; decide +kernel
def T_M_chair_4 : DT := [(110, .bipush 80, 2), (112, .iload 6, 2), (114, .iadd, 1), (115, .iconst 0, 1), (116, .iastore, 1), (117, .aload_n 0, 1), (118, .getfield 7, 3), (121, .bipush 98, 2), (123, .iconst 0, 1), (124, .iastore, 1), (125, .iconst 1, 1), (126, .ireturn, 1)]
theorem dt_M_chair_4 : dOk cX12_chair T_M_chair_4 := by unfold dOk; decide +kernel
section
variable {v : ZV} {l : Launch} {p : Program} {e : Env} {R : Room} {s : State} {m : MethodId} {args : Array Value} {below : List Frame} {meth : Method} {c : Code} {Q : State → Prop} {res : (Int32 × Hp)} 
set_option maxRecDepth 20000 in
theorem lkF_M_chair (hi : zInj wM v) (xc : XC wM v) (nx : NXM v) (X : Cx wM v p R s m args c 0 0 cX12_chair 7 RX12 6) (rt : Rt wM v p l e R s m args below meth c 0 0 Q cX12_chair true (some (.int res.1)) res.2) {a1 : Int32} {a2 : Int32} {a3 : Int32} {a4 : Int32} {a5 : Int32} {σ : Hp}  (h : F_M_chair  a1 a2 a3 a4 a5 σ = some res) : Go wM v p l e R s m args below meth c 0 0 Q 7 0 [(0, .ref 0), (1, .int a1), (2, .int a2), (3, .int a3), (4, .int a4), (5, .int a5)] [] σ := by
  unfold F_M_chair at h
  refine go_iload_n X 1 (dk dt_M_chair_0 0 rfl) rfl rfl ?_
  refine go_iload_n X 2 (dk dt_M_chair_0 1 rfl) rfl rfl ?_
  refine go_Si (As := [.int a1, .int a2]) (rest := []) X so_X12_126 (fun q hq => ct_M_isChair hi xc nx  hq) (by decide) rfl rfl (Nat.le_of_ble_eq_true rfl) (dk dt_M_chair_0 2 rfl) h (fun q2 h => ?_)
  refine go_if_eq (tgt := 40) X (dk dt_M_chair_0 3 rfl) (by decide) h (fun h => ?_) (fun h => ?_)
  · refine go_iconst X (dk dt_M_chair_1 3 rfl) ci_0 ?_
    exact go_iret rt (dk dt_M_chair_1 4 rfl) h (by decide)
  · refine go_iload_n X 3 (dk dt_M_chair_0 4 rfl) rfl rfl ?_
    refine go_iconst X (dk dt_M_chair_0 5 rfl) ci_0 ?_
    refine go_bipush X (dk dt_M_chair_0 6 rfl) cb_9 ?_
    refine go_Si (As := [.int a3, .int (0 : Int32), .int (9 : Int32)]) (rest := []) X so_X12_122 (fun q hq => ct_M_in hi xc nx  hq) (by decide) rfl rfl (Nat.le_of_ble_eq_true rfl) (dk dt_M_chair_0 7 rfl) h (fun q12 h => ?_)
    refine go_if_eq (tgt := 40) X (dk dt_M_chair_0 8 rfl) (by decide) h (fun h => ?_) (fun h => ?_)
    · refine go_iconst X (dk dt_M_chair_1 3 rfl) ci_0 ?_
      exact go_iret rt (dk dt_M_chair_1 4 rfl) h (by decide)
    · refine go_iload X 4 (dk dt_M_chair_0 9 rfl) rfl ?_
      refine go_iconst X (dk dt_M_chair_0 10 rfl) ci_0 ?_
      refine go_bipush X (dk dt_M_chair_0 11 rfl) cb_99 ?_
      refine go_Si (As := [.int a4, .int (0 : Int32), .int (99 : Int32)]) (rest := []) X so_X12_122 (fun q hq => ct_M_in hi xc nx  hq) (by decide) rfl rfl (Nat.le_of_ble_eq_true rfl) (dk dt_M_chair_0 12 rfl) h (fun q23 h => ?_)
      refine go_if_eq (tgt := 40) X (dk dt_M_chair_0 13 rfl) (by decide) h (fun h => ?_) (fun h => ?_)
      · refine go_iconst X (dk dt_M_chair_1 3 rfl) ci_0 ?_
        exact go_iret rt (dk dt_M_chair_1 4 rfl) h (by decide)
      · refine go_iload X 5 (dk dt_M_chair_0 14 rfl) rfl ?_
        refine go_iconst X (dk dt_M_chair_0 15 rfl) ci_0 ?_
        refine go_bipush X (dk dt_M_chair_1 0 rfl) cb_9 ?_
        refine go_Si (As := [.int a5, .int (0 : Int32), .int (9 : Int32)]) (rest := []) X so_X12_122 (fun q hq => ct_M_in hi xc nx  hq) (by decide) rfl rfl (Nat.le_of_ble_eq_true rfl) (dk dt_M_chair_1 1 rfl) h (fun q34 h => ?_)
        refine go_if_ne (tgt := 42) X (dk dt_M_chair_1 2 rfl) (by decide) h (fun h => ?_) (fun h => ?_)
        · refine go_bipush X (dk dt_M_chair_1 5 rfl) cb_8 ?_
          refine go_iload_n X 1 (dk dt_M_chair_1 6 rfl) rfl rfl ?_
          refine go_imul X (dk dt_M_chair_1 7 rfl) ?_
          refine go_iload_n X 2 (dk dt_M_chair_1 8 rfl) rfl rfl ?_
          refine go_iadd X (dk dt_M_chair_1 9 rfl) ?_
          refine go_istore (lv' := [(6, .int (((8 : Int32) * a1) + a2)), (0, .ref 0), (1, .int a1), (2, .int a2), (3, .int a3), (4, .int a4), (5, .int a5)]) X (dk dt_M_chair_1 10 rfl) (by decide) rfl ?_
          refine go_aload_n X 1 (dk dt_M_chair_1 11 rfl) rfl rfl ?_
          refine go_getr X fo_X12_7 lM_0 sM_0 fM_0_0 (dk dt_M_chair_1 12 rfl) ?_
          refine go_iconst X (dk dt_M_chair_1 13 rfl) ci_0 ?_
          refine go_iload X 0 (dk dt_M_chair_1 14 rfl) rfl ?_
          refine go_iadd X (dk dt_M_chair_1 15 rfl) ?_
          refine go_iconst X (dk dt_M_chair_2 0 rfl) ci_1 ?_
          refine go_iast X lM_1 sM_1 (dk dt_M_chair_2 1 rfl) h (fun h => ?_)
          refine go_aload_n X 1 (dk dt_M_chair_2 2 rfl) rfl rfl ?_
          refine go_getr X fo_X12_7 lM_0 sM_0 fM_0_0 (dk dt_M_chair_2 3 rfl) ?_
          refine go_bipush X (dk dt_M_chair_2 4 rfl) cb_16 ?_
          refine go_iload X 0 (dk dt_M_chair_2 5 rfl) rfl ?_
          refine go_iadd X (dk dt_M_chair_2 6 rfl) ?_
          refine go_iload_n X 4 (dk dt_M_chair_2 7 rfl) rfl rfl ?_
          refine go_iast X lM_1 sM_1 (dk dt_M_chair_2 8 rfl) h (fun h => ?_)
          refine go_aload_n X 1 (dk dt_M_chair_2 9 rfl) rfl rfl ?_
          refine go_getr X fo_X12_7 lM_0 sM_0 fM_0_0 (dk dt_M_chair_2 10 rfl) ?_
          refine go_bipush X (dk dt_M_chair_2 11 rfl) cb_32 ?_
          refine go_iload X 0 (dk dt_M_chair_2 12 rfl) rfl ?_
          refine go_iadd X (dk dt_M_chair_2 13 rfl) ?_
          refine go_iconst X (dk dt_M_chair_2 14 rfl) ci_0 ?_
          refine go_iast X lM_1 sM_1 (dk dt_M_chair_2 15 rfl) h (fun h => ?_)
          refine go_aload_n X 1 (dk dt_M_chair_3 0 rfl) rfl rfl ?_
          refine go_getr X fo_X12_7 lM_0 sM_0 fM_0_0 (dk dt_M_chair_3 1 rfl) ?_
          refine go_bipush X (dk dt_M_chair_3 2 rfl) cb_48 ?_
          refine go_iload X 0 (dk dt_M_chair_3 3 rfl) rfl ?_
          refine go_iadd X (dk dt_M_chair_3 4 rfl) ?_
          refine go_iload X 5 (dk dt_M_chair_3 5 rfl) rfl ?_
          refine go_iast X lM_1 sM_1 (dk dt_M_chair_3 6 rfl) h (fun h => ?_)
          refine go_aload_n X 1 (dk dt_M_chair_3 7 rfl) rfl rfl ?_
          refine go_getr X fo_X12_7 lM_0 sM_0 fM_0_0 (dk dt_M_chair_3 8 rfl) ?_
          refine go_bipush X (dk dt_M_chair_3 9 rfl) cb_64 ?_
          refine go_iload X 0 (dk dt_M_chair_3 10 rfl) rfl ?_
          refine go_iadd X (dk dt_M_chair_3 11 rfl) ?_
          refine go_iload X 6 (dk dt_M_chair_3 12 rfl) rfl ?_
          refine go_iast X lM_1 sM_1 (dk dt_M_chair_3 13 rfl) h (fun h => ?_)
          refine go_aload_n X 1 (dk dt_M_chair_3 14 rfl) rfl rfl ?_
          refine go_getr X fo_X12_7 lM_0 sM_0 fM_0_0 (dk dt_M_chair_3 15 rfl) ?_
          refine go_bipush X (dk dt_M_chair_4 0 rfl) cb_80 ?_
          refine go_iload X 0 (dk dt_M_chair_4 1 rfl) rfl ?_
          refine go_iadd X (dk dt_M_chair_4 2 rfl) ?_
          refine go_iconst X (dk dt_M_chair_4 3 rfl) ci_0 ?_
          refine go_iast X lM_1 sM_1 (dk dt_M_chair_4 4 rfl) h (fun h => ?_)
          refine go_aload_n X 1 (dk dt_M_chair_4 5 rfl) rfl rfl ?_
          refine go_getr X fo_X12_7 lM_0 sM_0 fM_0_0 (dk dt_M_chair_4 6 rfl) ?_
          refine go_bipush X (dk dt_M_chair_4 7 rfl) cb_98 ?_
          refine go_iconst X (dk dt_M_chair_4 8 rfl) ci_0 ?_
          refine go_iast X lM_1 sM_1 (dk dt_M_chair_4 9 rfl) h (fun h => ?_)
          refine go_iconst X (dk dt_M_chair_4 10 rfl) ci_1 ?_
          exact go_iret rt (dk dt_M_chair_4 11 rfl) h (by decide)
        · refine go_iconst X (dk dt_M_chair_1 3 rfl) ci_0 ?_
          exact go_iret rt (dk dt_M_chair_1 4 rfl) h (by decide)
set_option maxRecDepth 20000 in
theorem ct_M_chair (hi : zInj wM v) (xc : XC wM v) (nx : NXM v)  {a1 : Int32} {a2 : Int32} {a3 : Int32} {a4 : Int32} {a5 : Int32} {σ : Hp}  {q : (Int32 × Hp)} (h : F_M_chair  a1 a2 a3 a4 a5 σ = some q) : Ct wM v l yX12_chair cX12_chair 7 (some .boolean) 6 [.ref 0, .int a1, .int a2, .int a3, .int a4, .int a5] σ (some (.int q.1)) q.2 :=
  Ct.intro true (by decide) hi xc (Nat.le_of_ble_eq_true rfl) rfl (fun p e R s m args below meth c Q X rt => lkF_M_chair hi xc nx X rt  h)
end
def T_M_setOf_0 : DT := [(0, .iconst 0, 1), (1, .istore_n 3, 1), (2, .iconst 0, 1), (3, .istore 4, 2), (5, .iload 4, 2), (7, .bipush 8, 2), (9, .if_icmp .ge 52, 3), (12, .bipush 8, 2), (14, .iload_n 1, 1), (15, .imul, 1), (16, .iload 4, 2), (18, .iadd, 1), (19, .istore 5, 2), (21, .aload_n 0, 1), (22, .getfield 7, 3), (25, .iconst 0, 1)]
theorem dt_M_setOf_0 : dOk cX12_setOf T_M_setOf_0 := by unfold dOk; decide +kernel
def T_M_setOf_1 : DT := [(26, .iload 5, 2), (28, .iadd, 1), (29, .iaload, 1), (30, .iconst 1, 1), (31, .if_icmp .ne 24, 3), (34, .aload_n 0, 1), (35, .getfield 7, 3), (38, .bipush 80, 2), (40, .iload 5, 2), (42, .iadd, 1), (43, .iaload, 1), (44, .iload_n 2, 1), (45, .if_icmp .ne 10, 3), (48, .iload_n 3, 1), (49, .iconst 1, 1), (50, .iload 4, 2)]
theorem dt_M_setOf_1 : dOk cX12_setOf T_M_setOf_1 := by unfold dOk; decide +kernel
def T_M_setOf_2 : DT := [(52, .ishl, 1), (53, .ior, 1), (54, .istore_n 3, 1), (55, .iinc 4 1, 3), (58, .goto (-53), 3), (61, .iload_n 3, 1), (62, .ireturn, 1)]
theorem dt_M_setOf_2 : dOk cX12_setOf T_M_setOf_2 := by unfold dOk; decide +kernel
section
variable {v : ZV} {l : Launch} {p : Program} {e : Env} {R : Room} {s : State} {m : MethodId} {args : Array Value} {below : List Frame} {meth : Method} {c : Code} {Q : State → Prop} {res : (Int32 × Hp)} 
set_option maxRecDepth 20000 in
theorem lkB_M_setOf_5 (hi : zInj wM v) (xc : XC wM v) (nx : NXM v) (X : Cx wM v p R s m args c 0 0 cX12_setOf 6 RX12 2) (rt : Rt wM v p l e R s m args below meth c 0 0 Q cX12_setOf false (some (.int res.1)) res.2) {k5 : Int32 → Int32 → Int32 → Int32 → Hp → Option (Int32 × Hp)} {x1 : Int32} {x2 : Int32} {x3 : Int32} {x4 : Int32} {σ : Hp}  (hk5 : ∀ (x1 : Int32) (x2 : Int32) (x3 : Int32) (x4 : Int32) (σ : Hp),  k5 x1 x2 x3 x4 σ = some res → Go wM v p l e R s m args below meth c 0 0 Q 6 5 [(0, .ref 0), (1, .int x1), (2, .int x2), (3, .int x3), (4, .int x4)] [] σ) (h : B_M_setOf_5  k5 x1 x2 x3 x4 σ = some res) : Go wM v p l e R s m args below meth c 0 0 Q 6 5 [(0, .ref 0), (1, .int x1), (2, .int x2), (3, .int x3), (4, .int x4)] [] σ := by
  unfold B_M_setOf_5 at h
  refine go_iload X 4 (dk dt_M_setOf_0 4 rfl) rfl ?_
  refine go_bipush X (dk dt_M_setOf_0 5 rfl) cb_8 ?_
  refine go_icmp_ge (tgt := 61) X (dk dt_M_setOf_0 6 rfl) (by decide) h (fun h => ?_) (fun h => ?_)
  · refine go_iload_n X 3 (dk dt_M_setOf_2 5 rfl) rfl rfl ?_
    exact go_iret rt (dk dt_M_setOf_2 6 rfl) h (fun hh => nomatch hh)
  · refine go_bipush X (dk dt_M_setOf_0 7 rfl) cb_8 ?_
    refine go_iload_n X 1 (dk dt_M_setOf_0 8 rfl) rfl rfl ?_
    refine go_imul X (dk dt_M_setOf_0 9 rfl) ?_
    refine go_iload X 4 (dk dt_M_setOf_0 10 rfl) rfl ?_
    refine go_iadd X (dk dt_M_setOf_0 11 rfl) ?_
    refine go_istore (lv' := [(5, .int (((8 : Int32) * x1) + x4)), (0, .ref 0), (1, .int x1), (2, .int x2), (3, .int x3), (4, .int x4)]) X (dk dt_M_setOf_0 12 rfl) (by decide) rfl ?_
    refine go_aload_n X 1 (dk dt_M_setOf_0 13 rfl) rfl rfl ?_
    refine go_getr X fo_X12_7 lM_0 sM_0 fM_0_0 (dk dt_M_setOf_0 14 rfl) ?_
    refine go_iconst X (dk dt_M_setOf_0 15 rfl) ci_0 ?_
    refine go_iload X 0 (dk dt_M_setOf_1 0 rfl) rfl ?_
    refine go_iadd X (dk dt_M_setOf_1 1 rfl) ?_
    refine go_iald X lM_1 sM_1 (dk dt_M_setOf_1 2 rfl) h (fun h => ?_)
    refine go_iconst X (dk dt_M_setOf_1 3 rfl) ci_1 ?_
    refine go_icmp_ne (tgt := 55) X (dk dt_M_setOf_1 4 rfl) (by decide) h (fun h => ?_) (fun h => ?_)
    · refine go_iinc (lv' := [(4, .int (x4 + (1 : Int32))), (5, .int (((8 : Int32) * x1) + x4)), (0, .ref 0), (1, .int x1), (2, .int x2), (3, .int x3)]) X 5 (dk dt_M_setOf_2 3 rfl) rfl ci_1 (by decide) rfl ?_
      refine go_goto (tgt := 5) X (dk dt_M_setOf_2 4 rfl) (by decide) ?_
      refine go_sub [2, 3, 4, 5, 0] rfl ?_
      exact hk5 _ _ _ _ _  h
    · refine go_aload_n X 1 (dk dt_M_setOf_1 5 rfl) rfl rfl ?_
      refine go_getr X fo_X12_7 lM_0 sM_0 fM_0_0 (dk dt_M_setOf_1 6 rfl) ?_
      refine go_bipush X (dk dt_M_setOf_1 7 rfl) cb_80 ?_
      refine go_iload X 0 (dk dt_M_setOf_1 8 rfl) rfl ?_
      refine go_iadd X (dk dt_M_setOf_1 9 rfl) ?_
      refine go_iald X lM_1 sM_1 (dk dt_M_setOf_1 10 rfl) h (fun h => ?_)
      refine go_iload_n X 3 (dk dt_M_setOf_1 11 rfl) rfl rfl ?_
      refine go_icmp_ne (tgt := 55) X (dk dt_M_setOf_1 12 rfl) (by decide) h (fun h => ?_) (fun h => ?_)
      · refine go_iinc (lv' := [(4, .int (x4 + (1 : Int32))), (5, .int (((8 : Int32) * x1) + x4)), (0, .ref 0), (1, .int x1), (2, .int x2), (3, .int x3)]) X 5 (dk dt_M_setOf_2 3 rfl) rfl ci_1 (by decide) rfl ?_
        refine go_goto (tgt := 5) X (dk dt_M_setOf_2 4 rfl) (by decide) ?_
        refine go_sub [2, 3, 4, 5, 0] rfl ?_
        exact hk5 _ _ _ _ _  h
      · refine go_iload_n X 4 (dk dt_M_setOf_1 13 rfl) rfl rfl ?_
        refine go_iconst X (dk dt_M_setOf_1 14 rfl) ci_1 ?_
        refine go_iload X 5 (dk dt_M_setOf_1 15 rfl) rfl ?_
        refine go_ishl X (dk dt_M_setOf_2 0 rfl) ?_
        refine go_ior X (dk dt_M_setOf_2 1 rfl) ?_
        refine go_istore_n (lv' := [(3, .int (x3 ||| ((1 : Int32) <<< (x4 &&& 31)))), (5, .int (((8 : Int32) * x1) + x4)), (0, .ref 0), (1, .int x1), (2, .int x2), (4, .int x4)]) X (dk dt_M_setOf_2 2 rfl) rfl (by decide) rfl ?_
        refine go_iinc (lv' := [(4, .int (x4 + (1 : Int32))), (3, .int (x3 ||| ((1 : Int32) <<< (x4 &&& 31)))), (5, .int (((8 : Int32) * x1) + x4)), (0, .ref 0), (1, .int x1), (2, .int x2)]) X 5 (dk dt_M_setOf_2 3 rfl) rfl ci_1 (by decide) rfl ?_
        refine go_goto (tgt := 5) X (dk dt_M_setOf_2 4 rfl) (by decide) ?_
        refine go_sub [3, 4, 5, 1, 0] rfl ?_
        exact hk5 _ _ _ _ _  h
set_option maxRecDepth 20000 in
theorem lkL_M_setOf_5 (hi : zInj wM v) (xc : XC wM v) (nx : NXM v) (X : Cx wM v p R s m args c 0 0 cX12_setOf 6 RX12 2) (rt : Rt wM v p l e R s m args below meth c 0 0 Q cX12_setOf false (some (.int res.1)) res.2)   (n : Nat) : ∀ {x1 : Int32} {x2 : Int32} {x3 : Int32} {x4 : Int32} {σ : Hp},  L_M_setOf_5   n x1 x2 x3 x4 σ = some res → Go wM v p l e R s m args below meth c 0 0 Q 6 5 [(0, .ref 0), (1, .int x1), (2, .int x2), (3, .int x3), (4, .int x4)] [] σ := by
  induction n with
  | zero => intro x1 x2 x3 x4 σ  h; cases h
  | succ n ih =>
    intro x1 x2 x3 x4 σ  h
    exact lkB_M_setOf_5 hi xc nx X rt  (fun _ _ _ _ _  hh => ih  hh) h
set_option maxRecDepth 20000 in
theorem lkF_M_setOf (hi : zInj wM v) (xc : XC wM v) (nx : NXM v) (X : Cx wM v p R s m args c 0 0 cX12_setOf 6 RX12 2) (rt : Rt wM v p l e R s m args below meth c 0 0 Q cX12_setOf false (some (.int res.1)) res.2) {a1 : Int32} {a2 : Int32} {σ : Hp}  (h : F_M_setOf  a1 a2 σ = some res) : Go wM v p l e R s m args below meth c 0 0 Q 6 0 [(0, .ref 0), (1, .int a1), (2, .int a2)] [] σ := by
  unfold F_M_setOf at h
  refine go_iconst X (dk dt_M_setOf_0 0 rfl) ci_0 ?_
  refine go_istore_n (lv' := [(3, .int (0 : Int32)), (0, .ref 0), (1, .int a1), (2, .int a2)]) X (dk dt_M_setOf_0 1 rfl) rfl (by decide) rfl ?_
  refine go_iconst X (dk dt_M_setOf_0 2 rfl) ci_0 ?_
  refine go_istore (lv' := [(4, .int (0 : Int32)), (3, .int (0 : Int32)), (0, .ref 0), (1, .int a1), (2, .int a2)]) X (dk dt_M_setOf_0 3 rfl) (by decide) rfl ?_
  refine go_sub [2, 3, 4, 1, 0] rfl ?_
  exact lkL_M_setOf_5 hi xc nx X rt  FU  h
set_option maxRecDepth 20000 in
theorem ct_M_setOf (hi : zInj wM v) (xc : XC wM v) (nx : NXM v)  {a1 : Int32} {a2 : Int32} {σ : Hp}  {q : (Int32 × Hp)} (h : F_M_setOf  a1 a2 σ = some q) : Ct wM v l yX12_setOf cX12_setOf 6 (some .int) 2 [.ref 0, .int a1, .int a2] σ (some (.int q.1)) q.2 :=
  Ct.intro false (by decide) hi xc (Nat.le_of_ble_eq_true rfl) rfl (fun p e R s m args below meth c Q X rt => lkF_M_setOf hi xc nx X rt  h)
end
def T_M_seenBy_0 : DT := [(0, .iload_n 1, 1), (1, .bipush 8, 2), (3, .idiv, 1), (4, .istore_n 2, 1), (5, .aload_n 0, 1), (6, .iconst 1, 1), (7, .iload_n 2, 1), (8, .isub, 1), (9, .iconst 0, 1), (10, .invokevirtual 137, 3), (13, .istore_n 3, 1), (14, .iconst 0, 1), (15, .istore 4, 2), (17, .iconst 0, 1), (18, .istore 5, 2), (20, .iload 5, 2)]
theorem dt_M_seenBy_0 : dOk cX12_seenBy T_M_seenBy_0 := by unfold dOk; decide +kernel
def T_M_seenBy_1 : DT := [(22, .bipush 8, 2), (24, .if_icmp .ge 83, 3), (27, .iload_n 2, 1), (28, .ifCond .ne 30, 3), (31, .iload_n 3, 1), (32, .iload 5, 2), (34, .invokestatic 141, 3), (37, .ifCond .eq 17, 3), (40, .aload_n 0, 1), (41, .iload_n 1, 1), (42, .iload 5, 2), (44, .invokevirtual 144, 3), (47, .ifCond .eq 7, 3), (50, .iconst 1, 1), (51, .goto 34, 3), (54, .iconst 0, 1)]
theorem dt_M_seenBy_1 : dOk cX12_seenBy T_M_seenBy_1 := by unfold dOk; decide +kernel
def T_M_seenBy_2 : DT := [(55, .goto 30, 3), (58, .iload_n 3, 1), (59, .iload 5, 2), (61, .invokestatic 141, 3), (64, .ifCond .eq 20, 3), (67, .aload_n 0, 1), (68, .iload 5, 2), (70, .iload_n 1, 1), (71, .bipush 8, 2), (73, .isub, 1), (74, .invokevirtual 144, 3), (77, .ifCond .eq 7, 3), (80, .iconst 1, 1), (81, .goto 4, 3), (84, .iconst 0, 1), (85, .istore 6, 2)]
theorem dt_M_seenBy_2 : dOk cX12_seenBy T_M_seenBy_2 := by unfold dOk; decide +kernel
def T_M_seenBy_3 : DT := [(87, .iload 6, 2), (89, .ifCond .eq 12, 3), (92, .iload 4, 2), (94, .iconst 1, 1), (95, .iload 5, 2), (97, .ishl, 1), (98, .ior, 1), (99, .istore 4, 2), (101, .iinc 5 1, 3), (104, .goto (-84), 3), (107, .iload 4, 2), (109, .ireturn, 1)]
theorem dt_M_seenBy_3 : dOk cX12_seenBy T_M_seenBy_3 := by unfold dOk; decide +kernel
section
variable {v : ZV} {l : Launch} {p : Program} {e : Env} {R : Room} {s : State} {m : MethodId} {args : Array Value} {below : List Frame} {meth : Method} {c : Code} {Q : State → Prop} {res : (Int32 × Hp)} 
set_option maxRecDepth 20000 in
theorem lkJ_M_seenBy_85 (hi : zInj wM v) (xc : XC wM v) (nx : NXM v) (X : Cx wM v p R s m args c 0 0 cX12_seenBy 7 RX12 6) (rt : Rt wM v p l e R s m args below meth c 0 0 Q cX12_seenBy false (some (.int res.1)) res.2) {k20 : Int32 → Int32 → Int32 → Int32 → Int32 → Hp → Option (Int32 × Hp)} {x1 : Int32} {x2 : Int32} {x3 : Int32} {x4 : Int32} {x5 : Int32} {s0 : Int32} {σ : Hp}  (hk20 : ∀ (x1 : Int32) (x2 : Int32) (x3 : Int32) (x4 : Int32) (x5 : Int32) (σ : Hp),  k20 x1 x2 x3 x4 x5 σ = some res → Go wM v p l e R s m args below meth c 0 0 Q 7 20 [(0, .ref 0), (1, .int x1), (2, .int x2), (3, .int x3), (4, .int x4), (5, .int x5)] [] σ) (h : J_M_seenBy_85  k20 x1 x2 x3 x4 x5 s0 σ = some res) : Go wM v p l e R s m args below meth c 0 0 Q 7 85 [(0, .ref 0), (1, .int x1), (2, .int x2), (3, .int x3), (4, .int x4), (5, .int x5)] [.int s0] σ := by
  unfold J_M_seenBy_85 at h
  refine go_istore (lv' := [(6, .int s0), (0, .ref 0), (1, .int x1), (2, .int x2), (3, .int x3), (4, .int x4), (5, .int x5)]) X (dk dt_M_seenBy_2 15 rfl) (by decide) rfl ?_
  refine go_iload X 0 (dk dt_M_seenBy_3 0 rfl) rfl ?_
  refine go_if_eq (tgt := 101) X (dk dt_M_seenBy_3 1 rfl) (by decide) h (fun h => ?_) (fun h => ?_)
  · refine go_iinc (lv' := [(5, .int (x5 + (1 : Int32))), (6, .int s0), (0, .ref 0), (1, .int x1), (2, .int x2), (3, .int x3), (4, .int x4)]) X 6 (dk dt_M_seenBy_3 8 rfl) rfl ci_1 (by decide) rfl ?_
    refine go_goto (tgt := 20) X (dk dt_M_seenBy_3 9 rfl) (by decide) ?_
    refine go_sub [2, 3, 4, 5, 6, 0] rfl ?_
    exact hk20 _ _ _ _ _ _  h
  · refine go_iload X 5 (dk dt_M_seenBy_3 2 rfl) rfl ?_
    refine go_iconst X (dk dt_M_seenBy_3 3 rfl) ci_1 ?_
    refine go_iload X 6 (dk dt_M_seenBy_3 4 rfl) rfl ?_
    refine go_ishl X (dk dt_M_seenBy_3 5 rfl) ?_
    refine go_ior X (dk dt_M_seenBy_3 6 rfl) ?_
    refine go_istore (lv' := [(4, .int (x4 ||| ((1 : Int32) <<< (x5 &&& 31)))), (6, .int s0), (0, .ref 0), (1, .int x1), (2, .int x2), (3, .int x3), (5, .int x5)]) X (dk dt_M_seenBy_3 7 rfl) (by decide) rfl ?_
    refine go_iinc (lv' := [(5, .int (x5 + (1 : Int32))), (4, .int (x4 ||| ((1 : Int32) <<< (x5 &&& 31)))), (6, .int s0), (0, .ref 0), (1, .int x1), (2, .int x2), (3, .int x3)]) X 6 (dk dt_M_seenBy_3 8 rfl) rfl ci_1 (by decide) rfl ?_
    refine go_goto (tgt := 20) X (dk dt_M_seenBy_3 9 rfl) (by decide) ?_
    refine go_sub [3, 4, 5, 6, 1, 0] rfl ?_
    exact hk20 _ _ _ _ _ _  h
set_option maxRecDepth 20000 in
theorem lkJ_M_seenBy_84 (hi : zInj wM v) (xc : XC wM v) (nx : NXM v) (X : Cx wM v p R s m args c 0 0 cX12_seenBy 7 RX12 6) (rt : Rt wM v p l e R s m args below meth c 0 0 Q cX12_seenBy false (some (.int res.1)) res.2) {k20 : Int32 → Int32 → Int32 → Int32 → Int32 → Hp → Option (Int32 × Hp)} {x1 : Int32} {x2 : Int32} {x3 : Int32} {x4 : Int32} {x5 : Int32} {σ : Hp}  (hk20 : ∀ (x1 : Int32) (x2 : Int32) (x3 : Int32) (x4 : Int32) (x5 : Int32) (σ : Hp),  k20 x1 x2 x3 x4 x5 σ = some res → Go wM v p l e R s m args below meth c 0 0 Q 7 20 [(0, .ref 0), (1, .int x1), (2, .int x2), (3, .int x3), (4, .int x4), (5, .int x5)] [] σ) (h : J_M_seenBy_84  k20 x1 x2 x3 x4 x5 σ = some res) : Go wM v p l e R s m args below meth c 0 0 Q 7 84 [(0, .ref 0), (1, .int x1), (2, .int x2), (3, .int x3), (4, .int x4), (5, .int x5)] [] σ := by
  unfold J_M_seenBy_84 at h
  refine go_iconst X (dk dt_M_seenBy_2 14 rfl) ci_0 ?_
  exact lkJ_M_seenBy_85 hi xc nx X rt  hk20 h
set_option maxRecDepth 20000 in
theorem lkJ_M_seenBy_54 (hi : zInj wM v) (xc : XC wM v) (nx : NXM v) (X : Cx wM v p R s m args c 0 0 cX12_seenBy 7 RX12 6) (rt : Rt wM v p l e R s m args below meth c 0 0 Q cX12_seenBy false (some (.int res.1)) res.2) {k20 : Int32 → Int32 → Int32 → Int32 → Int32 → Hp → Option (Int32 × Hp)} {x1 : Int32} {x2 : Int32} {x3 : Int32} {x4 : Int32} {x5 : Int32} {σ : Hp}  (hk20 : ∀ (x1 : Int32) (x2 : Int32) (x3 : Int32) (x4 : Int32) (x5 : Int32) (σ : Hp),  k20 x1 x2 x3 x4 x5 σ = some res → Go wM v p l e R s m args below meth c 0 0 Q 7 20 [(0, .ref 0), (1, .int x1), (2, .int x2), (3, .int x3), (4, .int x4), (5, .int x5)] [] σ) (h : J_M_seenBy_54  k20 x1 x2 x3 x4 x5 σ = some res) : Go wM v p l e R s m args below meth c 0 0 Q 7 54 [(0, .ref 0), (1, .int x1), (2, .int x2), (3, .int x3), (4, .int x4), (5, .int x5)] [] σ := by
  unfold J_M_seenBy_54 at h
  refine go_iconst X (dk dt_M_seenBy_1 15 rfl) ci_0 ?_
  refine go_goto (tgt := 85) X (dk dt_M_seenBy_2 0 rfl) (by decide) ?_
  exact lkJ_M_seenBy_85 hi xc nx X rt  hk20 h
set_option maxRecDepth 20000 in
theorem lkB_M_seenBy_20 (hi : zInj wM v) (xc : XC wM v) (nx : NXM v) (X : Cx wM v p R s m args c 0 0 cX12_seenBy 7 RX12 6) (rt : Rt wM v p l e R s m args below meth c 0 0 Q cX12_seenBy false (some (.int res.1)) res.2) {k20 : Int32 → Int32 → Int32 → Int32 → Int32 → Hp → Option (Int32 × Hp)} {x1 : Int32} {x2 : Int32} {x3 : Int32} {x4 : Int32} {x5 : Int32} {σ : Hp}  (hk20 : ∀ (x1 : Int32) (x2 : Int32) (x3 : Int32) (x4 : Int32) (x5 : Int32) (σ : Hp),  k20 x1 x2 x3 x4 x5 σ = some res → Go wM v p l e R s m args below meth c 0 0 Q 7 20 [(0, .ref 0), (1, .int x1), (2, .int x2), (3, .int x3), (4, .int x4), (5, .int x5)] [] σ) (h : B_M_seenBy_20  k20 x1 x2 x3 x4 x5 σ = some res) : Go wM v p l e R s m args below meth c 0 0 Q 7 20 [(0, .ref 0), (1, .int x1), (2, .int x2), (3, .int x3), (4, .int x4), (5, .int x5)] [] σ := by
  unfold B_M_seenBy_20 at h
  refine go_iload X 5 (dk dt_M_seenBy_0 15 rfl) rfl ?_
  refine go_bipush X (dk dt_M_seenBy_1 0 rfl) cb_8 ?_
  refine go_icmp_ge (tgt := 107) X (dk dt_M_seenBy_1 1 rfl) (by decide) h (fun h => ?_) (fun h => ?_)
  · refine go_iload X 4 (dk dt_M_seenBy_3 10 rfl) rfl ?_
    exact go_iret rt (dk dt_M_seenBy_3 11 rfl) h (fun hh => nomatch hh)
  · refine go_iload_n X 2 (dk dt_M_seenBy_1 2 rfl) rfl rfl ?_
    refine go_if_ne (tgt := 58) X (dk dt_M_seenBy_1 3 rfl) (by decide) h (fun h => ?_) (fun h => ?_)
    · refine go_iload_n X 3 (dk dt_M_seenBy_2 1 rfl) rfl rfl ?_
      refine go_iload X 5 (dk dt_M_seenBy_2 2 rfl) rfl ?_
      refine go_Si (As := [.int x3, .int x5]) (rest := []) X so_X12_141 (fun q hq => ct_M_has hi xc nx  hq) (by decide) rfl rfl (Nat.le_of_ble_eq_true rfl) (dk dt_M_seenBy_2 3 rfl) h (fun q61 h => ?_)
      refine go_if_eq (tgt := 84) X (dk dt_M_seenBy_2 4 rfl) (by decide) h (fun h => ?_) (fun h => ?_)
      · exact lkJ_M_seenBy_84 hi xc nx X rt  hk20 h
      · refine go_aload_n X 0 (dk dt_M_seenBy_2 5 rfl) rfl rfl ?_
        refine go_iload X 5 (dk dt_M_seenBy_2 6 rfl) rfl ?_
        refine go_iload_n X 1 (dk dt_M_seenBy_2 7 rfl) rfl rfl ?_
        refine go_bipush X (dk dt_M_seenBy_2 8 rfl) cb_8 ?_
        refine go_isub X (dk dt_M_seenBy_2 9 rfl) ?_
        refine go_Vi (As := [.int x5, .int (x1 - (8 : Int32))]) (rest := []) X vo_X12_144 (fun q hq => ct_M_seesOne hi xc nx  hq) (by decide) rfl lM_0 sM_0 rfl rfl (Nat.le_of_ble_eq_true rfl) (dk dt_M_seenBy_2 10 rfl) h (fun q74 h => ?_)
        refine go_if_eq (tgt := 84) X (dk dt_M_seenBy_2 11 rfl) (by decide) h (fun h => ?_) (fun h => ?_)
        · exact lkJ_M_seenBy_84 hi xc nx X rt  hk20 h
        · refine go_iconst X (dk dt_M_seenBy_2 12 rfl) ci_1 ?_
          refine go_goto (tgt := 85) X (dk dt_M_seenBy_2 13 rfl) (by decide) ?_
          exact lkJ_M_seenBy_85 hi xc nx X rt  hk20 h
    · refine go_iload_n X 3 (dk dt_M_seenBy_1 4 rfl) rfl rfl ?_
      refine go_iload X 5 (dk dt_M_seenBy_1 5 rfl) rfl ?_
      refine go_Si (As := [.int x3, .int x5]) (rest := []) X so_X12_141 (fun q hq => ct_M_has hi xc nx  hq) (by decide) rfl rfl (Nat.le_of_ble_eq_true rfl) (dk dt_M_seenBy_1 6 rfl) h (fun q34 h => ?_)
      refine go_if_eq (tgt := 54) X (dk dt_M_seenBy_1 7 rfl) (by decide) h (fun h => ?_) (fun h => ?_)
      · exact lkJ_M_seenBy_54 hi xc nx X rt  hk20 h
      · refine go_aload_n X 0 (dk dt_M_seenBy_1 8 rfl) rfl rfl ?_
        refine go_iload_n X 1 (dk dt_M_seenBy_1 9 rfl) rfl rfl ?_
        refine go_iload X 5 (dk dt_M_seenBy_1 10 rfl) rfl ?_
        refine go_Vi (As := [.int x1, .int x5]) (rest := []) X vo_X12_144 (fun q hq => ct_M_seesOne hi xc nx  hq) (by decide) rfl lM_0 sM_0 rfl rfl (Nat.le_of_ble_eq_true rfl) (dk dt_M_seenBy_1 11 rfl) h (fun q44 h => ?_)
        refine go_if_eq (tgt := 54) X (dk dt_M_seenBy_1 12 rfl) (by decide) h (fun h => ?_) (fun h => ?_)
        · exact lkJ_M_seenBy_54 hi xc nx X rt  hk20 h
        · refine go_iconst X (dk dt_M_seenBy_1 13 rfl) ci_1 ?_
          refine go_goto (tgt := 85) X (dk dt_M_seenBy_1 14 rfl) (by decide) ?_
          exact lkJ_M_seenBy_85 hi xc nx X rt  hk20 h
set_option maxRecDepth 20000 in
theorem lkL_M_seenBy_20 (hi : zInj wM v) (xc : XC wM v) (nx : NXM v) (X : Cx wM v p R s m args c 0 0 cX12_seenBy 7 RX12 6) (rt : Rt wM v p l e R s m args below meth c 0 0 Q cX12_seenBy false (some (.int res.1)) res.2)   (n : Nat) : ∀ {x1 : Int32} {x2 : Int32} {x3 : Int32} {x4 : Int32} {x5 : Int32} {σ : Hp},  L_M_seenBy_20   n x1 x2 x3 x4 x5 σ = some res → Go wM v p l e R s m args below meth c 0 0 Q 7 20 [(0, .ref 0), (1, .int x1), (2, .int x2), (3, .int x3), (4, .int x4), (5, .int x5)] [] σ := by
  induction n with
  | zero => intro x1 x2 x3 x4 x5 σ  h; cases h
  | succ n ih =>
    intro x1 x2 x3 x4 x5 σ  h
    exact lkB_M_seenBy_20 hi xc nx X rt  (fun _ _ _ _ _ _  hh => ih  hh) h
set_option maxRecDepth 20000 in
theorem lkF_M_seenBy (hi : zInj wM v) (xc : XC wM v) (nx : NXM v) (X : Cx wM v p R s m args c 0 0 cX12_seenBy 7 RX12 6) (rt : Rt wM v p l e R s m args below meth c 0 0 Q cX12_seenBy false (some (.int res.1)) res.2) {a1 : Int32} {σ : Hp}  (h : F_M_seenBy  a1 σ = some res) : Go wM v p l e R s m args below meth c 0 0 Q 7 0 [(0, .ref 0), (1, .int a1)] [] σ := by
  unfold F_M_seenBy at h
  refine go_iload_n X 1 (dk dt_M_seenBy_0 0 rfl) rfl rfl ?_
  refine go_bipush X (dk dt_M_seenBy_0 1 rfl) cb_8 ?_
  refine go_idivL X (dk dt_M_seenBy_0 2 rfl) (by decide) ?_
  refine go_istore_n (lv' := [(2, .int (a1 / (8 : Int32))), (0, .ref 0), (1, .int a1)]) X (dk dt_M_seenBy_0 3 rfl) rfl (by decide) rfl ?_
  refine go_aload_n X 1 (dk dt_M_seenBy_0 4 rfl) rfl rfl ?_
  refine go_iconst X (dk dt_M_seenBy_0 5 rfl) ci_1 ?_
  refine go_iload_n X 0 (dk dt_M_seenBy_0 6 rfl) rfl rfl ?_
  refine go_isub X (dk dt_M_seenBy_0 7 rfl) ?_
  refine go_iconst X (dk dt_M_seenBy_0 8 rfl) ci_0 ?_
  refine go_Vi (As := [.int ((1 : Int32) - (a1 / (8 : Int32))), .int (0 : Int32)]) (rest := []) X vo_X12_137 (fun q hq => ct_M_setOf hi xc nx  hq) (by decide) rfl lM_0 sM_0 rfl rfl (Nat.le_of_ble_eq_true rfl) (dk dt_M_seenBy_0 9 rfl) h (fun q10 h => ?_)
  refine go_istore_n (lv' := [(3, .int q10.1), (2, .int (a1 / (8 : Int32))), (0, .ref 0), (1, .int a1)]) X (dk dt_M_seenBy_0 10 rfl) rfl (by decide) rfl ?_
  refine go_iconst X (dk dt_M_seenBy_0 11 rfl) ci_0 ?_
  refine go_istore (lv' := [(4, .int (0 : Int32)), (3, .int q10.1), (2, .int (a1 / (8 : Int32))), (0, .ref 0), (1, .int a1)]) X (dk dt_M_seenBy_0 12 rfl) (by decide) rfl ?_
  refine go_iconst X (dk dt_M_seenBy_0 13 rfl) ci_0 ?_
  refine go_istore (lv' := [(5, .int (0 : Int32)), (4, .int (0 : Int32)), (3, .int q10.1), (2, .int (a1 / (8 : Int32))), (0, .ref 0), (1, .int a1)]) X (dk dt_M_seenBy_0 14 rfl) (by decide) rfl ?_
  refine go_sub [4, 5, 3, 2, 1, 0] rfl ?_
  exact lkL_M_seenBy_20 hi xc nx X rt  FU  h
set_option maxRecDepth 20000 in
theorem ct_M_seenBy (hi : zInj wM v) (xc : XC wM v) (nx : NXM v)  {a1 : Int32} {σ : Hp}  {q : (Int32 × Hp)} (h : F_M_seenBy  a1 σ = some q) : Ct wM v l yX12_seenBy cX12_seenBy 7 (some .int) 6 [.ref 0, .int a1] σ (some (.int q.1)) q.2 :=
  Ct.intro false (by decide) hi xc (Nat.le_of_ble_eq_true rfl) rfl (fun p e R s m args below meth c Q X rt => lkF_M_seenBy hi xc nx X rt  h)
end
def T_M_chairIs_0 : DT := [(0, .aload_n 0, 1), (1, .iload_n 1, 1), (2, .iload_n 2, 1), (3, .invokevirtual 285, 3), (6, .ifCond .ne 5, 3), (9, .iconst (-1), 1), (10, .ireturn, 1), (11, .bipush 8, 2), (13, .iload_n 1, 1), (14, .imul, 1), (15, .iload_n 2, 1), (16, .iadd, 1), (17, .istore 4, 2), (19, .iload_n 3, 1), (20, .tableswitch 113 0 6 #[44, 55, 66, 77, 88, 99, 106], 44), (64, .aload_n 0, 1)]
theorem dt_M_chairIs_0 : dOk cX12_chairIs T_M_chairIs_0 := by unfold dOk; decide +kernel
def T_M_chairIs_1 : DT := [(65, .getfield 7, 3), (68, .bipush 16, 2), (70, .iload 4, 2), (72, .iadd, 1), (73, .iaload, 1), (74, .ireturn, 1), (75, .aload_n 0, 1), (76, .getfield 7, 3), (79, .bipush 32, 2), (81, .iload 4, 2), (83, .iadd, 1), (84, .iaload, 1), (85, .ireturn, 1), (86, .aload_n 0, 1), (87, .getfield 7, 3), (90, .bipush 48, 2)]
theorem dt_M_chairIs_1 : dOk cX12_chairIs T_M_chairIs_1 := by unfold dOk; decide +kernel
def T_M_chairIs_2 : DT := [(92, .iload 4, 2), (94, .iadd, 1), (95, .iaload, 1), (96, .ireturn, 1), (97, .aload_n 0, 1), (98, .getfield 7, 3), (101, .bipush 64, 2), (103, .iload 4, 2), (105, .iadd, 1), (106, .iaload, 1), (107, .ireturn, 1), (108, .aload_n 0, 1), (109, .getfield 7, 3), (112, .bipush 80, 2), (114, .iload 4, 2), (116, .iadd, 1)]
theorem dt_M_chairIs_2 : dOk cX12_chairIs T_M_chairIs_2 := by unfold dOk; decide +kernel
def T_M_chairIs_3 : DT := [(117, .iaload, 1), (118, .ireturn, 1), (119, .aload_n 0, 1), (120, .iload 4, 2), (122, .invokevirtual 261, 3), (125, .ireturn, 1), (126, .aload_n 0, 1), (127, .iload 4, 2), (129, .invokevirtual 130, 3), (132, .ireturn, 1), (133, .iconst (-1), 1), (134, .ireturn, 1)]
theorem dt_M_chairIs_3 : dOk cX12_chairIs T_M_chairIs_3 := by unfold dOk; decide +kernel
section
variable {v : ZV} {l : Launch} {p : Program} {e : Env} {R : Room} {s : State} {m : MethodId} {args : Array Value} {below : List Frame} {meth : Method} {c : Code} {Q : State → Prop} {res : (Int32 × Hp)} 
set_option maxRecDepth 20000 in
theorem lkF_M_chairIs (hi : zInj wM v) (xc : XC wM v) (nx : NXM v) (X : Cx wM v p R s m args c 0 0 cX12_chairIs 5 RX12 8) (rt : Rt wM v p l e R s m args below meth c 0 0 Q cX12_chairIs false (some (.int res.1)) res.2) {a1 : Int32} {a2 : Int32} {a3 : Int32} {σ : Hp}  (h : F_M_chairIs  a1 a2 a3 σ = some res) : Go wM v p l e R s m args below meth c 0 0 Q 5 0 [(0, .ref 0), (1, .int a1), (2, .int a2), (3, .int a3)] [] σ := by
  unfold F_M_chairIs at h
  refine go_aload_n X 0 (dk dt_M_chairIs_0 0 rfl) rfl rfl ?_
  refine go_iload_n X 1 (dk dt_M_chairIs_0 1 rfl) rfl rfl ?_
  refine go_iload_n X 2 (dk dt_M_chairIs_0 2 rfl) rfl rfl ?_
  refine go_Vi (As := [.int a1, .int a2]) (rest := []) X vo_X12_285 (fun q hq => ct_M_isThere hi xc nx  hq) (by decide) rfl lM_0 sM_0 rfl rfl (Nat.le_of_ble_eq_true rfl) (dk dt_M_chairIs_0 3 rfl) h (fun q3 h => ?_)
  refine go_if_ne (tgt := 11) X (dk dt_M_chairIs_0 4 rfl) (by decide) h (fun h => ?_) (fun h => ?_)
  · refine go_bipush X (dk dt_M_chairIs_0 7 rfl) cb_8 ?_
    refine go_iload_n X 1 (dk dt_M_chairIs_0 8 rfl) rfl rfl ?_
    refine go_imul X (dk dt_M_chairIs_0 9 rfl) ?_
    refine go_iload_n X 2 (dk dt_M_chairIs_0 10 rfl) rfl rfl ?_
    refine go_iadd X (dk dt_M_chairIs_0 11 rfl) ?_
    refine go_istore (lv' := [(4, .int (((8 : Int32) * a1) + a2)), (0, .ref 0), (1, .int a1), (2, .int a2), (3, .int a3)]) X (dk dt_M_chairIs_0 12 rfl) (by decide) rfl ?_
    refine go_iload_n X 4 (dk dt_M_chairIs_0 13 rfl) rfl rfl ?_
    by_cases hc20_0 : a3 = (0 : Int32)
    · rw [if_pos hc20_0] at h
      refine go_tsw (tgt := 64) X (dk dt_M_chairIs_0 14 rfl) (by decide) (by rw [hc20_0]) (by decide) ?_
      refine go_aload_n X 1 (dk dt_M_chairIs_0 15 rfl) rfl rfl ?_
      refine go_getr X fo_X12_7 lM_0 sM_0 fM_0_0 (dk dt_M_chairIs_1 0 rfl) ?_
      refine go_bipush X (dk dt_M_chairIs_1 1 rfl) cb_16 ?_
      refine go_iload X 0 (dk dt_M_chairIs_1 2 rfl) rfl ?_
      refine go_iadd X (dk dt_M_chairIs_1 3 rfl) ?_
      refine go_iald X lM_1 sM_1 (dk dt_M_chairIs_1 4 rfl) h (fun h => ?_)
      exact go_iret rt (dk dt_M_chairIs_1 5 rfl) h (fun hh => nomatch hh)
    rw [if_neg hc20_0] at h
    by_cases hc20_1 : a3 = (1 : Int32)
    · rw [if_pos hc20_1] at h
      refine go_tsw (tgt := 75) X (dk dt_M_chairIs_0 14 rfl) (by decide) (by rw [hc20_1]) (by decide) ?_
      refine go_aload_n X 1 (dk dt_M_chairIs_1 6 rfl) rfl rfl ?_
      refine go_getr X fo_X12_7 lM_0 sM_0 fM_0_0 (dk dt_M_chairIs_1 7 rfl) ?_
      refine go_bipush X (dk dt_M_chairIs_1 8 rfl) cb_32 ?_
      refine go_iload X 0 (dk dt_M_chairIs_1 9 rfl) rfl ?_
      refine go_iadd X (dk dt_M_chairIs_1 10 rfl) ?_
      refine go_iald X lM_1 sM_1 (dk dt_M_chairIs_1 11 rfl) h (fun h => ?_)
      exact go_iret rt (dk dt_M_chairIs_1 12 rfl) h (fun hh => nomatch hh)
    rw [if_neg hc20_1] at h
    by_cases hc20_2 : a3 = (2 : Int32)
    · rw [if_pos hc20_2] at h
      refine go_tsw (tgt := 86) X (dk dt_M_chairIs_0 14 rfl) (by decide) (by rw [hc20_2]) (by decide) ?_
      refine go_aload_n X 1 (dk dt_M_chairIs_1 13 rfl) rfl rfl ?_
      refine go_getr X fo_X12_7 lM_0 sM_0 fM_0_0 (dk dt_M_chairIs_1 14 rfl) ?_
      refine go_bipush X (dk dt_M_chairIs_1 15 rfl) cb_48 ?_
      refine go_iload X 0 (dk dt_M_chairIs_2 0 rfl) rfl ?_
      refine go_iadd X (dk dt_M_chairIs_2 1 rfl) ?_
      refine go_iald X lM_1 sM_1 (dk dt_M_chairIs_2 2 rfl) h (fun h => ?_)
      exact go_iret rt (dk dt_M_chairIs_2 3 rfl) h (fun hh => nomatch hh)
    rw [if_neg hc20_2] at h
    by_cases hc20_3 : a3 = (3 : Int32)
    · rw [if_pos hc20_3] at h
      refine go_tsw (tgt := 97) X (dk dt_M_chairIs_0 14 rfl) (by decide) (by rw [hc20_3]) (by decide) ?_
      refine go_aload_n X 1 (dk dt_M_chairIs_2 4 rfl) rfl rfl ?_
      refine go_getr X fo_X12_7 lM_0 sM_0 fM_0_0 (dk dt_M_chairIs_2 5 rfl) ?_
      refine go_bipush X (dk dt_M_chairIs_2 6 rfl) cb_64 ?_
      refine go_iload X 0 (dk dt_M_chairIs_2 7 rfl) rfl ?_
      refine go_iadd X (dk dt_M_chairIs_2 8 rfl) ?_
      refine go_iald X lM_1 sM_1 (dk dt_M_chairIs_2 9 rfl) h (fun h => ?_)
      exact go_iret rt (dk dt_M_chairIs_2 10 rfl) h (fun hh => nomatch hh)
    rw [if_neg hc20_3] at h
    by_cases hc20_4 : a3 = (4 : Int32)
    · rw [if_pos hc20_4] at h
      refine go_tsw (tgt := 108) X (dk dt_M_chairIs_0 14 rfl) (by decide) (by rw [hc20_4]) (by decide) ?_
      refine go_aload_n X 1 (dk dt_M_chairIs_2 11 rfl) rfl rfl ?_
      refine go_getr X fo_X12_7 lM_0 sM_0 fM_0_0 (dk dt_M_chairIs_2 12 rfl) ?_
      refine go_bipush X (dk dt_M_chairIs_2 13 rfl) cb_80 ?_
      refine go_iload X 0 (dk dt_M_chairIs_2 14 rfl) rfl ?_
      refine go_iadd X (dk dt_M_chairIs_2 15 rfl) ?_
      refine go_iald X lM_1 sM_1 (dk dt_M_chairIs_3 0 rfl) h (fun h => ?_)
      exact go_iret rt (dk dt_M_chairIs_3 1 rfl) h (fun hh => nomatch hh)
    rw [if_neg hc20_4] at h
    by_cases hc20_5 : a3 = (5 : Int32)
    · rw [if_pos hc20_5] at h
      refine go_tsw (tgt := 119) X (dk dt_M_chairIs_0 14 rfl) (by decide) (by rw [hc20_5]) (by decide) ?_
      refine go_aload_n X 1 (dk dt_M_chairIs_3 2 rfl) rfl rfl ?_
      refine go_iload X 0 (dk dt_M_chairIs_3 3 rfl) rfl ?_
      refine go_Vi (As := [.int (((8 : Int32) * a1) + a2)]) (rest := []) X vo_X12_261 (fun q hq => ct_M_seenBy hi xc nx  hq) (by decide) rfl lM_0 sM_0 rfl rfl (Nat.le_of_ble_eq_true rfl) (dk dt_M_chairIs_3 4 rfl) h (fun q122 h => ?_)
      exact go_iret rt (dk dt_M_chairIs_3 5 rfl) h (fun hh => nomatch hh)
    rw [if_neg hc20_5] at h
    by_cases hc20_6 : a3 = (6 : Int32)
    · rw [if_pos hc20_6] at h
      refine go_tsw (tgt := 126) X (dk dt_M_chairIs_0 14 rfl) (by decide) (by rw [hc20_6]) (by decide) ?_
      refine go_aload_n X 1 (dk dt_M_chairIs_3 6 rfl) rfl rfl ?_
      refine go_iload X 0 (dk dt_M_chairIs_3 7 rfl) rfl ?_
      refine go_Vi (As := [.int (((8 : Int32) * a1) + a2)]) (rest := []) X vo_X12_130 (fun q hq => ct_M_eyeOf hi xc nx  hq) (by decide) rfl lM_0 sM_0 rfl rfl (Nat.le_of_ble_eq_true rfl) (dk dt_M_chairIs_3 8 rfl) h (fun q129 h => ?_)
      exact go_iret rt (dk dt_M_chairIs_3 9 rfl) h (fun hh => nomatch hh)
    rw [if_neg hc20_6] at h
    refine go_tsw (tgt := 133) X (dk dt_M_chairIs_0 14 rfl) (by decide) (sw_dflt [0, 1, 2, 3, 4, 5, 6] (by decide) (by simp only [List.mem_cons, List.not_mem_nil, or_false, not_or]; exact ⟨(i32_ne (k := 0) hc20_0), (i32_ne (k := 1) hc20_1), (i32_ne (k := 2) hc20_2), (i32_ne (k := 3) hc20_3), (i32_ne (k := 4) hc20_4), (i32_ne (k := 5) hc20_5), (i32_ne (k := 6) hc20_6)⟩)) (by decide) ?_
    refine go_iconst X (dk dt_M_chairIs_3 10 rfl) ci_m1 ?_
    exact go_iret rt (dk dt_M_chairIs_3 11 rfl) h (fun hh => nomatch hh)
  · refine go_iconst X (dk dt_M_chairIs_0 5 rfl) ci_m1 ?_
    exact go_iret rt (dk dt_M_chairIs_0 6 rfl) h (fun hh => nomatch hh)
set_option maxRecDepth 20000 in
theorem ct_M_chairIs (hi : zInj wM v) (xc : XC wM v) (nx : NXM v)  {a1 : Int32} {a2 : Int32} {a3 : Int32} {σ : Hp}  {q : (Int32 × Hp)} (h : F_M_chairIs  a1 a2 a3 σ = some q) : Ct wM v l yX12_chairIs cX12_chairIs 5 (some .int) 8 [.ref 0, .int a1, .int a2, .int a3] σ (some (.int q.1)) q.2 :=
  Ct.intro false (by decide) hi xc (Nat.le_of_ble_eq_true rfl) rfl (fun p e R s m args below meth c Q X rt => lkF_M_chairIs hi xc nx X rt  h)
end
def T_M_swaps_0 : DT := [(0, .aload_n 0, 1), (1, .getfield 7, 3), (4, .iload_n 1, 1), (5, .iaload, 1), (6, .istore_n 3, 1), (7, .aload_n 0, 1), (8, .getfield 7, 3), (11, .iload_n 1, 1), (12, .aload_n 0, 1), (13, .getfield 7, 3), (16, .iload_n 2, 1), (17, .iaload, 1), (18, .iastore, 1), (19, .aload_n 0, 1), (20, .getfield 7, 3), (23, .iload_n 2, 1)]
theorem dt_M_swaps_0 : dOk cX12_swaps T_M_swaps_0 := by unfold dOk; decide +kernel
def T_M_swaps_1 : DT := [(24, .iload_n 3, 1), (25, .iastore, 1), (26, .return_, 1)]
theorem dt_M_swaps_1 : dOk cX12_swaps T_M_swaps_1 := by unfold dOk; decide +kernel
section
variable {v : ZV} {l : Launch} {p : Program} {e : Env} {R : Room} {s : State} {m : MethodId} {args : Array Value} {below : List Frame} {meth : Method} {c : Code} {Q : State → Prop} {res : Hp} 
set_option maxRecDepth 20000 in
theorem lkF_M_swaps (hi : zInj wM v) (xc : XC wM v) (nx : NXM v) (X : Cx wM v p R s m args c 0 0 cX12_swaps 4 RX12 2) (rt : Rt wM v p l e R s m args below meth c 0 0 Q cX12_swaps false none res) {a1 : Int32} {a2 : Int32} {σ : Hp}  (h : F_M_swaps  a1 a2 σ = some res) : Go wM v p l e R s m args below meth c 0 0 Q 4 0 [(0, .ref 0), (1, .int a1), (2, .int a2)] [] σ := by
  unfold F_M_swaps at h
  refine go_aload_n X 0 (dk dt_M_swaps_0 0 rfl) rfl rfl ?_
  refine go_getr X fo_X12_7 lM_0 sM_0 fM_0_0 (dk dt_M_swaps_0 1 rfl) ?_
  refine go_iload_n X 1 (dk dt_M_swaps_0 2 rfl) rfl rfl ?_
  refine go_iald X lM_1 sM_1 (dk dt_M_swaps_0 3 rfl) h (fun h => ?_)
  refine go_istore_n (lv' := [(3, .int (σ 1 (Int32.toNatClampNeg a1))), (0, .ref 0), (1, .int a1), (2, .int a2)]) X (dk dt_M_swaps_0 4 rfl) rfl (by decide) rfl ?_
  refine go_aload_n X 1 (dk dt_M_swaps_0 5 rfl) rfl rfl ?_
  refine go_getr X fo_X12_7 lM_0 sM_0 fM_0_0 (dk dt_M_swaps_0 6 rfl) ?_
  refine go_iload_n X 2 (dk dt_M_swaps_0 7 rfl) rfl rfl ?_
  refine go_aload_n X 1 (dk dt_M_swaps_0 8 rfl) rfl rfl ?_
  refine go_getr X fo_X12_7 lM_0 sM_0 fM_0_0 (dk dt_M_swaps_0 9 rfl) ?_
  refine go_iload_n X 3 (dk dt_M_swaps_0 10 rfl) rfl rfl ?_
  refine go_iald X lM_1 sM_1 (dk dt_M_swaps_0 11 rfl) h (fun h => ?_)
  refine go_iast X lM_1 sM_1 (dk dt_M_swaps_0 12 rfl) h (fun h => ?_)
  refine go_aload_n X 1 (dk dt_M_swaps_0 13 rfl) rfl rfl ?_
  refine go_getr X fo_X12_7 lM_0 sM_0 fM_0_0 (dk dt_M_swaps_0 14 rfl) ?_
  refine go_iload_n X 3 (dk dt_M_swaps_0 15 rfl) rfl rfl ?_
  refine go_iload_n X 0 (dk dt_M_swaps_1 0 rfl) rfl rfl ?_
  refine go_iast X lM_1 sM_1 (dk dt_M_swaps_1 1 rfl) h (fun h => ?_)
  exact go_vret rt (dk dt_M_swaps_1 2 rfl) h
set_option maxRecDepth 20000 in
theorem ct_M_swaps (hi : zInj wM v) (xc : XC wM v) (nx : NXM v)  {a1 : Int32} {a2 : Int32} {σ : Hp}  {q : Hp} (h : F_M_swaps  a1 a2 σ = some q) : Ct wM v l yX12_swaps cX12_swaps 4 none 2 [.ref 0, .int a1, .int a2] σ none q :=
  Ct.intro false (by decide) hi xc (Nat.le_of_ble_eq_true rfl) rfl (fun p e R s m args below meth c Q X rt => lkF_M_swaps hi xc nx X rt  h)
end
def T_M_changes_0 : DT := [(0, .aload_n 0, 1), (1, .iconst 0, 1), (2, .iload_n 1, 1), (3, .iadd, 1), (4, .iconst 0, 1), (5, .iload_n 2, 1), (6, .iadd, 1), (7, .invokevirtual 264, 3), (10, .aload_n 0, 1), (11, .bipush 16, 2), (13, .iload_n 1, 1), (14, .iadd, 1), (15, .bipush 16, 2), (17, .iload_n 2, 1), (18, .iadd, 1), (19, .invokevirtual 264, 3)]
theorem dt_M_changes_0 : dOk cX12_changes T_M_changes_0 := by unfold dOk; decide +kernel
def T_M_changes_1 : DT := [(22, .aload_n 0, 1), (23, .bipush 32, 2), (25, .iload_n 1, 1), (26, .iadd, 1), (27, .bipush 32, 2), (29, .iload_n 2, 1), (30, .iadd, 1), (31, .invokevirtual 264, 3), (34, .aload_n 0, 1), (35, .bipush 48, 2), (37, .iload_n 1, 1), (38, .iadd, 1), (39, .bipush 48, 2), (41, .iload_n 2, 1), (42, .iadd, 1), (43, .invokevirtual 264, 3)]
theorem dt_M_changes_1 : dOk cX12_changes T_M_changes_1 := by unfold dOk; decide +kernel
def T_M_changes_2 : DT := [(46, .aload_n 0, 1), (47, .bipush 80, 2), (49, .iload_n 1, 1), (50, .iadd, 1), (51, .bipush 80, 2), (53, .iload_n 2, 1), (54, .iadd, 1), (55, .invokevirtual 264, 3), (58, .return_, 1)]
theorem dt_M_changes_2 : dOk cX12_changes T_M_changes_2 := by unfold dOk; decide +kernel
section
variable {v : ZV} {l : Launch} {p : Program} {e : Env} {R : Room} {s : State} {m : MethodId} {args : Array Value} {below : List Frame} {meth : Method} {c : Code} {Q : State → Prop} {res : Hp} 
set_option maxRecDepth 20000 in
theorem lkF_M_changes (hi : zInj wM v) (xc : XC wM v) (nx : NXM v) (X : Cx wM v p R s m args c 0 0 cX12_changes 3 RX12 4) (rt : Rt wM v p l e R s m args below meth c 0 0 Q cX12_changes false none res) {a1 : Int32} {a2 : Int32} {σ : Hp}  (h : F_M_changes  a1 a2 σ = some res) : Go wM v p l e R s m args below meth c 0 0 Q 3 0 [(0, .ref 0), (1, .int a1), (2, .int a2)] [] σ := by
  unfold F_M_changes at h
  refine go_aload_n X 0 (dk dt_M_changes_0 0 rfl) rfl rfl ?_
  refine go_iconst X (dk dt_M_changes_0 1 rfl) ci_0 ?_
  refine go_iload_n X 1 (dk dt_M_changes_0 2 rfl) rfl rfl ?_
  refine go_iadd X (dk dt_M_changes_0 3 rfl) ?_
  refine go_iconst X (dk dt_M_changes_0 4 rfl) ci_0 ?_
  refine go_iload_n X 2 (dk dt_M_changes_0 5 rfl) rfl rfl ?_
  refine go_iadd X (dk dt_M_changes_0 6 rfl) ?_
  refine go_Vv (As := [.int ((0 : Int32) + a1), .int ((0 : Int32) + a2)]) (rest := []) X vo_X12_264 (fun q hq => ct_M_swaps hi xc nx  hq) (by decide) rfl lM_0 sM_0 rfl rfl (Nat.le_of_ble_eq_true rfl) (dk dt_M_changes_0 7 rfl) h (fun q7 h => ?_)
  refine go_aload_n X 0 (dk dt_M_changes_0 8 rfl) rfl rfl ?_
  refine go_bipush X (dk dt_M_changes_0 9 rfl) cb_16 ?_
  refine go_iload_n X 1 (dk dt_M_changes_0 10 rfl) rfl rfl ?_
  refine go_iadd X (dk dt_M_changes_0 11 rfl) ?_
  refine go_bipush X (dk dt_M_changes_0 12 rfl) cb_16 ?_
  refine go_iload_n X 2 (dk dt_M_changes_0 13 rfl) rfl rfl ?_
  refine go_iadd X (dk dt_M_changes_0 14 rfl) ?_
  refine go_Vv (As := [.int ((16 : Int32) + a1), .int ((16 : Int32) + a2)]) (rest := []) X vo_X12_264 (fun q hq => ct_M_swaps hi xc nx  hq) (by decide) rfl lM_0 sM_0 rfl rfl (Nat.le_of_ble_eq_true rfl) (dk dt_M_changes_0 15 rfl) h (fun q19 h => ?_)
  refine go_aload_n X 0 (dk dt_M_changes_1 0 rfl) rfl rfl ?_
  refine go_bipush X (dk dt_M_changes_1 1 rfl) cb_32 ?_
  refine go_iload_n X 1 (dk dt_M_changes_1 2 rfl) rfl rfl ?_
  refine go_iadd X (dk dt_M_changes_1 3 rfl) ?_
  refine go_bipush X (dk dt_M_changes_1 4 rfl) cb_32 ?_
  refine go_iload_n X 2 (dk dt_M_changes_1 5 rfl) rfl rfl ?_
  refine go_iadd X (dk dt_M_changes_1 6 rfl) ?_
  refine go_Vv (As := [.int ((32 : Int32) + a1), .int ((32 : Int32) + a2)]) (rest := []) X vo_X12_264 (fun q hq => ct_M_swaps hi xc nx  hq) (by decide) rfl lM_0 sM_0 rfl rfl (Nat.le_of_ble_eq_true rfl) (dk dt_M_changes_1 7 rfl) h (fun q31 h => ?_)
  refine go_aload_n X 0 (dk dt_M_changes_1 8 rfl) rfl rfl ?_
  refine go_bipush X (dk dt_M_changes_1 9 rfl) cb_48 ?_
  refine go_iload_n X 1 (dk dt_M_changes_1 10 rfl) rfl rfl ?_
  refine go_iadd X (dk dt_M_changes_1 11 rfl) ?_
  refine go_bipush X (dk dt_M_changes_1 12 rfl) cb_48 ?_
  refine go_iload_n X 2 (dk dt_M_changes_1 13 rfl) rfl rfl ?_
  refine go_iadd X (dk dt_M_changes_1 14 rfl) ?_
  refine go_Vv (As := [.int ((48 : Int32) + a1), .int ((48 : Int32) + a2)]) (rest := []) X vo_X12_264 (fun q hq => ct_M_swaps hi xc nx  hq) (by decide) rfl lM_0 sM_0 rfl rfl (Nat.le_of_ble_eq_true rfl) (dk dt_M_changes_1 15 rfl) h (fun q43 h => ?_)
  refine go_aload_n X 0 (dk dt_M_changes_2 0 rfl) rfl rfl ?_
  refine go_bipush X (dk dt_M_changes_2 1 rfl) cb_80 ?_
  refine go_iload_n X 1 (dk dt_M_changes_2 2 rfl) rfl rfl ?_
  refine go_iadd X (dk dt_M_changes_2 3 rfl) ?_
  refine go_bipush X (dk dt_M_changes_2 4 rfl) cb_80 ?_
  refine go_iload_n X 2 (dk dt_M_changes_2 5 rfl) rfl rfl ?_
  refine go_iadd X (dk dt_M_changes_2 6 rfl) ?_
  refine go_Vv (As := [.int ((80 : Int32) + a1), .int ((80 : Int32) + a2)]) (rest := []) X vo_X12_264 (fun q hq => ct_M_swaps hi xc nx  hq) (by decide) rfl lM_0 sM_0 rfl rfl (Nat.le_of_ble_eq_true rfl) (dk dt_M_changes_2 7 rfl) h (fun q55 h => ?_)
  exact go_vret rt (dk dt_M_changes_2 8 rfl) h
set_option maxRecDepth 20000 in
theorem ct_M_changes (hi : zInj wM v) (xc : XC wM v) (nx : NXM v)  {a1 : Int32} {a2 : Int32} {σ : Hp}  {q : Hp} (h : F_M_changes  a1 a2 σ = some q) : Ct wM v l yX12_changes cX12_changes 3 none 4 [.ref 0, .int a1, .int a2] σ none q :=
  Ct.intro false (by decide) hi xc (Nat.le_of_ble_eq_true rfl) rfl (fun p e R s m args below meth c Q X rt => lkF_M_changes hi xc nx X rt  h)
end
def T_M_check_0 : DT := [(0, .iload_n 1, 1), (1, .iconst 0, 1), (2, .iconst 1, 1), (3, .invokestatic 122, 3), (6, .ifCond .eq 21, 3), (9, .iload_n 2, 1), (10, .iconst 0, 1), (11, .bipush 8, 2), (13, .invokestatic 122, 3), (16, .ifCond .eq 11, 3), (19, .iload_n 2, 1), (20, .aload_n 0, 1), (21, .getfield 147, 3), (24, .if_icmp .le 6, 3), (27, .bipush (-2), 2), (29, .ireturn, 1)]
theorem dt_M_check_0 : dOk cX12_check T_M_check_0 := by unfold dOk; decide +kernel
def T_M_check_1 : DT := [(30, .aload_n 0, 1), (31, .iconst 0, 1), (32, .putfield 147, 3), (35, .iconst 0, 1), (36, .istore_n 3, 1), (37, .iload_n 3, 1), (38, .iload_n 2, 1), (39, .if_icmp .ge 46, 3), (42, .aload_n 0, 1), (43, .iload_n 3, 1), (44, .invokevirtual 402, 3), (47, .aload_n 0, 1), (48, .iload_n 1, 1), (49, .iload_n 3, 1), (50, .invokevirtual 285, 3), (53, .ifCond .eq 20, 3)]
theorem dt_M_check_1 : dOk cX12_check T_M_check_1 := by unfold dOk; decide +kernel
def T_M_check_2 : DT := [(56, .aload_n 0, 1), (57, .getfield 7, 3), (60, .bipush 32, 2), (62, .bipush 8, 2), (64, .iload_n 1, 1), (65, .imul, 1), (66, .iadd, 1), (67, .iload_n 3, 1), (68, .iadd, 1), (69, .iaload, 1), (70, .goto 4, 3), (73, .iconst 0, 1), (74, .if_icmp .eq 5, 3), (77, .iload_n 3, 1), (78, .ireturn, 1), (79, .iinc 3 1, 3)]
theorem dt_M_check_2 : dOk cX12_check T_M_check_2 := by unfold dOk; decide +kernel
def T_M_check_3 : DT := [(82, .goto (-45), 3), (85, .iconst (-1), 1), (86, .ireturn, 1)]
theorem dt_M_check_3 : dOk cX12_check T_M_check_3 := by unfold dOk; decide +kernel
section
variable {v : ZV} {l : Launch} {p : Program} {e : Env} {R : Room} {s : State} {m : MethodId} {args : Array Value} {below : List Frame} {meth : Method} {c : Code} {Q : State → Prop} {res : (Int32 × Hp)} 
set_option maxRecDepth 20000 in
theorem lkJ_M_check_74 (hi : zInj wM v) (xc : XC wM v) (nx : NXM v) (X : Cx wM v p R s m args c 0 0 cX12_check 4 RX12 8) (rt : Rt wM v p l e R s m args below meth c 0 0 Q cX12_check false (some (.int res.1)) res.2) {k37 : Int32 → Int32 → Int32 → Hp → Option (Int32 × Hp)} {x1 : Int32} {x2 : Int32} {x3 : Int32} {s0 : Int32} {s1 : Int32} {σ : Hp}  (hk37 : ∀ (x1 : Int32) (x2 : Int32) (x3 : Int32) (σ : Hp),  k37 x1 x2 x3 σ = some res → Go wM v p l e R s m args below meth c 0 0 Q 4 37 [(0, .ref 0), (1, .int x1), (2, .int x2), (3, .int x3)] [] σ) (h : J_M_check_74  k37 x1 x2 x3 s0 s1 σ = some res) : Go wM v p l e R s m args below meth c 0 0 Q 4 74 [(0, .ref 0), (1, .int x1), (2, .int x2), (3, .int x3)] [.int s0, .int s1] σ := by
  unfold J_M_check_74 at h
  refine go_icmp_eq (tgt := 79) X (dk dt_M_check_2 12 rfl) (by decide) h (fun h => ?_) (fun h => ?_)
  · refine go_iinc (lv' := [(3, .int (x3 + (1 : Int32))), (0, .ref 0), (1, .int x1), (2, .int x2)]) X 3 (dk dt_M_check_2 15 rfl) rfl ci_1 (by decide) rfl ?_
    refine go_goto (tgt := 37) X (dk dt_M_check_3 0 rfl) (by decide) ?_
    refine go_sub [1, 2, 3, 0] rfl ?_
    exact hk37 _ _ _ _  h
  · refine go_iload_n X 3 (dk dt_M_check_2 13 rfl) rfl rfl ?_
    exact go_iret rt (dk dt_M_check_2 14 rfl) h (fun hh => nomatch hh)
set_option maxRecDepth 20000 in
theorem lkB_M_check_37 (hi : zInj wM v) (xc : XC wM v) (nx : NXM v) (X : Cx wM v p R s m args c 0 0 cX12_check 4 RX12 8) (rt : Rt wM v p l e R s m args below meth c 0 0 Q cX12_check false (some (.int res.1)) res.2) {k37 : Int32 → Int32 → Int32 → Hp → Option (Int32 × Hp)} {x1 : Int32} {x2 : Int32} {x3 : Int32} {σ : Hp}  (hk37 : ∀ (x1 : Int32) (x2 : Int32) (x3 : Int32) (σ : Hp),  k37 x1 x2 x3 σ = some res → Go wM v p l e R s m args below meth c 0 0 Q 4 37 [(0, .ref 0), (1, .int x1), (2, .int x2), (3, .int x3)] [] σ) (h : B_M_check_37  k37 x1 x2 x3 σ = some res) : Go wM v p l e R s m args below meth c 0 0 Q 4 37 [(0, .ref 0), (1, .int x1), (2, .int x2), (3, .int x3)] [] σ := by
  unfold B_M_check_37 at h
  refine go_iload_n X 3 (dk dt_M_check_1 5 rfl) rfl rfl ?_
  refine go_iload_n X 2 (dk dt_M_check_1 6 rfl) rfl rfl ?_
  refine go_icmp_ge (tgt := 85) X (dk dt_M_check_1 7 rfl) (by decide) h (fun h => ?_) (fun h => ?_)
  · refine go_iconst X (dk dt_M_check_3 1 rfl) ci_m1 ?_
    exact go_iret rt (dk dt_M_check_3 2 rfl) h (fun hh => nomatch hh)
  · refine go_aload_n X 0 (dk dt_M_check_1 8 rfl) rfl rfl ?_
    refine go_iload_n X 3 (dk dt_M_check_1 9 rfl) rfl rfl ?_
    refine go_Vi (As := [.int x3]) (rest := []) X vo_X12_402 (fun q hq => ct_M_octet hi xc nx  hq) (by decide) rfl lM_0 sM_0 rfl rfl (Nat.le_of_ble_eq_true rfl) (dk dt_M_check_1 10 rfl) h (fun q44 h => ?_)
    refine go_aload_n X 0 (dk dt_M_check_1 11 rfl) rfl rfl ?_
    refine go_iload_n X 1 (dk dt_M_check_1 12 rfl) rfl rfl ?_
    refine go_iload_n X 3 (dk dt_M_check_1 13 rfl) rfl rfl ?_
    refine go_Vi (As := [.int x1, .int x3]) (rest := [.int q44.1]) X vo_X12_285 (fun q hq => ct_M_isThere hi xc nx  hq) (by decide) rfl lM_0 sM_0 rfl rfl (Nat.le_of_ble_eq_true rfl) (dk dt_M_check_1 14 rfl) h (fun q50 h => ?_)
    refine go_if_eq (tgt := 73) X (dk dt_M_check_1 15 rfl) (by decide) h (fun h => ?_) (fun h => ?_)
    · refine go_iconst X (dk dt_M_check_2 11 rfl) ci_0 ?_
      exact lkJ_M_check_74 hi xc nx X rt  hk37 h
    · refine go_aload_n X 0 (dk dt_M_check_2 0 rfl) rfl rfl ?_
      refine go_getr X fo_X12_7 lM_0 sM_0 fM_0_0 (dk dt_M_check_2 1 rfl) ?_
      refine go_bipush X (dk dt_M_check_2 2 rfl) cb_32 ?_
      refine go_bipush X (dk dt_M_check_2 3 rfl) cb_8 ?_
      refine go_iload_n X 1 (dk dt_M_check_2 4 rfl) rfl rfl ?_
      refine go_imul X (dk dt_M_check_2 5 rfl) ?_
      refine go_iadd X (dk dt_M_check_2 6 rfl) ?_
      refine go_iload_n X 3 (dk dt_M_check_2 7 rfl) rfl rfl ?_
      refine go_iadd X (dk dt_M_check_2 8 rfl) ?_
      refine go_iald X lM_1 sM_1 (dk dt_M_check_2 9 rfl) h (fun h => ?_)
      refine go_goto (tgt := 74) X (dk dt_M_check_2 10 rfl) (by decide) ?_
      exact lkJ_M_check_74 hi xc nx X rt  hk37 h
set_option maxRecDepth 20000 in
theorem lkL_M_check_37 (hi : zInj wM v) (xc : XC wM v) (nx : NXM v) (X : Cx wM v p R s m args c 0 0 cX12_check 4 RX12 8) (rt : Rt wM v p l e R s m args below meth c 0 0 Q cX12_check false (some (.int res.1)) res.2)   (n : Nat) : ∀ {x1 : Int32} {x2 : Int32} {x3 : Int32} {σ : Hp},  L_M_check_37   n x1 x2 x3 σ = some res → Go wM v p l e R s m args below meth c 0 0 Q 4 37 [(0, .ref 0), (1, .int x1), (2, .int x2), (3, .int x3)] [] σ := by
  induction n with
  | zero => intro x1 x2 x3 σ  h; cases h
  | succ n ih =>
    intro x1 x2 x3 σ  h
    exact lkB_M_check_37 hi xc nx X rt  (fun _ _ _ _  hh => ih  hh) h
set_option maxRecDepth 20000 in
theorem lkF_M_check (hi : zInj wM v) (xc : XC wM v) (nx : NXM v) (X : Cx wM v p R s m args c 0 0 cX12_check 4 RX12 8) (rt : Rt wM v p l e R s m args below meth c 0 0 Q cX12_check false (some (.int res.1)) res.2) {a1 : Int32} {a2 : Int32} {σ : Hp}  (h : F_M_check  a1 a2 σ = some res) : Go wM v p l e R s m args below meth c 0 0 Q 4 0 [(0, .ref 0), (1, .int a1), (2, .int a2)] [] σ := by
  unfold F_M_check at h
  refine go_iload_n X 1 (dk dt_M_check_0 0 rfl) rfl rfl ?_
  refine go_iconst X (dk dt_M_check_0 1 rfl) ci_0 ?_
  refine go_iconst X (dk dt_M_check_0 2 rfl) ci_1 ?_
  refine go_Si (As := [.int a1, .int (0 : Int32), .int (1 : Int32)]) (rest := []) X so_X12_122 (fun q hq => ct_M_in hi xc nx  hq) (by decide) rfl rfl (Nat.le_of_ble_eq_true rfl) (dk dt_M_check_0 3 rfl) h (fun q3 h => ?_)
  refine go_if_eq (tgt := 27) X (dk dt_M_check_0 4 rfl) (by decide) h (fun h => ?_) (fun h => ?_)
  · refine go_bipush X (dk dt_M_check_0 14 rfl) cb_m2 ?_
    exact go_iret rt (dk dt_M_check_0 15 rfl) h (fun hh => nomatch hh)
  · refine go_iload_n X 2 (dk dt_M_check_0 5 rfl) rfl rfl ?_
    refine go_iconst X (dk dt_M_check_0 6 rfl) ci_0 ?_
    refine go_bipush X (dk dt_M_check_0 7 rfl) cb_8 ?_
    refine go_Si (As := [.int a2, .int (0 : Int32), .int (8 : Int32)]) (rest := []) X so_X12_122 (fun q hq => ct_M_in hi xc nx  hq) (by decide) rfl rfl (Nat.le_of_ble_eq_true rfl) (dk dt_M_check_0 8 rfl) h (fun q13 h => ?_)
    refine go_if_eq (tgt := 27) X (dk dt_M_check_0 9 rfl) (by decide) h (fun h => ?_) (fun h => ?_)
    · refine go_bipush X (dk dt_M_check_0 14 rfl) cb_m2 ?_
      exact go_iret rt (dk dt_M_check_0 15 rfl) h (fun hh => nomatch hh)
    · refine go_iload_n X 2 (dk dt_M_check_0 10 rfl) rfl rfl ?_
      refine go_aload_n X 0 (dk dt_M_check_0 11 rfl) rfl rfl ?_
      refine go_geti X fo_X12_147 lM_0 sM_0 fM_0_6 (dk dt_M_check_0 12 rfl) ?_
      refine go_icmp_le (tgt := 30) X (dk dt_M_check_0 13 rfl) (by decide) h (fun h => ?_) (fun h => ?_)
      · refine go_aload_n X 0 (dk dt_M_check_1 0 rfl) rfl rfl ?_
        refine go_iconst X (dk dt_M_check_1 1 rfl) ci_0 ?_
        refine go_puti X fo_X12_147 pf_12_6 lM_0 sM_0 fM_0_6 (dk dt_M_check_1 2 rfl) ?_
        refine go_iconst X (dk dt_M_check_1 3 rfl) ci_0 ?_
        refine go_istore_n (lv' := [(3, .int (0 : Int32)), (0, .ref 0), (1, .int a1), (2, .int a2)]) X (dk dt_M_check_1 4 rfl) rfl (by decide) rfl ?_
        refine go_sub [1, 2, 3, 0] rfl ?_
        exact lkL_M_check_37 hi xc nx X rt  FU  h
      · refine go_bipush X (dk dt_M_check_0 14 rfl) cb_m2 ?_
        exact go_iret rt (dk dt_M_check_0 15 rfl) h (fun hh => nomatch hh)
set_option maxRecDepth 20000 in
theorem ct_M_check (hi : zInj wM v) (xc : XC wM v) (nx : NXM v)  {a1 : Int32} {a2 : Int32} {σ : Hp}  {q : (Int32 × Hp)} (h : F_M_check  a1 a2 σ = some q) : Ct wM v l yX12_check cX12_check 4 (some .int) 8 [.ref 0, .int a1, .int a2] σ (some (.int q.1)) q.2 :=
  Ct.intro false (by decide) hi xc (Nat.le_of_ble_eq_true rfl) rfl (fun p e R s m args below meth c Q X rt => lkF_M_check hi xc nx X rt  h)
end
def T_M_waitTop_0 : DT := [(0, .aload_n 0, 1), (1, .getfield 185, 3), (4, .ifCond .ne 7, 3), (7, .iconst (-1), 1), (8, .goto 17, 3), (11, .aload_n 0, 1), (12, .getfield 32, 3), (15, .aload_n 0, 1), (16, .getfield 185, 3), (19, .iconst 1, 1), (20, .isub, 1), (21, .iaload, 1), (22, .ldc 181, 2), (24, .idiv, 1), (25, .ireturn, 1)]
theorem dt_M_waitTop_0 : dOk cX12_waitTop T_M_waitTop_0 := by unfold dOk; decide +kernel
section
variable {v : ZV} {l : Launch} {p : Program} {e : Env} {R : Room} {s : State} {m : MethodId} {args : Array Value} {below : List Frame} {meth : Method} {c : Code} {Q : State → Prop} {res : (Int32 × Hp)} 
set_option maxRecDepth 20000 in
theorem lkF_M_waitTop (hi : zInj wM v) (xc : XC wM v) (nx : NXM v) (X : Cx wM v p R s m args c 0 0 cX12_waitTop 1 RX12 2) (rt : Rt wM v p l e R s m args below meth c 0 0 Q cX12_waitTop false (some (.int res.1)) res.2)  {σ : Hp}  (h : F_M_waitTop   σ = some res) : Go wM v p l e R s m args below meth c 0 0 Q 1 0 [(0, .ref 0)] [] σ := by
  unfold F_M_waitTop at h
  refine go_aload_n X 0 (dk dt_M_waitTop_0 0 rfl) rfl rfl ?_
  refine go_geti X fo_X12_185 lM_0 sM_0 fM_0_13 (dk dt_M_waitTop_0 1 rfl) ?_
  refine go_if_ne (tgt := 11) X (dk dt_M_waitTop_0 2 rfl) (by decide) h (fun h => ?_) (fun h => ?_)
  · refine go_aload_n X 0 (dk dt_M_waitTop_0 5 rfl) rfl rfl ?_
    refine go_getr X fo_X12_32 lM_0 sM_0 fM_0_17 (dk dt_M_waitTop_0 6 rfl) ?_
    refine go_aload_n X 0 (dk dt_M_waitTop_0 7 rfl) rfl rfl ?_
    refine go_geti X fo_X12_185 lM_0 sM_0 fM_0_13 (dk dt_M_waitTop_0 8 rfl) ?_
    refine go_iconst X (dk dt_M_waitTop_0 9 rfl) ci_1 ?_
    refine go_isub X (dk dt_M_waitTop_0 10 rfl) ?_
    refine go_iald X lM_8 sM_8 (dk dt_M_waitTop_0 11 rfl) h (fun h => ?_)
    refine go_ldc X wd_1387 (dk dt_M_waitTop_0 12 rfl) ?_
    refine go_idivL X (dk dt_M_waitTop_0 13 rfl) (by decide) ?_
    exact go_iret rt (dk dt_M_waitTop_0 14 rfl) h (fun hh => nomatch hh)
  · refine go_iconst X (dk dt_M_waitTop_0 3 rfl) ci_m1 ?_
    refine go_goto (tgt := 25) X (dk dt_M_waitTop_0 4 rfl) (by decide) ?_
    exact go_iret rt (dk dt_M_waitTop_0 14 rfl) h (fun hh => nomatch hh)
set_option maxRecDepth 20000 in
theorem ct_M_waitTop (hi : zInj wM v) (xc : XC wM v) (nx : NXM v)   {σ : Hp}  {q : (Int32 × Hp)} (h : F_M_waitTop   σ = some q) : Ct wM v l yX12_waitTop cX12_waitTop 1 (some .int) 2 [.ref 0] σ (some (.int q.1)) q.2 :=
  Ct.intro false (by decide) hi xc (Nat.le_of_ble_eq_true rfl) rfl (fun p e R s m args below meth c Q X rt => lkF_M_waitTop hi xc nx X rt  h)
end
def T_M_notes_0 : DT := [(0, .aload_n 0, 1), (1, .getfield 29, 3), (4, .aload_n 0, 1), (5, .getfield 178, 3), (8, .ldc 181, 2), (10, .iload_n 1, 1), (11, .imul, 1), (12, .iload_n 2, 1), (13, .iadd, 1), (14, .iastore, 1), (15, .aload_n 0, 1), (16, .aload_n 0, 1), (17, .getfield 178, 3), (20, .iconst 1, 1), (21, .iadd, 1), (22, .putfield 178, 3)]
theorem dt_M_notes_0 : dOk cX12_notes T_M_notes_0 := by unfold dOk; decide +kernel
def T_M_notes_1 : DT := [(25, .return_, 1)]
theorem dt_M_notes_1 : dOk cX12_notes T_M_notes_1 := by unfold dOk; decide +kernel
section
variable {v : ZV} {l : Launch} {p : Program} {e : Env} {R : Room} {s : State} {m : MethodId} {args : Array Value} {below : List Frame} {meth : Method} {c : Code} {Q : State → Prop} {res : Hp} 
set_option maxRecDepth 20000 in
theorem lkF_M_notes (hi : zInj wM v) (xc : XC wM v) (nx : NXM v) (X : Cx wM v p R s m args c 0 0 cX12_notes 3 RX12 2) (rt : Rt wM v p l e R s m args below meth c 0 0 Q cX12_notes false none res) {a1 : Int32} {a2 : Int32} {σ : Hp}  (h : F_M_notes  a1 a2 σ = some res) : Go wM v p l e R s m args below meth c 0 0 Q 3 0 [(0, .ref 0), (1, .int a1), (2, .int a2)] [] σ := by
  unfold F_M_notes at h
  refine go_aload_n X 0 (dk dt_M_notes_0 0 rfl) rfl rfl ?_
  refine go_getr X fo_X12_29 lM_0 sM_0 fM_0_16 (dk dt_M_notes_0 1 rfl) ?_
  refine go_aload_n X 0 (dk dt_M_notes_0 2 rfl) rfl rfl ?_
  refine go_geti X fo_X12_178 lM_0 sM_0 fM_0_12 (dk dt_M_notes_0 3 rfl) ?_
  refine go_ldc X wd_1387 (dk dt_M_notes_0 4 rfl) ?_
  refine go_iload_n X 1 (dk dt_M_notes_0 5 rfl) rfl rfl ?_
  refine go_imul X (dk dt_M_notes_0 6 rfl) ?_
  refine go_iload_n X 2 (dk dt_M_notes_0 7 rfl) rfl rfl ?_
  refine go_iadd X (dk dt_M_notes_0 8 rfl) ?_
  refine go_iast X lM_7 sM_7 (dk dt_M_notes_0 9 rfl) h (fun h => ?_)
  refine go_aload_n X 0 (dk dt_M_notes_0 10 rfl) rfl rfl ?_
  refine go_aload_n X 0 (dk dt_M_notes_0 11 rfl) rfl rfl ?_
  refine go_geti X fo_X12_178 lM_0 sM_0 fM_0_12 (dk dt_M_notes_0 12 rfl) ?_
  refine go_iconst X (dk dt_M_notes_0 13 rfl) ci_1 ?_
  refine go_iadd X (dk dt_M_notes_0 14 rfl) ?_
  refine go_puti X fo_X12_178 pf_12_12 lM_0 sM_0 fM_0_12 (dk dt_M_notes_0 15 rfl) ?_
  exact go_vret rt (dk dt_M_notes_1 0 rfl) h
set_option maxRecDepth 20000 in
theorem ct_M_notes (hi : zInj wM v) (xc : XC wM v) (nx : NXM v)  {a1 : Int32} {a2 : Int32} {σ : Hp}  {q : Hp} (h : F_M_notes  a1 a2 σ = some q) : Ct wM v l yX12_notes cX12_notes 3 none 2 [.ref 0, .int a1, .int a2] σ none q :=
  Ct.intro false (by decide) hi xc (Nat.le_of_ble_eq_true rfl) rfl (fun p e R s m args below meth c Q X rt => lkF_M_notes hi xc nx X rt  h)
end
def T_M_closesSums_0 : DT := [(0, .aload_n 0, 1), (1, .invokevirtual 188, 3), (4, .iconst 4, 1), (5, .if_icmp .lt 12, 3), (8, .aload_n 0, 1), (9, .invokevirtual 188, 3), (12, .bipush 6, 2), (14, .if_icmp .le 23, 3), (17, .iload_n 1, 1), (18, .ifCond .eq 41, 3), (21, .aload_n 0, 1), (22, .invokevirtual 188, 3), (25, .iconst 2, 1), (26, .if_icmp .eq 11, 3), (29, .aload_n 0, 1), (30, .invokevirtual 188, 3)]
theorem dt_M_closesSums_0 : dOk cX12_closesSums T_M_closesSums_0 := by unfold dOk; decide +kernel
def T_M_closesSums_1 : DT := [(33, .iconst 3, 1), (34, .if_icmp .ne 25, 3), (37, .aload_n 0, 1), (38, .aload_n 0, 1), (39, .invokevirtual 188, 3), (42, .iconst 0, 1), (43, .invokevirtual 191, 3), (46, .aload_n 0, 1), (47, .aload_n 0, 1), (48, .getfield 185, 3), (51, .iconst 1, 1), (52, .isub, 1), (53, .putfield 185, 3), (56, .goto (-56), 3), (59, .return_, 1)]
theorem dt_M_closesSums_1 : dOk cX12_closesSums T_M_closesSums_1 := by unfold dOk; decide +kernel
section
variable {v : ZV} {l : Launch} {p : Program} {e : Env} {R : Room} {s : State} {m : MethodId} {args : Array Value} {below : List Frame} {meth : Method} {c : Code} {Q : State → Prop} {res : Hp} 
set_option maxRecDepth 20000 in
theorem lkJ_M_closesSums_37 (hi : zInj wM v) (xc : XC wM v) (nx : NXM v) (X : Cx wM v p R s m args c 0 0 cX12_closesSums 2 RX12 4) (rt : Rt wM v p l e R s m args below meth c 0 0 Q cX12_closesSums false none res) {k0 : Int32 → Hp → Option Hp} {x1 : Int32} {σ : Hp}  (hk0 : ∀ (x1 : Int32) (σ : Hp),  k0 x1 σ = some res → Go wM v p l e R s m args below meth c 0 0 Q 2 0 [(0, .ref 0), (1, .int x1)] [] σ) (h : J_M_closesSums_37  k0 x1 σ = some res) : Go wM v p l e R s m args below meth c 0 0 Q 2 37 [(0, .ref 0), (1, .int x1)] [] σ := by
  unfold J_M_closesSums_37 at h
  refine go_aload_n X 0 (dk dt_M_closesSums_1 2 rfl) rfl rfl ?_
  refine go_aload_n X 0 (dk dt_M_closesSums_1 3 rfl) rfl rfl ?_
  refine go_Vi (As := []) (rest := [.ref 0]) X vo_X12_188 (fun q hq => ct_M_waitTop hi xc nx  hq) (by decide) rfl lM_0 sM_0 rfl rfl (Nat.le_of_ble_eq_true rfl) (dk dt_M_closesSums_1 4 rfl) h (fun q39 h => ?_)
  refine go_iconst X (dk dt_M_closesSums_1 5 rfl) ci_0 ?_
  refine go_Vv (As := [.int q39.1, .int (0 : Int32)]) (rest := []) X vo_X12_191 (fun q hq => ct_M_notes hi xc nx  hq) (by decide) rfl lM_0 sM_0 rfl rfl (Nat.le_of_ble_eq_true rfl) (dk dt_M_closesSums_1 6 rfl) h (fun q43 h => ?_)
  refine go_aload_n X 0 (dk dt_M_closesSums_1 7 rfl) rfl rfl ?_
  refine go_aload_n X 0 (dk dt_M_closesSums_1 8 rfl) rfl rfl ?_
  refine go_geti X fo_X12_185 lM_0 sM_0 fM_0_13 (dk dt_M_closesSums_1 9 rfl) ?_
  refine go_iconst X (dk dt_M_closesSums_1 10 rfl) ci_1 ?_
  refine go_isub X (dk dt_M_closesSums_1 11 rfl) ?_
  refine go_puti X fo_X12_185 pf_12_13 lM_0 sM_0 fM_0_13 (dk dt_M_closesSums_1 12 rfl) ?_
  refine go_goto (tgt := 0) X (dk dt_M_closesSums_1 13 rfl) (by decide) ?_
  exact hk0 _ _  h
set_option maxRecDepth 20000 in
theorem lkJ_M_closesSums_17 (hi : zInj wM v) (xc : XC wM v) (nx : NXM v) (X : Cx wM v p R s m args c 0 0 cX12_closesSums 2 RX12 4) (rt : Rt wM v p l e R s m args below meth c 0 0 Q cX12_closesSums false none res) {k0 : Int32 → Hp → Option Hp} {x1 : Int32} {σ : Hp}  (hk0 : ∀ (x1 : Int32) (σ : Hp),  k0 x1 σ = some res → Go wM v p l e R s m args below meth c 0 0 Q 2 0 [(0, .ref 0), (1, .int x1)] [] σ) (h : J_M_closesSums_17  k0 x1 σ = some res) : Go wM v p l e R s m args below meth c 0 0 Q 2 17 [(0, .ref 0), (1, .int x1)] [] σ := by
  unfold J_M_closesSums_17 at h
  refine go_iload_n X 1 (dk dt_M_closesSums_0 8 rfl) rfl rfl ?_
  refine go_if_eq (tgt := 59) X (dk dt_M_closesSums_0 9 rfl) (by decide) h (fun h => ?_) (fun h => ?_)
  · exact go_vret rt (dk dt_M_closesSums_1 14 rfl) h
  · refine go_aload_n X 0 (dk dt_M_closesSums_0 10 rfl) rfl rfl ?_
    refine go_Vi (As := []) (rest := []) X vo_X12_188 (fun q hq => ct_M_waitTop hi xc nx  hq) (by decide) rfl lM_0 sM_0 rfl rfl (Nat.le_of_ble_eq_true rfl) (dk dt_M_closesSums_0 11 rfl) h (fun q22 h => ?_)
    refine go_iconst X (dk dt_M_closesSums_0 12 rfl) ci_2 ?_
    refine go_icmp_eq (tgt := 37) X (dk dt_M_closesSums_0 13 rfl) (by decide) h (fun h => ?_) (fun h => ?_)
    · exact lkJ_M_closesSums_37 hi xc nx X rt  hk0 h
    · refine go_aload_n X 0 (dk dt_M_closesSums_0 14 rfl) rfl rfl ?_
      refine go_Vi (As := []) (rest := []) X vo_X12_188 (fun q hq => ct_M_waitTop hi xc nx  hq) (by decide) rfl lM_0 sM_0 rfl rfl (Nat.le_of_ble_eq_true rfl) (dk dt_M_closesSums_0 15 rfl) h (fun q30 h => ?_)
      refine go_iconst X (dk dt_M_closesSums_1 0 rfl) ci_3 ?_
      refine go_icmp_ne (tgt := 59) X (dk dt_M_closesSums_1 1 rfl) (by decide) h (fun h => ?_) (fun h => ?_)
      · exact go_vret rt (dk dt_M_closesSums_1 14 rfl) h
      · exact lkJ_M_closesSums_37 hi xc nx X rt  hk0 h
set_option maxRecDepth 20000 in
theorem lkB_M_closesSums_0 (hi : zInj wM v) (xc : XC wM v) (nx : NXM v) (X : Cx wM v p R s m args c 0 0 cX12_closesSums 2 RX12 4) (rt : Rt wM v p l e R s m args below meth c 0 0 Q cX12_closesSums false none res) {k0 : Int32 → Hp → Option Hp} {x1 : Int32} {σ : Hp}  (hk0 : ∀ (x1 : Int32) (σ : Hp),  k0 x1 σ = some res → Go wM v p l e R s m args below meth c 0 0 Q 2 0 [(0, .ref 0), (1, .int x1)] [] σ) (h : B_M_closesSums_0  k0 x1 σ = some res) : Go wM v p l e R s m args below meth c 0 0 Q 2 0 [(0, .ref 0), (1, .int x1)] [] σ := by
  unfold B_M_closesSums_0 at h
  refine go_aload_n X 0 (dk dt_M_closesSums_0 0 rfl) rfl rfl ?_
  refine go_Vi (As := []) (rest := []) X vo_X12_188 (fun q hq => ct_M_waitTop hi xc nx  hq) (by decide) rfl lM_0 sM_0 rfl rfl (Nat.le_of_ble_eq_true rfl) (dk dt_M_closesSums_0 1 rfl) h (fun q1 h => ?_)
  refine go_iconst X (dk dt_M_closesSums_0 2 rfl) ci_4 ?_
  refine go_icmp_lt (tgt := 17) X (dk dt_M_closesSums_0 3 rfl) (by decide) h (fun h => ?_) (fun h => ?_)
  · exact lkJ_M_closesSums_17 hi xc nx X rt  hk0 h
  · refine go_aload_n X 0 (dk dt_M_closesSums_0 4 rfl) rfl rfl ?_
    refine go_Vi (As := []) (rest := []) X vo_X12_188 (fun q hq => ct_M_waitTop hi xc nx  hq) (by decide) rfl lM_0 sM_0 rfl rfl (Nat.le_of_ble_eq_true rfl) (dk dt_M_closesSums_0 5 rfl) h (fun q9 h => ?_)
    refine go_bipush X (dk dt_M_closesSums_0 6 rfl) cb_6 ?_
    refine go_icmp_le (tgt := 37) X (dk dt_M_closesSums_0 7 rfl) (by decide) h (fun h => ?_) (fun h => ?_)
    · exact lkJ_M_closesSums_37 hi xc nx X rt  hk0 h
    · exact lkJ_M_closesSums_17 hi xc nx X rt  hk0 h
set_option maxRecDepth 20000 in
theorem lkL_M_closesSums_0 (hi : zInj wM v) (xc : XC wM v) (nx : NXM v) (X : Cx wM v p R s m args c 0 0 cX12_closesSums 2 RX12 4) (rt : Rt wM v p l e R s m args below meth c 0 0 Q cX12_closesSums false none res)   (n : Nat) : ∀ {x1 : Int32} {σ : Hp},  L_M_closesSums_0   n x1 σ = some res → Go wM v p l e R s m args below meth c 0 0 Q 2 0 [(0, .ref 0), (1, .int x1)] [] σ := by
  induction n with
  | zero => intro x1 σ  h; cases h
  | succ n ih =>
    intro x1 σ  h
    exact lkB_M_closesSums_0 hi xc nx X rt  (fun _ _  hh => ih  hh) h
set_option maxRecDepth 20000 in
theorem lkF_M_closesSums (hi : zInj wM v) (xc : XC wM v) (nx : NXM v) (X : Cx wM v p R s m args c 0 0 cX12_closesSums 2 RX12 4) (rt : Rt wM v p l e R s m args below meth c 0 0 Q cX12_closesSums false none res) {a1 : Int32} {σ : Hp}  (h : F_M_closesSums  a1 σ = some res) : Go wM v p l e R s m args below meth c 0 0 Q 2 0 [(0, .ref 0), (1, .int a1)] [] σ := by
  unfold F_M_closesSums at h
  exact lkL_M_closesSums_0 hi xc nx X rt  FU  h
set_option maxRecDepth 20000 in
theorem ct_M_closesSums (hi : zInj wM v) (xc : XC wM v) (nx : NXM v)  {a1 : Int32} {σ : Hp}  {q : Hp} (h : F_M_closesSums  a1 σ = some q) : Ct wM v l yX12_closesSums cX12_closesSums 2 none 4 [.ref 0, .int a1] σ none q :=
  Ct.intro false (by decide) hi xc (Nat.le_of_ble_eq_true rfl) rfl (fun p e R s m args below meth c Q X rt => lkF_M_closesSums hi xc nx X rt  h)
end
def T_M_column_0 : DT := [(0, .iload_n 1, 1), (1, .iconst 0, 1), (2, .bipush 23, 2), (4, .invokestatic 122, 3), (7, .ifCond .eq 14, 3), (10, .iload_n 2, 1), (11, .iconst 0, 1), (12, .sipush 199, 3), (15, .invokestatic 122, 3), (18, .ifCond .ne 5, 3), (21, .iconst 0, 1), (22, .ireturn, 1), (23, .aload_n 0, 1), (24, .getfield 22, 3), (27, .iload_n 1, 1), (28, .iload_n 2, 1)]
theorem dt_M_column_0 : dOk cX12_column T_M_column_0 := by unfold dOk; decide +kernel
def T_M_column_1 : DT := [(29, .iastore, 1), (30, .iconst 1, 1), (31, .ireturn, 1)]
theorem dt_M_column_1 : dOk cX12_column T_M_column_1 := by unfold dOk; decide +kernel
section
variable {v : ZV} {l : Launch} {p : Program} {e : Env} {R : Room} {s : State} {m : MethodId} {args : Array Value} {below : List Frame} {meth : Method} {c : Code} {Q : State → Prop} {res : (Int32 × Hp)} 
set_option maxRecDepth 20000 in
theorem lkF_M_column (hi : zInj wM v) (xc : XC wM v) (nx : NXM v) (X : Cx wM v p R s m args c 0 0 cX12_column 3 RX12 4) (rt : Rt wM v p l e R s m args below meth c 0 0 Q cX12_column true (some (.int res.1)) res.2) {a1 : Int32} {a2 : Int32} {σ : Hp}  (h : F_M_column  a1 a2 σ = some res) : Go wM v p l e R s m args below meth c 0 0 Q 3 0 [(0, .ref 0), (1, .int a1), (2, .int a2)] [] σ := by
  unfold F_M_column at h
  refine go_iload_n X 1 (dk dt_M_column_0 0 rfl) rfl rfl ?_
  refine go_iconst X (dk dt_M_column_0 1 rfl) ci_0 ?_
  refine go_bipush X (dk dt_M_column_0 2 rfl) cb_23 ?_
  refine go_Si (As := [.int a1, .int (0 : Int32), .int (23 : Int32)]) (rest := []) X so_X12_122 (fun q hq => ct_M_in hi xc nx  hq) (by decide) rfl rfl (Nat.le_of_ble_eq_true rfl) (dk dt_M_column_0 3 rfl) h (fun q4 h => ?_)
  refine go_if_eq (tgt := 21) X (dk dt_M_column_0 4 rfl) (by decide) h (fun h => ?_) (fun h => ?_)
  · refine go_iconst X (dk dt_M_column_0 10 rfl) ci_0 ?_
    exact go_iret rt (dk dt_M_column_0 11 rfl) h (by decide)
  · refine go_iload_n X 2 (dk dt_M_column_0 5 rfl) rfl rfl ?_
    refine go_iconst X (dk dt_M_column_0 6 rfl) ci_0 ?_
    refine go_sipush X (dk dt_M_column_0 7 rfl) cs_199 ?_
    refine go_Si (As := [.int a2, .int (0 : Int32), .int (199 : Int32)]) (rest := []) X so_X12_122 (fun q hq => ct_M_in hi xc nx  hq) (by decide) rfl rfl (Nat.le_of_ble_eq_true rfl) (dk dt_M_column_0 8 rfl) h (fun q15 h => ?_)
    refine go_if_ne (tgt := 23) X (dk dt_M_column_0 9 rfl) (by decide) h (fun h => ?_) (fun h => ?_)
    · refine go_aload_n X 0 (dk dt_M_column_0 12 rfl) rfl rfl ?_
      refine go_getr X fo_X12_22 lM_0 sM_0 fM_0_4 (dk dt_M_column_0 13 rfl) ?_
      refine go_iload_n X 1 (dk dt_M_column_0 14 rfl) rfl rfl ?_
      refine go_iload_n X 2 (dk dt_M_column_0 15 rfl) rfl rfl ?_
      refine go_iast X lM_5 sM_5 (dk dt_M_column_1 0 rfl) h (fun h => ?_)
      refine go_iconst X (dk dt_M_column_1 1 rfl) ci_1 ?_
      exact go_iret rt (dk dt_M_column_1 2 rfl) h (by decide)
    · refine go_iconst X (dk dt_M_column_0 10 rfl) ci_0 ?_
      exact go_iret rt (dk dt_M_column_0 11 rfl) h (by decide)
set_option maxRecDepth 20000 in
theorem ct_M_column (hi : zInj wM v) (xc : XC wM v) (nx : NXM v)  {a1 : Int32} {a2 : Int32} {σ : Hp}  {q : (Int32 × Hp)} (h : F_M_column  a1 a2 σ = some q) : Ct wM v l yX12_column cX12_column 3 (some .boolean) 4 [.ref 0, .int a1, .int a2] σ (some (.int q.1)) q.2 :=
  Ct.intro true (by decide) hi xc (Nat.le_of_ble_eq_true rfl) rfl (fun p e R s m args below meth c Q X rt => lkF_M_column hi xc nx X rt  h)
end
def T_M_comesOut_0 : DT := [(0, .aload_n 0, 1), (1, .getfield 7, 3), (4, .bipush 80, 2), (6, .iload_n 1, 1), (7, .iadd, 1), (8, .iaload, 1), (9, .iconst 2, 1), (10, .if_icmp .ne 13, 3), (13, .aload_n 0, 1), (14, .getfield 7, 3), (17, .bipush 32, 2), (19, .iload_n 1, 1), (20, .iadd, 1), (21, .iconst 0, 1), (22, .iastore, 1), (23, .aload_n 0, 1)]
theorem dt_M_comesOut_0 : dOk cX12_comesOut T_M_comesOut_0 := by unfold dOk; decide +kernel
def T_M_comesOut_1 : DT := [(24, .getfield 7, 3), (27, .bipush 80, 2), (29, .iload_n 1, 1), (30, .iadd, 1), (31, .iconst 0, 1), (32, .iastore, 1), (33, .return_, 1)]
theorem dt_M_comesOut_1 : dOk cX12_comesOut T_M_comesOut_1 := by unfold dOk; decide +kernel
section
variable {v : ZV} {l : Launch} {p : Program} {e : Env} {R : Room} {s : State} {m : MethodId} {args : Array Value} {below : List Frame} {meth : Method} {c : Code} {Q : State → Prop} {res : Hp} 
set_option maxRecDepth 20000 in
theorem lkJ_M_comesOut_23 (hi : zInj wM v) (xc : XC wM v) (nx : NXM v) (X : Cx wM v p R s m args c 0 0 cX12_comesOut 2 RX12 2) (rt : Rt wM v p l e R s m args below meth c 0 0 Q cX12_comesOut false none res)  {x1 : Int32} {σ : Hp}   (h : J_M_comesOut_23   x1 σ = some res) : Go wM v p l e R s m args below meth c 0 0 Q 2 23 [(0, .ref 0), (1, .int x1)] [] σ := by
  unfold J_M_comesOut_23 at h
  refine go_aload_n X 0 (dk dt_M_comesOut_0 15 rfl) rfl rfl ?_
  refine go_getr X fo_X12_7 lM_0 sM_0 fM_0_0 (dk dt_M_comesOut_1 0 rfl) ?_
  refine go_bipush X (dk dt_M_comesOut_1 1 rfl) cb_80 ?_
  refine go_iload_n X 1 (dk dt_M_comesOut_1 2 rfl) rfl rfl ?_
  refine go_iadd X (dk dt_M_comesOut_1 3 rfl) ?_
  refine go_iconst X (dk dt_M_comesOut_1 4 rfl) ci_0 ?_
  refine go_iast X lM_1 sM_1 (dk dt_M_comesOut_1 5 rfl) h (fun h => ?_)
  exact go_vret rt (dk dt_M_comesOut_1 6 rfl) h
set_option maxRecDepth 20000 in
theorem lkF_M_comesOut (hi : zInj wM v) (xc : XC wM v) (nx : NXM v) (X : Cx wM v p R s m args c 0 0 cX12_comesOut 2 RX12 2) (rt : Rt wM v p l e R s m args below meth c 0 0 Q cX12_comesOut false none res) {a1 : Int32} {σ : Hp}  (h : F_M_comesOut  a1 σ = some res) : Go wM v p l e R s m args below meth c 0 0 Q 2 0 [(0, .ref 0), (1, .int a1)] [] σ := by
  unfold F_M_comesOut at h
  refine go_aload_n X 0 (dk dt_M_comesOut_0 0 rfl) rfl rfl ?_
  refine go_getr X fo_X12_7 lM_0 sM_0 fM_0_0 (dk dt_M_comesOut_0 1 rfl) ?_
  refine go_bipush X (dk dt_M_comesOut_0 2 rfl) cb_80 ?_
  refine go_iload_n X 1 (dk dt_M_comesOut_0 3 rfl) rfl rfl ?_
  refine go_iadd X (dk dt_M_comesOut_0 4 rfl) ?_
  refine go_iald X lM_1 sM_1 (dk dt_M_comesOut_0 5 rfl) h (fun h => ?_)
  refine go_iconst X (dk dt_M_comesOut_0 6 rfl) ci_2 ?_
  refine go_icmp_ne (tgt := 23) X (dk dt_M_comesOut_0 7 rfl) (by decide) h (fun h => ?_) (fun h => ?_)
  · exact lkJ_M_comesOut_23 hi xc nx X rt   h
  · refine go_aload_n X 0 (dk dt_M_comesOut_0 8 rfl) rfl rfl ?_
    refine go_getr X fo_X12_7 lM_0 sM_0 fM_0_0 (dk dt_M_comesOut_0 9 rfl) ?_
    refine go_bipush X (dk dt_M_comesOut_0 10 rfl) cb_32 ?_
    refine go_iload_n X 1 (dk dt_M_comesOut_0 11 rfl) rfl rfl ?_
    refine go_iadd X (dk dt_M_comesOut_0 12 rfl) ?_
    refine go_iconst X (dk dt_M_comesOut_0 13 rfl) ci_0 ?_
    refine go_iast X lM_1 sM_1 (dk dt_M_comesOut_0 14 rfl) h (fun h => ?_)
    exact lkJ_M_comesOut_23 hi xc nx X rt   h
set_option maxRecDepth 20000 in
theorem ct_M_comesOut (hi : zInj wM v) (xc : XC wM v) (nx : NXM v)  {a1 : Int32} {σ : Hp}  {q : Hp} (h : F_M_comesOut  a1 σ = some q) : Ct wM v l yX12_comesOut cX12_comesOut 2 none 2 [.ref 0, .int a1] σ none q :=
  Ct.intro false (by decide) hi xc (Nat.le_of_ble_eq_true rfl) rfl (fun p e R s m args below meth c Q X rt => lkF_M_comesOut hi xc nx X rt  h)
end
def T_M_copies_0 : DT := [(0, .iconst 0, 1), (1, .istore_n 2, 1), (2, .iload_n 2, 1), (3, .bipush 100, 2), (5, .if_icmp .ge 15, 3), (8, .aload_n 1, 1), (9, .iload_n 2, 1), (10, .aload_n 0, 1), (11, .iload_n 2, 1), (12, .iaload, 1), (13, .iastore, 1), (14, .iinc 2 1, 3), (17, .goto (-15), 3), (20, .return_, 1)]
theorem dt_M_copies_0 : dOk cX12_copies T_M_copies_0 := by unfold dOk; decide +kernel
section
variable {v : ZV} {l : Launch} {p : Program} {e : Env} {R : Room} {s : State} {m : MethodId} {args : Array Value} {below : List Frame} {meth : Method} {c : Code} {Q : State → Prop} {res : Hp} 
set_option maxRecDepth 20000 in
theorem lkB_M_copies_2 (hi : zInj wM v) (xc : XC wM v) (nx : NXM v) (X : Cx wM v p R s m args c 0 0 cX12_copies 3 RX12 2) (rt : Rt wM v p l e R s m args below meth c 0 0 Q cX12_copies false none res) {k2 : Nat → Nat → Nat → Nat → Int32 → Hp → Option Hp} {r0 : Nat} {r0n : Nat} {r1 : Nat} {r1n : Nat} {x2 : Int32} {σ : Hp} (hr0 : r0 < wM.1) (hr0n : wM.2.1 r0 = (0, r0n)) (hr1 : r1 < wM.1) (hr1n : wM.2.1 r1 = (0, r1n)) (hk2 : ∀ (r0 : Nat) (r0n : Nat) (r1 : Nat) (r1n : Nat) (x2 : Int32) (σ : Hp), (hr0 : r0 < wM.1) → (hr0n : wM.2.1 r0 = (0, r0n)) → (hr1 : r1 < wM.1) → (hr1n : wM.2.1 r1 = (0, r1n)) → k2 r0 r0n r1 r1n x2 σ = some res → Go wM v p l e R s m args below meth c 0 0 Q 3 2 [(0, .ref r0), (1, .ref r1), (2, .int x2)] [] σ) (h : B_M_copies_2  k2 r0 r0n r1 r1n x2 σ = some res) : Go wM v p l e R s m args below meth c 0 0 Q 3 2 [(0, .ref r0), (1, .ref r1), (2, .int x2)] [] σ := by
  unfold B_M_copies_2 at h
  refine go_iload_n X 2 (dk dt_M_copies_0 2 rfl) rfl rfl ?_
  refine go_bipush X (dk dt_M_copies_0 3 rfl) cb_100 ?_
  refine go_icmp_ge (tgt := 20) X (dk dt_M_copies_0 4 rfl) (by decide) h (fun h => ?_) (fun h => ?_)
  · exact go_vret rt (dk dt_M_copies_0 13 rfl) h
  · refine go_aload_n X 1 (dk dt_M_copies_0 5 rfl) rfl rfl ?_
    refine go_iload_n X 2 (dk dt_M_copies_0 6 rfl) rfl rfl ?_
    refine go_aload_n X 0 (dk dt_M_copies_0 7 rfl) rfl rfl ?_
    refine go_iload_n X 2 (dk dt_M_copies_0 8 rfl) rfl rfl ?_
    refine go_iald X hr0 hr0n (dk dt_M_copies_0 9 rfl) h (fun h => ?_)
    refine go_iast X hr1 hr1n (dk dt_M_copies_0 10 rfl) h (fun h => ?_)
    refine go_iinc (lv' := [(2, .int (x2 + (1 : Int32))), (0, .ref r0), (1, .ref r1)]) X 2 (dk dt_M_copies_0 11 rfl) rfl ci_1 (by decide) rfl ?_
    refine go_goto (tgt := 2) X (dk dt_M_copies_0 12 rfl) (by decide) ?_
    refine go_sub [1, 2, 0] rfl ?_
    exact hk2 _ _ _ _ _ _ hr0 hr0n hr1 hr1n h
set_option maxRecDepth 20000 in
theorem lkL_M_copies_2 (hi : zInj wM v) (xc : XC wM v) (nx : NXM v) (X : Cx wM v p R s m args c 0 0 cX12_copies 3 RX12 2) (rt : Rt wM v p l e R s m args below meth c 0 0 Q cX12_copies false none res)   (n : Nat) : ∀ {r0 : Nat} {r0n : Nat} {r1 : Nat} {r1n : Nat} {x2 : Int32} {σ : Hp}, (hr0 : r0 < wM.1) → (hr0n : wM.2.1 r0 = (0, r0n)) → (hr1 : r1 < wM.1) → (hr1n : wM.2.1 r1 = (0, r1n)) → L_M_copies_2   n r0 r0n r1 r1n x2 σ = some res → Go wM v p l e R s m args below meth c 0 0 Q 3 2 [(0, .ref r0), (1, .ref r1), (2, .int x2)] [] σ := by
  induction n with
  | zero => intro r0 r0n r1 r1n x2 σ hr0 hr0n hr1 hr1n h; cases h
  | succ n ih =>
    intro r0 r0n r1 r1n x2 σ hr0 hr0n hr1 hr1n h
    exact lkB_M_copies_2 hi xc nx X rt hr0 hr0n hr1 hr1n (fun _ _ _ _ _ _ hq0 hq1 hq2 hq3 hh => ih hq0 hq1 hq2 hq3 hh) h
set_option maxRecDepth 20000 in
theorem lkF_M_copies (hi : zInj wM v) (xc : XC wM v) (nx : NXM v) (X : Cx wM v p R s m args c 0 0 cX12_copies 3 RX12 2) (rt : Rt wM v p l e R s m args below meth c 0 0 Q cX12_copies false none res) {a0 : Nat} {a0n : Nat} {a1 : Nat} {a1n : Nat} {σ : Hp} (ha0 : a0 < wM.1) (ha0n : wM.2.1 a0 = (0, a0n)) (ha1 : a1 < wM.1) (ha1n : wM.2.1 a1 = (0, a1n)) (h : F_M_copies  a0 a0n a1 a1n σ = some res) : Go wM v p l e R s m args below meth c 0 0 Q 3 0 [(0, .ref a0), (1, .ref a1)] [] σ := by
  unfold F_M_copies at h
  refine go_iconst X (dk dt_M_copies_0 0 rfl) ci_0 ?_
  refine go_istore_n (lv' := [(2, .int (0 : Int32)), (0, .ref a0), (1, .ref a1)]) X (dk dt_M_copies_0 1 rfl) rfl (by decide) rfl ?_
  refine go_sub [1, 2, 0] rfl ?_
  exact lkL_M_copies_2 hi xc nx X rt  FU ha0 ha0n ha1 ha1n h
set_option maxRecDepth 20000 in
theorem ct_M_copies (hi : zInj wM v) (xc : XC wM v) (nx : NXM v)  {a0 : Nat} {a0n : Nat} {a1 : Nat} {a1n : Nat} {σ : Hp} (ha0 : a0 < wM.1) (ha0n : wM.2.1 a0 = (0, a0n)) (ha1 : a1 < wM.1) (ha1n : wM.2.1 a1 = (0, a1n)) {q : Hp} (h : F_M_copies  a0 a0n a1 a1n σ = some q) : Ct wM v l yX12_copies cX12_copies 3 none 2 [.ref a0, .ref a1] σ none q :=
  Ct.intro false (by decide) hi xc (Nat.le_of_ble_eq_true rfl) rfl (fun p e R s m args below meth c Q X rt => lkF_M_copies hi xc nx X rt ha0 ha0n ha1 ha1n h)
end
