def T_M_orders_0 : DT := [(0, .iload_n 1, 1), (1, .iconst 1, 1), (2, .bipush 120, 2), (4, .invokestatic 122, 3), (7, .ifCond .eq 11, 3), (10, .iload_n 1, 1), (11, .aload_n 0, 1), (12, .getfield 147, 3), (15, .if_icmp .le 5, 3), (18, .iconst (-1), 1), (19, .ireturn, 1), (20, .aload_n 0, 1), (21, .iload_n 1, 1), (22, .invokevirtual 239, 3), (25, .aload_n 0, 1), (26, .iconst 0, 1)]
theorem dt_M_orders_0 : dOk cX12_orders T_M_orders_0 := by unfold dOk; decide +kernel
def T_M_orders_1 : DT := [(27, .putfield 282, 3), (30, .aload_n 0, 1), (31, .getfield 7, 3), (34, .aload_n 0, 1), (35, .getfield 13, 3), (38, .invokestatic 291, 3), (41, .aload_n 0, 1), (42, .invokevirtual 295, 3), (45, .istore_n 2, 1), (46, .iload_n 2, 1), (47, .ifCond .eq 39, 3), (50, .aload_n 0, 1), (51, .getfield 155, 3), (54, .aload_n 0, 1), (55, .getfield 158, 3), (58, .if_icmp .ge 28, 3)]
theorem dt_M_orders_1 : dOk cX12_orders T_M_orders_1 := by unfold dOk; decide +kernel
def T_M_orders_2 : DT := [(61, .aload_n 0, 1), (62, .bipush 59, 2), (64, .invokevirtual 245, 3), (67, .ifCond .eq 14, 3), (70, .aload_n 0, 1), (71, .invokevirtual 295, 3), (74, .ifCond .eq 7, 3), (77, .iconst 1, 1), (78, .goto 4, 3), (81, .iconst 0, 1), (82, .istore_n 2, 1), (83, .goto (-37), 3), (86, .aload_n 0, 1), (87, .iconst 0, 1), (88, .putfield 147, 3), (91, .iload_n 2, 1)]
theorem dt_M_orders_2 : dOk cX12_orders T_M_orders_2 := by unfold dOk; decide +kernel
def T_M_orders_3 : DT := [(92, .ifCond .eq 8, 3), (95, .aload_n 0, 1), (96, .getfield 282, 3), (99, .ireturn, 1), (100, .aload_n 0, 1), (101, .getfield 13, 3), (104, .aload_n 0, 1), (105, .getfield 7, 3), (108, .invokestatic 291, 3), (111, .aload_n 0, 1), (112, .getfield 165, 3), (115, .ireturn, 1)]
theorem dt_M_orders_3 : dOk cX12_orders T_M_orders_3 := by unfold dOk; decide +kernel
section
variable {v : ZV} {l : Launch} {p : Program} {e : Env} {R : Room} {s : State} {m : MethodId} {args : Array Value} {below : List Frame} {meth : Method} {c : Code} {Q : State → Prop} {res : (Int32 × Hp)} 
set_option maxRecDepth 20000 in
theorem lkB_M_orders_46 (hi : zInj wM v) (xc : XC wM v) (nx : NXM v) (X : Cx wM v p R s m args c 0 0 cX12_orders 3 RX12 12) (rt : Rt wM v p l e R s m args below meth c 0 0 Q cX12_orders false (some (.int res.1)) res.2) {k86 : Int32 → Hp → Option (Int32 × Hp)} {k46 : Int32 → Hp → Option (Int32 × Hp)} {x2 : Int32} {σ : Hp}  (hk86 : ∀ (x2 : Int32) (σ : Hp),  k86 x2 σ = some res → Go wM v p l e R s m args below meth c 0 0 Q 3 86 [(0, .ref 0), (2, .int x2)] [] σ) (hk46 : ∀ (x2 : Int32) (σ : Hp),  k46 x2 σ = some res → Go wM v p l e R s m args below meth c 0 0 Q 3 46 [(0, .ref 0), (2, .int x2)] [] σ) (h : B_M_orders_46  k86 k46 x2 σ = some res) : Go wM v p l e R s m args below meth c 0 0 Q 3 46 [(0, .ref 0), (2, .int x2)] [] σ := by
  unfold B_M_orders_46 at h
  refine go_iload_n X 1 (dk dt_M_orders_1 9 rfl) rfl rfl ?_
  refine go_if_eq (tgt := 86) X (dk dt_M_orders_1 10 rfl) (by decide) h (fun h => ?_) (fun h => ?_)
  · exact hk86 _ _  h
  · refine go_aload_n X 0 (dk dt_M_orders_1 11 rfl) rfl rfl ?_
    refine go_geti X fo_X12_155 lM_0 sM_0 fM_0_7 (dk dt_M_orders_1 12 rfl) ?_
    refine go_aload_n X 0 (dk dt_M_orders_1 13 rfl) rfl rfl ?_
    refine go_geti X fo_X12_158 lM_0 sM_0 fM_0_8 (dk dt_M_orders_1 14 rfl) ?_
    refine go_icmp_ge (tgt := 86) X (dk dt_M_orders_1 15 rfl) (by decide) h (fun h => ?_) (fun h => ?_)
    · exact hk86 _ _  h
    · refine go_aload_n X 0 (dk dt_M_orders_2 0 rfl) rfl rfl ?_
      refine go_bipush X (dk dt_M_orders_2 1 rfl) cb_59 ?_
      refine go_Vi (As := [.int (59 : Int32)]) (rest := []) X vo_X12_245 (fun q hq => ct_M_takes hi xc nx  hq) (by decide) rfl lM_0 sM_0 rfl rfl (Nat.le_of_ble_eq_true rfl) (dk dt_M_orders_2 2 rfl) h (fun q64 h => ?_)
      refine go_if_eq (tgt := 81) X (dk dt_M_orders_2 3 rfl) (by decide) h (fun h => ?_) (fun h => ?_)
      · refine go_iconst X (dk dt_M_orders_2 9 rfl) ci_0 ?_
        refine go_istore_n (lv' := [(2, .int (0 : Int32)), (0, .ref 0)]) X (dk dt_M_orders_2 10 rfl) rfl (by decide) rfl ?_
        refine go_goto (tgt := 46) X (dk dt_M_orders_2 11 rfl) (by decide) ?_
        refine go_sub [1, 0] rfl ?_
        exact hk46 _ _  h
      · refine go_aload_n X 0 (dk dt_M_orders_2 4 rfl) rfl rfl ?_
        refine go_Vi (As := []) (rest := []) X vo_X12_295 (fun q hq => ct_M_readsLine hi xc nx  hq) (by decide) rfl lM_0 sM_0 rfl rfl (Nat.le_of_ble_eq_true rfl) (dk dt_M_orders_2 5 rfl) h (fun q71 h => ?_)
        refine go_if_eq (tgt := 81) X (dk dt_M_orders_2 6 rfl) (by decide) h (fun h => ?_) (fun h => ?_)
        · refine go_iconst X (dk dt_M_orders_2 9 rfl) ci_0 ?_
          refine go_istore_n (lv' := [(2, .int (0 : Int32)), (0, .ref 0)]) X (dk dt_M_orders_2 10 rfl) rfl (by decide) rfl ?_
          refine go_goto (tgt := 46) X (dk dt_M_orders_2 11 rfl) (by decide) ?_
          refine go_sub [1, 0] rfl ?_
          exact hk46 _ _  h
        · refine go_iconst X (dk dt_M_orders_2 7 rfl) ci_1 ?_
          refine go_goto (tgt := 82) X (dk dt_M_orders_2 8 rfl) (by decide) ?_
          refine go_istore_n (lv' := [(2, .int (1 : Int32)), (0, .ref 0)]) X (dk dt_M_orders_2 10 rfl) rfl (by decide) rfl ?_
          refine go_goto (tgt := 46) X (dk dt_M_orders_2 11 rfl) (by decide) ?_
          refine go_sub [1, 0] rfl ?_
          exact hk46 _ _  h
set_option maxRecDepth 20000 in
theorem lkL_M_orders_46 (hi : zInj wM v) (xc : XC wM v) (nx : NXM v) (X : Cx wM v p R s m args c 0 0 cX12_orders 3 RX12 12) (rt : Rt wM v p l e R s m args below meth c 0 0 Q cX12_orders false (some (.int res.1)) res.2) {k86 : Int32 → Hp → Option (Int32 × Hp)} (hk86 : ∀ (x2 : Int32) (σ : Hp),  k86 x2 σ = some res → Go wM v p l e R s m args below meth c 0 0 Q 3 86 [(0, .ref 0), (2, .int x2)] [] σ) (n : Nat) : ∀ {x2 : Int32} {σ : Hp},  L_M_orders_46  k86 n x2 σ = some res → Go wM v p l e R s m args below meth c 0 0 Q 3 46 [(0, .ref 0), (2, .int x2)] [] σ := by
  induction n with
  | zero => intro x2 σ  h; cases h
  | succ n ih =>
    intro x2 σ  h
    exact lkB_M_orders_46 hi xc nx X rt  hk86 (fun _ _  hh => ih  hh) h
set_option maxRecDepth 20000 in
theorem lkJ_M_orders_86 (hi : zInj wM v) (xc : XC wM v) (nx : NXM v) (X : Cx wM v p R s m args c 0 0 cX12_orders 3 RX12 12) (rt : Rt wM v p l e R s m args below meth c 0 0 Q cX12_orders false (some (.int res.1)) res.2)  {x2 : Int32} {σ : Hp}   (h : J_M_orders_86   x2 σ = some res) : Go wM v p l e R s m args below meth c 0 0 Q 3 86 [(0, .ref 0), (2, .int x2)] [] σ := by
  unfold J_M_orders_86 at h
  refine go_aload_n X 0 (dk dt_M_orders_2 12 rfl) rfl rfl ?_
  refine go_iconst X (dk dt_M_orders_2 13 rfl) ci_0 ?_
  refine go_puti X fo_X12_147 pf_12_6 lM_0 sM_0 fM_0_6 (dk dt_M_orders_2 14 rfl) ?_
  refine go_iload_n X 1 (dk dt_M_orders_2 15 rfl) rfl rfl ?_
  refine go_if_eq (tgt := 100) X (dk dt_M_orders_3 0 rfl) (by decide) h (fun h => ?_) (fun h => ?_)
  · refine go_aload_n X 0 (dk dt_M_orders_3 4 rfl) rfl rfl ?_
    refine go_getr X fo_X12_13 lM_0 sM_0 fM_0_1 (dk dt_M_orders_3 5 rfl) ?_
    refine go_aload_n X 0 (dk dt_M_orders_3 6 rfl) rfl rfl ?_
    refine go_getr X fo_X12_7 lM_0 sM_0 fM_0_0 (dk dt_M_orders_3 7 rfl) ?_
    refine go_Sv (As := [.ref 2, .ref 1]) (rest := []) X so_X12_291 (fun q hq => ct_M_copies hi xc nx lM_2 sM_2 lM_1 sM_1 hq) (by decide) rfl rfl (Nat.le_of_ble_eq_true rfl) (dk dt_M_orders_3 8 rfl) h (fun q108 h => ?_)
    refine go_aload_n X 0 (dk dt_M_orders_3 9 rfl) rfl rfl ?_
    refine go_geti X fo_X12_165 lM_0 sM_0 fM_0_9 (dk dt_M_orders_3 10 rfl) ?_
    exact go_iret rt (dk dt_M_orders_3 11 rfl) h (fun hh => nomatch hh)
  · refine go_aload_n X 0 (dk dt_M_orders_3 1 rfl) rfl rfl ?_
    refine go_geti X fo_X12_282 lM_0 sM_0 fM_0_29 (dk dt_M_orders_3 2 rfl) ?_
    exact go_iret rt (dk dt_M_orders_3 3 rfl) h (fun hh => nomatch hh)
set_option maxRecDepth 20000 in
theorem lkF_M_orders (hi : zInj wM v) (xc : XC wM v) (nx : NXM v) (X : Cx wM v p R s m args c 0 0 cX12_orders 3 RX12 12) (rt : Rt wM v p l e R s m args below meth c 0 0 Q cX12_orders false (some (.int res.1)) res.2) {a1 : Int32} {σ : Hp}  (h : F_M_orders  a1 σ = some res) : Go wM v p l e R s m args below meth c 0 0 Q 3 0 [(0, .ref 0), (1, .int a1)] [] σ := by
  unfold F_M_orders at h
  refine go_iload_n X 1 (dk dt_M_orders_0 0 rfl) rfl rfl ?_
  refine go_iconst X (dk dt_M_orders_0 1 rfl) ci_1 ?_
  refine go_bipush X (dk dt_M_orders_0 2 rfl) cb_120 ?_
  refine go_Si (As := [.int a1, .int (1 : Int32), .int (120 : Int32)]) (rest := []) X so_X12_122 (fun q hq => ct_M_in hi xc nx  hq) (by decide) rfl rfl (Nat.le_of_ble_eq_true rfl) (dk dt_M_orders_0 3 rfl) h (fun q4 h => ?_)
  refine go_if_eq (tgt := 18) X (dk dt_M_orders_0 4 rfl) (by decide) h (fun h => ?_) (fun h => ?_)
  · refine go_iconst X (dk dt_M_orders_0 9 rfl) ci_m1 ?_
    exact go_iret rt (dk dt_M_orders_0 10 rfl) h (fun hh => nomatch hh)
  · refine go_iload_n X 1 (dk dt_M_orders_0 5 rfl) rfl rfl ?_
    refine go_aload_n X 0 (dk dt_M_orders_0 6 rfl) rfl rfl ?_
    refine go_geti X fo_X12_147 lM_0 sM_0 fM_0_6 (dk dt_M_orders_0 7 rfl) ?_
    refine go_icmp_le (tgt := 20) X (dk dt_M_orders_0 8 rfl) (by decide) h (fun h => ?_) (fun h => ?_)
    · refine go_aload_n X 0 (dk dt_M_orders_0 11 rfl) rfl rfl ?_
      refine go_iload_n X 1 (dk dt_M_orders_0 12 rfl) rfl rfl ?_
      refine go_Vv (As := [.int a1]) (rest := []) X vo_X12_239 (fun q hq => ct_M_beginsText hi xc nx  hq) (by decide) rfl lM_0 sM_0 rfl rfl (Nat.le_of_ble_eq_true rfl) (dk dt_M_orders_0 13 rfl) h (fun q22 h => ?_)
      refine go_aload_n X 0 (dk dt_M_orders_0 14 rfl) rfl rfl ?_
      refine go_iconst X (dk dt_M_orders_0 15 rfl) ci_0 ?_
      refine go_puti X fo_X12_282 pf_12_29 lM_0 sM_0 fM_0_29 (dk dt_M_orders_1 0 rfl) ?_
      refine go_aload_n X 0 (dk dt_M_orders_1 1 rfl) rfl rfl ?_
      refine go_getr X fo_X12_7 lM_0 sM_0 fM_0_0 (dk dt_M_orders_1 2 rfl) ?_
      refine go_aload_n X 0 (dk dt_M_orders_1 3 rfl) rfl rfl ?_
      refine go_getr X fo_X12_13 lM_0 sM_0 fM_0_1 (dk dt_M_orders_1 4 rfl) ?_
      refine go_Sv (As := [.ref 1, .ref 2]) (rest := []) X so_X12_291 (fun q hq => ct_M_copies hi xc nx lM_1 sM_1 lM_2 sM_2 hq) (by decide) rfl rfl (Nat.le_of_ble_eq_true rfl) (dk dt_M_orders_1 5 rfl) h (fun q38 h => ?_)
      refine go_aload_n X 0 (dk dt_M_orders_1 6 rfl) rfl rfl ?_
      refine go_Vi (As := []) (rest := []) X vo_X12_295 (fun q hq => ct_M_readsLine hi xc nx  hq) (by decide) rfl lM_0 sM_0 rfl rfl (Nat.le_of_ble_eq_true rfl) (dk dt_M_orders_1 7 rfl) h (fun q42 h => ?_)
      refine go_istore_n (lv' := [(2, .int q42.1), (0, .ref 0), (1, .int a1)]) X (dk dt_M_orders_1 8 rfl) rfl (by decide) rfl ?_
      refine go_sub [1, 0] rfl ?_
      exact lkL_M_orders_46 hi xc nx X rt (fun _ _  hh => lkJ_M_orders_86 hi xc nx X rt   hh) FU  h
    · refine go_iconst X (dk dt_M_orders_0 9 rfl) ci_m1 ?_
      exact go_iret rt (dk dt_M_orders_0 10 rfl) h (fun hh => nomatch hh)
set_option maxRecDepth 20000 in
theorem ct_M_orders (hi : zInj wM v) (xc : XC wM v) (nx : NXM v)  {a1 : Int32} {σ : Hp}  {q : (Int32 × Hp)} (h : F_M_orders  a1 σ = some q) : Ct wM v l yX12_orders cX12_orders 3 (some .int) 12 [.ref 0, .int a1] σ (some (.int q.1)) q.2 :=
  Ct.intro false (by decide) hi xc (Nat.le_of_ble_eq_true rfl) rfl (fun p e R s m args below meth c Q X rt => lkF_M_orders hi xc nx X rt  h)
end
def T_M_twosWithout_0 : DT := [(0, .iconst 0, 1), (1, .istore_n 2, 1), (2, .iconst 0, 1), (3, .istore_n 3, 1), (4, .iload_n 3, 1), (5, .bipush 8, 2), (7, .if_icmp .ge 71, 3), (10, .iconst 0, 1), (11, .istore 4, 2), (13, .iload 4, 2), (15, .bipush 8, 2), (17, .if_icmp .ge 55, 3), (20, .aload_n 0, 1), (21, .iload_n 3, 1), (22, .invokevirtual 359, 3), (25, .ifCond .eq 41, 3)]
theorem dt_M_twosWithout_0 : dOk cX12_twosWithout T_M_twosWithout_0 := by unfold dOk; decide +kernel
def T_M_twosWithout_1 : DT := [(28, .aload_n 0, 1), (29, .bipush 8, 2), (31, .iload 4, 2), (33, .iadd, 1), (34, .invokevirtual 359, 3), (37, .ifCond .eq 29, 3), (40, .aload_n 0, 1), (41, .aload_n 0, 1), (42, .iload_n 3, 1), (43, .invokevirtual 130, 3), (46, .aload_n 0, 1), (47, .bipush 8, 2), (49, .iload 4, 2), (51, .iadd, 1), (52, .invokevirtual 130, 3), (55, .iload_n 1, 1)]
theorem dt_M_twosWithout_1 : dOk cX12_twosWithout T_M_twosWithout_1 := by unfold dOk; decide +kernel
def T_M_twosWithout_2 : DT := [(56, .invokevirtual 134, 3), (59, .ifCond .eq 7, 3), (62, .iload_n 2, 1), (63, .iconst 1, 1), (64, .iadd, 1), (65, .istore_n 2, 1), (66, .iinc 4 1, 3), (69, .goto (-56), 3), (72, .iinc 3 1, 3), (75, .goto (-71), 3), (78, .iload_n 2, 1), (79, .ireturn, 1)]
theorem dt_M_twosWithout_2 : dOk cX12_twosWithout T_M_twosWithout_2 := by unfold dOk; decide +kernel
section
variable {v : ZV} {l : Launch} {p : Program} {e : Env} {R : Room} {s : State} {m : MethodId} {args : Array Value} {below : List Frame} {meth : Method} {c : Code} {Q : State → Prop} {res : (Int32 × Hp)} 
set_option maxRecDepth 20000 in
theorem lkB_M_twosWithout_13 (hi : zInj wM v) (xc : XC wM v) (nx : NXM v) (X : Cx wM v p R s m args c 0 0 cX12_twosWithout 5 RX12 4) (rt : Rt wM v p l e R s m args below meth c 0 0 Q cX12_twosWithout false (some (.int res.1)) res.2) {k72 : Int32 → Int32 → Int32 → Hp → Option (Int32 × Hp)} {k13 : Int32 → Int32 → Int32 → Int32 → Hp → Option (Int32 × Hp)} {x1 : Int32} {x2 : Int32} {x3 : Int32} {x4 : Int32} {σ : Hp}  (hk72 : ∀ (x1 : Int32) (x2 : Int32) (x3 : Int32) (σ : Hp),  k72 x1 x2 x3 σ = some res → Go wM v p l e R s m args below meth c 0 0 Q 5 72 [(0, .ref 0), (1, .int x1), (2, .int x2), (3, .int x3)] [] σ) (hk13 : ∀ (x1 : Int32) (x2 : Int32) (x3 : Int32) (x4 : Int32) (σ : Hp),  k13 x1 x2 x3 x4 σ = some res → Go wM v p l e R s m args below meth c 0 0 Q 5 13 [(0, .ref 0), (1, .int x1), (2, .int x2), (3, .int x3), (4, .int x4)] [] σ) (h : B_M_twosWithout_13  k72 k13 x1 x2 x3 x4 σ = some res) : Go wM v p l e R s m args below meth c 0 0 Q 5 13 [(0, .ref 0), (1, .int x1), (2, .int x2), (3, .int x3), (4, .int x4)] [] σ := by
  unfold B_M_twosWithout_13 at h
  refine go_iload X 4 (dk dt_M_twosWithout_0 9 rfl) rfl ?_
  refine go_bipush X (dk dt_M_twosWithout_0 10 rfl) cb_8 ?_
  refine go_icmp_ge (tgt := 72) X (dk dt_M_twosWithout_0 11 rfl) (by decide) h (fun h => ?_) (fun h => ?_)
  · refine go_sub [0, 1, 2, 3] rfl ?_
    exact hk72 _ _ _ _  h
  · refine go_aload_n X 0 (dk dt_M_twosWithout_0 12 rfl) rfl rfl ?_
    refine go_iload_n X 3 (dk dt_M_twosWithout_0 13 rfl) rfl rfl ?_
    refine go_Vi (As := [.int x3]) (rest := []) X vo_X12_359 (fun q hq => ct_M_sitsIn hi xc nx  hq) (by decide) rfl lM_0 sM_0 rfl rfl (Nat.le_of_ble_eq_true rfl) (dk dt_M_twosWithout_0 14 rfl) h (fun q22 h => ?_)
    refine go_if_eq (tgt := 66) X (dk dt_M_twosWithout_0 15 rfl) (by decide) h (fun h => ?_) (fun h => ?_)
    · refine go_iinc (lv' := [(4, .int (x4 + (1 : Int32))), (0, .ref 0), (1, .int x1), (2, .int x2), (3, .int x3)]) X 4 (dk dt_M_twosWithout_2 6 rfl) rfl ci_1 (by decide) rfl ?_
      refine go_goto (tgt := 13) X (dk dt_M_twosWithout_2 7 rfl) (by decide) ?_
      refine go_sub [1, 2, 3, 4, 0] rfl ?_
      exact hk13 _ _ _ _ _  h
    · refine go_aload_n X 0 (dk dt_M_twosWithout_1 0 rfl) rfl rfl ?_
      refine go_bipush X (dk dt_M_twosWithout_1 1 rfl) cb_8 ?_
      refine go_iload X 4 (dk dt_M_twosWithout_1 2 rfl) rfl ?_
      refine go_iadd X (dk dt_M_twosWithout_1 3 rfl) ?_
      refine go_Vi (As := [.int ((8 : Int32) + x4)]) (rest := []) X vo_X12_359 (fun q hq => ct_M_sitsIn hi xc nx  hq) (by decide) rfl lM_0 sM_0 rfl rfl (Nat.le_of_ble_eq_true rfl) (dk dt_M_twosWithout_1 4 rfl) h (fun q34 h => ?_)
      refine go_if_eq (tgt := 66) X (dk dt_M_twosWithout_1 5 rfl) (by decide) h (fun h => ?_) (fun h => ?_)
      · refine go_iinc (lv' := [(4, .int (x4 + (1 : Int32))), (0, .ref 0), (1, .int x1), (2, .int x2), (3, .int x3)]) X 4 (dk dt_M_twosWithout_2 6 rfl) rfl ci_1 (by decide) rfl ?_
        refine go_goto (tgt := 13) X (dk dt_M_twosWithout_2 7 rfl) (by decide) ?_
        refine go_sub [1, 2, 3, 4, 0] rfl ?_
        exact hk13 _ _ _ _ _  h
      · refine go_aload_n X 0 (dk dt_M_twosWithout_1 6 rfl) rfl rfl ?_
        refine go_aload_n X 0 (dk dt_M_twosWithout_1 7 rfl) rfl rfl ?_
        refine go_iload_n X 3 (dk dt_M_twosWithout_1 8 rfl) rfl rfl ?_
        refine go_Vi (As := [.int x3]) (rest := [.ref 0]) X vo_X12_130 (fun q hq => ct_M_eyeOf hi xc nx  hq) (by decide) rfl lM_0 sM_0 rfl rfl (Nat.le_of_ble_eq_true rfl) (dk dt_M_twosWithout_1 9 rfl) h (fun q43 h => ?_)
        refine go_aload_n X 0 (dk dt_M_twosWithout_1 10 rfl) rfl rfl ?_
        refine go_bipush X (dk dt_M_twosWithout_1 11 rfl) cb_8 ?_
        refine go_iload X 4 (dk dt_M_twosWithout_1 12 rfl) rfl ?_
        refine go_iadd X (dk dt_M_twosWithout_1 13 rfl) ?_
        refine go_Vi (As := [.int ((8 : Int32) + x4)]) (rest := [.int q43.1, .ref 0]) X vo_X12_130 (fun q hq => ct_M_eyeOf hi xc nx  hq) (by decide) rfl lM_0 sM_0 rfl rfl (Nat.le_of_ble_eq_true rfl) (dk dt_M_twosWithout_1 14 rfl) h (fun q52 h => ?_)
        refine go_iload_n X 1 (dk dt_M_twosWithout_1 15 rfl) rfl rfl ?_
        refine go_Vi (As := [.int q43.1, .int q52.1, .int x1]) (rest := []) X vo_X12_134 (fun q hq => ct_M_seesOver hi xc nx  hq) (by decide) rfl lM_0 sM_0 rfl rfl (Nat.le_of_ble_eq_true rfl) (dk dt_M_twosWithout_2 0 rfl) h (fun q56 h => ?_)
        refine go_if_eq (tgt := 66) X (dk dt_M_twosWithout_2 1 rfl) (by decide) h (fun h => ?_) (fun h => ?_)
        · refine go_iinc (lv' := [(4, .int (x4 + (1 : Int32))), (0, .ref 0), (1, .int x1), (2, .int x2), (3, .int x3)]) X 4 (dk dt_M_twosWithout_2 6 rfl) rfl ci_1 (by decide) rfl ?_
          refine go_goto (tgt := 13) X (dk dt_M_twosWithout_2 7 rfl) (by decide) ?_
          refine go_sub [1, 2, 3, 4, 0] rfl ?_
          exact hk13 _ _ _ _ _  h
        · refine go_iload_n X 2 (dk dt_M_twosWithout_2 2 rfl) rfl rfl ?_
          refine go_iconst X (dk dt_M_twosWithout_2 3 rfl) ci_1 ?_
          refine go_iadd X (dk dt_M_twosWithout_2 4 rfl) ?_
          refine go_istore_n (lv' := [(2, .int (x2 + (1 : Int32))), (0, .ref 0), (1, .int x1), (3, .int x3), (4, .int x4)]) X (dk dt_M_twosWithout_2 5 rfl) rfl (by decide) rfl ?_
          refine go_iinc (lv' := [(4, .int (x4 + (1 : Int32))), (2, .int (x2 + (1 : Int32))), (0, .ref 0), (1, .int x1), (3, .int x3)]) X 4 (dk dt_M_twosWithout_2 6 rfl) rfl ci_1 (by decide) rfl ?_
          refine go_goto (tgt := 13) X (dk dt_M_twosWithout_2 7 rfl) (by decide) ?_
          refine go_sub [2, 3, 1, 4, 0] rfl ?_
          exact hk13 _ _ _ _ _  h
set_option maxRecDepth 20000 in
theorem lkL_M_twosWithout_13 (hi : zInj wM v) (xc : XC wM v) (nx : NXM v) (X : Cx wM v p R s m args c 0 0 cX12_twosWithout 5 RX12 4) (rt : Rt wM v p l e R s m args below meth c 0 0 Q cX12_twosWithout false (some (.int res.1)) res.2) {k72 : Int32 → Int32 → Int32 → Hp → Option (Int32 × Hp)} (hk72 : ∀ (x1 : Int32) (x2 : Int32) (x3 : Int32) (σ : Hp),  k72 x1 x2 x3 σ = some res → Go wM v p l e R s m args below meth c 0 0 Q 5 72 [(0, .ref 0), (1, .int x1), (2, .int x2), (3, .int x3)] [] σ) (n : Nat) : ∀ {x1 : Int32} {x2 : Int32} {x3 : Int32} {x4 : Int32} {σ : Hp},  L_M_twosWithout_13  k72 n x1 x2 x3 x4 σ = some res → Go wM v p l e R s m args below meth c 0 0 Q 5 13 [(0, .ref 0), (1, .int x1), (2, .int x2), (3, .int x3), (4, .int x4)] [] σ := by
  induction n with
  | zero => intro x1 x2 x3 x4 σ  h; cases h
  | succ n ih =>
    intro x1 x2 x3 x4 σ  h
    exact lkB_M_twosWithout_13 hi xc nx X rt  hk72 (fun _ _ _ _ _  hh => ih  hh) h
set_option maxRecDepth 20000 in
theorem lkJ_M_twosWithout_72 (hi : zInj wM v) (xc : XC wM v) (nx : NXM v) (X : Cx wM v p R s m args c 0 0 cX12_twosWithout 5 RX12 4) (rt : Rt wM v p l e R s m args below meth c 0 0 Q cX12_twosWithout false (some (.int res.1)) res.2) {k4 : Int32 → Int32 → Int32 → Hp → Option (Int32 × Hp)} {x1 : Int32} {x2 : Int32} {x3 : Int32} {σ : Hp}  (hk4 : ∀ (x1 : Int32) (x2 : Int32) (x3 : Int32) (σ : Hp),  k4 x1 x2 x3 σ = some res → Go wM v p l e R s m args below meth c 0 0 Q 5 4 [(0, .ref 0), (1, .int x1), (2, .int x2), (3, .int x3)] [] σ) (h : J_M_twosWithout_72  k4 x1 x2 x3 σ = some res) : Go wM v p l e R s m args below meth c 0 0 Q 5 72 [(0, .ref 0), (1, .int x1), (2, .int x2), (3, .int x3)] [] σ := by
  unfold J_M_twosWithout_72 at h
  refine go_iinc (lv' := [(3, .int (x3 + (1 : Int32))), (0, .ref 0), (1, .int x1), (2, .int x2)]) X 3 (dk dt_M_twosWithout_2 8 rfl) rfl ci_1 (by decide) rfl ?_
  refine go_goto (tgt := 4) X (dk dt_M_twosWithout_2 9 rfl) (by decide) ?_
  refine go_sub [1, 2, 3, 0] rfl ?_
  exact hk4 _ _ _ _  h
set_option maxRecDepth 20000 in
theorem lkB_M_twosWithout_4 (hi : zInj wM v) (xc : XC wM v) (nx : NXM v) (X : Cx wM v p R s m args c 0 0 cX12_twosWithout 5 RX12 4) (rt : Rt wM v p l e R s m args below meth c 0 0 Q cX12_twosWithout false (some (.int res.1)) res.2) {k4 : Int32 → Int32 → Int32 → Hp → Option (Int32 × Hp)} {x1 : Int32} {x2 : Int32} {x3 : Int32} {σ : Hp}  (hk4 : ∀ (x1 : Int32) (x2 : Int32) (x3 : Int32) (σ : Hp),  k4 x1 x2 x3 σ = some res → Go wM v p l e R s m args below meth c 0 0 Q 5 4 [(0, .ref 0), (1, .int x1), (2, .int x2), (3, .int x3)] [] σ) (h : B_M_twosWithout_4  k4 x1 x2 x3 σ = some res) : Go wM v p l e R s m args below meth c 0 0 Q 5 4 [(0, .ref 0), (1, .int x1), (2, .int x2), (3, .int x3)] [] σ := by
  unfold B_M_twosWithout_4 at h
  refine go_iload_n X 3 (dk dt_M_twosWithout_0 4 rfl) rfl rfl ?_
  refine go_bipush X (dk dt_M_twosWithout_0 5 rfl) cb_8 ?_
  refine go_icmp_ge (tgt := 78) X (dk dt_M_twosWithout_0 6 rfl) (by decide) h (fun h => ?_) (fun h => ?_)
  · refine go_iload_n X 2 (dk dt_M_twosWithout_2 10 rfl) rfl rfl ?_
    exact go_iret rt (dk dt_M_twosWithout_2 11 rfl) h (fun hh => nomatch hh)
  · refine go_iconst X (dk dt_M_twosWithout_0 7 rfl) ci_0 ?_
    refine go_istore (lv' := [(4, .int (0 : Int32)), (0, .ref 0), (1, .int x1), (2, .int x2), (3, .int x3)]) X (dk dt_M_twosWithout_0 8 rfl) (by decide) rfl ?_
    refine go_sub [1, 2, 3, 4, 0] rfl ?_
    exact lkL_M_twosWithout_13 hi xc nx X rt (fun _ _ _ _  hh => lkJ_M_twosWithout_72 hi xc nx X rt  hk4 hh) FU  h
set_option maxRecDepth 20000 in
theorem lkL_M_twosWithout_4 (hi : zInj wM v) (xc : XC wM v) (nx : NXM v) (X : Cx wM v p R s m args c 0 0 cX12_twosWithout 5 RX12 4) (rt : Rt wM v p l e R s m args below meth c 0 0 Q cX12_twosWithout false (some (.int res.1)) res.2)   (n : Nat) : ∀ {x1 : Int32} {x2 : Int32} {x3 : Int32} {σ : Hp},  L_M_twosWithout_4   n x1 x2 x3 σ = some res → Go wM v p l e R s m args below meth c 0 0 Q 5 4 [(0, .ref 0), (1, .int x1), (2, .int x2), (3, .int x3)] [] σ := by
  induction n with
  | zero => intro x1 x2 x3 σ  h; cases h
  | succ n ih =>
    intro x1 x2 x3 σ  h
    exact lkB_M_twosWithout_4 hi xc nx X rt  (fun _ _ _ _  hh => ih  hh) h
set_option maxRecDepth 20000 in
theorem lkF_M_twosWithout (hi : zInj wM v) (xc : XC wM v) (nx : NXM v) (X : Cx wM v p R s m args c 0 0 cX12_twosWithout 5 RX12 4) (rt : Rt wM v p l e R s m args below meth c 0 0 Q cX12_twosWithout false (some (.int res.1)) res.2) {a1 : Int32} {σ : Hp}  (h : F_M_twosWithout  a1 σ = some res) : Go wM v p l e R s m args below meth c 0 0 Q 5 0 [(0, .ref 0), (1, .int a1)] [] σ := by
  unfold F_M_twosWithout at h
  refine go_iconst X (dk dt_M_twosWithout_0 0 rfl) ci_0 ?_
  refine go_istore_n (lv' := [(2, .int (0 : Int32)), (0, .ref 0), (1, .int a1)]) X (dk dt_M_twosWithout_0 1 rfl) rfl (by decide) rfl ?_
  refine go_iconst X (dk dt_M_twosWithout_0 2 rfl) ci_0 ?_
  refine go_istore_n (lv' := [(3, .int (0 : Int32)), (2, .int (0 : Int32)), (0, .ref 0), (1, .int a1)]) X (dk dt_M_twosWithout_0 3 rfl) rfl (by decide) rfl ?_
  refine go_sub [2, 3, 1, 0] rfl ?_
  exact lkL_M_twosWithout_4 hi xc nx X rt  FU  h
set_option maxRecDepth 20000 in
theorem ct_M_twosWithout (hi : zInj wM v) (xc : XC wM v) (nx : NXM v)  {a1 : Int32} {σ : Hp}  {q : (Int32 × Hp)} (h : F_M_twosWithout  a1 σ = some q) : Ct wM v l yX12_twosWithout cX12_twosWithout 5 (some .int) 4 [.ref 0, .int a1] σ (some (.int q.1)) q.2 :=
  Ct.intro false (by decide) hi xc (Nat.le_of_ble_eq_true rfl) rfl (fun p e R s m args below meth c Q X rt => lkF_M_twosWithout hi xc nx X rt  h)
end
def T_M_twosOver_0 : DT := [(0, .aload_n 0, 1), (1, .getfield 22, 3), (4, .iload_n 1, 1), (5, .iaload, 1), (6, .istore_n 2, 1), (7, .aload_n 0, 1), (8, .getfield 22, 3), (11, .iload_n 1, 1), (12, .iconst 0, 1), (13, .iastore, 1), (14, .aload_n 0, 1), (15, .iconst (-1), 1), (16, .invokevirtual 374, 3), (19, .istore_n 3, 1), (20, .aload_n 0, 1), (21, .getfield 22, 3)]
theorem dt_M_twosOver_0 : dOk cX12_twosOver T_M_twosOver_0 := by unfold dOk; decide +kernel
def T_M_twosOver_1 : DT := [(24, .iload_n 1, 1), (25, .iload_n 2, 1), (26, .iastore, 1), (27, .iload_n 3, 1), (28, .ireturn, 1)]
theorem dt_M_twosOver_1 : dOk cX12_twosOver T_M_twosOver_1 := by unfold dOk; decide +kernel
section
variable {v : ZV} {l : Launch} {p : Program} {e : Env} {R : Room} {s : State} {m : MethodId} {args : Array Value} {below : List Frame} {meth : Method} {c : Code} {Q : State → Prop} {res : (Int32 × Hp)} 
set_option maxRecDepth 20000 in
theorem lkF_M_twosOver (hi : zInj wM v) (xc : XC wM v) (nx : NXM v) (X : Cx wM v p R s m args c 0 0 cX12_twosOver 4 RX12 6) (rt : Rt wM v p l e R s m args below meth c 0 0 Q cX12_twosOver false (some (.int res.1)) res.2) {a1 : Int32} {σ : Hp}  (h : F_M_twosOver  a1 σ = some res) : Go wM v p l e R s m args below meth c 0 0 Q 4 0 [(0, .ref 0), (1, .int a1)] [] σ := by
  unfold F_M_twosOver at h
  refine go_aload_n X 0 (dk dt_M_twosOver_0 0 rfl) rfl rfl ?_
  refine go_getr X fo_X12_22 lM_0 sM_0 fM_0_4 (dk dt_M_twosOver_0 1 rfl) ?_
  refine go_iload_n X 1 (dk dt_M_twosOver_0 2 rfl) rfl rfl ?_
  refine go_iald X lM_5 sM_5 (dk dt_M_twosOver_0 3 rfl) h (fun h => ?_)
  refine go_istore_n (lv' := [(2, .int (σ 5 (Int32.toNatClampNeg a1))), (0, .ref 0), (1, .int a1)]) X (dk dt_M_twosOver_0 4 rfl) rfl (by decide) rfl ?_
  refine go_aload_n X 1 (dk dt_M_twosOver_0 5 rfl) rfl rfl ?_
  refine go_getr X fo_X12_22 lM_0 sM_0 fM_0_4 (dk dt_M_twosOver_0 6 rfl) ?_
  refine go_iload_n X 2 (dk dt_M_twosOver_0 7 rfl) rfl rfl ?_
  refine go_iconst X (dk dt_M_twosOver_0 8 rfl) ci_0 ?_
  refine go_iast X lM_5 sM_5 (dk dt_M_twosOver_0 9 rfl) h (fun h => ?_)
  refine go_aload_n X 1 (dk dt_M_twosOver_0 10 rfl) rfl rfl ?_
  refine go_iconst X (dk dt_M_twosOver_0 11 rfl) ci_m1 ?_
  refine go_Vi (As := [.int (-1 : Int32)]) (rest := []) X vo_X12_374 (fun q hq => ct_M_twosWithout hi xc nx  hq) (by decide) rfl lM_0 sM_0 rfl rfl (Nat.le_of_ble_eq_true rfl) (dk dt_M_twosOver_0 12 rfl) h (fun q16 h => ?_)
  refine go_istore_n (lv' := [(3, .int q16.1), (2, .int (σ 5 (Int32.toNatClampNeg a1))), (0, .ref 0), (1, .int a1)]) X (dk dt_M_twosOver_0 13 rfl) rfl (by decide) rfl ?_
  refine go_aload_n X 2 (dk dt_M_twosOver_0 14 rfl) rfl rfl ?_
  refine go_getr X fo_X12_22 lM_0 sM_0 fM_0_4 (dk dt_M_twosOver_0 15 rfl) ?_
  refine go_iload_n X 3 (dk dt_M_twosOver_1 0 rfl) rfl rfl ?_
  refine go_iload_n X 1 (dk dt_M_twosOver_1 1 rfl) rfl rfl ?_
  refine go_iast X lM_5 sM_5 (dk dt_M_twosOver_1 2 rfl) h (fun h => ?_)
  refine go_iload_n X 0 (dk dt_M_twosOver_1 3 rfl) rfl rfl ?_
  exact go_iret rt (dk dt_M_twosOver_1 4 rfl) h (fun hh => nomatch hh)
set_option maxRecDepth 20000 in
theorem ct_M_twosOver (hi : zInj wM v) (xc : XC wM v) (nx : NXM v)  {a1 : Int32} {σ : Hp}  {q : (Int32 × Hp)} (h : F_M_twosOver  a1 σ = some q) : Ct wM v l yX12_twosOver cX12_twosOver 4 (some .int) 6 [.ref 0, .int a1] σ (some (.int q.1)) q.2 :=
  Ct.intro false (by decide) hi xc (Nat.le_of_ble_eq_true rfl) rfl (fun p e R s m args below meth c Q X rt => lkF_M_twosOver hi xc nx X rt  h)
end
def T_M_overTrees_0 : DT := [(0, .iload_n 1, 1), (1, .iconst 0, 1), (2, .iconst 2, 1), (3, .invokestatic 122, 3), (6, .ifCond .ne 5, 3), (9, .iconst (-1), 1), (10, .ireturn, 1), (11, .aload_n 0, 1), (12, .iconst (-1), 1), (13, .invokevirtual 374, 3), (16, .istore_n 2, 1), (17, .bipush (-2), 2), (19, .istore_n 3, 1), (20, .iload_n 2, 1), (21, .istore 4, 2), (23, .iconst 0, 1)]
theorem dt_M_overTrees_0 : dOk cX12_overTrees T_M_overTrees_0 := by unfold dOk; decide +kernel
def T_M_overTrees_1 : DT := [(24, .istore 5, 2), (26, .iload 5, 2), (28, .bipush 24, 2), (30, .if_icmp .ge 34, 3), (33, .aload_n 0, 1), (34, .iload 5, 2), (36, .invokevirtual 377, 3), (39, .istore 6, 2), (41, .iload 6, 2), (43, .iload 4, 2), (45, .if_icmp .gt 6, 3), (48, .goto 10, 3), (51, .iload 6, 2), (53, .istore 4, 2), (55, .iload 5, 2), (57, .istore_n 3, 1)]
theorem dt_M_overTrees_1 : dOk cX12_overTrees T_M_overTrees_1 := by unfold dOk; decide +kernel
def T_M_overTrees_2 : DT := [(58, .iinc 5 1, 3), (61, .goto (-35), 3), (64, .iload_n 1, 1), (65, .ifCond .ne 7, 3), (68, .iload_n 2, 1), (69, .goto 16, 3), (72, .iload_n 1, 1), (73, .iconst 1, 1), (74, .if_icmp .ne 7, 3), (77, .iload_n 3, 1), (78, .goto 7, 3), (81, .iload 4, 2), (83, .iload_n 2, 1), (84, .isub, 1), (85, .ireturn, 1)]
theorem dt_M_overTrees_2 : dOk cX12_overTrees T_M_overTrees_2 := by unfold dOk; decide +kernel
section
variable {v : ZV} {l : Launch} {p : Program} {e : Env} {R : Room} {s : State} {m : MethodId} {args : Array Value} {below : List Frame} {meth : Method} {c : Code} {Q : State → Prop} {res : (Int32 × Hp)} 
set_option maxRecDepth 20000 in
theorem lkB_M_overTrees_26 (hi : zInj wM v) (xc : XC wM v) (nx : NXM v) (X : Cx wM v p R s m args c 0 0 cX12_overTrees 7 RX12 8) (rt : Rt wM v p l e R s m args below meth c 0 0 Q cX12_overTrees false (some (.int res.1)) res.2) {k64 : Int32 → Int32 → Int32 → Int32 → Hp → Option (Int32 × Hp)} {k26 : Int32 → Int32 → Int32 → Int32 → Int32 → Hp → Option (Int32 × Hp)} {x1 : Int32} {x2 : Int32} {x3 : Int32} {x4 : Int32} {x5 : Int32} {σ : Hp}  (hk64 : ∀ (x1 : Int32) (x2 : Int32) (x3 : Int32) (x4 : Int32) (σ : Hp),  k64 x1 x2 x3 x4 σ = some res → Go wM v p l e R s m args below meth c 0 0 Q 7 64 [(1, .int x1), (2, .int x2), (3, .int x3), (4, .int x4)] [] σ) (hk26 : ∀ (x1 : Int32) (x2 : Int32) (x3 : Int32) (x4 : Int32) (x5 : Int32) (σ : Hp),  k26 x1 x2 x3 x4 x5 σ = some res → Go wM v p l e R s m args below meth c 0 0 Q 7 26 [(0, .ref 0), (1, .int x1), (2, .int x2), (3, .int x3), (4, .int x4), (5, .int x5)] [] σ) (h : B_M_overTrees_26  k64 k26 x1 x2 x3 x4 x5 σ = some res) : Go wM v p l e R s m args below meth c 0 0 Q 7 26 [(0, .ref 0), (1, .int x1), (2, .int x2), (3, .int x3), (4, .int x4), (5, .int x5)] [] σ := by
  unfold B_M_overTrees_26 at h
  refine go_iload X 5 (dk dt_M_overTrees_1 1 rfl) rfl ?_
  refine go_bipush X (dk dt_M_overTrees_1 2 rfl) cb_24 ?_
  refine go_icmp_ge (tgt := 64) X (dk dt_M_overTrees_1 3 rfl) (by decide) h (fun h => ?_) (fun h => ?_)
  · refine go_sub [1, 2, 3, 4] rfl ?_
    exact hk64 _ _ _ _ _  h
  · refine go_aload_n X 0 (dk dt_M_overTrees_1 4 rfl) rfl rfl ?_
    refine go_iload X 5 (dk dt_M_overTrees_1 5 rfl) rfl ?_
    refine go_Vi (As := [.int x5]) (rest := []) X vo_X12_377 (fun q hq => ct_M_twosOver hi xc nx  hq) (by decide) rfl lM_0 sM_0 rfl rfl (Nat.le_of_ble_eq_true rfl) (dk dt_M_overTrees_1 6 rfl) h (fun q36 h => ?_)
    refine go_istore (lv' := [(6, .int q36.1), (0, .ref 0), (1, .int x1), (2, .int x2), (3, .int x3), (4, .int x4), (5, .int x5)]) X (dk dt_M_overTrees_1 7 rfl) (by decide) rfl ?_
    refine go_iload X 0 (dk dt_M_overTrees_1 8 rfl) rfl ?_
    refine go_iload X 5 (dk dt_M_overTrees_1 9 rfl) rfl ?_
    refine go_icmp_gt (tgt := 51) X (dk dt_M_overTrees_1 10 rfl) (by decide) h (fun h => ?_) (fun h => ?_)
    · refine go_iload X 0 (dk dt_M_overTrees_1 12 rfl) rfl ?_
      refine go_istore (lv' := [(4, .int q36.1), (6, .int q36.1), (0, .ref 0), (1, .int x1), (2, .int x2), (3, .int x3), (5, .int x5)]) X (dk dt_M_overTrees_1 13 rfl) (by decide) rfl ?_
      refine go_iload X 6 (dk dt_M_overTrees_1 14 rfl) rfl ?_
      refine go_istore_n (lv' := [(3, .int x5), (4, .int q36.1), (6, .int q36.1), (0, .ref 0), (1, .int x1), (2, .int x2), (5, .int x5)]) X (dk dt_M_overTrees_1 15 rfl) rfl (by decide) rfl ?_
      refine go_iinc (lv' := [(5, .int (x5 + (1 : Int32))), (3, .int x5), (4, .int q36.1), (6, .int q36.1), (0, .ref 0), (1, .int x1), (2, .int x2)]) X 6 (dk dt_M_overTrees_2 0 rfl) rfl ci_1 (by decide) rfl ?_
      refine go_goto (tgt := 26) X (dk dt_M_overTrees_2 1 rfl) (by decide) ?_
      refine go_sub [4, 5, 6, 1, 2, 0] rfl ?_
      exact hk26 _ _ _ _ _ _  h
    · refine go_goto (tgt := 58) X (dk dt_M_overTrees_1 11 rfl) (by decide) ?_
      refine go_iinc (lv' := [(5, .int (x5 + (1 : Int32))), (6, .int q36.1), (0, .ref 0), (1, .int x1), (2, .int x2), (3, .int x3), (4, .int x4)]) X 6 (dk dt_M_overTrees_2 0 rfl) rfl ci_1 (by decide) rfl ?_
      refine go_goto (tgt := 26) X (dk dt_M_overTrees_2 1 rfl) (by decide) ?_
      refine go_sub [2, 3, 4, 5, 6, 0] rfl ?_
      exact hk26 _ _ _ _ _ _  h
set_option maxRecDepth 20000 in
theorem lkL_M_overTrees_26 (hi : zInj wM v) (xc : XC wM v) (nx : NXM v) (X : Cx wM v p R s m args c 0 0 cX12_overTrees 7 RX12 8) (rt : Rt wM v p l e R s m args below meth c 0 0 Q cX12_overTrees false (some (.int res.1)) res.2) {k64 : Int32 → Int32 → Int32 → Int32 → Hp → Option (Int32 × Hp)} (hk64 : ∀ (x1 : Int32) (x2 : Int32) (x3 : Int32) (x4 : Int32) (σ : Hp),  k64 x1 x2 x3 x4 σ = some res → Go wM v p l e R s m args below meth c 0 0 Q 7 64 [(1, .int x1), (2, .int x2), (3, .int x3), (4, .int x4)] [] σ) (n : Nat) : ∀ {x1 : Int32} {x2 : Int32} {x3 : Int32} {x4 : Int32} {x5 : Int32} {σ : Hp},  L_M_overTrees_26  k64 n x1 x2 x3 x4 x5 σ = some res → Go wM v p l e R s m args below meth c 0 0 Q 7 26 [(0, .ref 0), (1, .int x1), (2, .int x2), (3, .int x3), (4, .int x4), (5, .int x5)] [] σ := by
  induction n with
  | zero => intro x1 x2 x3 x4 x5 σ  h; cases h
  | succ n ih =>
    intro x1 x2 x3 x4 x5 σ  h
    exact lkB_M_overTrees_26 hi xc nx X rt  hk64 (fun _ _ _ _ _ _  hh => ih  hh) h
set_option maxRecDepth 20000 in
theorem lkJ_M_overTrees_64 (hi : zInj wM v) (xc : XC wM v) (nx : NXM v) (X : Cx wM v p R s m args c 0 0 cX12_overTrees 7 RX12 8) (rt : Rt wM v p l e R s m args below meth c 0 0 Q cX12_overTrees false (some (.int res.1)) res.2)  {x1 : Int32} {x2 : Int32} {x3 : Int32} {x4 : Int32} {σ : Hp}   (h : J_M_overTrees_64   x1 x2 x3 x4 σ = some res) : Go wM v p l e R s m args below meth c 0 0 Q 7 64 [(1, .int x1), (2, .int x2), (3, .int x3), (4, .int x4)] [] σ := by
  unfold J_M_overTrees_64 at h
  refine go_iload_n X 0 (dk dt_M_overTrees_2 2 rfl) rfl rfl ?_
  refine go_if_ne (tgt := 72) X (dk dt_M_overTrees_2 3 rfl) (by decide) h (fun h => ?_) (fun h => ?_)
  · refine go_iload_n X 0 (dk dt_M_overTrees_2 6 rfl) rfl rfl ?_
    refine go_iconst X (dk dt_M_overTrees_2 7 rfl) ci_1 ?_
    refine go_icmp_ne (tgt := 81) X (dk dt_M_overTrees_2 8 rfl) (by decide) h (fun h => ?_) (fun h => ?_)
    · refine go_iload X 3 (dk dt_M_overTrees_2 11 rfl) rfl ?_
      refine go_iload_n X 1 (dk dt_M_overTrees_2 12 rfl) rfl rfl ?_
      refine go_isub X (dk dt_M_overTrees_2 13 rfl) ?_
      exact go_iret rt (dk dt_M_overTrees_2 14 rfl) h (fun hh => nomatch hh)
    · refine go_iload_n X 2 (dk dt_M_overTrees_2 9 rfl) rfl rfl ?_
      refine go_goto (tgt := 85) X (dk dt_M_overTrees_2 10 rfl) (by decide) ?_
      exact go_iret rt (dk dt_M_overTrees_2 14 rfl) h (fun hh => nomatch hh)
  · refine go_iload_n X 1 (dk dt_M_overTrees_2 4 rfl) rfl rfl ?_
    refine go_goto (tgt := 85) X (dk dt_M_overTrees_2 5 rfl) (by decide) ?_
    exact go_iret rt (dk dt_M_overTrees_2 14 rfl) h (fun hh => nomatch hh)
set_option maxRecDepth 20000 in
theorem lkF_M_overTrees (hi : zInj wM v) (xc : XC wM v) (nx : NXM v) (X : Cx wM v p R s m args c 0 0 cX12_overTrees 7 RX12 8) (rt : Rt wM v p l e R s m args below meth c 0 0 Q cX12_overTrees false (some (.int res.1)) res.2) {a1 : Int32} {σ : Hp}  (h : F_M_overTrees  a1 σ = some res) : Go wM v p l e R s m args below meth c 0 0 Q 7 0 [(0, .ref 0), (1, .int a1)] [] σ := by
  unfold F_M_overTrees at h
  refine go_iload_n X 1 (dk dt_M_overTrees_0 0 rfl) rfl rfl ?_
  refine go_iconst X (dk dt_M_overTrees_0 1 rfl) ci_0 ?_
  refine go_iconst X (dk dt_M_overTrees_0 2 rfl) ci_2 ?_
  refine go_Si (As := [.int a1, .int (0 : Int32), .int (2 : Int32)]) (rest := []) X so_X12_122 (fun q hq => ct_M_in hi xc nx  hq) (by decide) rfl rfl (Nat.le_of_ble_eq_true rfl) (dk dt_M_overTrees_0 3 rfl) h (fun q3 h => ?_)
  refine go_if_ne (tgt := 11) X (dk dt_M_overTrees_0 4 rfl) (by decide) h (fun h => ?_) (fun h => ?_)
  · refine go_aload_n X 0 (dk dt_M_overTrees_0 7 rfl) rfl rfl ?_
    refine go_iconst X (dk dt_M_overTrees_0 8 rfl) ci_m1 ?_
    refine go_Vi (As := [.int (-1 : Int32)]) (rest := []) X vo_X12_374 (fun q hq => ct_M_twosWithout hi xc nx  hq) (by decide) rfl lM_0 sM_0 rfl rfl (Nat.le_of_ble_eq_true rfl) (dk dt_M_overTrees_0 9 rfl) h (fun q13 h => ?_)
    refine go_istore_n (lv' := [(2, .int q13.1), (0, .ref 0), (1, .int a1)]) X (dk dt_M_overTrees_0 10 rfl) rfl (by decide) rfl ?_
    refine go_bipush X (dk dt_M_overTrees_0 11 rfl) cb_m2 ?_
    refine go_istore_n (lv' := [(3, .int (-2 : Int32)), (2, .int q13.1), (0, .ref 0), (1, .int a1)]) X (dk dt_M_overTrees_0 12 rfl) rfl (by decide) rfl ?_
    refine go_iload_n X 1 (dk dt_M_overTrees_0 13 rfl) rfl rfl ?_
    refine go_istore (lv' := [(4, .int q13.1), (3, .int (-2 : Int32)), (2, .int q13.1), (0, .ref 0), (1, .int a1)]) X (dk dt_M_overTrees_0 14 rfl) (by decide) rfl ?_
    refine go_iconst X (dk dt_M_overTrees_0 15 rfl) ci_0 ?_
    refine go_istore (lv' := [(5, .int (0 : Int32)), (4, .int q13.1), (3, .int (-2 : Int32)), (2, .int q13.1), (0, .ref 0), (1, .int a1)]) X (dk dt_M_overTrees_1 0 rfl) (by decide) rfl ?_
    refine go_sub [4, 5, 3, 2, 1, 0] rfl ?_
    exact lkL_M_overTrees_26 hi xc nx X rt (fun _ _ _ _ _  hh => lkJ_M_overTrees_64 hi xc nx X rt   hh) FU  h
  · refine go_iconst X (dk dt_M_overTrees_0 5 rfl) ci_m1 ?_
    exact go_iret rt (dk dt_M_overTrees_0 6 rfl) h (fun hh => nomatch hh)
set_option maxRecDepth 20000 in
theorem ct_M_overTrees (hi : zInj wM v) (xc : XC wM v) (nx : NXM v)  {a1 : Int32} {σ : Hp}  {q : (Int32 × Hp)} (h : F_M_overTrees  a1 σ = some q) : Ct wM v l yX12_overTrees cX12_overTrees 7 (some .int) 8 [.ref 0, .int a1] σ (some (.int q.1)) q.2 :=
  Ct.intro false (by decide) hi xc (Nat.le_of_ble_eq_true rfl) rfl (fun p e R s m args below meth c Q X rt => lkF_M_overTrees hi xc nx X rt  h)
end
def T_M_parrots_0 : DT := [(0, .iload_n 1, 1), (1, .iconst 1, 1), (2, .bipush 8, 2), (4, .invokestatic 122, 3), (7, .ifCond .eq 30, 3), (10, .iload_n 2, 1), (11, .iconst 0, 1), (12, .bipush 8, 2), (14, .invokestatic 122, 3), (17, .ifCond .eq 20, 3), (20, .iload_n 3, 1), (21, .iconst 0, 1), (22, .iconst 3, 1), (23, .invokestatic 122, 3), (26, .ifCond .eq 11, 3), (29, .iload_n 1, 1)]
theorem dt_M_parrots_0 : dOk cX12_parrots T_M_parrots_0 := by unfold dOk; decide +kernel
def T_M_parrots_1 : DT := [(30, .aload_n 0, 1), (31, .getfield 147, 3), (34, .if_icmp .le 5, 3), (37, .iconst (-1), 1), (38, .ireturn, 1), (39, .aload_n 0, 1), (40, .iconst 0, 1), (41, .putfield 147, 3), (44, .iconst 1, 1), (45, .istore 4, 2), (47, .iconst 0, 1), (48, .istore 5, 2), (50, .iload 5, 2), (52, .bipush 10, 2), (54, .if_icmp .ge 26, 3), (57, .aload_n 0, 1)]
theorem dt_M_parrots_1 : dOk cX12_parrots T_M_parrots_1 := by unfold dOk; decide +kernel
def T_M_parrots_2 : DT := [(58, .getfield 116, 3), (61, .iload 5, 2), (63, .iload 5, 2), (65, .ifCond .ne 7, 3), (68, .iconst 1, 1), (69, .goto 4, 3), (72, .iconst 0, 1), (73, .iastore, 1), (74, .iinc 5 1, 3), (77, .goto (-27), 3), (80, .iconst 0, 1), (81, .istore 5, 2), (83, .iload 5, 2), (85, .iload_n 1, 1), (86, .if_icmp .ge 91, 3), (89, .aload_n 0, 1)]
theorem dt_M_parrots_2 : dOk cX12_parrots T_M_parrots_2 := by unfold dOk; decide +kernel
def T_M_parrots_3 : DT := [(90, .iload 5, 2), (92, .invokevirtual 402, 3), (95, .istore 6, 2), (97, .iload 6, 2), (99, .bipush 10, 2), (101, .if_icmp .le 6, 3), (104, .bipush (-2), 2), (106, .ireturn, 1), (107, .iload 4, 2), (109, .bipush 10, 2), (111, .imul, 1), (112, .istore 4, 2), (114, .bipush 8, 2), (116, .istore 7, 2), (118, .iload 7, 2), (120, .ifCond .lt 51, 3)]
theorem dt_M_parrots_3 : dOk cX12_parrots T_M_parrots_3 := by unfold dOk; decide +kernel
def T_M_parrots_4 : DT := [(123, .aload_n 0, 1), (124, .getfield 116, 3), (127, .iload 7, 2), (129, .aload_n 0, 1), (130, .getfield 116, 3), (133, .iload 7, 2), (135, .iaload, 1), (136, .bipush 10, 2), (138, .iload 6, 2), (140, .isub, 1), (141, .imul, 1), (142, .iload 7, 2), (144, .ifCond .ne 7, 3), (147, .iconst 0, 1), (148, .goto 15, 3), (151, .aload_n 0, 1)]
theorem dt_M_parrots_4 : dOk cX12_parrots T_M_parrots_4 := by unfold dOk; decide +kernel
def T_M_parrots_5 : DT := [(152, .getfield 116, 3), (155, .iload 7, 2), (157, .iconst 1, 1), (158, .isub, 1), (159, .iaload, 1), (160, .iload 6, 2), (162, .imul, 1), (163, .iadd, 1), (164, .iastore, 1), (165, .iinc 7 (-1), 3), (168, .goto (-50), 3), (171, .iinc 5 1, 3), (174, .goto (-91), 3), (177, .aload_n 0, 1), (178, .getfield 116, 3), (181, .iload_n 2, 1)]
theorem dt_M_parrots_5 : dOk cX12_parrots T_M_parrots_5 := by unfold dOk; decide +kernel
def T_M_parrots_6 : DT := [(182, .iaload, 1), (183, .istore 5, 2), (185, .iload_n 2, 1), (186, .iconst 1, 1), (187, .iadd, 1), (188, .istore 6, 2), (190, .iload 6, 2), (192, .bipush 8, 2), (194, .if_icmp .gt 26, 3), (197, .iload_n 3, 1), (198, .iconst 2, 1), (199, .if_icmp .ge 21, 3), (202, .iload 5, 2), (204, .aload_n 0, 1), (205, .getfield 116, 3), (208, .iload 6, 2)]
theorem dt_M_parrots_6 : dOk cX12_parrots T_M_parrots_6 := by unfold dOk; decide +kernel
def T_M_parrots_7 : DT := [(210, .iaload, 1), (211, .iadd, 1), (212, .istore 5, 2), (214, .iinc 6 1, 3), (217, .goto (-27), 3), (220, .iload 4, 2), (222, .iload 5, 2), (224, .invokestatic 436, 3), (227, .istore 6, 2), (229, .iload_n 3, 1), (230, .iconst 2, 1), (231, .irem, 1), (232, .ifCond .ne 11, 3), (235, .iload 5, 2), (237, .iload 6, 2), (239, .idiv, 1)]
theorem dt_M_parrots_7 : dOk cX12_parrots T_M_parrots_7 := by unfold dOk; decide +kernel
def T_M_parrots_8 : DT := [(240, .goto 8, 3), (243, .iload 4, 2), (245, .iload 6, 2), (247, .idiv, 1), (248, .ireturn, 1)]
theorem dt_M_parrots_8 : dOk cX12_parrots T_M_parrots_8 := by unfold dOk; decide +kernel
section
variable {v : ZV} {l : Launch} {p : Program} {e : Env} {R : Room} {s : State} {m : MethodId} {args : Array Value} {below : List Frame} {meth : Method} {c : Code} {Q : State → Prop} {res : (Int32 × Hp)} 
set_option maxRecDepth 20000 in
theorem lkB_M_parrots_50 (hi : zInj wM v) (xc : XC wM v) (nx : NXM v) (X : Cx wM v p R s m args c 0 0 cX12_parrots 8 RX12 4) (rt : Rt wM v p l e R s m args below meth c 0 0 Q cX12_parrots false (some (.int res.1)) res.2) {k80 : Int32 → Int32 → Int32 → Int32 → Hp → Option (Int32 × Hp)} {k50 : Int32 → Int32 → Int32 → Int32 → Int32 → Hp → Option (Int32 × Hp)} {x1 : Int32} {x2 : Int32} {x3 : Int32} {x4 : Int32} {x5 : Int32} {σ : Hp}  (hk80 : ∀ (x1 : Int32) (x2 : Int32) (x3 : Int32) (x4 : Int32) (σ : Hp),  k80 x1 x2 x3 x4 σ = some res → Go wM v p l e R s m args below meth c 0 0 Q 8 80 [(0, .ref 0), (1, .int x1), (2, .int x2), (3, .int x3), (4, .int x4)] [] σ) (hk50 : ∀ (x1 : Int32) (x2 : Int32) (x3 : Int32) (x4 : Int32) (x5 : Int32) (σ : Hp),  k50 x1 x2 x3 x4 x5 σ = some res → Go wM v p l e R s m args below meth c 0 0 Q 8 50 [(0, .ref 0), (1, .int x1), (2, .int x2), (3, .int x3), (4, .int x4), (5, .int x5)] [] σ) (h : B_M_parrots_50  k80 k50 x1 x2 x3 x4 x5 σ = some res) : Go wM v p l e R s m args below meth c 0 0 Q 8 50 [(0, .ref 0), (1, .int x1), (2, .int x2), (3, .int x3), (4, .int x4), (5, .int x5)] [] σ := by
  unfold B_M_parrots_50 at h
  refine go_iload X 5 (dk dt_M_parrots_1 12 rfl) rfl ?_
  refine go_bipush X (dk dt_M_parrots_1 13 rfl) cb_10 ?_
  refine go_icmp_ge (tgt := 80) X (dk dt_M_parrots_1 14 rfl) (by decide) h (fun h => ?_) (fun h => ?_)
  · refine go_sub [0, 1, 2, 3, 4] rfl ?_
    exact hk80 _ _ _ _ _  h
  · refine go_aload_n X 0 (dk dt_M_parrots_1 15 rfl) rfl rfl ?_
    refine go_getr X fo_X12_116 lM_0 sM_0 fM_0_59 (dk dt_M_parrots_2 0 rfl) ?_
    refine go_iload X 5 (dk dt_M_parrots_2 1 rfl) rfl ?_
    refine go_iload X 5 (dk dt_M_parrots_2 2 rfl) rfl ?_
    refine go_if_ne (tgt := 72) X (dk dt_M_parrots_2 3 rfl) (by decide) h (fun h => ?_) (fun h => ?_)
    · refine go_iconst X (dk dt_M_parrots_2 6 rfl) ci_0 ?_
      refine go_iast X lM_36 sM_36 (dk dt_M_parrots_2 7 rfl) h (fun h => ?_)
      refine go_iinc (lv' := [(5, .int (x5 + (1 : Int32))), (0, .ref 0), (1, .int x1), (2, .int x2), (3, .int x3), (4, .int x4)]) X 5 (dk dt_M_parrots_2 8 rfl) rfl ci_1 (by decide) rfl ?_
      refine go_goto (tgt := 50) X (dk dt_M_parrots_2 9 rfl) (by decide) ?_
      refine go_sub [1, 2, 3, 4, 5, 0] rfl ?_
      exact hk50 _ _ _ _ _ _  h
    · refine go_iconst X (dk dt_M_parrots_2 4 rfl) ci_1 ?_
      refine go_goto (tgt := 73) X (dk dt_M_parrots_2 5 rfl) (by decide) ?_
      refine go_iast X lM_36 sM_36 (dk dt_M_parrots_2 7 rfl) h (fun h => ?_)
      refine go_iinc (lv' := [(5, .int (x5 + (1 : Int32))), (0, .ref 0), (1, .int x1), (2, .int x2), (3, .int x3), (4, .int x4)]) X 5 (dk dt_M_parrots_2 8 rfl) rfl ci_1 (by decide) rfl ?_
      refine go_goto (tgt := 50) X (dk dt_M_parrots_2 9 rfl) (by decide) ?_
      refine go_sub [1, 2, 3, 4, 5, 0] rfl ?_
      exact hk50 _ _ _ _ _ _  h
set_option maxRecDepth 20000 in
theorem lkL_M_parrots_50 (hi : zInj wM v) (xc : XC wM v) (nx : NXM v) (X : Cx wM v p R s m args c 0 0 cX12_parrots 8 RX12 4) (rt : Rt wM v p l e R s m args below meth c 0 0 Q cX12_parrots false (some (.int res.1)) res.2) {k80 : Int32 → Int32 → Int32 → Int32 → Hp → Option (Int32 × Hp)} (hk80 : ∀ (x1 : Int32) (x2 : Int32) (x3 : Int32) (x4 : Int32) (σ : Hp),  k80 x1 x2 x3 x4 σ = some res → Go wM v p l e R s m args below meth c 0 0 Q 8 80 [(0, .ref 0), (1, .int x1), (2, .int x2), (3, .int x3), (4, .int x4)] [] σ) (n : Nat) : ∀ {x1 : Int32} {x2 : Int32} {x3 : Int32} {x4 : Int32} {x5 : Int32} {σ : Hp},  L_M_parrots_50  k80 n x1 x2 x3 x4 x5 σ = some res → Go wM v p l e R s m args below meth c 0 0 Q 8 50 [(0, .ref 0), (1, .int x1), (2, .int x2), (3, .int x3), (4, .int x4), (5, .int x5)] [] σ := by
  induction n with
  | zero => intro x1 x2 x3 x4 x5 σ  h; cases h
  | succ n ih =>
    intro x1 x2 x3 x4 x5 σ  h
    exact lkB_M_parrots_50 hi xc nx X rt  hk80 (fun _ _ _ _ _ _  hh => ih  hh) h
set_option maxRecDepth 20000 in
theorem lkB_M_parrots_118 (hi : zInj wM v) (xc : XC wM v) (nx : NXM v) (X : Cx wM v p R s m args c 0 0 cX12_parrots 8 RX12 4) (rt : Rt wM v p l e R s m args below meth c 0 0 Q cX12_parrots false (some (.int res.1)) res.2) {k171 : Int32 → Int32 → Int32 → Int32 → Int32 → Hp → Option (Int32 × Hp)} {k118 : Int32 → Int32 → Int32 → Int32 → Int32 → Int32 → Int32 → Hp → Option (Int32 × Hp)} {x1 : Int32} {x2 : Int32} {x3 : Int32} {x4 : Int32} {x5 : Int32} {x6 : Int32} {x7 : Int32} {σ : Hp}  (hk171 : ∀ (x1 : Int32) (x2 : Int32) (x3 : Int32) (x4 : Int32) (x5 : Int32) (σ : Hp),  k171 x1 x2 x3 x4 x5 σ = some res → Go wM v p l e R s m args below meth c 0 0 Q 8 171 [(0, .ref 0), (1, .int x1), (2, .int x2), (3, .int x3), (4, .int x4), (5, .int x5)] [] σ) (hk118 : ∀ (x1 : Int32) (x2 : Int32) (x3 : Int32) (x4 : Int32) (x5 : Int32) (x6 : Int32) (x7 : Int32) (σ : Hp),  k118 x1 x2 x3 x4 x5 x6 x7 σ = some res → Go wM v p l e R s m args below meth c 0 0 Q 8 118 [(0, .ref 0), (1, .int x1), (2, .int x2), (3, .int x3), (4, .int x4), (5, .int x5), (6, .int x6), (7, .int x7)] [] σ) (h : B_M_parrots_118  k171 k118 x1 x2 x3 x4 x5 x6 x7 σ = some res) : Go wM v p l e R s m args below meth c 0 0 Q 8 118 [(0, .ref 0), (1, .int x1), (2, .int x2), (3, .int x3), (4, .int x4), (5, .int x5), (6, .int x6), (7, .int x7)] [] σ := by
  unfold B_M_parrots_118 at h
  refine go_iload X 7 (dk dt_M_parrots_3 14 rfl) rfl ?_
  refine go_if_lt (tgt := 171) X (dk dt_M_parrots_3 15 rfl) (by decide) h (fun h => ?_) (fun h => ?_)
  · refine go_sub [0, 1, 2, 3, 4, 5] rfl ?_
    exact hk171 _ _ _ _ _ _  h
  · refine go_aload_n X 0 (dk dt_M_parrots_4 0 rfl) rfl rfl ?_
    refine go_getr X fo_X12_116 lM_0 sM_0 fM_0_59 (dk dt_M_parrots_4 1 rfl) ?_
    refine go_iload X 7 (dk dt_M_parrots_4 2 rfl) rfl ?_
    refine go_aload_n X 0 (dk dt_M_parrots_4 3 rfl) rfl rfl ?_
    refine go_getr X fo_X12_116 lM_0 sM_0 fM_0_59 (dk dt_M_parrots_4 4 rfl) ?_
    refine go_iload X 7 (dk dt_M_parrots_4 5 rfl) rfl ?_
    refine go_iald X lM_36 sM_36 (dk dt_M_parrots_4 6 rfl) h (fun h => ?_)
    refine go_bipush X (dk dt_M_parrots_4 7 rfl) cb_10 ?_
    refine go_iload X 6 (dk dt_M_parrots_4 8 rfl) rfl ?_
    refine go_isub X (dk dt_M_parrots_4 9 rfl) ?_
    refine go_imul X (dk dt_M_parrots_4 10 rfl) ?_
    refine go_iload X 7 (dk dt_M_parrots_4 11 rfl) rfl ?_
    refine go_if_ne (tgt := 151) X (dk dt_M_parrots_4 12 rfl) (by decide) h (fun h => ?_) (fun h => ?_)
    · refine go_aload_n X 0 (dk dt_M_parrots_4 15 rfl) rfl rfl ?_
      refine go_getr X fo_X12_116 lM_0 sM_0 fM_0_59 (dk dt_M_parrots_5 0 rfl) ?_
      refine go_iload X 7 (dk dt_M_parrots_5 1 rfl) rfl ?_
      refine go_iconst X (dk dt_M_parrots_5 2 rfl) ci_1 ?_
      refine go_isub X (dk dt_M_parrots_5 3 rfl) ?_
      refine go_iald X lM_36 sM_36 (dk dt_M_parrots_5 4 rfl) h (fun h => ?_)
      refine go_iload X 6 (dk dt_M_parrots_5 5 rfl) rfl ?_
      refine go_imul X (dk dt_M_parrots_5 6 rfl) ?_
      refine go_iadd X (dk dt_M_parrots_5 7 rfl) ?_
      refine go_iast X lM_36 sM_36 (dk dt_M_parrots_5 8 rfl) h (fun h => ?_)
      refine go_iinc (lv' := [(7, .int (x7 + (-1 : Int32))), (0, .ref 0), (1, .int x1), (2, .int x2), (3, .int x3), (4, .int x4), (5, .int x5), (6, .int x6)]) X 7 (dk dt_M_parrots_5 9 rfl) rfl ci_m1 (by decide) rfl ?_
      refine go_goto (tgt := 118) X (dk dt_M_parrots_5 10 rfl) (by decide) ?_
      refine go_sub [1, 2, 3, 4, 5, 6, 7, 0] rfl ?_
      exact hk118 _ _ _ _ _ _ _ _  h
    · refine go_iconst X (dk dt_M_parrots_4 13 rfl) ci_0 ?_
      refine go_goto (tgt := 163) X (dk dt_M_parrots_4 14 rfl) (by decide) ?_
      refine go_iadd X (dk dt_M_parrots_5 7 rfl) ?_
      refine go_iast X lM_36 sM_36 (dk dt_M_parrots_5 8 rfl) h (fun h => ?_)
      refine go_iinc (lv' := [(7, .int (x7 + (-1 : Int32))), (0, .ref 0), (1, .int x1), (2, .int x2), (3, .int x3), (4, .int x4), (5, .int x5), (6, .int x6)]) X 7 (dk dt_M_parrots_5 9 rfl) rfl ci_m1 (by decide) rfl ?_
      refine go_goto (tgt := 118) X (dk dt_M_parrots_5 10 rfl) (by decide) ?_
      refine go_sub [1, 2, 3, 4, 5, 6, 7, 0] rfl ?_
      exact hk118 _ _ _ _ _ _ _ _  h
set_option maxRecDepth 20000 in
theorem lkL_M_parrots_118 (hi : zInj wM v) (xc : XC wM v) (nx : NXM v) (X : Cx wM v p R s m args c 0 0 cX12_parrots 8 RX12 4) (rt : Rt wM v p l e R s m args below meth c 0 0 Q cX12_parrots false (some (.int res.1)) res.2) {k171 : Int32 → Int32 → Int32 → Int32 → Int32 → Hp → Option (Int32 × Hp)} (hk171 : ∀ (x1 : Int32) (x2 : Int32) (x3 : Int32) (x4 : Int32) (x5 : Int32) (σ : Hp),  k171 x1 x2 x3 x4 x5 σ = some res → Go wM v p l e R s m args below meth c 0 0 Q 8 171 [(0, .ref 0), (1, .int x1), (2, .int x2), (3, .int x3), (4, .int x4), (5, .int x5)] [] σ) (n : Nat) : ∀ {x1 : Int32} {x2 : Int32} {x3 : Int32} {x4 : Int32} {x5 : Int32} {x6 : Int32} {x7 : Int32} {σ : Hp},  L_M_parrots_118  k171 n x1 x2 x3 x4 x5 x6 x7 σ = some res → Go wM v p l e R s m args below meth c 0 0 Q 8 118 [(0, .ref 0), (1, .int x1), (2, .int x2), (3, .int x3), (4, .int x4), (5, .int x5), (6, .int x6), (7, .int x7)] [] σ := by
  induction n with
  | zero => intro x1 x2 x3 x4 x5 x6 x7 σ  h; cases h
  | succ n ih =>
    intro x1 x2 x3 x4 x5 x6 x7 σ  h
    exact lkB_M_parrots_118 hi xc nx X rt  hk171 (fun _ _ _ _ _ _ _ _  hh => ih  hh) h
set_option maxRecDepth 20000 in
theorem lkJ_M_parrots_171 (hi : zInj wM v) (xc : XC wM v) (nx : NXM v) (X : Cx wM v p R s m args c 0 0 cX12_parrots 8 RX12 4) (rt : Rt wM v p l e R s m args below meth c 0 0 Q cX12_parrots false (some (.int res.1)) res.2) {k83 : Int32 → Int32 → Int32 → Int32 → Int32 → Hp → Option (Int32 × Hp)} {x1 : Int32} {x2 : Int32} {x3 : Int32} {x4 : Int32} {x5 : Int32} {σ : Hp}  (hk83 : ∀ (x1 : Int32) (x2 : Int32) (x3 : Int32) (x4 : Int32) (x5 : Int32) (σ : Hp),  k83 x1 x2 x3 x4 x5 σ = some res → Go wM v p l e R s m args below meth c 0 0 Q 8 83 [(0, .ref 0), (1, .int x1), (2, .int x2), (3, .int x3), (4, .int x4), (5, .int x5)] [] σ) (h : J_M_parrots_171  k83 x1 x2 x3 x4 x5 σ = some res) : Go wM v p l e R s m args below meth c 0 0 Q 8 171 [(0, .ref 0), (1, .int x1), (2, .int x2), (3, .int x3), (4, .int x4), (5, .int x5)] [] σ := by
  unfold J_M_parrots_171 at h
  refine go_iinc (lv' := [(5, .int (x5 + (1 : Int32))), (0, .ref 0), (1, .int x1), (2, .int x2), (3, .int x3), (4, .int x4)]) X 5 (dk dt_M_parrots_5 11 rfl) rfl ci_1 (by decide) rfl ?_
  refine go_goto (tgt := 83) X (dk dt_M_parrots_5 12 rfl) (by decide) ?_
  refine go_sub [1, 2, 3, 4, 5, 0] rfl ?_
  exact hk83 _ _ _ _ _ _  h
set_option maxRecDepth 20000 in
theorem lkB_M_parrots_83 (hi : zInj wM v) (xc : XC wM v) (nx : NXM v) (X : Cx wM v p R s m args c 0 0 cX12_parrots 8 RX12 4) (rt : Rt wM v p l e R s m args below meth c 0 0 Q cX12_parrots false (some (.int res.1)) res.2) {k177 : Int32 → Int32 → Int32 → Hp → Option (Int32 × Hp)} {k83 : Int32 → Int32 → Int32 → Int32 → Int32 → Hp → Option (Int32 × Hp)} {x1 : Int32} {x2 : Int32} {x3 : Int32} {x4 : Int32} {x5 : Int32} {σ : Hp}  (hk177 : ∀ (x2 : Int32) (x3 : Int32) (x4 : Int32) (σ : Hp),  k177 x2 x3 x4 σ = some res → Go wM v p l e R s m args below meth c 0 0 Q 8 177 [(0, .ref 0), (2, .int x2), (3, .int x3), (4, .int x4)] [] σ) (hk83 : ∀ (x1 : Int32) (x2 : Int32) (x3 : Int32) (x4 : Int32) (x5 : Int32) (σ : Hp),  k83 x1 x2 x3 x4 x5 σ = some res → Go wM v p l e R s m args below meth c 0 0 Q 8 83 [(0, .ref 0), (1, .int x1), (2, .int x2), (3, .int x3), (4, .int x4), (5, .int x5)] [] σ) (h : B_M_parrots_83  k177 k83 x1 x2 x3 x4 x5 σ = some res) : Go wM v p l e R s m args below meth c 0 0 Q 8 83 [(0, .ref 0), (1, .int x1), (2, .int x2), (3, .int x3), (4, .int x4), (5, .int x5)] [] σ := by
  unfold B_M_parrots_83 at h
  refine go_iload X 5 (dk dt_M_parrots_2 12 rfl) rfl ?_
  refine go_iload_n X 1 (dk dt_M_parrots_2 13 rfl) rfl rfl ?_
  refine go_icmp_ge (tgt := 177) X (dk dt_M_parrots_2 14 rfl) (by decide) h (fun h => ?_) (fun h => ?_)
  · refine go_sub [0, 2, 3, 4] rfl ?_
    exact hk177 _ _ _ _  h
  · refine go_aload_n X 0 (dk dt_M_parrots_2 15 rfl) rfl rfl ?_
    refine go_iload X 5 (dk dt_M_parrots_3 0 rfl) rfl ?_
    refine go_Vi (As := [.int x5]) (rest := []) X vo_X12_402 (fun q hq => ct_M_octet hi xc nx  hq) (by decide) rfl lM_0 sM_0 rfl rfl (Nat.le_of_ble_eq_true rfl) (dk dt_M_parrots_3 1 rfl) h (fun q92 h => ?_)
    refine go_istore (lv' := [(6, .int q92.1), (0, .ref 0), (1, .int x1), (2, .int x2), (3, .int x3), (4, .int x4), (5, .int x5)]) X (dk dt_M_parrots_3 2 rfl) (by decide) rfl ?_
    refine go_iload X 0 (dk dt_M_parrots_3 3 rfl) rfl ?_
    refine go_bipush X (dk dt_M_parrots_3 4 rfl) cb_10 ?_
    refine go_icmp_le (tgt := 107) X (dk dt_M_parrots_3 5 rfl) (by decide) h (fun h => ?_) (fun h => ?_)
    · refine go_iload X 5 (dk dt_M_parrots_3 8 rfl) rfl ?_
      refine go_bipush X (dk dt_M_parrots_3 9 rfl) cb_10 ?_
      refine go_imul X (dk dt_M_parrots_3 10 rfl) ?_
      refine go_istore (lv' := [(4, .int (x4 * (10 : Int32))), (6, .int q92.1), (0, .ref 0), (1, .int x1), (2, .int x2), (3, .int x3), (5, .int x5)]) X (dk dt_M_parrots_3 11 rfl) (by decide) rfl ?_
      refine go_bipush X (dk dt_M_parrots_3 12 rfl) cb_8 ?_
      refine go_istore (lv' := [(7, .int (8 : Int32)), (4, .int (x4 * (10 : Int32))), (6, .int q92.1), (0, .ref 0), (1, .int x1), (2, .int x2), (3, .int x3), (5, .int x5)]) X (dk dt_M_parrots_3 13 rfl) (by decide) rfl ?_
      refine go_sub [3, 4, 5, 6, 1, 7, 2, 0] rfl ?_
      exact lkL_M_parrots_118 hi xc nx X rt (fun _ _ _ _ _ _  hh => lkJ_M_parrots_171 hi xc nx X rt  hk83 hh) FU  h
    · refine go_bipush X (dk dt_M_parrots_3 6 rfl) cb_m2 ?_
      exact go_iret rt (dk dt_M_parrots_3 7 rfl) h (fun hh => nomatch hh)
set_option maxRecDepth 20000 in
theorem lkL_M_parrots_83 (hi : zInj wM v) (xc : XC wM v) (nx : NXM v) (X : Cx wM v p R s m args c 0 0 cX12_parrots 8 RX12 4) (rt : Rt wM v p l e R s m args below meth c 0 0 Q cX12_parrots false (some (.int res.1)) res.2) {k177 : Int32 → Int32 → Int32 → Hp → Option (Int32 × Hp)} (hk177 : ∀ (x2 : Int32) (x3 : Int32) (x4 : Int32) (σ : Hp),  k177 x2 x3 x4 σ = some res → Go wM v p l e R s m args below meth c 0 0 Q 8 177 [(0, .ref 0), (2, .int x2), (3, .int x3), (4, .int x4)] [] σ) (n : Nat) : ∀ {x1 : Int32} {x2 : Int32} {x3 : Int32} {x4 : Int32} {x5 : Int32} {σ : Hp},  L_M_parrots_83  k177 n x1 x2 x3 x4 x5 σ = some res → Go wM v p l e R s m args below meth c 0 0 Q 8 83 [(0, .ref 0), (1, .int x1), (2, .int x2), (3, .int x3), (4, .int x4), (5, .int x5)] [] σ := by
  induction n with
  | zero => intro x1 x2 x3 x4 x5 σ  h; cases h
  | succ n ih =>
    intro x1 x2 x3 x4 x5 σ  h
    exact lkB_M_parrots_83 hi xc nx X rt  hk177 (fun _ _ _ _ _ _  hh => ih  hh) h
set_option maxRecDepth 20000 in
theorem lkB_M_parrots_190 (hi : zInj wM v) (xc : XC wM v) (nx : NXM v) (X : Cx wM v p R s m args c 0 0 cX12_parrots 8 RX12 4) (rt : Rt wM v p l e R s m args below meth c 0 0 Q cX12_parrots false (some (.int res.1)) res.2) {k220 : Int32 → Int32 → Int32 → Hp → Option (Int32 × Hp)} {k190 : Int32 → Int32 → Int32 → Int32 → Hp → Option (Int32 × Hp)} {x3 : Int32} {x4 : Int32} {x5 : Int32} {x6 : Int32} {σ : Hp}  (hk220 : ∀ (x3 : Int32) (x4 : Int32) (x5 : Int32) (σ : Hp),  k220 x3 x4 x5 σ = some res → Go wM v p l e R s m args below meth c 0 0 Q 8 220 [(3, .int x3), (4, .int x4), (5, .int x5)] [] σ) (hk190 : ∀ (x3 : Int32) (x4 : Int32) (x5 : Int32) (x6 : Int32) (σ : Hp),  k190 x3 x4 x5 x6 σ = some res → Go wM v p l e R s m args below meth c 0 0 Q 8 190 [(0, .ref 0), (3, .int x3), (4, .int x4), (5, .int x5), (6, .int x6)] [] σ) (h : B_M_parrots_190  k220 k190 x3 x4 x5 x6 σ = some res) : Go wM v p l e R s m args below meth c 0 0 Q 8 190 [(0, .ref 0), (3, .int x3), (4, .int x4), (5, .int x5), (6, .int x6)] [] σ := by
  unfold B_M_parrots_190 at h
  refine go_iload X 4 (dk dt_M_parrots_6 6 rfl) rfl ?_
  refine go_bipush X (dk dt_M_parrots_6 7 rfl) cb_8 ?_
  refine go_icmp_gt (tgt := 220) X (dk dt_M_parrots_6 8 rfl) (by decide) h (fun h => ?_) (fun h => ?_)
  · refine go_sub [1, 2, 3] rfl ?_
    exact hk220 _ _ _ _  h
  · refine go_iload_n X 1 (dk dt_M_parrots_6 9 rfl) rfl rfl ?_
    refine go_iconst X (dk dt_M_parrots_6 10 rfl) ci_2 ?_
    refine go_icmp_ge (tgt := 220) X (dk dt_M_parrots_6 11 rfl) (by decide) h (fun h => ?_) (fun h => ?_)
    · refine go_sub [1, 2, 3] rfl ?_
      exact hk220 _ _ _ _  h
    · refine go_iload X 3 (dk dt_M_parrots_6 12 rfl) rfl ?_
      refine go_aload_n X 0 (dk dt_M_parrots_6 13 rfl) rfl rfl ?_
      refine go_getr X fo_X12_116 lM_0 sM_0 fM_0_59 (dk dt_M_parrots_6 14 rfl) ?_
      refine go_iload X 4 (dk dt_M_parrots_6 15 rfl) rfl ?_
      refine go_iald X lM_36 sM_36 (dk dt_M_parrots_7 0 rfl) h (fun h => ?_)
      refine go_iadd X (dk dt_M_parrots_7 1 rfl) ?_
      refine go_istore (lv' := [(5, .int (x5 + (σ 36 (Int32.toNatClampNeg x6)))), (0, .ref 0), (3, .int x3), (4, .int x4), (6, .int x6)]) X (dk dt_M_parrots_7 2 rfl) (by decide) rfl ?_
      refine go_iinc (lv' := [(6, .int (x6 + (1 : Int32))), (5, .int (x5 + (σ 36 (Int32.toNatClampNeg x6)))), (0, .ref 0), (3, .int x3), (4, .int x4)]) X 4 (dk dt_M_parrots_7 3 rfl) rfl ci_1 (by decide) rfl ?_
      refine go_goto (tgt := 190) X (dk dt_M_parrots_7 4 rfl) (by decide) ?_
      refine go_sub [2, 3, 4, 1, 0] rfl ?_
      exact hk190 _ _ _ _ _  h
set_option maxRecDepth 20000 in
theorem lkL_M_parrots_190 (hi : zInj wM v) (xc : XC wM v) (nx : NXM v) (X : Cx wM v p R s m args c 0 0 cX12_parrots 8 RX12 4) (rt : Rt wM v p l e R s m args below meth c 0 0 Q cX12_parrots false (some (.int res.1)) res.2) {k220 : Int32 → Int32 → Int32 → Hp → Option (Int32 × Hp)} (hk220 : ∀ (x3 : Int32) (x4 : Int32) (x5 : Int32) (σ : Hp),  k220 x3 x4 x5 σ = some res → Go wM v p l e R s m args below meth c 0 0 Q 8 220 [(3, .int x3), (4, .int x4), (5, .int x5)] [] σ) (n : Nat) : ∀ {x3 : Int32} {x4 : Int32} {x5 : Int32} {x6 : Int32} {σ : Hp},  L_M_parrots_190  k220 n x3 x4 x5 x6 σ = some res → Go wM v p l e R s m args below meth c 0 0 Q 8 190 [(0, .ref 0), (3, .int x3), (4, .int x4), (5, .int x5), (6, .int x6)] [] σ := by
  induction n with
  | zero => intro x3 x4 x5 x6 σ  h; cases h
  | succ n ih =>
    intro x3 x4 x5 x6 σ  h
    exact lkB_M_parrots_190 hi xc nx X rt  hk220 (fun _ _ _ _ _  hh => ih  hh) h
set_option maxRecDepth 20000 in
theorem lkJ_M_parrots_220 (hi : zInj wM v) (xc : XC wM v) (nx : NXM v) (X : Cx wM v p R s m args c 0 0 cX12_parrots 8 RX12 4) (rt : Rt wM v p l e R s m args below meth c 0 0 Q cX12_parrots false (some (.int res.1)) res.2)  {x3 : Int32} {x4 : Int32} {x5 : Int32} {σ : Hp}   (h : J_M_parrots_220   x3 x4 x5 σ = some res) : Go wM v p l e R s m args below meth c 0 0 Q 8 220 [(3, .int x3), (4, .int x4), (5, .int x5)] [] σ := by
  unfold J_M_parrots_220 at h
  refine go_iload X 1 (dk dt_M_parrots_7 5 rfl) rfl ?_
  refine go_iload X 2 (dk dt_M_parrots_7 6 rfl) rfl ?_
  refine go_Si (As := [.int x4, .int x5]) (rest := []) X so_X12_436 (fun q hq => ct_M_gcd hi xc nx  hq) (by decide) rfl rfl (Nat.le_of_ble_eq_true rfl) (dk dt_M_parrots_7 7 rfl) h (fun q224 h => ?_)
  refine go_istore (lv' := [(6, .int q224.1), (3, .int x3), (4, .int x4), (5, .int x5)]) X (dk dt_M_parrots_7 8 rfl) (by decide) rfl ?_
  refine go_iload_n X 1 (dk dt_M_parrots_7 9 rfl) rfl rfl ?_
  refine go_iconst X (dk dt_M_parrots_7 10 rfl) ci_2 ?_
  refine go_iremL X (dk dt_M_parrots_7 11 rfl) (by decide) ?_
  refine go_if_ne (tgt := 243) X (dk dt_M_parrots_7 12 rfl) (by decide) h (fun h => ?_) (fun h => ?_)
  · refine go_iload X 2 (dk dt_M_parrots_8 1 rfl) rfl ?_
    refine go_iload X 0 (dk dt_M_parrots_8 2 rfl) rfl ?_
    refine go_idiv X (dk dt_M_parrots_8 3 rfl) h (fun h => ?_)
    exact go_iret rt (dk dt_M_parrots_8 4 rfl) h (fun hh => nomatch hh)
  · refine go_iload X 3 (dk dt_M_parrots_7 13 rfl) rfl ?_
    refine go_iload X 0 (dk dt_M_parrots_7 14 rfl) rfl ?_
    refine go_idiv X (dk dt_M_parrots_7 15 rfl) h (fun h => ?_)
    refine go_goto (tgt := 248) X (dk dt_M_parrots_8 0 rfl) (by decide) ?_
    exact go_iret rt (dk dt_M_parrots_8 4 rfl) h (fun hh => nomatch hh)
set_option maxRecDepth 20000 in
theorem lkJ_M_parrots_177 (hi : zInj wM v) (xc : XC wM v) (nx : NXM v) (X : Cx wM v p R s m args c 0 0 cX12_parrots 8 RX12 4) (rt : Rt wM v p l e R s m args below meth c 0 0 Q cX12_parrots false (some (.int res.1)) res.2)  {x2 : Int32} {x3 : Int32} {x4 : Int32} {σ : Hp}   (h : J_M_parrots_177   x2 x3 x4 σ = some res) : Go wM v p l e R s m args below meth c 0 0 Q 8 177 [(0, .ref 0), (2, .int x2), (3, .int x3), (4, .int x4)] [] σ := by
  unfold J_M_parrots_177 at h
  refine go_aload_n X 0 (dk dt_M_parrots_5 13 rfl) rfl rfl ?_
  refine go_getr X fo_X12_116 lM_0 sM_0 fM_0_59 (dk dt_M_parrots_5 14 rfl) ?_
  refine go_iload_n X 1 (dk dt_M_parrots_5 15 rfl) rfl rfl ?_
  refine go_iald X lM_36 sM_36 (dk dt_M_parrots_6 0 rfl) h (fun h => ?_)
  refine go_istore (lv' := [(5, .int (σ 36 (Int32.toNatClampNeg x2))), (0, .ref 0), (2, .int x2), (3, .int x3), (4, .int x4)]) X (dk dt_M_parrots_6 1 rfl) (by decide) rfl ?_
  refine go_iload_n X 2 (dk dt_M_parrots_6 2 rfl) rfl rfl ?_
  refine go_iconst X (dk dt_M_parrots_6 3 rfl) ci_1 ?_
  refine go_iadd X (dk dt_M_parrots_6 4 rfl) ?_
  refine go_istore (lv' := [(6, .int (x2 + (1 : Int32))), (5, .int (σ 36 (Int32.toNatClampNeg x2))), (0, .ref 0), (2, .int x2), (3, .int x3), (4, .int x4)]) X (dk dt_M_parrots_6 5 rfl) (by decide) rfl ?_
  refine go_sub [2, 4, 5, 1, 0] rfl ?_
  exact lkL_M_parrots_190 hi xc nx X rt (fun _ _ _ _  hh => lkJ_M_parrots_220 hi xc nx X rt   hh) FU  h
set_option maxRecDepth 20000 in
theorem lkJ_M_parrots_80 (hi : zInj wM v) (xc : XC wM v) (nx : NXM v) (X : Cx wM v p R s m args c 0 0 cX12_parrots 8 RX12 4) (rt : Rt wM v p l e R s m args below meth c 0 0 Q cX12_parrots false (some (.int res.1)) res.2)  {x1 : Int32} {x2 : Int32} {x3 : Int32} {x4 : Int32} {σ : Hp}   (h : J_M_parrots_80   x1 x2 x3 x4 σ = some res) : Go wM v p l e R s m args below meth c 0 0 Q 8 80 [(0, .ref 0), (1, .int x1), (2, .int x2), (3, .int x3), (4, .int x4)] [] σ := by
  unfold J_M_parrots_80 at h
  refine go_iconst X (dk dt_M_parrots_2 10 rfl) ci_0 ?_
  refine go_istore (lv' := [(5, .int (0 : Int32)), (0, .ref 0), (1, .int x1), (2, .int x2), (3, .int x3), (4, .int x4)]) X (dk dt_M_parrots_2 11 rfl) (by decide) rfl ?_
  refine go_sub [1, 2, 3, 4, 5, 0] rfl ?_
  exact lkL_M_parrots_83 hi xc nx X rt (fun _ _ _ _  hh => lkJ_M_parrots_177 hi xc nx X rt   hh) FU  h
set_option maxRecDepth 20000 in
theorem lkF_M_parrots (hi : zInj wM v) (xc : XC wM v) (nx : NXM v) (X : Cx wM v p R s m args c 0 0 cX12_parrots 8 RX12 4) (rt : Rt wM v p l e R s m args below meth c 0 0 Q cX12_parrots false (some (.int res.1)) res.2) {a1 : Int32} {a2 : Int32} {a3 : Int32} {σ : Hp}  (h : F_M_parrots  a1 a2 a3 σ = some res) : Go wM v p l e R s m args below meth c 0 0 Q 8 0 [(0, .ref 0), (1, .int a1), (2, .int a2), (3, .int a3)] [] σ := by
  unfold F_M_parrots at h
  refine go_iload_n X 1 (dk dt_M_parrots_0 0 rfl) rfl rfl ?_
  refine go_iconst X (dk dt_M_parrots_0 1 rfl) ci_1 ?_
  refine go_bipush X (dk dt_M_parrots_0 2 rfl) cb_8 ?_
  refine go_Si (As := [.int a1, .int (1 : Int32), .int (8 : Int32)]) (rest := []) X so_X12_122 (fun q hq => ct_M_in hi xc nx  hq) (by decide) rfl rfl (Nat.le_of_ble_eq_true rfl) (dk dt_M_parrots_0 3 rfl) h (fun q4 h => ?_)
  refine go_if_eq (tgt := 37) X (dk dt_M_parrots_0 4 rfl) (by decide) h (fun h => ?_) (fun h => ?_)
  · refine go_iconst X (dk dt_M_parrots_1 3 rfl) ci_m1 ?_
    exact go_iret rt (dk dt_M_parrots_1 4 rfl) h (fun hh => nomatch hh)
  · refine go_iload_n X 2 (dk dt_M_parrots_0 5 rfl) rfl rfl ?_
    refine go_iconst X (dk dt_M_parrots_0 6 rfl) ci_0 ?_
    refine go_bipush X (dk dt_M_parrots_0 7 rfl) cb_8 ?_
    refine go_Si (As := [.int a2, .int (0 : Int32), .int (8 : Int32)]) (rest := []) X so_X12_122 (fun q hq => ct_M_in hi xc nx  hq) (by decide) rfl rfl (Nat.le_of_ble_eq_true rfl) (dk dt_M_parrots_0 8 rfl) h (fun q14 h => ?_)
    refine go_if_eq (tgt := 37) X (dk dt_M_parrots_0 9 rfl) (by decide) h (fun h => ?_) (fun h => ?_)
    · refine go_iconst X (dk dt_M_parrots_1 3 rfl) ci_m1 ?_
      exact go_iret rt (dk dt_M_parrots_1 4 rfl) h (fun hh => nomatch hh)
    · refine go_iload_n X 3 (dk dt_M_parrots_0 10 rfl) rfl rfl ?_
      refine go_iconst X (dk dt_M_parrots_0 11 rfl) ci_0 ?_
      refine go_iconst X (dk dt_M_parrots_0 12 rfl) ci_3 ?_
      refine go_Si (As := [.int a3, .int (0 : Int32), .int (3 : Int32)]) (rest := []) X so_X12_122 (fun q hq => ct_M_in hi xc nx  hq) (by decide) rfl rfl (Nat.le_of_ble_eq_true rfl) (dk dt_M_parrots_0 13 rfl) h (fun q23 h => ?_)
      refine go_if_eq (tgt := 37) X (dk dt_M_parrots_0 14 rfl) (by decide) h (fun h => ?_) (fun h => ?_)
      · refine go_iconst X (dk dt_M_parrots_1 3 rfl) ci_m1 ?_
        exact go_iret rt (dk dt_M_parrots_1 4 rfl) h (fun hh => nomatch hh)
      · refine go_iload_n X 1 (dk dt_M_parrots_0 15 rfl) rfl rfl ?_
        refine go_aload_n X 0 (dk dt_M_parrots_1 0 rfl) rfl rfl ?_
        refine go_geti X fo_X12_147 lM_0 sM_0 fM_0_6 (dk dt_M_parrots_1 1 rfl) ?_
        refine go_icmp_le (tgt := 39) X (dk dt_M_parrots_1 2 rfl) (by decide) h (fun h => ?_) (fun h => ?_)
        · refine go_aload_n X 0 (dk dt_M_parrots_1 5 rfl) rfl rfl ?_
          refine go_iconst X (dk dt_M_parrots_1 6 rfl) ci_0 ?_
          refine go_puti X fo_X12_147 pf_12_6 lM_0 sM_0 fM_0_6 (dk dt_M_parrots_1 7 rfl) ?_
          refine go_iconst X (dk dt_M_parrots_1 8 rfl) ci_1 ?_
          refine go_istore (lv' := [(4, .int (1 : Int32)), (0, .ref 0), (1, .int a1), (2, .int a2), (3, .int a3)]) X (dk dt_M_parrots_1 9 rfl) (by decide) rfl ?_
          refine go_iconst X (dk dt_M_parrots_1 10 rfl) ci_0 ?_
          refine go_istore (lv' := [(5, .int (0 : Int32)), (4, .int (1 : Int32)), (0, .ref 0), (1, .int a1), (2, .int a2), (3, .int a3)]) X (dk dt_M_parrots_1 11 rfl) (by decide) rfl ?_
          refine go_sub [2, 3, 4, 5, 1, 0] rfl ?_
          exact lkL_M_parrots_50 hi xc nx X rt (fun _ _ _ _ _  hh => lkJ_M_parrots_80 hi xc nx X rt   hh) FU  h
        · refine go_iconst X (dk dt_M_parrots_1 3 rfl) ci_m1 ?_
          exact go_iret rt (dk dt_M_parrots_1 4 rfl) h (fun hh => nomatch hh)
set_option maxRecDepth 20000 in
theorem ct_M_parrots (hi : zInj wM v) (xc : XC wM v) (nx : NXM v)  {a1 : Int32} {a2 : Int32} {a3 : Int32} {σ : Hp}  {q : (Int32 × Hp)} (h : F_M_parrots  a1 a2 a3 σ = some q) : Ct wM v l yX12_parrots cX12_parrots 8 (some .int) 4 [.ref 0, .int a1, .int a2, .int a3] σ (some (.int q.1)) q.2 :=
  Ct.intro false (by decide) hi xc (Nat.le_of_ble_eq_true rfl) rfl (fun p e R s m args below meth c Q X rt => lkF_M_parrots hi xc nx X rt  h)
end
def T_M_readsTimes_0 : DT := [(0, .aload_n 0, 1), (1, .aload_n 0, 1), (2, .getfield 155, 3), (5, .putfield 301, 3), (8, .aload_n 0, 1), (9, .iconst 1, 1), (10, .putfield 304, 3), (13, .aload_n 0, 1), (14, .invokevirtual 161, 3), (17, .bipush 50, 2), (19, .bipush 57, 2), (21, .invokestatic 122, 3), (24, .ifCond .ne 4, 3), (27, .return_, 1), (28, .aload_n 0, 1), (29, .aload_n 0, 1)]
theorem dt_M_readsTimes_0 : dOk cX12_readsTimes T_M_readsTimes_0 := by unfold dOk; decide +kernel
def T_M_readsTimes_1 : DT := [(30, .invokevirtual 161, 3), (33, .bipush 48, 2), (35, .isub, 1), (36, .putfield 304, 3), (39, .aload_n 0, 1), (40, .aload_n 0, 1), (41, .getfield 155, 3), (44, .iconst 1, 1), (45, .iadd, 1), (46, .putfield 155, 3), (49, .return_, 1)]
theorem dt_M_readsTimes_1 : dOk cX12_readsTimes T_M_readsTimes_1 := by unfold dOk; decide +kernel
section
variable {v : ZV} {l : Launch} {p : Program} {e : Env} {R : Room} {s : State} {m : MethodId} {args : Array Value} {below : List Frame} {meth : Method} {c : Code} {Q : State → Prop} {res : Hp} 
set_option maxRecDepth 20000 in
theorem lkF_M_readsTimes (hi : zInj wM v) (xc : XC wM v) (nx : NXM v) (X : Cx wM v p R s m args c 0 0 cX12_readsTimes 1 RX12 4) (rt : Rt wM v p l e R s m args below meth c 0 0 Q cX12_readsTimes false none res)  {σ : Hp}  (h : F_M_readsTimes   σ = some res) : Go wM v p l e R s m args below meth c 0 0 Q 1 0 [(0, .ref 0)] [] σ := by
  unfold F_M_readsTimes at h
  refine go_aload_n X 0 (dk dt_M_readsTimes_0 0 rfl) rfl rfl ?_
  refine go_aload_n X 0 (dk dt_M_readsTimes_0 1 rfl) rfl rfl ?_
  refine go_geti X fo_X12_155 lM_0 sM_0 fM_0_7 (dk dt_M_readsTimes_0 2 rfl) ?_
  refine go_puti X fo_X12_301 pf_12_38 lM_0 sM_0 fM_0_38 (dk dt_M_readsTimes_0 3 rfl) ?_
  refine go_aload_n X 0 (dk dt_M_readsTimes_0 4 rfl) rfl rfl ?_
  refine go_iconst X (dk dt_M_readsTimes_0 5 rfl) ci_1 ?_
  refine go_puti X fo_X12_304 pf_12_39 lM_0 sM_0 fM_0_39 (dk dt_M_readsTimes_0 6 rfl) ?_
  refine go_aload_n X 0 (dk dt_M_readsTimes_0 7 rfl) rfl rfl ?_
  refine go_Vi (As := []) (rest := []) X vo_X12_161 (fun q hq => ct_M_here hi xc nx  hq) (by decide) rfl lM_0 sM_0 rfl rfl (Nat.le_of_ble_eq_true rfl) (dk dt_M_readsTimes_0 8 rfl) h (fun q14 h => ?_)
  refine go_bipush X (dk dt_M_readsTimes_0 9 rfl) cb_50 ?_
  refine go_bipush X (dk dt_M_readsTimes_0 10 rfl) cb_57 ?_
  refine go_Si (As := [.int q14.1, .int (50 : Int32), .int (57 : Int32)]) (rest := []) X so_X12_122 (fun q hq => ct_M_in hi xc nx  hq) (by decide) rfl rfl (Nat.le_of_ble_eq_true rfl) (dk dt_M_readsTimes_0 11 rfl) h (fun q21 h => ?_)
  refine go_if_ne (tgt := 28) X (dk dt_M_readsTimes_0 12 rfl) (by decide) h (fun h => ?_) (fun h => ?_)
  · refine go_aload_n X 0 (dk dt_M_readsTimes_0 14 rfl) rfl rfl ?_
    refine go_aload_n X 0 (dk dt_M_readsTimes_0 15 rfl) rfl rfl ?_
    refine go_Vi (As := []) (rest := [.ref 0]) X vo_X12_161 (fun q hq => ct_M_here hi xc nx  hq) (by decide) rfl lM_0 sM_0 rfl rfl (Nat.le_of_ble_eq_true rfl) (dk dt_M_readsTimes_1 0 rfl) h (fun q30 h => ?_)
    refine go_bipush X (dk dt_M_readsTimes_1 1 rfl) cb_48 ?_
    refine go_isub X (dk dt_M_readsTimes_1 2 rfl) ?_
    refine go_puti X fo_X12_304 pf_12_39 lM_0 sM_0 fM_0_39 (dk dt_M_readsTimes_1 3 rfl) ?_
    refine go_aload_n X 0 (dk dt_M_readsTimes_1 4 rfl) rfl rfl ?_
    refine go_aload_n X 0 (dk dt_M_readsTimes_1 5 rfl) rfl rfl ?_
    refine go_geti X fo_X12_155 lM_0 sM_0 fM_0_7 (dk dt_M_readsTimes_1 6 rfl) ?_
    refine go_iconst X (dk dt_M_readsTimes_1 7 rfl) ci_1 ?_
    refine go_iadd X (dk dt_M_readsTimes_1 8 rfl) ?_
    refine go_puti X fo_X12_155 pf_12_7 lM_0 sM_0 fM_0_7 (dk dt_M_readsTimes_1 9 rfl) ?_
    exact go_vret rt (dk dt_M_readsTimes_1 10 rfl) h
  · exact go_vret rt (dk dt_M_readsTimes_0 13 rfl) h
set_option maxRecDepth 20000 in
theorem ct_M_readsTimes (hi : zInj wM v) (xc : XC wM v) (nx : NXM v)   {σ : Hp}  {q : Hp} (h : F_M_readsTimes   σ = some q) : Ct wM v l yX12_readsTimes cX12_readsTimes 1 none 4 [.ref 0] σ none q :=
  Ct.intro false (by decide) hi xc (Nat.le_of_ble_eq_true rfl) rfl (fun p e R s m args below meth c Q X rt => lkF_M_readsTimes hi xc nx X rt  h)
end
def T_M_repeats_0 : DT := [(0, .aload_n 0, 1), (1, .getfield 298, 3), (4, .iload_n 1, 1), (5, .isub, 1), (6, .istore 4, 2), (8, .iload_n 1, 1), (9, .iload 4, 2), (11, .iload_n 2, 1), (12, .imul, 1), (13, .iadd, 1), (14, .bipush 60, 2), (16, .if_icmp .le 11, 3), (19, .aload_n 0, 1), (20, .bipush 6, 2), (22, .iload_n 3, 1), (23, .invokevirtual 168, 3)]
theorem dt_M_repeats_0 : dOk cX12_repeats T_M_repeats_0 := by unfold dOk; decide +kernel
def T_M_repeats_1 : DT := [(26, .ireturn, 1), (27, .iload 4, 2), (29, .istore 5, 2), (31, .iload 5, 2), (33, .iload 4, 2), (35, .iload_n 2, 1), (36, .imul, 1), (37, .if_icmp .ge 30, 3), (40, .aload_n 0, 1), (41, .getfield 74, 3), (44, .iload_n 1, 1), (45, .iload 5, 2), (47, .iadd, 1), (48, .aload_n 0, 1), (49, .getfield 74, 3), (52, .iload_n 1, 1)]
theorem dt_M_repeats_1 : dOk cX12_repeats T_M_repeats_1 := by unfold dOk; decide +kernel
def T_M_repeats_2 : DT := [(53, .iload 5, 2), (55, .iadd, 1), (56, .iload 4, 2), (58, .isub, 1), (59, .iaload, 1), (60, .iastore, 1), (61, .iinc 5 1, 3), (64, .goto (-33), 3), (67, .aload_n 0, 1), (68, .iload_n 1, 1), (69, .iload 4, 2), (71, .iload_n 2, 1), (72, .imul, 1), (73, .iadd, 1), (74, .putfield 298, 3), (77, .iconst 1, 1)]
theorem dt_M_repeats_2 : dOk cX12_repeats T_M_repeats_2 := by unfold dOk; decide +kernel
def T_M_repeats_3 : DT := [(78, .ireturn, 1)]
theorem dt_M_repeats_3 : dOk cX12_repeats T_M_repeats_3 := by unfold dOk; decide +kernel
section
variable {v : ZV} {l : Launch} {p : Program} {e : Env} {R : Room} {s : State} {m : MethodId} {args : Array Value} {below : List Frame} {meth : Method} {c : Code} {Q : State → Prop} {res : (Int32 × Hp)} 
set_option maxRecDepth 20000 in
theorem lkB_M_repeats_31 (hi : zInj wM v) (xc : XC wM v) (nx : NXM v) (X : Cx wM v p R s m args c 0 0 cX12_repeats 6 RX12 4) (rt : Rt wM v p l e R s m args below meth c 0 0 Q cX12_repeats true (some (.int res.1)) res.2) {k67 : Int32 → Int32 → Int32 → Hp → Option (Int32 × Hp)} {k31 : Int32 → Int32 → Int32 → Int32 → Hp → Option (Int32 × Hp)} {x1 : Int32} {x2 : Int32} {x4 : Int32} {x5 : Int32} {σ : Hp}  (hk67 : ∀ (x1 : Int32) (x2 : Int32) (x4 : Int32) (σ : Hp),  k67 x1 x2 x4 σ = some res → Go wM v p l e R s m args below meth c 0 0 Q 6 67 [(0, .ref 0), (1, .int x1), (2, .int x2), (4, .int x4)] [] σ) (hk31 : ∀ (x1 : Int32) (x2 : Int32) (x4 : Int32) (x5 : Int32) (σ : Hp),  k31 x1 x2 x4 x5 σ = some res → Go wM v p l e R s m args below meth c 0 0 Q 6 31 [(0, .ref 0), (1, .int x1), (2, .int x2), (4, .int x4), (5, .int x5)] [] σ) (h : B_M_repeats_31  k67 k31 x1 x2 x4 x5 σ = some res) : Go wM v p l e R s m args below meth c 0 0 Q 6 31 [(0, .ref 0), (1, .int x1), (2, .int x2), (4, .int x4), (5, .int x5)] [] σ := by
  unfold B_M_repeats_31 at h
  refine go_iload X 4 (dk dt_M_repeats_1 3 rfl) rfl ?_
  refine go_iload X 3 (dk dt_M_repeats_1 4 rfl) rfl ?_
  refine go_iload_n X 2 (dk dt_M_repeats_1 5 rfl) rfl rfl ?_
  refine go_imul X (dk dt_M_repeats_1 6 rfl) ?_
  refine go_icmp_ge (tgt := 67) X (dk dt_M_repeats_1 7 rfl) (by decide) h (fun h => ?_) (fun h => ?_)
  · refine go_sub [0, 1, 2, 3] rfl ?_
    exact hk67 _ _ _ _  h
  · refine go_aload_n X 0 (dk dt_M_repeats_1 8 rfl) rfl rfl ?_
    refine go_getr X fo_X12_74 lM_0 sM_0 fM_0_32 (dk dt_M_repeats_1 9 rfl) ?_
    refine go_iload_n X 1 (dk dt_M_repeats_1 10 rfl) rfl rfl ?_
    refine go_iload X 4 (dk dt_M_repeats_1 11 rfl) rfl ?_
    refine go_iadd X (dk dt_M_repeats_1 12 rfl) ?_
    refine go_aload_n X 0 (dk dt_M_repeats_1 13 rfl) rfl rfl ?_
    refine go_getr X fo_X12_74 lM_0 sM_0 fM_0_32 (dk dt_M_repeats_1 14 rfl) ?_
    refine go_iload_n X 1 (dk dt_M_repeats_1 15 rfl) rfl rfl ?_
    refine go_iload X 4 (dk dt_M_repeats_2 0 rfl) rfl ?_
    refine go_iadd X (dk dt_M_repeats_2 1 rfl) ?_
    refine go_iload X 3 (dk dt_M_repeats_2 2 rfl) rfl ?_
    refine go_isub X (dk dt_M_repeats_2 3 rfl) ?_
    refine go_iald X lM_22 sM_22 (dk dt_M_repeats_2 4 rfl) h (fun h => ?_)
    refine go_iast X lM_22 sM_22 (dk dt_M_repeats_2 5 rfl) h (fun h => ?_)
    refine go_iinc (lv' := [(5, .int (x5 + (1 : Int32))), (0, .ref 0), (1, .int x1), (2, .int x2), (4, .int x4)]) X 4 (dk dt_M_repeats_2 6 rfl) rfl ci_1 (by decide) rfl ?_
    refine go_goto (tgt := 31) X (dk dt_M_repeats_2 7 rfl) (by decide) ?_
    refine go_sub [1, 2, 3, 4, 0] rfl ?_
    exact hk31 _ _ _ _ _  h
set_option maxRecDepth 20000 in
theorem lkL_M_repeats_31 (hi : zInj wM v) (xc : XC wM v) (nx : NXM v) (X : Cx wM v p R s m args c 0 0 cX12_repeats 6 RX12 4) (rt : Rt wM v p l e R s m args below meth c 0 0 Q cX12_repeats true (some (.int res.1)) res.2) {k67 : Int32 → Int32 → Int32 → Hp → Option (Int32 × Hp)} (hk67 : ∀ (x1 : Int32) (x2 : Int32) (x4 : Int32) (σ : Hp),  k67 x1 x2 x4 σ = some res → Go wM v p l e R s m args below meth c 0 0 Q 6 67 [(0, .ref 0), (1, .int x1), (2, .int x2), (4, .int x4)] [] σ) (n : Nat) : ∀ {x1 : Int32} {x2 : Int32} {x4 : Int32} {x5 : Int32} {σ : Hp},  L_M_repeats_31  k67 n x1 x2 x4 x5 σ = some res → Go wM v p l e R s m args below meth c 0 0 Q 6 31 [(0, .ref 0), (1, .int x1), (2, .int x2), (4, .int x4), (5, .int x5)] [] σ := by
  induction n with
  | zero => intro x1 x2 x4 x5 σ  h; cases h
  | succ n ih =>
    intro x1 x2 x4 x5 σ  h
    exact lkB_M_repeats_31 hi xc nx X rt  hk67 (fun _ _ _ _ _  hh => ih  hh) h
set_option maxRecDepth 20000 in
theorem lkJ_M_repeats_67 (hi : zInj wM v) (xc : XC wM v) (nx : NXM v) (X : Cx wM v p R s m args c 0 0 cX12_repeats 6 RX12 4) (rt : Rt wM v p l e R s m args below meth c 0 0 Q cX12_repeats true (some (.int res.1)) res.2)  {x1 : Int32} {x2 : Int32} {x4 : Int32} {σ : Hp}   (h : J_M_repeats_67   x1 x2 x4 σ = some res) : Go wM v p l e R s m args below meth c 0 0 Q 6 67 [(0, .ref 0), (1, .int x1), (2, .int x2), (4, .int x4)] [] σ := by
  unfold J_M_repeats_67 at h
  refine go_aload_n X 0 (dk dt_M_repeats_2 8 rfl) rfl rfl ?_
  refine go_iload_n X 1 (dk dt_M_repeats_2 9 rfl) rfl rfl ?_
  refine go_iload X 3 (dk dt_M_repeats_2 10 rfl) rfl ?_
  refine go_iload_n X 2 (dk dt_M_repeats_2 11 rfl) rfl rfl ?_
  refine go_imul X (dk dt_M_repeats_2 12 rfl) ?_
  refine go_iadd X (dk dt_M_repeats_2 13 rfl) ?_
  refine go_puti X fo_X12_298 pf_12_36 lM_0 sM_0 fM_0_36 (dk dt_M_repeats_2 14 rfl) ?_
  refine go_iconst X (dk dt_M_repeats_2 15 rfl) ci_1 ?_
  exact go_iret rt (dk dt_M_repeats_3 0 rfl) h (by decide)
set_option maxRecDepth 20000 in
theorem lkF_M_repeats (hi : zInj wM v) (xc : XC wM v) (nx : NXM v) (X : Cx wM v p R s m args c 0 0 cX12_repeats 6 RX12 4) (rt : Rt wM v p l e R s m args below meth c 0 0 Q cX12_repeats true (some (.int res.1)) res.2) {a1 : Int32} {a2 : Int32} {a3 : Int32} {σ : Hp}  (h : F_M_repeats  a1 a2 a3 σ = some res) : Go wM v p l e R s m args below meth c 0 0 Q 6 0 [(0, .ref 0), (1, .int a1), (2, .int a2), (3, .int a3)] [] σ := by
  unfold F_M_repeats at h
  refine go_aload_n X 0 (dk dt_M_repeats_0 0 rfl) rfl rfl ?_
  refine go_geti X fo_X12_298 lM_0 sM_0 fM_0_36 (dk dt_M_repeats_0 1 rfl) ?_
  refine go_iload_n X 1 (dk dt_M_repeats_0 2 rfl) rfl rfl ?_
  refine go_isub X (dk dt_M_repeats_0 3 rfl) ?_
  refine go_istore (lv' := [(4, .int ((σ 0 36) - a1)), (0, .ref 0), (1, .int a1), (2, .int a2), (3, .int a3)]) X (dk dt_M_repeats_0 4 rfl) (by decide) rfl ?_
  refine go_iload_n X 2 (dk dt_M_repeats_0 5 rfl) rfl rfl ?_
  refine go_iload X 0 (dk dt_M_repeats_0 6 rfl) rfl ?_
  refine go_iload_n X 3 (dk dt_M_repeats_0 7 rfl) rfl rfl ?_
  refine go_imul X (dk dt_M_repeats_0 8 rfl) ?_
  refine go_iadd X (dk dt_M_repeats_0 9 rfl) ?_
  refine go_bipush X (dk dt_M_repeats_0 10 rfl) cb_60 ?_
  refine go_icmp_le (tgt := 27) X (dk dt_M_repeats_0 11 rfl) (by decide) h (fun h => ?_) (fun h => ?_)
  · refine go_iload X 0 (dk dt_M_repeats_1 1 rfl) rfl ?_
    refine go_istore (lv' := [(5, .int ((σ 0 36) - a1)), (4, .int ((σ 0 36) - a1)), (0, .ref 0), (1, .int a1), (2, .int a2), (3, .int a3)]) X (dk dt_M_repeats_1 2 rfl) (by decide) rfl ?_
    refine go_sub [2, 3, 4, 1, 0] rfl ?_
    exact lkL_M_repeats_31 hi xc nx X rt (fun _ _ _ _  hh => lkJ_M_repeats_67 hi xc nx X rt   hh) FU  h
  · refine go_aload_n X 1 (dk dt_M_repeats_0 12 rfl) rfl rfl ?_
    refine go_bipush X (dk dt_M_repeats_0 13 rfl) cb_6 ?_
    refine go_iload_n X 4 (dk dt_M_repeats_0 14 rfl) rfl rfl ?_
    refine go_Vi (As := [.int (6 : Int32), .int a3]) (rest := []) X vo_X12_168 (fun q hq => ct_M_wrongAt hi xc nx  hq) (by decide) rfl lM_0 sM_0 rfl rfl (Nat.le_of_ble_eq_true rfl) (dk dt_M_repeats_0 15 rfl) h (fun q23 h => ?_)
    exact go_zret rt (dk dt_M_repeats_1 0 rfl) h
set_option maxRecDepth 20000 in
theorem ct_M_repeats (hi : zInj wM v) (xc : XC wM v) (nx : NXM v)  {a1 : Int32} {a2 : Int32} {a3 : Int32} {σ : Hp}  {q : (Int32 × Hp)} (h : F_M_repeats  a1 a2 a3 σ = some q) : Ct wM v l yX12_repeats cX12_repeats 6 (some .boolean) 4 [.ref 0, .int a1, .int a2, .int a3] σ (some (.int q.1)) q.2 :=
  Ct.intro true (by decide) hi xc (Nat.le_of_ble_eq_true rfl) rfl (fun p e R s m args below meth c Q X rt => lkF_M_repeats hi xc nx X rt  h)
end
def T_M_readsItem_0 : DT := [(0, .aload_n 0, 1), (1, .invokevirtual 307, 3), (4, .aload_n 0, 1), (5, .invokevirtual 161, 3), (8, .bipush 40, 2), (10, .if_icmp .ne 87, 3), (13, .aload_n 0, 1), (14, .getfield 310, 3), (17, .iconst 2, 1), (18, .if_icmp .ne 13, 3), (21, .aload_n 0, 1), (22, .iconst 5, 1), (23, .aload_n 0, 1), (24, .getfield 155, 3), (27, .invokevirtual 168, 3), (30, .ireturn, 1)]
theorem dt_M_readsItem_0 : dOk cX12_readsItem T_M_readsItem_0 := by unfold dOk; decide +kernel
def T_M_readsItem_1 : DT := [(31, .aload_n 0, 1), (32, .getfield 77, 3), (35, .aload_n 0, 1), (36, .getfield 310, 3), (39, .aload_n 0, 1), (40, .getfield 301, 3), (43, .iastore, 1), (44, .aload_n 0, 1), (45, .getfield 80, 3), (48, .aload_n 0, 1), (49, .getfield 310, 3), (52, .aload_n 0, 1), (53, .getfield 298, 3), (56, .iastore, 1), (57, .aload_n 0, 1), (58, .getfield 83, 3)]
theorem dt_M_readsItem_1 : dOk cX12_readsItem T_M_readsItem_1 := by unfold dOk; decide +kernel
def T_M_readsItem_2 : DT := [(61, .aload_n 0, 1), (62, .getfield 310, 3), (65, .aload_n 0, 1), (66, .getfield 304, 3), (69, .iastore, 1), (70, .aload_n 0, 1), (71, .aload_n 0, 1), (72, .getfield 310, 3), (75, .iconst 1, 1), (76, .iadd, 1), (77, .putfield 310, 3), (80, .aload_n 0, 1), (81, .aload_n 0, 1), (82, .getfield 155, 3), (85, .iconst 1, 1), (86, .iadd, 1)]
theorem dt_M_readsItem_2 : dOk cX12_readsItem T_M_readsItem_2 := by unfold dOk; decide +kernel
def T_M_readsItem_3 : DT := [(87, .putfield 155, 3), (90, .aload_n 0, 1), (91, .invokevirtual 307, 3), (94, .goto (-90), 3), (97, .aload_n 0, 1), (98, .getfield 301, 3), (101, .istore_n 1, 1), (102, .aload_n 0, 1), (103, .getfield 304, 3), (106, .istore_n 2, 1), (107, .aload_n 0, 1), (108, .invokevirtual 161, 3), (111, .istore_n 3, 1), (112, .iload_n 3, 1), (113, .bipush 46, 2), (115, .if_icmp .eq 24, 3)]
theorem dt_M_readsItem_3 : dOk cX12_readsItem T_M_readsItem_3 := by unfold dOk; decide +kernel
def T_M_readsItem_4 : DT := [(118, .iload_n 3, 1), (119, .bipush 97, 2), (121, .bipush 101, 2), (123, .invokestatic 122, 3), (126, .ifCond .ne 13, 3), (129, .aload_n 0, 1), (130, .iconst 1, 1), (131, .aload_n 0, 1), (132, .getfield 155, 3), (135, .invokevirtual 168, 3), (138, .ireturn, 1), (139, .aload_n 0, 1), (140, .getfield 298, 3), (143, .iload_n 2, 1), (144, .iadd, 1), (145, .bipush 60, 2)]
theorem dt_M_readsItem_4 : dOk cX12_readsItem T_M_readsItem_4 := by unfold dOk; decide +kernel
def T_M_readsItem_5 : DT := [(147, .if_icmp .le 11, 3), (150, .aload_n 0, 1), (151, .bipush 6, 2), (153, .iload_n 1, 1), (154, .invokevirtual 168, 3), (157, .ireturn, 1), (158, .aload_n 0, 1), (159, .getfield 74, 3), (162, .aload_n 0, 1), (163, .getfield 298, 3), (166, .iload_n 3, 1), (167, .bipush 46, 2), (169, .if_icmp .ne 7, 3), (172, .iconst 0, 1), (173, .goto 9, 3), (176, .iload_n 3, 1)]
theorem dt_M_readsItem_5 : dOk cX12_readsItem T_M_readsItem_5 := by unfold dOk; decide +kernel
def T_M_readsItem_6 : DT := [(177, .bipush 97, 2), (179, .isub, 1), (180, .iconst 1, 1), (181, .iadd, 1), (182, .iastore, 1), (183, .aload_n 0, 1), (184, .aload_n 0, 1), (185, .getfield 298, 3), (188, .iconst 1, 1), (189, .iadd, 1), (190, .putfield 298, 3), (193, .aload_n 0, 1), (194, .aload_n 0, 1), (195, .getfield 155, 3), (198, .iconst 1, 1), (199, .iadd, 1)]
theorem dt_M_readsItem_6 : dOk cX12_readsItem T_M_readsItem_6 := by unfold dOk; decide +kernel
def T_M_readsItem_7 : DT := [(200, .putfield 155, 3), (203, .aload_n 0, 1), (204, .aload_n 0, 1), (205, .getfield 298, 3), (208, .iconst 1, 1), (209, .isub, 1), (210, .iload_n 2, 1), (211, .iload_n 1, 1), (212, .invokevirtual 313, 3), (215, .ifCond .ne 5, 3), (218, .iconst 0, 1), (219, .ireturn, 1), (220, .aload_n 0, 1), (221, .invokevirtual 161, 3), (224, .bipush 41, 2), (226, .if_icmp .ne 66, 3)]
theorem dt_M_readsItem_7 : dOk cX12_readsItem T_M_readsItem_7 := by unfold dOk; decide +kernel
def T_M_readsItem_8 : DT := [(229, .aload_n 0, 1), (230, .getfield 310, 3), (233, .ifCond .le 59, 3), (236, .aload_n 0, 1), (237, .aload_n 0, 1), (238, .getfield 155, 3), (241, .iconst 1, 1), (242, .iadd, 1), (243, .putfield 155, 3), (246, .aload_n 0, 1), (247, .aload_n 0, 1), (248, .getfield 310, 3), (251, .iconst 1, 1), (252, .isub, 1), (253, .putfield 310, 3), (256, .aload_n 0, 1)]
theorem dt_M_readsItem_8 : dOk cX12_readsItem T_M_readsItem_8 := by unfold dOk; decide +kernel
def T_M_readsItem_9 : DT := [(257, .aload_n 0, 1), (258, .getfield 80, 3), (261, .aload_n 0, 1), (262, .getfield 310, 3), (265, .iaload, 1), (266, .aload_n 0, 1), (267, .getfield 83, 3), (270, .aload_n 0, 1), (271, .getfield 310, 3), (274, .iaload, 1), (275, .aload_n 0, 1), (276, .getfield 77, 3), (279, .aload_n 0, 1), (280, .getfield 310, 3), (283, .iaload, 1), (284, .invokevirtual 313, 3)]
theorem dt_M_readsItem_9 : dOk cX12_readsItem T_M_readsItem_9 := by unfold dOk; decide +kernel
def T_M_readsItem_10 : DT := [(287, .ifCond .ne (-67), 3), (290, .iconst 0, 1), (291, .ireturn, 1), (292, .iconst 1, 1), (293, .ireturn, 1)]
theorem dt_M_readsItem_10 : dOk cX12_readsItem T_M_readsItem_10 := by unfold dOk; decide +kernel
section
variable {v : ZV} {l : Launch} {p : Program} {e : Env} {R : Room} {s : State} {m : MethodId} {args : Array Value} {below : List Frame} {meth : Method} {c : Code} {Q : State → Prop} {res : (Int32 × Hp)} 
set_option maxRecDepth 20000 in
theorem lkB_M_readsItem_4 (hi : zInj wM v) (xc : XC wM v) (nx : NXM v) (X : Cx wM v p R s m args c 0 0 cX12_readsItem 4 RX12 6) (rt : Rt wM v p l e R s m args below meth c 0 0 Q cX12_readsItem true (some (.int res.1)) res.2) {k97 : Hp → Option (Int32 × Hp)} {k4 : Hp → Option (Int32 × Hp)} {k21 : Hp → Option (Int32 × Hp)}  {σ : Hp}  (hk97 : ∀  (σ : Hp),  k97  σ = some res → Go wM v p l e R s m args below meth c 0 0 Q 4 97 [(0, .ref 0)] [] σ) (hk4 : ∀  (σ : Hp),  k4  σ = some res → Go wM v p l e R s m args below meth c 0 0 Q 4 4 [(0, .ref 0)] [] σ) (hk21 : ∀  (σ : Hp),  k21  σ = some res → Go wM v p l e R s m args below meth c 0 0 Q 4 21 [(0, .ref 0)] [] σ) (h : B_M_readsItem_4  k97 k4 k21  σ = some res) : Go wM v p l e R s m args below meth c 0 0 Q 4 4 [(0, .ref 0)] [] σ := by
  unfold B_M_readsItem_4 at h
  refine go_aload_n X 0 (dk dt_M_readsItem_0 2 rfl) rfl rfl ?_
  refine go_Vi (As := []) (rest := []) X vo_X12_161 (fun q hq => ct_M_here hi xc nx  hq) (by decide) rfl lM_0 sM_0 rfl rfl (Nat.le_of_ble_eq_true rfl) (dk dt_M_readsItem_0 3 rfl) h (fun q5 h => ?_)
  refine go_bipush X (dk dt_M_readsItem_0 4 rfl) cb_40 ?_
  refine go_icmp_ne (tgt := 97) X (dk dt_M_readsItem_0 5 rfl) (by decide) h (fun h => ?_) (fun h => ?_)
  · exact hk97  _  h
  · refine go_aload_n X 0 (dk dt_M_readsItem_0 6 rfl) rfl rfl ?_
    refine go_geti X fo_X12_310 lM_0 sM_0 fM_0_37 (dk dt_M_readsItem_0 7 rfl) ?_
    refine go_iconst X (dk dt_M_readsItem_0 8 rfl) ci_2 ?_
    refine go_icmp_ne (tgt := 31) X (dk dt_M_readsItem_0 9 rfl) (by decide) h (fun h => ?_) (fun h => ?_)
    · refine go_aload_n X 0 (dk dt_M_readsItem_1 0 rfl) rfl rfl ?_
      refine go_getr X fo_X12_77 lM_0 sM_0 fM_0_33 (dk dt_M_readsItem_1 1 rfl) ?_
      refine go_aload_n X 0 (dk dt_M_readsItem_1 2 rfl) rfl rfl ?_
      refine go_geti X fo_X12_310 lM_0 sM_0 fM_0_37 (dk dt_M_readsItem_1 3 rfl) ?_
      refine go_aload_n X 0 (dk dt_M_readsItem_1 4 rfl) rfl rfl ?_
      refine go_geti X fo_X12_301 lM_0 sM_0 fM_0_38 (dk dt_M_readsItem_1 5 rfl) ?_
      refine go_iast X lM_23 sM_23 (dk dt_M_readsItem_1 6 rfl) h (fun h => ?_)
      refine go_aload_n X 0 (dk dt_M_readsItem_1 7 rfl) rfl rfl ?_
      refine go_getr X fo_X12_80 lM_0 sM_0 fM_0_34 (dk dt_M_readsItem_1 8 rfl) ?_
      refine go_aload_n X 0 (dk dt_M_readsItem_1 9 rfl) rfl rfl ?_
      refine go_geti X fo_X12_310 lM_0 sM_0 fM_0_37 (dk dt_M_readsItem_1 10 rfl) ?_
      refine go_aload_n X 0 (dk dt_M_readsItem_1 11 rfl) rfl rfl ?_
      refine go_geti X fo_X12_298 lM_0 sM_0 fM_0_36 (dk dt_M_readsItem_1 12 rfl) ?_
      refine go_iast X lM_24 sM_24 (dk dt_M_readsItem_1 13 rfl) h (fun h => ?_)
      refine go_aload_n X 0 (dk dt_M_readsItem_1 14 rfl) rfl rfl ?_
      refine go_getr X fo_X12_83 lM_0 sM_0 fM_0_35 (dk dt_M_readsItem_1 15 rfl) ?_
      refine go_aload_n X 0 (dk dt_M_readsItem_2 0 rfl) rfl rfl ?_
      refine go_geti X fo_X12_310 lM_0 sM_0 fM_0_37 (dk dt_M_readsItem_2 1 rfl) ?_
      refine go_aload_n X 0 (dk dt_M_readsItem_2 2 rfl) rfl rfl ?_
      refine go_geti X fo_X12_304 lM_0 sM_0 fM_0_39 (dk dt_M_readsItem_2 3 rfl) ?_
      refine go_iast X lM_25 sM_25 (dk dt_M_readsItem_2 4 rfl) h (fun h => ?_)
      refine go_aload_n X 0 (dk dt_M_readsItem_2 5 rfl) rfl rfl ?_
      refine go_aload_n X 0 (dk dt_M_readsItem_2 6 rfl) rfl rfl ?_
      refine go_geti X fo_X12_310 lM_0 sM_0 fM_0_37 (dk dt_M_readsItem_2 7 rfl) ?_
      refine go_iconst X (dk dt_M_readsItem_2 8 rfl) ci_1 ?_
      refine go_iadd X (dk dt_M_readsItem_2 9 rfl) ?_
      refine go_puti X fo_X12_310 pf_12_37 lM_0 sM_0 fM_0_37 (dk dt_M_readsItem_2 10 rfl) ?_
      refine go_aload_n X 0 (dk dt_M_readsItem_2 11 rfl) rfl rfl ?_
      refine go_aload_n X 0 (dk dt_M_readsItem_2 12 rfl) rfl rfl ?_
      refine go_geti X fo_X12_155 lM_0 sM_0 fM_0_7 (dk dt_M_readsItem_2 13 rfl) ?_
      refine go_iconst X (dk dt_M_readsItem_2 14 rfl) ci_1 ?_
      refine go_iadd X (dk dt_M_readsItem_2 15 rfl) ?_
      refine go_puti X fo_X12_155 pf_12_7 lM_0 sM_0 fM_0_7 (dk dt_M_readsItem_3 0 rfl) ?_
      refine go_aload_n X 0 (dk dt_M_readsItem_3 1 rfl) rfl rfl ?_
      refine go_Vv (As := []) (rest := []) X vo_X12_307 (fun q hq => ct_M_readsTimes hi xc nx  hq) (by decide) rfl lM_0 sM_0 rfl rfl (Nat.le_of_ble_eq_true rfl) (dk dt_M_readsItem_3 2 rfl) h (fun q91 h => ?_)
      refine go_goto (tgt := 4) X (dk dt_M_readsItem_3 3 rfl) (by decide) ?_
      exact hk4  _  h
    · exact hk21  _  h
set_option maxRecDepth 20000 in
theorem lkL_M_readsItem_4 (hi : zInj wM v) (xc : XC wM v) (nx : NXM v) (X : Cx wM v p R s m args c 0 0 cX12_readsItem 4 RX12 6) (rt : Rt wM v p l e R s m args below meth c 0 0 Q cX12_readsItem true (some (.int res.1)) res.2) {k97 : Hp → Option (Int32 × Hp)} {k21 : Hp → Option (Int32 × Hp)} (hk97 : ∀  (σ : Hp),  k97  σ = some res → Go wM v p l e R s m args below meth c 0 0 Q 4 97 [(0, .ref 0)] [] σ) (hk21 : ∀  (σ : Hp),  k21  σ = some res → Go wM v p l e R s m args below meth c 0 0 Q 4 21 [(0, .ref 0)] [] σ) (n : Nat) : ∀  {σ : Hp},  L_M_readsItem_4  k97 k21 n  σ = some res → Go wM v p l e R s m args below meth c 0 0 Q 4 4 [(0, .ref 0)] [] σ := by
  induction n with
  | zero => intro  σ  h; cases h
  | succ n ih =>
    intro  σ  h
    exact lkB_M_readsItem_4 hi xc nx X rt  hk97 (fun  _  hh => ih  hh) hk21 h
set_option maxRecDepth 20000 in
theorem lkB_M_readsItem_220 (hi : zInj wM v) (xc : XC wM v) (nx : NXM v) (X : Cx wM v p R s m args c 0 0 cX12_readsItem 4 RX12 6) (rt : Rt wM v p l e R s m args below meth c 0 0 Q cX12_readsItem true (some (.int res.1)) res.2) {k220 : Hp → Option (Int32 × Hp)}  {σ : Hp}  (hk220 : ∀  (σ : Hp),  k220  σ = some res → Go wM v p l e R s m args below meth c 0 0 Q 4 220 [(0, .ref 0)] [] σ) (h : B_M_readsItem_220  k220  σ = some res) : Go wM v p l e R s m args below meth c 0 0 Q 4 220 [(0, .ref 0)] [] σ := by
  unfold B_M_readsItem_220 at h
  refine go_aload_n X 0 (dk dt_M_readsItem_7 12 rfl) rfl rfl ?_
  refine go_Vi (As := []) (rest := []) X vo_X12_161 (fun q hq => ct_M_here hi xc nx  hq) (by decide) rfl lM_0 sM_0 rfl rfl (Nat.le_of_ble_eq_true rfl) (dk dt_M_readsItem_7 13 rfl) h (fun q221 h => ?_)
  refine go_bipush X (dk dt_M_readsItem_7 14 rfl) cb_41 ?_
  refine go_icmp_ne (tgt := 292) X (dk dt_M_readsItem_7 15 rfl) (by decide) h (fun h => ?_) (fun h => ?_)
  · refine go_iconst X (dk dt_M_readsItem_10 3 rfl) ci_1 ?_
    exact go_iret rt (dk dt_M_readsItem_10 4 rfl) h (by decide)
  · refine go_aload_n X 0 (dk dt_M_readsItem_8 0 rfl) rfl rfl ?_
    refine go_geti X fo_X12_310 lM_0 sM_0 fM_0_37 (dk dt_M_readsItem_8 1 rfl) ?_
    refine go_if_le (tgt := 292) X (dk dt_M_readsItem_8 2 rfl) (by decide) h (fun h => ?_) (fun h => ?_)
    · refine go_iconst X (dk dt_M_readsItem_10 3 rfl) ci_1 ?_
      exact go_iret rt (dk dt_M_readsItem_10 4 rfl) h (by decide)
    · refine go_aload_n X 0 (dk dt_M_readsItem_8 3 rfl) rfl rfl ?_
      refine go_aload_n X 0 (dk dt_M_readsItem_8 4 rfl) rfl rfl ?_
      refine go_geti X fo_X12_155 lM_0 sM_0 fM_0_7 (dk dt_M_readsItem_8 5 rfl) ?_
      refine go_iconst X (dk dt_M_readsItem_8 6 rfl) ci_1 ?_
      refine go_iadd X (dk dt_M_readsItem_8 7 rfl) ?_
      refine go_puti X fo_X12_155 pf_12_7 lM_0 sM_0 fM_0_7 (dk dt_M_readsItem_8 8 rfl) ?_
      refine go_aload_n X 0 (dk dt_M_readsItem_8 9 rfl) rfl rfl ?_
      refine go_aload_n X 0 (dk dt_M_readsItem_8 10 rfl) rfl rfl ?_
      refine go_geti X fo_X12_310 lM_0 sM_0 fM_0_37 (dk dt_M_readsItem_8 11 rfl) ?_
      refine go_iconst X (dk dt_M_readsItem_8 12 rfl) ci_1 ?_
      refine go_isub X (dk dt_M_readsItem_8 13 rfl) ?_
      refine go_puti X fo_X12_310 pf_12_37 lM_0 sM_0 fM_0_37 (dk dt_M_readsItem_8 14 rfl) ?_
      refine go_aload_n X 0 (dk dt_M_readsItem_8 15 rfl) rfl rfl ?_
      refine go_aload_n X 0 (dk dt_M_readsItem_9 0 rfl) rfl rfl ?_
      refine go_getr X fo_X12_80 lM_0 sM_0 fM_0_34 (dk dt_M_readsItem_9 1 rfl) ?_
      refine go_aload_n X 0 (dk dt_M_readsItem_9 2 rfl) rfl rfl ?_
      refine go_geti X fo_X12_310 lM_0 sM_0 fM_0_37 (dk dt_M_readsItem_9 3 rfl) ?_
      refine go_iald X lM_24 sM_24 (dk dt_M_readsItem_9 4 rfl) h (fun h => ?_)
      refine go_aload_n X 0 (dk dt_M_readsItem_9 5 rfl) rfl rfl ?_
      refine go_getr X fo_X12_83 lM_0 sM_0 fM_0_35 (dk dt_M_readsItem_9 6 rfl) ?_
      refine go_aload_n X 0 (dk dt_M_readsItem_9 7 rfl) rfl rfl ?_
      refine go_geti X fo_X12_310 lM_0 sM_0 fM_0_37 (dk dt_M_readsItem_9 8 rfl) ?_
      refine go_iald X lM_25 sM_25 (dk dt_M_readsItem_9 9 rfl) h (fun h => ?_)
      refine go_aload_n X 0 (dk dt_M_readsItem_9 10 rfl) rfl rfl ?_
      refine go_getr X fo_X12_77 lM_0 sM_0 fM_0_33 (dk dt_M_readsItem_9 11 rfl) ?_
      refine go_aload_n X 0 (dk dt_M_readsItem_9 12 rfl) rfl rfl ?_
      refine go_geti X fo_X12_310 lM_0 sM_0 fM_0_37 (dk dt_M_readsItem_9 13 rfl) ?_
      refine go_iald X lM_23 sM_23 (dk dt_M_readsItem_9 14 rfl) h (fun h => ?_)
      refine go_Vi (As := [.int ((zu (zu q221.2 0 7 ((q221.2 0 7) + (1 : Int32))) 0 37 (((zu q221.2 0 7 ((q221.2 0 7) + (1 : Int32))) 0 37) - (1 : Int32))) 24 (Int32.toNatClampNeg ((zu (zu q221.2 0 7 ((q221.2 0 7) + (1 : Int32))) 0 37 (((zu q221.2 0 7 ((q221.2 0 7) + (1 : Int32))) 0 37) - (1 : Int32))) 0 37))), .int ((zu (zu q221.2 0 7 ((q221.2 0 7) + (1 : Int32))) 0 37 (((zu q221.2 0 7 ((q221.2 0 7) + (1 : Int32))) 0 37) - (1 : Int32))) 25 (Int32.toNatClampNeg ((zu (zu q221.2 0 7 ((q221.2 0 7) + (1 : Int32))) 0 37 (((zu q221.2 0 7 ((q221.2 0 7) + (1 : Int32))) 0 37) - (1 : Int32))) 0 37))), .int ((zu (zu q221.2 0 7 ((q221.2 0 7) + (1 : Int32))) 0 37 (((zu q221.2 0 7 ((q221.2 0 7) + (1 : Int32))) 0 37) - (1 : Int32))) 23 (Int32.toNatClampNeg ((zu (zu q221.2 0 7 ((q221.2 0 7) + (1 : Int32))) 0 37 (((zu q221.2 0 7 ((q221.2 0 7) + (1 : Int32))) 0 37) - (1 : Int32))) 0 37)))]) (rest := []) X vo_X12_313 (fun q hq => ct_M_repeats hi xc nx  hq) (by decide) rfl lM_0 sM_0 rfl rfl (Nat.le_of_ble_eq_true rfl) (dk dt_M_readsItem_9 15 rfl) h (fun q284 h => ?_)
      refine go_if_ne (tgt := 220) X (dk dt_M_readsItem_10 0 rfl) (by decide) h (fun h => ?_) (fun h => ?_)
      · exact hk220  _  h
      · refine go_iconst X (dk dt_M_readsItem_10 1 rfl) ci_0 ?_
        exact go_iret rt (dk dt_M_readsItem_10 2 rfl) h (by decide)
set_option maxRecDepth 20000 in
theorem lkL_M_readsItem_220 (hi : zInj wM v) (xc : XC wM v) (nx : NXM v) (X : Cx wM v p R s m args c 0 0 cX12_readsItem 4 RX12 6) (rt : Rt wM v p l e R s m args below meth c 0 0 Q cX12_readsItem true (some (.int res.1)) res.2)   (n : Nat) : ∀  {σ : Hp},  L_M_readsItem_220   n  σ = some res → Go wM v p l e R s m args below meth c 0 0 Q 4 220 [(0, .ref 0)] [] σ := by
  induction n with
  | zero => intro  σ  h; cases h
  | succ n ih =>
    intro  σ  h
    exact lkB_M_readsItem_220 hi xc nx X rt  (fun  _  hh => ih  hh) h
set_option maxRecDepth 20000 in
theorem lkJ_M_readsItem_182 (hi : zInj wM v) (xc : XC wM v) (nx : NXM v) (X : Cx wM v p R s m args c 0 0 cX12_readsItem 4 RX12 6) (rt : Rt wM v p l e R s m args below meth c 0 0 Q cX12_readsItem true (some (.int res.1)) res.2)  {x1 : Int32} {x2 : Int32} {s0 : Int32} {s1 : Int32} {σ : Hp}   (h : J_M_readsItem_182   x1 x2 s0 s1 σ = some res) : Go wM v p l e R s m args below meth c 0 0 Q 4 182 [(0, .ref 0), (1, .int x1), (2, .int x2)] [.int s0, .int s1, .ref 22] σ := by
  unfold J_M_readsItem_182 at h
  refine go_iast X lM_22 sM_22 (dk dt_M_readsItem_6 4 rfl) h (fun h => ?_)
  refine go_aload_n X 0 (dk dt_M_readsItem_6 5 rfl) rfl rfl ?_
  refine go_aload_n X 0 (dk dt_M_readsItem_6 6 rfl) rfl rfl ?_
  refine go_geti X fo_X12_298 lM_0 sM_0 fM_0_36 (dk dt_M_readsItem_6 7 rfl) ?_
  refine go_iconst X (dk dt_M_readsItem_6 8 rfl) ci_1 ?_
  refine go_iadd X (dk dt_M_readsItem_6 9 rfl) ?_
  refine go_puti X fo_X12_298 pf_12_36 lM_0 sM_0 fM_0_36 (dk dt_M_readsItem_6 10 rfl) ?_
  refine go_aload_n X 0 (dk dt_M_readsItem_6 11 rfl) rfl rfl ?_
  refine go_aload_n X 0 (dk dt_M_readsItem_6 12 rfl) rfl rfl ?_
  refine go_geti X fo_X12_155 lM_0 sM_0 fM_0_7 (dk dt_M_readsItem_6 13 rfl) ?_
  refine go_iconst X (dk dt_M_readsItem_6 14 rfl) ci_1 ?_
  refine go_iadd X (dk dt_M_readsItem_6 15 rfl) ?_
  refine go_puti X fo_X12_155 pf_12_7 lM_0 sM_0 fM_0_7 (dk dt_M_readsItem_7 0 rfl) ?_
  refine go_aload_n X 0 (dk dt_M_readsItem_7 1 rfl) rfl rfl ?_
  refine go_aload_n X 0 (dk dt_M_readsItem_7 2 rfl) rfl rfl ?_
  refine go_geti X fo_X12_298 lM_0 sM_0 fM_0_36 (dk dt_M_readsItem_7 3 rfl) ?_
  refine go_iconst X (dk dt_M_readsItem_7 4 rfl) ci_1 ?_
  refine go_isub X (dk dt_M_readsItem_7 5 rfl) ?_
  refine go_iload_n X 2 (dk dt_M_readsItem_7 6 rfl) rfl rfl ?_
  refine go_iload_n X 1 (dk dt_M_readsItem_7 7 rfl) rfl rfl ?_
  refine go_Vi (As := [.int (((zu (zu (zu σ 22 (Int32.toNatClampNeg s1) s0) 0 36 (((zu σ 22 (Int32.toNatClampNeg s1) s0) 0 36) + (1 : Int32))) 0 7 (((zu (zu σ 22 (Int32.toNatClampNeg s1) s0) 0 36 (((zu σ 22 (Int32.toNatClampNeg s1) s0) 0 36) + (1 : Int32))) 0 7) + (1 : Int32))) 0 36) - (1 : Int32)), .int x2, .int x1]) (rest := []) X vo_X12_313 (fun q hq => ct_M_repeats hi xc nx  hq) (by decide) rfl lM_0 sM_0 rfl rfl (Nat.le_of_ble_eq_true rfl) (dk dt_M_readsItem_7 8 rfl) h (fun q212 h => ?_)
  refine go_if_ne (tgt := 220) X (dk dt_M_readsItem_7 9 rfl) (by decide) h (fun h => ?_) (fun h => ?_)
  · refine go_sub [0] rfl ?_
    exact lkL_M_readsItem_220 hi xc nx X rt  FU  h
  · refine go_iconst X (dk dt_M_readsItem_7 10 rfl) ci_0 ?_
    exact go_iret rt (dk dt_M_readsItem_7 11 rfl) h (by decide)
set_option maxRecDepth 20000 in
theorem lkJ_M_readsItem_139 (hi : zInj wM v) (xc : XC wM v) (nx : NXM v) (X : Cx wM v p R s m args c 0 0 cX12_readsItem 4 RX12 6) (rt : Rt wM v p l e R s m args below meth c 0 0 Q cX12_readsItem true (some (.int res.1)) res.2)  {x1 : Int32} {x2 : Int32} {x3 : Int32} {σ : Hp}   (h : J_M_readsItem_139   x1 x2 x3 σ = some res) : Go wM v p l e R s m args below meth c 0 0 Q 4 139 [(0, .ref 0), (1, .int x1), (2, .int x2), (3, .int x3)] [] σ := by
  unfold J_M_readsItem_139 at h
  refine go_aload_n X 0 (dk dt_M_readsItem_4 11 rfl) rfl rfl ?_
  refine go_geti X fo_X12_298 lM_0 sM_0 fM_0_36 (dk dt_M_readsItem_4 12 rfl) ?_
  refine go_iload_n X 2 (dk dt_M_readsItem_4 13 rfl) rfl rfl ?_
  refine go_iadd X (dk dt_M_readsItem_4 14 rfl) ?_
  refine go_bipush X (dk dt_M_readsItem_4 15 rfl) cb_60 ?_
  refine go_icmp_le (tgt := 158) X (dk dt_M_readsItem_5 0 rfl) (by decide) h (fun h => ?_) (fun h => ?_)
  · refine go_aload_n X 0 (dk dt_M_readsItem_5 6 rfl) rfl rfl ?_
    refine go_getr X fo_X12_74 lM_0 sM_0 fM_0_32 (dk dt_M_readsItem_5 7 rfl) ?_
    refine go_aload_n X 0 (dk dt_M_readsItem_5 8 rfl) rfl rfl ?_
    refine go_geti X fo_X12_298 lM_0 sM_0 fM_0_36 (dk dt_M_readsItem_5 9 rfl) ?_
    refine go_iload_n X 3 (dk dt_M_readsItem_5 10 rfl) rfl rfl ?_
    refine go_bipush X (dk dt_M_readsItem_5 11 rfl) cb_46 ?_
    refine go_icmp_ne (tgt := 176) X (dk dt_M_readsItem_5 12 rfl) (by decide) h (fun h => ?_) (fun h => ?_)
    · refine go_iload_n X 3 (dk dt_M_readsItem_5 15 rfl) rfl rfl ?_
      refine go_bipush X (dk dt_M_readsItem_6 0 rfl) cb_97 ?_
      refine go_isub X (dk dt_M_readsItem_6 1 rfl) ?_
      refine go_iconst X (dk dt_M_readsItem_6 2 rfl) ci_1 ?_
      refine go_iadd X (dk dt_M_readsItem_6 3 rfl) ?_
      refine go_sub [0, 1, 2] rfl ?_
      exact lkJ_M_readsItem_182 hi xc nx X rt   h
    · refine go_iconst X (dk dt_M_readsItem_5 13 rfl) ci_0 ?_
      refine go_goto (tgt := 182) X (dk dt_M_readsItem_5 14 rfl) (by decide) ?_
      refine go_sub [0, 1, 2] rfl ?_
      exact lkJ_M_readsItem_182 hi xc nx X rt   h
  · refine go_aload_n X 0 (dk dt_M_readsItem_5 1 rfl) rfl rfl ?_
    refine go_bipush X (dk dt_M_readsItem_5 2 rfl) cb_6 ?_
    refine go_iload_n X 1 (dk dt_M_readsItem_5 3 rfl) rfl rfl ?_
    refine go_Vi (As := [.int (6 : Int32), .int x1]) (rest := []) X vo_X12_168 (fun q hq => ct_M_wrongAt hi xc nx  hq) (by decide) rfl lM_0 sM_0 rfl rfl (Nat.le_of_ble_eq_true rfl) (dk dt_M_readsItem_5 4 rfl) h (fun q154 h => ?_)
    exact go_zret rt (dk dt_M_readsItem_5 5 rfl) h
set_option maxRecDepth 20000 in
theorem lkJ_M_readsItem_97 (hi : zInj wM v) (xc : XC wM v) (nx : NXM v) (X : Cx wM v p R s m args c 0 0 cX12_readsItem 4 RX12 6) (rt : Rt wM v p l e R s m args below meth c 0 0 Q cX12_readsItem true (some (.int res.1)) res.2)   {σ : Hp}   (h : J_M_readsItem_97    σ = some res) : Go wM v p l e R s m args below meth c 0 0 Q 4 97 [(0, .ref 0)] [] σ := by
  unfold J_M_readsItem_97 at h
  refine go_aload_n X 0 (dk dt_M_readsItem_3 4 rfl) rfl rfl ?_
  refine go_geti X fo_X12_301 lM_0 sM_0 fM_0_38 (dk dt_M_readsItem_3 5 rfl) ?_
  refine go_istore_n (lv' := [(1, .int (σ 0 38)), (0, .ref 0)]) X (dk dt_M_readsItem_3 6 rfl) rfl (by decide) rfl ?_
  refine go_aload_n X 1 (dk dt_M_readsItem_3 7 rfl) rfl rfl ?_
  refine go_geti X fo_X12_304 lM_0 sM_0 fM_0_39 (dk dt_M_readsItem_3 8 rfl) ?_
  refine go_istore_n (lv' := [(2, .int (σ 0 39)), (1, .int (σ 0 38)), (0, .ref 0)]) X (dk dt_M_readsItem_3 9 rfl) rfl (by decide) rfl ?_
  refine go_aload_n X 2 (dk dt_M_readsItem_3 10 rfl) rfl rfl ?_
  refine go_Vi (As := []) (rest := []) X vo_X12_161 (fun q hq => ct_M_here hi xc nx  hq) (by decide) rfl lM_0 sM_0 rfl rfl (Nat.le_of_ble_eq_true rfl) (dk dt_M_readsItem_3 11 rfl) h (fun q108 h => ?_)
  refine go_istore_n (lv' := [(3, .int q108.1), (2, .int (σ 0 39)), (1, .int (σ 0 38)), (0, .ref 0)]) X (dk dt_M_readsItem_3 12 rfl) rfl (by decide) rfl ?_
  refine go_iload_n X 0 (dk dt_M_readsItem_3 13 rfl) rfl rfl ?_
  refine go_bipush X (dk dt_M_readsItem_3 14 rfl) cb_46 ?_
  refine go_icmp_eq (tgt := 139) X (dk dt_M_readsItem_3 15 rfl) (by decide) h (fun h => ?_) (fun h => ?_)
  · refine go_sub [3, 2, 1, 0] rfl ?_
    exact lkJ_M_readsItem_139 hi xc nx X rt   h
  · refine go_iload_n X 0 (dk dt_M_readsItem_4 0 rfl) rfl rfl ?_
    refine go_bipush X (dk dt_M_readsItem_4 1 rfl) cb_97 ?_
    refine go_bipush X (dk dt_M_readsItem_4 2 rfl) cb_101 ?_
    refine go_Si (As := [.int q108.1, .int (97 : Int32), .int (101 : Int32)]) (rest := []) X so_X12_122 (fun q hq => ct_M_in hi xc nx  hq) (by decide) rfl rfl (Nat.le_of_ble_eq_true rfl) (dk dt_M_readsItem_4 3 rfl) h (fun q123 h => ?_)
    refine go_if_ne (tgt := 139) X (dk dt_M_readsItem_4 4 rfl) (by decide) h (fun h => ?_) (fun h => ?_)
    · refine go_sub [3, 2, 1, 0] rfl ?_
      exact lkJ_M_readsItem_139 hi xc nx X rt   h
    · refine go_aload_n X 3 (dk dt_M_readsItem_4 5 rfl) rfl rfl ?_
      refine go_iconst X (dk dt_M_readsItem_4 6 rfl) ci_1 ?_
      refine go_aload_n X 3 (dk dt_M_readsItem_4 7 rfl) rfl rfl ?_
      refine go_geti X fo_X12_155 lM_0 sM_0 fM_0_7 (dk dt_M_readsItem_4 8 rfl) ?_
      refine go_Vi (As := [.int (1 : Int32), .int (q123.2 0 7)]) (rest := []) X vo_X12_168 (fun q hq => ct_M_wrongAt hi xc nx  hq) (by decide) rfl lM_0 sM_0 rfl rfl (Nat.le_of_ble_eq_true rfl) (dk dt_M_readsItem_4 9 rfl) h (fun q135 h => ?_)
      exact go_zret rt (dk dt_M_readsItem_4 10 rfl) h
set_option maxRecDepth 20000 in
theorem lkJ_M_readsItem_21 (hi : zInj wM v) (xc : XC wM v) (nx : NXM v) (X : Cx wM v p R s m args c 0 0 cX12_readsItem 4 RX12 6) (rt : Rt wM v p l e R s m args below meth c 0 0 Q cX12_readsItem true (some (.int res.1)) res.2)   {σ : Hp}   (h : J_M_readsItem_21    σ = some res) : Go wM v p l e R s m args below meth c 0 0 Q 4 21 [(0, .ref 0)] [] σ := by
  unfold J_M_readsItem_21 at h
  refine go_aload_n X 0 (dk dt_M_readsItem_0 10 rfl) rfl rfl ?_
  refine go_iconst X (dk dt_M_readsItem_0 11 rfl) ci_5 ?_
  refine go_aload_n X 0 (dk dt_M_readsItem_0 12 rfl) rfl rfl ?_
  refine go_geti X fo_X12_155 lM_0 sM_0 fM_0_7 (dk dt_M_readsItem_0 13 rfl) ?_
  refine go_Vi (As := [.int (5 : Int32), .int (σ 0 7)]) (rest := []) X vo_X12_168 (fun q hq => ct_M_wrongAt hi xc nx  hq) (by decide) rfl lM_0 sM_0 rfl rfl (Nat.le_of_ble_eq_true rfl) (dk dt_M_readsItem_0 14 rfl) h (fun q27 h => ?_)
  exact go_zret rt (dk dt_M_readsItem_0 15 rfl) h
set_option maxRecDepth 20000 in
theorem lkF_M_readsItem (hi : zInj wM v) (xc : XC wM v) (nx : NXM v) (X : Cx wM v p R s m args c 0 0 cX12_readsItem 4 RX12 6) (rt : Rt wM v p l e R s m args below meth c 0 0 Q cX12_readsItem true (some (.int res.1)) res.2)  {σ : Hp}  (h : F_M_readsItem   σ = some res) : Go wM v p l e R s m args below meth c 0 0 Q 4 0 [(0, .ref 0)] [] σ := by
  unfold F_M_readsItem at h
  refine go_aload_n X 0 (dk dt_M_readsItem_0 0 rfl) rfl rfl ?_
  refine go_Vv (As := []) (rest := []) X vo_X12_307 (fun q hq => ct_M_readsTimes hi xc nx  hq) (by decide) rfl lM_0 sM_0 rfl rfl (Nat.le_of_ble_eq_true rfl) (dk dt_M_readsItem_0 1 rfl) h (fun q1 h => ?_)
  exact lkL_M_readsItem_4 hi xc nx X rt (fun  _  hh => lkJ_M_readsItem_97 hi xc nx X rt   hh) (fun  _  hh => lkJ_M_readsItem_21 hi xc nx X rt   hh) FU  h
set_option maxRecDepth 20000 in
theorem ct_M_readsItem (hi : zInj wM v) (xc : XC wM v) (nx : NXM v)   {σ : Hp}  {q : (Int32 × Hp)} (h : F_M_readsItem   σ = some q) : Ct wM v l yX12_readsItem cX12_readsItem 4 (some .boolean) 6 [.ref 0] σ (some (.int q.1)) q.2 :=
  Ct.intro true (by decide) hi xc (Nat.le_of_ble_eq_true rfl) rfl (fun p e R s m args below meth c Q X rt => lkF_M_readsItem hi xc nx X rt  h)
end
def T_M_ridge_0 : DT := [(0, .iload_n 1, 1), (1, .iconst 0, 1), (2, .iconst 1, 1), (3, .invokestatic 122, 3), (6, .ifCond .ne 5, 3), (9, .iconst (-1), 1), (10, .ireturn, 1), (11, .iconst 0, 1), (12, .istore_n 2, 1), (13, .iconst (-1), 1), (14, .istore_n 3, 1), (15, .iconst 0, 1), (16, .istore 4, 2), (18, .iconst 0, 1), (19, .istore 5, 2), (21, .iload 5, 2)]
theorem dt_M_ridge_0 : dOk cX12_ridge T_M_ridge_0 := by unfold dOk; decide +kernel
def T_M_ridge_1 : DT := [(23, .bipush 24, 2), (25, .if_icmp .ge 116, 3), (28, .aload_n 0, 1), (29, .getfield 92, 3), (32, .iload 5, 2), (34, .iconst 1, 1), (35, .iastore, 1), (36, .iconst 0, 1), (37, .istore 6, 2), (39, .iload 6, 2), (41, .iload 5, 2), (43, .if_icmp .ge 52, 3), (46, .aload_n 0, 1), (47, .getfield 22, 3), (50, .iload 6, 2), (52, .iaload, 1)]
theorem dt_M_ridge_1 : dOk cX12_ridge T_M_ridge_1 := by unfold dOk; decide +kernel
def T_M_ridge_2 : DT := [(53, .aload_n 0, 1), (54, .getfield 22, 3), (57, .iload 5, 2), (59, .iaload, 1), (60, .if_icmp .ge 29, 3), (63, .aload_n 0, 1), (64, .getfield 92, 3), (67, .iload 5, 2), (69, .aload_n 0, 1), (70, .getfield 92, 3), (73, .iload 5, 2), (75, .iaload, 1), (76, .aload_n 0, 1), (77, .getfield 92, 3), (80, .iload 6, 2), (82, .iaload, 1)]
theorem dt_M_ridge_2 : dOk cX12_ridge T_M_ridge_2 := by unfold dOk; decide +kernel
def T_M_ridge_3 : DT := [(83, .iconst 1, 1), (84, .iadd, 1), (85, .invokestatic 338, 3), (88, .iastore, 1), (89, .iinc 6 1, 3), (92, .goto (-53), 3), (95, .iload 4, 2), (97, .aload_n 0, 1), (98, .getfield 92, 3), (101, .iload 5, 2), (103, .iaload, 1), (104, .invokestatic 338, 3), (107, .istore 4, 2), (109, .aload_n 0, 1), (110, .getfield 22, 3), (113, .iload 5, 2)]
theorem dt_M_ridge_3 : dOk cX12_ridge T_M_ridge_3 := by unfold dOk; decide +kernel
def T_M_ridge_4 : DT := [(115, .iaload, 1), (116, .iload_n 3, 1), (117, .if_icmp .gt 6, 3), (120, .goto 15, 3), (123, .aload_n 0, 1), (124, .getfield 22, 3), (127, .iload 5, 2), (129, .iaload, 1), (130, .istore_n 3, 1), (131, .iload_n 2, 1), (132, .iconst 1, 1), (133, .iadd, 1), (134, .istore_n 2, 1), (135, .iinc 5 1, 3), (138, .goto (-117), 3), (141, .iload_n 1, 1)]
theorem dt_M_ridge_4 : dOk cX12_ridge T_M_ridge_4 := by unfold dOk; decide +kernel
def T_M_ridge_5 : DT := [(142, .ifCond .ne 7, 3), (145, .iload_n 2, 1), (146, .goto 5, 3), (149, .iload 4, 2), (151, .ireturn, 1)]
theorem dt_M_ridge_5 : dOk cX12_ridge T_M_ridge_5 := by unfold dOk; decide +kernel
section
variable {v : ZV} {l : Launch} {p : Program} {e : Env} {R : Room} {s : State} {m : MethodId} {args : Array Value} {below : List Frame} {meth : Method} {c : Code} {Q : State → Prop} {res : (Int32 × Hp)} 
set_option maxRecDepth 20000 in
theorem lkB_M_ridge_39 (hi : zInj wM v) (xc : XC wM v) (nx : NXM v) (X : Cx wM v p R s m args c 0 0 cX12_ridge 7 RX12 4) (rt : Rt wM v p l e R s m args below meth c 0 0 Q cX12_ridge false (some (.int res.1)) res.2) {k95 : Int32 → Int32 → Int32 → Int32 → Int32 → Hp → Option (Int32 × Hp)} {k39 : Int32 → Int32 → Int32 → Int32 → Int32 → Int32 → Hp → Option (Int32 × Hp)} {x1 : Int32} {x2 : Int32} {x3 : Int32} {x4 : Int32} {x5 : Int32} {x6 : Int32} {σ : Hp}  (hk95 : ∀ (x1 : Int32) (x2 : Int32) (x3 : Int32) (x4 : Int32) (x5 : Int32) (σ : Hp),  k95 x1 x2 x3 x4 x5 σ = some res → Go wM v p l e R s m args below meth c 0 0 Q 7 95 [(0, .ref 0), (1, .int x1), (2, .int x2), (3, .int x3), (4, .int x4), (5, .int x5)] [] σ) (hk39 : ∀ (x1 : Int32) (x2 : Int32) (x3 : Int32) (x4 : Int32) (x5 : Int32) (x6 : Int32) (σ : Hp),  k39 x1 x2 x3 x4 x5 x6 σ = some res → Go wM v p l e R s m args below meth c 0 0 Q 7 39 [(0, .ref 0), (1, .int x1), (2, .int x2), (3, .int x3), (4, .int x4), (5, .int x5), (6, .int x6)] [] σ) (h : B_M_ridge_39  k95 k39 x1 x2 x3 x4 x5 x6 σ = some res) : Go wM v p l e R s m args below meth c 0 0 Q 7 39 [(0, .ref 0), (1, .int x1), (2, .int x2), (3, .int x3), (4, .int x4), (5, .int x5), (6, .int x6)] [] σ := by
  unfold B_M_ridge_39 at h
  refine go_iload X 6 (dk dt_M_ridge_1 9 rfl) rfl ?_
  refine go_iload X 5 (dk dt_M_ridge_1 10 rfl) rfl ?_
  refine go_icmp_ge (tgt := 95) X (dk dt_M_ridge_1 11 rfl) (by decide) h (fun h => ?_) (fun h => ?_)
  · refine go_sub [0, 1, 2, 3, 4, 5] rfl ?_
    exact hk95 _ _ _ _ _ _  h
  · refine go_aload_n X 0 (dk dt_M_ridge_1 12 rfl) rfl rfl ?_
    refine go_getr X fo_X12_22 lM_0 sM_0 fM_0_4 (dk dt_M_ridge_1 13 rfl) ?_
    refine go_iload X 6 (dk dt_M_ridge_1 14 rfl) rfl ?_
    refine go_iald X lM_5 sM_5 (dk dt_M_ridge_1 15 rfl) h (fun h => ?_)
    refine go_aload_n X 0 (dk dt_M_ridge_2 0 rfl) rfl rfl ?_
    refine go_getr X fo_X12_22 lM_0 sM_0 fM_0_4 (dk dt_M_ridge_2 1 rfl) ?_
    refine go_iload X 5 (dk dt_M_ridge_2 2 rfl) rfl ?_
    refine go_iald X lM_5 sM_5 (dk dt_M_ridge_2 3 rfl) h (fun h => ?_)
    refine go_icmp_ge (tgt := 89) X (dk dt_M_ridge_2 4 rfl) (by decide) h (fun h => ?_) (fun h => ?_)
    · refine go_iinc (lv' := [(6, .int (x6 + (1 : Int32))), (0, .ref 0), (1, .int x1), (2, .int x2), (3, .int x3), (4, .int x4), (5, .int x5)]) X 6 (dk dt_M_ridge_3 4 rfl) rfl ci_1 (by decide) rfl ?_
      refine go_goto (tgt := 39) X (dk dt_M_ridge_3 5 rfl) (by decide) ?_
      refine go_sub [1, 2, 3, 4, 5, 6, 0] rfl ?_
      exact hk39 _ _ _ _ _ _ _  h
    · refine go_aload_n X 0 (dk dt_M_ridge_2 5 rfl) rfl rfl ?_
      refine go_getr X fo_X12_92 lM_0 sM_0 fM_0_48 (dk dt_M_ridge_2 6 rfl) ?_
      refine go_iload X 5 (dk dt_M_ridge_2 7 rfl) rfl ?_
      refine go_aload_n X 0 (dk dt_M_ridge_2 8 rfl) rfl rfl ?_
      refine go_getr X fo_X12_92 lM_0 sM_0 fM_0_48 (dk dt_M_ridge_2 9 rfl) ?_
      refine go_iload X 5 (dk dt_M_ridge_2 10 rfl) rfl ?_
      refine go_iald X lM_28 sM_28 (dk dt_M_ridge_2 11 rfl) h (fun h => ?_)
      refine go_aload_n X 0 (dk dt_M_ridge_2 12 rfl) rfl rfl ?_
      refine go_getr X fo_X12_92 lM_0 sM_0 fM_0_48 (dk dt_M_ridge_2 13 rfl) ?_
      refine go_iload X 6 (dk dt_M_ridge_2 14 rfl) rfl ?_
      refine go_iald X lM_28 sM_28 (dk dt_M_ridge_2 15 rfl) h (fun h => ?_)
      refine go_iconst X (dk dt_M_ridge_3 0 rfl) ci_1 ?_
      refine go_iadd X (dk dt_M_ridge_3 1 rfl) ?_
      refine go_Si (As := [.int (σ 28 (Int32.toNatClampNeg x5)), .int ((σ 28 (Int32.toNatClampNeg x6)) + (1 : Int32))]) (rest := [.int x5, .ref 28]) X so_X12_338 (fun q hq => ct_M_max hi xc nx  hq) (by decide) rfl rfl (Nat.le_of_ble_eq_true rfl) (dk dt_M_ridge_3 2 rfl) h (fun q85 h => ?_)
      refine go_iast X lM_28 sM_28 (dk dt_M_ridge_3 3 rfl) h (fun h => ?_)
      refine go_iinc (lv' := [(6, .int (x6 + (1 : Int32))), (0, .ref 0), (1, .int x1), (2, .int x2), (3, .int x3), (4, .int x4), (5, .int x5)]) X 6 (dk dt_M_ridge_3 4 rfl) rfl ci_1 (by decide) rfl ?_
      refine go_goto (tgt := 39) X (dk dt_M_ridge_3 5 rfl) (by decide) ?_
      refine go_sub [1, 2, 3, 4, 5, 6, 0] rfl ?_
      exact hk39 _ _ _ _ _ _ _  h
set_option maxRecDepth 20000 in
theorem lkL_M_ridge_39 (hi : zInj wM v) (xc : XC wM v) (nx : NXM v) (X : Cx wM v p R s m args c 0 0 cX12_ridge 7 RX12 4) (rt : Rt wM v p l e R s m args below meth c 0 0 Q cX12_ridge false (some (.int res.1)) res.2) {k95 : Int32 → Int32 → Int32 → Int32 → Int32 → Hp → Option (Int32 × Hp)} (hk95 : ∀ (x1 : Int32) (x2 : Int32) (x3 : Int32) (x4 : Int32) (x5 : Int32) (σ : Hp),  k95 x1 x2 x3 x4 x5 σ = some res → Go wM v p l e R s m args below meth c 0 0 Q 7 95 [(0, .ref 0), (1, .int x1), (2, .int x2), (3, .int x3), (4, .int x4), (5, .int x5)] [] σ) (n : Nat) : ∀ {x1 : Int32} {x2 : Int32} {x3 : Int32} {x4 : Int32} {x5 : Int32} {x6 : Int32} {σ : Hp},  L_M_ridge_39  k95 n x1 x2 x3 x4 x5 x6 σ = some res → Go wM v p l e R s m args below meth c 0 0 Q 7 39 [(0, .ref 0), (1, .int x1), (2, .int x2), (3, .int x3), (4, .int x4), (5, .int x5), (6, .int x6)] [] σ := by
  induction n with
  | zero => intro x1 x2 x3 x4 x5 x6 σ  h; cases h
  | succ n ih =>
    intro x1 x2 x3 x4 x5 x6 σ  h
    exact lkB_M_ridge_39 hi xc nx X rt  hk95 (fun _ _ _ _ _ _ _  hh => ih  hh) h
set_option maxRecDepth 20000 in
theorem lkJ_M_ridge_95 (hi : zInj wM v) (xc : XC wM v) (nx : NXM v) (X : Cx wM v p R s m args c 0 0 cX12_ridge 7 RX12 4) (rt : Rt wM v p l e R s m args below meth c 0 0 Q cX12_ridge false (some (.int res.1)) res.2) {k21 : Int32 → Int32 → Int32 → Int32 → Int32 → Hp → Option (Int32 × Hp)} {x1 : Int32} {x2 : Int32} {x3 : Int32} {x4 : Int32} {x5 : Int32} {σ : Hp}  (hk21 : ∀ (x1 : Int32) (x2 : Int32) (x3 : Int32) (x4 : Int32) (x5 : Int32) (σ : Hp),  k21 x1 x2 x3 x4 x5 σ = some res → Go wM v p l e R s m args below meth c 0 0 Q 7 21 [(0, .ref 0), (1, .int x1), (2, .int x2), (3, .int x3), (4, .int x4), (5, .int x5)] [] σ) (h : J_M_ridge_95  k21 x1 x2 x3 x4 x5 σ = some res) : Go wM v p l e R s m args below meth c 0 0 Q 7 95 [(0, .ref 0), (1, .int x1), (2, .int x2), (3, .int x3), (4, .int x4), (5, .int x5)] [] σ := by
  unfold J_M_ridge_95 at h
  refine go_iload X 4 (dk dt_M_ridge_3 6 rfl) rfl ?_
  refine go_aload_n X 0 (dk dt_M_ridge_3 7 rfl) rfl rfl ?_
  refine go_getr X fo_X12_92 lM_0 sM_0 fM_0_48 (dk dt_M_ridge_3 8 rfl) ?_
  refine go_iload X 5 (dk dt_M_ridge_3 9 rfl) rfl ?_
  refine go_iald X lM_28 sM_28 (dk dt_M_ridge_3 10 rfl) h (fun h => ?_)
  refine go_Si (As := [.int x4, .int (σ 28 (Int32.toNatClampNeg x5))]) (rest := []) X so_X12_338 (fun q hq => ct_M_max hi xc nx  hq) (by decide) rfl rfl (Nat.le_of_ble_eq_true rfl) (dk dt_M_ridge_3 11 rfl) h (fun q104 h => ?_)
  refine go_istore (lv' := [(4, .int q104.1), (0, .ref 0), (1, .int x1), (2, .int x2), (3, .int x3), (5, .int x5)]) X (dk dt_M_ridge_3 12 rfl) (by decide) rfl ?_
  refine go_aload_n X 1 (dk dt_M_ridge_3 13 rfl) rfl rfl ?_
  refine go_getr X fo_X12_22 lM_0 sM_0 fM_0_4 (dk dt_M_ridge_3 14 rfl) ?_
  refine go_iload X 5 (dk dt_M_ridge_3 15 rfl) rfl ?_
  refine go_iald X lM_5 sM_5 (dk dt_M_ridge_4 0 rfl) h (fun h => ?_)
  refine go_iload_n X 4 (dk dt_M_ridge_4 1 rfl) rfl rfl ?_
  refine go_icmp_gt (tgt := 123) X (dk dt_M_ridge_4 2 rfl) (by decide) h (fun h => ?_) (fun h => ?_)
  · refine go_aload_n X 1 (dk dt_M_ridge_4 4 rfl) rfl rfl ?_
    refine go_getr X fo_X12_22 lM_0 sM_0 fM_0_4 (dk dt_M_ridge_4 5 rfl) ?_
    refine go_iload X 5 (dk dt_M_ridge_4 6 rfl) rfl ?_
    refine go_iald X lM_5 sM_5 (dk dt_M_ridge_4 7 rfl) h (fun h => ?_)
    refine go_istore_n (lv' := [(3, .int (q104.2 5 (Int32.toNatClampNeg x5))), (4, .int q104.1), (0, .ref 0), (1, .int x1), (2, .int x2), (5, .int x5)]) X (dk dt_M_ridge_4 8 rfl) rfl (by decide) rfl ?_
    refine go_iload_n X 4 (dk dt_M_ridge_4 9 rfl) rfl rfl ?_
    refine go_iconst X (dk dt_M_ridge_4 10 rfl) ci_1 ?_
    refine go_iadd X (dk dt_M_ridge_4 11 rfl) ?_
    refine go_istore_n (lv' := [(2, .int (x2 + (1 : Int32))), (3, .int (q104.2 5 (Int32.toNatClampNeg x5))), (4, .int q104.1), (0, .ref 0), (1, .int x1), (5, .int x5)]) X (dk dt_M_ridge_4 12 rfl) rfl (by decide) rfl ?_
    refine go_iinc (lv' := [(5, .int (x5 + (1 : Int32))), (2, .int (x2 + (1 : Int32))), (3, .int (q104.2 5 (Int32.toNatClampNeg x5))), (4, .int q104.1), (0, .ref 0), (1, .int x1)]) X 5 (dk dt_M_ridge_4 13 rfl) rfl ci_1 (by decide) rfl ?_
    refine go_goto (tgt := 21) X (dk dt_M_ridge_4 14 rfl) (by decide) ?_
    refine go_sub [4, 5, 1, 2, 3, 0] rfl ?_
    exact hk21 _ _ _ _ _ _  h
  · refine go_goto (tgt := 135) X (dk dt_M_ridge_4 3 rfl) (by decide) ?_
    refine go_iinc (lv' := [(5, .int (x5 + (1 : Int32))), (4, .int q104.1), (0, .ref 0), (1, .int x1), (2, .int x2), (3, .int x3)]) X 5 (dk dt_M_ridge_4 13 rfl) rfl ci_1 (by decide) rfl ?_
    refine go_goto (tgt := 21) X (dk dt_M_ridge_4 14 rfl) (by decide) ?_
    refine go_sub [2, 3, 4, 5, 1, 0] rfl ?_
    exact hk21 _ _ _ _ _ _  h
set_option maxRecDepth 20000 in
theorem lkB_M_ridge_21 (hi : zInj wM v) (xc : XC wM v) (nx : NXM v) (X : Cx wM v p R s m args c 0 0 cX12_ridge 7 RX12 4) (rt : Rt wM v p l e R s m args below meth c 0 0 Q cX12_ridge false (some (.int res.1)) res.2) {k141 : Int32 → Int32 → Int32 → Hp → Option (Int32 × Hp)} {k21 : Int32 → Int32 → Int32 → Int32 → Int32 → Hp → Option (Int32 × Hp)} {x1 : Int32} {x2 : Int32} {x3 : Int32} {x4 : Int32} {x5 : Int32} {σ : Hp}  (hk141 : ∀ (x1 : Int32) (x2 : Int32) (x4 : Int32) (σ : Hp),  k141 x1 x2 x4 σ = some res → Go wM v p l e R s m args below meth c 0 0 Q 7 141 [(1, .int x1), (2, .int x2), (4, .int x4)] [] σ) (hk21 : ∀ (x1 : Int32) (x2 : Int32) (x3 : Int32) (x4 : Int32) (x5 : Int32) (σ : Hp),  k21 x1 x2 x3 x4 x5 σ = some res → Go wM v p l e R s m args below meth c 0 0 Q 7 21 [(0, .ref 0), (1, .int x1), (2, .int x2), (3, .int x3), (4, .int x4), (5, .int x5)] [] σ) (h : B_M_ridge_21  k141 k21 x1 x2 x3 x4 x5 σ = some res) : Go wM v p l e R s m args below meth c 0 0 Q 7 21 [(0, .ref 0), (1, .int x1), (2, .int x2), (3, .int x3), (4, .int x4), (5, .int x5)] [] σ := by
  unfold B_M_ridge_21 at h
  refine go_iload X 5 (dk dt_M_ridge_0 15 rfl) rfl ?_
  refine go_bipush X (dk dt_M_ridge_1 0 rfl) cb_24 ?_
  refine go_icmp_ge (tgt := 141) X (dk dt_M_ridge_1 1 rfl) (by decide) h (fun h => ?_) (fun h => ?_)
  · refine go_sub [1, 2, 4] rfl ?_
    exact hk141 _ _ _ _  h
  · refine go_aload_n X 0 (dk dt_M_ridge_1 2 rfl) rfl rfl ?_
    refine go_getr X fo_X12_92 lM_0 sM_0 fM_0_48 (dk dt_M_ridge_1 3 rfl) ?_
    refine go_iload X 5 (dk dt_M_ridge_1 4 rfl) rfl ?_
    refine go_iconst X (dk dt_M_ridge_1 5 rfl) ci_1 ?_
    refine go_iast X lM_28 sM_28 (dk dt_M_ridge_1 6 rfl) h (fun h => ?_)
    refine go_iconst X (dk dt_M_ridge_1 7 rfl) ci_0 ?_
    refine go_istore (lv' := [(6, .int (0 : Int32)), (0, .ref 0), (1, .int x1), (2, .int x2), (3, .int x3), (4, .int x4), (5, .int x5)]) X (dk dt_M_ridge_1 8 rfl) (by decide) rfl ?_
    refine go_sub [1, 2, 3, 4, 5, 6, 0] rfl ?_
    exact lkL_M_ridge_39 hi xc nx X rt (fun _ _ _ _ _ _  hh => lkJ_M_ridge_95 hi xc nx X rt  hk21 hh) FU  h
set_option maxRecDepth 20000 in
theorem lkL_M_ridge_21 (hi : zInj wM v) (xc : XC wM v) (nx : NXM v) (X : Cx wM v p R s m args c 0 0 cX12_ridge 7 RX12 4) (rt : Rt wM v p l e R s m args below meth c 0 0 Q cX12_ridge false (some (.int res.1)) res.2) {k141 : Int32 → Int32 → Int32 → Hp → Option (Int32 × Hp)} (hk141 : ∀ (x1 : Int32) (x2 : Int32) (x4 : Int32) (σ : Hp),  k141 x1 x2 x4 σ = some res → Go wM v p l e R s m args below meth c 0 0 Q 7 141 [(1, .int x1), (2, .int x2), (4, .int x4)] [] σ) (n : Nat) : ∀ {x1 : Int32} {x2 : Int32} {x3 : Int32} {x4 : Int32} {x5 : Int32} {σ : Hp},  L_M_ridge_21  k141 n x1 x2 x3 x4 x5 σ = some res → Go wM v p l e R s m args below meth c 0 0 Q 7 21 [(0, .ref 0), (1, .int x1), (2, .int x2), (3, .int x3), (4, .int x4), (5, .int x5)] [] σ := by
  induction n with
  | zero => intro x1 x2 x3 x4 x5 σ  h; cases h
  | succ n ih =>
    intro x1 x2 x3 x4 x5 σ  h
    exact lkB_M_ridge_21 hi xc nx X rt  hk141 (fun _ _ _ _ _ _  hh => ih  hh) h
set_option maxRecDepth 20000 in
theorem lkJ_M_ridge_141 (hi : zInj wM v) (xc : XC wM v) (nx : NXM v) (X : Cx wM v p R s m args c 0 0 cX12_ridge 7 RX12 4) (rt : Rt wM v p l e R s m args below meth c 0 0 Q cX12_ridge false (some (.int res.1)) res.2)  {x1 : Int32} {x2 : Int32} {x4 : Int32} {σ : Hp}   (h : J_M_ridge_141   x1 x2 x4 σ = some res) : Go wM v p l e R s m args below meth c 0 0 Q 7 141 [(1, .int x1), (2, .int x2), (4, .int x4)] [] σ := by
  unfold J_M_ridge_141 at h
  refine go_iload_n X 0 (dk dt_M_ridge_4 15 rfl) rfl rfl ?_
  refine go_if_ne (tgt := 149) X (dk dt_M_ridge_5 0 rfl) (by decide) h (fun h => ?_) (fun h => ?_)
  · refine go_iload X 2 (dk dt_M_ridge_5 3 rfl) rfl ?_
    exact go_iret rt (dk dt_M_ridge_5 4 rfl) h (fun hh => nomatch hh)
  · refine go_iload_n X 1 (dk dt_M_ridge_5 1 rfl) rfl rfl ?_
    refine go_goto (tgt := 151) X (dk dt_M_ridge_5 2 rfl) (by decide) ?_
    exact go_iret rt (dk dt_M_ridge_5 4 rfl) h (fun hh => nomatch hh)
set_option maxRecDepth 20000 in
theorem lkF_M_ridge (hi : zInj wM v) (xc : XC wM v) (nx : NXM v) (X : Cx wM v p R s m args c 0 0 cX12_ridge 7 RX12 4) (rt : Rt wM v p l e R s m args below meth c 0 0 Q cX12_ridge false (some (.int res.1)) res.2) {a1 : Int32} {σ : Hp}  (h : F_M_ridge  a1 σ = some res) : Go wM v p l e R s m args below meth c 0 0 Q 7 0 [(0, .ref 0), (1, .int a1)] [] σ := by
  unfold F_M_ridge at h
  refine go_iload_n X 1 (dk dt_M_ridge_0 0 rfl) rfl rfl ?_
  refine go_iconst X (dk dt_M_ridge_0 1 rfl) ci_0 ?_
  refine go_iconst X (dk dt_M_ridge_0 2 rfl) ci_1 ?_
  refine go_Si (As := [.int a1, .int (0 : Int32), .int (1 : Int32)]) (rest := []) X so_X12_122 (fun q hq => ct_M_in hi xc nx  hq) (by decide) rfl rfl (Nat.le_of_ble_eq_true rfl) (dk dt_M_ridge_0 3 rfl) h (fun q3 h => ?_)
  refine go_if_ne (tgt := 11) X (dk dt_M_ridge_0 4 rfl) (by decide) h (fun h => ?_) (fun h => ?_)
  · refine go_iconst X (dk dt_M_ridge_0 7 rfl) ci_0 ?_
    refine go_istore_n (lv' := [(2, .int (0 : Int32)), (0, .ref 0), (1, .int a1)]) X (dk dt_M_ridge_0 8 rfl) rfl (by decide) rfl ?_
    refine go_iconst X (dk dt_M_ridge_0 9 rfl) ci_m1 ?_
    refine go_istore_n (lv' := [(3, .int (-1 : Int32)), (2, .int (0 : Int32)), (0, .ref 0), (1, .int a1)]) X (dk dt_M_ridge_0 10 rfl) rfl (by decide) rfl ?_
    refine go_iconst X (dk dt_M_ridge_0 11 rfl) ci_0 ?_
    refine go_istore (lv' := [(4, .int (0 : Int32)), (3, .int (-1 : Int32)), (2, .int (0 : Int32)), (0, .ref 0), (1, .int a1)]) X (dk dt_M_ridge_0 12 rfl) (by decide) rfl ?_
    refine go_iconst X (dk dt_M_ridge_0 13 rfl) ci_0 ?_
    refine go_istore (lv' := [(5, .int (0 : Int32)), (4, .int (0 : Int32)), (3, .int (-1 : Int32)), (2, .int (0 : Int32)), (0, .ref 0), (1, .int a1)]) X (dk dt_M_ridge_0 14 rfl) (by decide) rfl ?_
    refine go_sub [4, 5, 3, 2, 1, 0] rfl ?_
    exact lkL_M_ridge_21 hi xc nx X rt (fun _ _ _ _  hh => lkJ_M_ridge_141 hi xc nx X rt   hh) FU  h
  · refine go_iconst X (dk dt_M_ridge_0 5 rfl) ci_m1 ?_
    exact go_iret rt (dk dt_M_ridge_0 6 rfl) h (fun hh => nomatch hh)
set_option maxRecDepth 20000 in
theorem ct_M_ridge (hi : zInj wM v) (xc : XC wM v) (nx : NXM v)  {a1 : Int32} {σ : Hp}  {q : (Int32 × Hp)} (h : F_M_ridge  a1 σ = some q) : Ct wM v l yX12_ridge cX12_ridge 7 (some .int) 4 [.ref 0, .int a1] σ (some (.int q.1)) q.2 :=
  Ct.intro false (by decide) hi xc (Nat.le_of_ble_eq_true rfl) rfl (fun p e R s m args below meth c Q X rt => lkF_M_ridge hi xc nx X rt  h)
end
def T_M_seed_0 : DT := [(0, .iload_n 1, 1), (1, .iconst 0, 1), (2, .ldc_w 439, 3), (5, .invokestatic 122, 3), (8, .ifCond .ne 5, 3), (11, .iconst 0, 1), (12, .ireturn, 1), (13, .aload_n 0, 1), (14, .getfield 7, 3), (17, .bipush 99, 2), (19, .iload_n 1, 1), (20, .iastore, 1), (21, .iconst 1, 1), (22, .ireturn, 1)]
theorem dt_M_seed_0 : dOk cX12_seed T_M_seed_0 := by unfold dOk; decide +kernel
section
variable {v : ZV} {l : Launch} {p : Program} {e : Env} {R : Room} {s : State} {m : MethodId} {args : Array Value} {below : List Frame} {meth : Method} {c : Code} {Q : State → Prop} {res : (Int32 × Hp)} 
set_option maxRecDepth 20000 in
theorem lkF_M_seed (hi : zInj wM v) (xc : XC wM v) (nx : NXM v) (X : Cx wM v p R s m args c 0 0 cX12_seed 2 RX12 4) (rt : Rt wM v p l e R s m args below meth c 0 0 Q cX12_seed true (some (.int res.1)) res.2) {a1 : Int32} {σ : Hp}  (h : F_M_seed  a1 σ = some res) : Go wM v p l e R s m args below meth c 0 0 Q 2 0 [(0, .ref 0), (1, .int a1)] [] σ := by
  unfold F_M_seed at h
  refine go_iload_n X 1 (dk dt_M_seed_0 0 rfl) rfl rfl ?_
  refine go_iconst X (dk dt_M_seed_0 1 rfl) ci_0 ?_
  refine go_ldcw X wd_1744 (dk dt_M_seed_0 2 rfl) ?_
  refine go_Si (As := [.int a1, .int (0 : Int32), .int (65535 : Int32)]) (rest := []) X so_X12_122 (fun q hq => ct_M_in hi xc nx  hq) (by decide) rfl rfl (Nat.le_of_ble_eq_true rfl) (dk dt_M_seed_0 3 rfl) h (fun q5 h => ?_)
  refine go_if_ne (tgt := 13) X (dk dt_M_seed_0 4 rfl) (by decide) h (fun h => ?_) (fun h => ?_)
  · refine go_aload_n X 0 (dk dt_M_seed_0 7 rfl) rfl rfl ?_
    refine go_getr X fo_X12_7 lM_0 sM_0 fM_0_0 (dk dt_M_seed_0 8 rfl) ?_
    refine go_bipush X (dk dt_M_seed_0 9 rfl) cb_99 ?_
    refine go_iload_n X 1 (dk dt_M_seed_0 10 rfl) rfl rfl ?_
    refine go_iast X lM_1 sM_1 (dk dt_M_seed_0 11 rfl) h (fun h => ?_)
    refine go_iconst X (dk dt_M_seed_0 12 rfl) ci_1 ?_
    exact go_iret rt (dk dt_M_seed_0 13 rfl) h (by decide)
  · refine go_iconst X (dk dt_M_seed_0 5 rfl) ci_0 ?_
    exact go_iret rt (dk dt_M_seed_0 6 rfl) h (by decide)
set_option maxRecDepth 20000 in
theorem ct_M_seed (hi : zInj wM v) (xc : XC wM v) (nx : NXM v)  {a1 : Int32} {σ : Hp}  {q : (Int32 × Hp)} (h : F_M_seed  a1 σ = some q) : Ct wM v l yX12_seed cX12_seed 2 (some .boolean) 4 [.ref 0, .int a1] σ (some (.int q.1)) q.2 :=
  Ct.intro true (by decide) hi xc (Nat.le_of_ble_eq_true rfl) rfl (fun p e R s m args below meth c Q X rt => lkF_M_seed hi xc nx X rt  h)
end
def T_M_sees_0 : DT := [(0, .aload_n 0, 1), (1, .iconst 0, 1), (2, .iload_n 1, 1), (3, .invokevirtual 285, 3), (6, .ifCond .eq 12, 3), (9, .aload_n 0, 1), (10, .iconst 1, 1), (11, .iload_n 2, 1), (12, .invokevirtual 285, 3), (15, .ifCond .ne 5, 3), (18, .iconst (-1), 1), (19, .ireturn, 1), (20, .aload_n 0, 1), (21, .iload_n 1, 1), (22, .iload_n 2, 1), (23, .invokevirtual 144, 3)]
theorem dt_M_sees_0 : dOk cX12_sees T_M_sees_0 := by unfold dOk; decide +kernel
def T_M_sees_1 : DT := [(26, .ifCond .eq 7, 3), (29, .iconst 1, 1), (30, .goto 4, 3), (33, .iconst 0, 1), (34, .ireturn, 1)]
theorem dt_M_sees_1 : dOk cX12_sees T_M_sees_1 := by unfold dOk; decide +kernel
section
variable {v : ZV} {l : Launch} {p : Program} {e : Env} {R : Room} {s : State} {m : MethodId} {args : Array Value} {below : List Frame} {meth : Method} {c : Code} {Q : State → Prop} {res : (Int32 × Hp)} 
set_option maxRecDepth 20000 in
theorem lkF_M_sees (hi : zInj wM v) (xc : XC wM v) (nx : NXM v) (X : Cx wM v p R s m args c 0 0 cX12_sees 3 RX12 8) (rt : Rt wM v p l e R s m args below meth c 0 0 Q cX12_sees false (some (.int res.1)) res.2) {a1 : Int32} {a2 : Int32} {σ : Hp}  (h : F_M_sees  a1 a2 σ = some res) : Go wM v p l e R s m args below meth c 0 0 Q 3 0 [(0, .ref 0), (1, .int a1), (2, .int a2)] [] σ := by
  unfold F_M_sees at h
  refine go_aload_n X 0 (dk dt_M_sees_0 0 rfl) rfl rfl ?_
  refine go_iconst X (dk dt_M_sees_0 1 rfl) ci_0 ?_
  refine go_iload_n X 1 (dk dt_M_sees_0 2 rfl) rfl rfl ?_
  refine go_Vi (As := [.int (0 : Int32), .int a1]) (rest := []) X vo_X12_285 (fun q hq => ct_M_isThere hi xc nx  hq) (by decide) rfl lM_0 sM_0 rfl rfl (Nat.le_of_ble_eq_true rfl) (dk dt_M_sees_0 3 rfl) h (fun q3 h => ?_)
  refine go_if_eq (tgt := 18) X (dk dt_M_sees_0 4 rfl) (by decide) h (fun h => ?_) (fun h => ?_)
  · refine go_iconst X (dk dt_M_sees_0 10 rfl) ci_m1 ?_
    exact go_iret rt (dk dt_M_sees_0 11 rfl) h (fun hh => nomatch hh)
  · refine go_aload_n X 0 (dk dt_M_sees_0 5 rfl) rfl rfl ?_
    refine go_iconst X (dk dt_M_sees_0 6 rfl) ci_1 ?_
    refine go_iload_n X 2 (dk dt_M_sees_0 7 rfl) rfl rfl ?_
    refine go_Vi (As := [.int (1 : Int32), .int a2]) (rest := []) X vo_X12_285 (fun q hq => ct_M_isThere hi xc nx  hq) (by decide) rfl lM_0 sM_0 rfl rfl (Nat.le_of_ble_eq_true rfl) (dk dt_M_sees_0 8 rfl) h (fun q12 h => ?_)
    refine go_if_ne (tgt := 20) X (dk dt_M_sees_0 9 rfl) (by decide) h (fun h => ?_) (fun h => ?_)
    · refine go_aload_n X 0 (dk dt_M_sees_0 12 rfl) rfl rfl ?_
      refine go_iload_n X 1 (dk dt_M_sees_0 13 rfl) rfl rfl ?_
      refine go_iload_n X 2 (dk dt_M_sees_0 14 rfl) rfl rfl ?_
      refine go_Vi (As := [.int a1, .int a2]) (rest := []) X vo_X12_144 (fun q hq => ct_M_seesOne hi xc nx  hq) (by decide) rfl lM_0 sM_0 rfl rfl (Nat.le_of_ble_eq_true rfl) (dk dt_M_sees_0 15 rfl) h (fun q23 h => ?_)
      refine go_if_eq (tgt := 33) X (dk dt_M_sees_1 0 rfl) (by decide) h (fun h => ?_) (fun h => ?_)
      · refine go_iconst X (dk dt_M_sees_1 3 rfl) ci_0 ?_
        exact go_iret rt (dk dt_M_sees_1 4 rfl) h (fun hh => nomatch hh)
      · refine go_iconst X (dk dt_M_sees_1 1 rfl) ci_1 ?_
        refine go_goto (tgt := 34) X (dk dt_M_sees_1 2 rfl) (by decide) ?_
        exact go_iret rt (dk dt_M_sees_1 4 rfl) h (fun hh => nomatch hh)
    · refine go_iconst X (dk dt_M_sees_0 10 rfl) ci_m1 ?_
      exact go_iret rt (dk dt_M_sees_0 11 rfl) h (fun hh => nomatch hh)
set_option maxRecDepth 20000 in
theorem ct_M_sees (hi : zInj wM v) (xc : XC wM v) (nx : NXM v)  {a1 : Int32} {a2 : Int32} {σ : Hp}  {q : (Int32 × Hp)} (h : F_M_sees  a1 a2 σ = some q) : Ct wM v l yX12_sees cX12_sees 3 (some .int) 8 [.ref 0, .int a1, .int a2] σ (some (.int q.1)) q.2 :=
  Ct.intro false (by decide) hi xc (Nat.le_of_ble_eq_true rfl) rfl (fun p e R s m args below meth c Q X rt => lkF_M_sees hi xc nx X rt  h)
end
def T_M_signals_0 : DT := [(0, .iload_n 1, 1), (1, .iconst 0, 1), (2, .iconst 1, 1), (3, .invokestatic 122, 3), (6, .ifCond .eq 21, 3), (9, .iload_n 2, 1), (10, .iconst 1, 1), (11, .bipush 40, 2), (13, .invokestatic 122, 3), (16, .ifCond .eq 11, 3), (19, .iload_n 2, 1), (20, .aload_n 0, 1), (21, .getfield 147, 3), (24, .if_icmp .le 5, 3), (27, .iconst (-1), 1), (28, .ireturn, 1)]
theorem dt_M_signals_0 : dOk cX12_signals T_M_signals_0 := by unfold dOk; decide +kernel
def T_M_signals_1 : DT := [(29, .aload_n 0, 1), (30, .iload_n 2, 1), (31, .invokevirtual 239, 3), (34, .aload_n 0, 1), (35, .iconst 0, 1), (36, .putfield 298, 3), (39, .aload_n 0, 1), (40, .iconst 0, 1), (41, .putfield 310, 3), (44, .aload_n 0, 1), (45, .invokevirtual 316, 3), (48, .istore_n 3, 1), (49, .iload_n 3, 1), (50, .ifCond .eq 29, 3), (53, .aload_n 0, 1), (54, .getfield 155, 3)]
theorem dt_M_signals_1 : dOk cX12_signals T_M_signals_1 := by unfold dOk; decide +kernel
def T_M_signals_2 : DT := [(57, .aload_n 0, 1), (58, .getfield 158, 3), (61, .if_icmp .lt 10, 3), (64, .aload_n 0, 1), (65, .getfield 310, 3), (68, .ifCond .le 11, 3), (71, .aload_n 0, 1), (72, .invokevirtual 316, 3), (75, .istore_n 3, 1), (76, .goto (-27), 3), (79, .aload_n 0, 1), (80, .iconst 0, 1), (81, .putfield 147, 3), (84, .iload_n 3, 1), (85, .ifCond .ne 8, 3), (88, .aload_n 0, 1)]
theorem dt_M_signals_2 : dOk cX12_signals T_M_signals_2 := by unfold dOk; decide +kernel
def T_M_signals_3 : DT := [(89, .getfield 165, 3), (92, .ireturn, 1), (93, .aload_n 0, 1), (94, .getfield 71, 3), (97, .iload_n 1, 1), (98, .aload_n 0, 1), (99, .getfield 298, 3), (102, .iastore, 1), (103, .iconst 0, 1), (104, .istore 4, 2), (106, .iload 4, 2), (108, .aload_n 0, 1), (109, .getfield 298, 3), (112, .if_icmp .ge 29, 3), (115, .aload_n 0, 1), (116, .getfield 68, 3)]
theorem dt_M_signals_3 : dOk cX12_signals T_M_signals_3 := by unfold dOk; decide +kernel
def T_M_signals_4 : DT := [(119, .bipush 60, 2), (121, .iload_n 1, 1), (122, .imul, 1), (123, .iload 4, 2), (125, .iadd, 1), (126, .aload_n 0, 1), (127, .getfield 74, 3), (130, .iload 4, 2), (132, .iaload, 1), (133, .i2b, 1), (134, .bastore, 1), (135, .iinc 4 1, 3), (138, .goto (-32), 3), (141, .aload_n 0, 1), (142, .getfield 298, 3), (145, .ireturn, 1)]
theorem dt_M_signals_4 : dOk cX12_signals T_M_signals_4 := by unfold dOk; decide +kernel
section
variable {v : ZV} {l : Launch} {p : Program} {e : Env} {R : Room} {s : State} {m : MethodId} {args : Array Value} {below : List Frame} {meth : Method} {c : Code} {Q : State → Prop} {res : (Int32 × Hp)} 
set_option maxRecDepth 20000 in
theorem lkJ_M_signals_71 (hi : zInj wM v) (xc : XC wM v) (nx : NXM v) (X : Cx wM v p R s m args c 0 0 cX12_signals 5 RX12 8) (rt : Rt wM v p l e R s m args below meth c 0 0 Q cX12_signals false (some (.int res.1)) res.2) {k49 : Int32 → Int32 → Hp → Option (Int32 × Hp)} {x1 : Int32} {σ : Hp}  (hk49 : ∀ (x1 : Int32) (x3 : Int32) (σ : Hp),  k49 x1 x3 σ = some res → Go wM v p l e R s m args below meth c 0 0 Q 5 49 [(0, .ref 0), (1, .int x1), (3, .int x3)] [] σ) (h : J_M_signals_71  k49 x1 σ = some res) : Go wM v p l e R s m args below meth c 0 0 Q 5 71 [(0, .ref 0), (1, .int x1)] [] σ := by
  unfold J_M_signals_71 at h
  refine go_aload_n X 0 (dk dt_M_signals_2 6 rfl) rfl rfl ?_
  refine go_Vi (As := []) (rest := []) X vo_X12_316 (fun q hq => ct_M_readsItem hi xc nx  hq) (by decide) rfl lM_0 sM_0 rfl rfl (Nat.le_of_ble_eq_true rfl) (dk dt_M_signals_2 7 rfl) h (fun q72 h => ?_)
  refine go_istore_n (lv' := [(3, .int q72.1), (0, .ref 0), (1, .int x1)]) X (dk dt_M_signals_2 8 rfl) rfl (by decide) rfl ?_
  refine go_goto (tgt := 49) X (dk dt_M_signals_2 9 rfl) (by decide) ?_
  refine go_sub [1, 2, 0] rfl ?_
  exact hk49 _ _ _  h
set_option maxRecDepth 20000 in
theorem lkB_M_signals_49 (hi : zInj wM v) (xc : XC wM v) (nx : NXM v) (X : Cx wM v p R s m args c 0 0 cX12_signals 5 RX12 8) (rt : Rt wM v p l e R s m args below meth c 0 0 Q cX12_signals false (some (.int res.1)) res.2) {k79 : Int32 → Int32 → Hp → Option (Int32 × Hp)} {k49 : Int32 → Int32 → Hp → Option (Int32 × Hp)} {x1 : Int32} {x3 : Int32} {σ : Hp}  (hk79 : ∀ (x1 : Int32) (x3 : Int32) (σ : Hp),  k79 x1 x3 σ = some res → Go wM v p l e R s m args below meth c 0 0 Q 5 79 [(0, .ref 0), (1, .int x1), (3, .int x3)] [] σ) (hk49 : ∀ (x1 : Int32) (x3 : Int32) (σ : Hp),  k49 x1 x3 σ = some res → Go wM v p l e R s m args below meth c 0 0 Q 5 49 [(0, .ref 0), (1, .int x1), (3, .int x3)] [] σ) (h : B_M_signals_49  k79 k49 x1 x3 σ = some res) : Go wM v p l e R s m args below meth c 0 0 Q 5 49 [(0, .ref 0), (1, .int x1), (3, .int x3)] [] σ := by
  unfold B_M_signals_49 at h
  refine go_iload_n X 2 (dk dt_M_signals_1 12 rfl) rfl rfl ?_
  refine go_if_eq (tgt := 79) X (dk dt_M_signals_1 13 rfl) (by decide) h (fun h => ?_) (fun h => ?_)
  · exact hk79 _ _ _  h
  · refine go_aload_n X 0 (dk dt_M_signals_1 14 rfl) rfl rfl ?_
    refine go_geti X fo_X12_155 lM_0 sM_0 fM_0_7 (dk dt_M_signals_1 15 rfl) ?_
    refine go_aload_n X 0 (dk dt_M_signals_2 0 rfl) rfl rfl ?_
    refine go_geti X fo_X12_158 lM_0 sM_0 fM_0_8 (dk dt_M_signals_2 1 rfl) ?_
    refine go_icmp_lt (tgt := 71) X (dk dt_M_signals_2 2 rfl) (by decide) h (fun h => ?_) (fun h => ?_)
    · refine go_sub [0, 1] rfl ?_
      exact lkJ_M_signals_71 hi xc nx X rt  hk49 h
    · refine go_aload_n X 0 (dk dt_M_signals_2 3 rfl) rfl rfl ?_
      refine go_geti X fo_X12_310 lM_0 sM_0 fM_0_37 (dk dt_M_signals_2 4 rfl) ?_
      refine go_if_le (tgt := 79) X (dk dt_M_signals_2 5 rfl) (by decide) h (fun h => ?_) (fun h => ?_)
      · exact hk79 _ _ _  h
      · refine go_sub [0, 1] rfl ?_
        exact lkJ_M_signals_71 hi xc nx X rt  hk49 h
set_option maxRecDepth 20000 in
theorem lkL_M_signals_49 (hi : zInj wM v) (xc : XC wM v) (nx : NXM v) (X : Cx wM v p R s m args c 0 0 cX12_signals 5 RX12 8) (rt : Rt wM v p l e R s m args below meth c 0 0 Q cX12_signals false (some (.int res.1)) res.2) {k79 : Int32 → Int32 → Hp → Option (Int32 × Hp)} (hk79 : ∀ (x1 : Int32) (x3 : Int32) (σ : Hp),  k79 x1 x3 σ = some res → Go wM v p l e R s m args below meth c 0 0 Q 5 79 [(0, .ref 0), (1, .int x1), (3, .int x3)] [] σ) (n : Nat) : ∀ {x1 : Int32} {x3 : Int32} {σ : Hp},  L_M_signals_49  k79 n x1 x3 σ = some res → Go wM v p l e R s m args below meth c 0 0 Q 5 49 [(0, .ref 0), (1, .int x1), (3, .int x3)] [] σ := by
  induction n with
  | zero => intro x1 x3 σ  h; cases h
  | succ n ih =>
    intro x1 x3 σ  h
    exact lkB_M_signals_49 hi xc nx X rt  hk79 (fun _ _ _  hh => ih  hh) h
set_option maxRecDepth 20000 in
theorem lkB_M_signals_106 (hi : zInj wM v) (xc : XC wM v) (nx : NXM v) (X : Cx wM v p R s m args c 0 0 cX12_signals 5 RX12 8) (rt : Rt wM v p l e R s m args below meth c 0 0 Q cX12_signals false (some (.int res.1)) res.2) {k106 : Int32 → Int32 → Hp → Option (Int32 × Hp)} {x1 : Int32} {x4 : Int32} {σ : Hp}  (hk106 : ∀ (x1 : Int32) (x4 : Int32) (σ : Hp),  k106 x1 x4 σ = some res → Go wM v p l e R s m args below meth c 0 0 Q 5 106 [(0, .ref 0), (1, .int x1), (4, .int x4)] [] σ) (h : B_M_signals_106  k106 x1 x4 σ = some res) : Go wM v p l e R s m args below meth c 0 0 Q 5 106 [(0, .ref 0), (1, .int x1), (4, .int x4)] [] σ := by
  unfold B_M_signals_106 at h
  refine go_iload X 2 (dk dt_M_signals_3 10 rfl) rfl ?_
  refine go_aload_n X 0 (dk dt_M_signals_3 11 rfl) rfl rfl ?_
  refine go_geti X fo_X12_298 lM_0 sM_0 fM_0_36 (dk dt_M_signals_3 12 rfl) ?_
  refine go_icmp_ge (tgt := 141) X (dk dt_M_signals_3 13 rfl) (by decide) h (fun h => ?_) (fun h => ?_)
  · refine go_aload_n X 0 (dk dt_M_signals_4 13 rfl) rfl rfl ?_
    refine go_geti X fo_X12_298 lM_0 sM_0 fM_0_36 (dk dt_M_signals_4 14 rfl) ?_
    exact go_iret rt (dk dt_M_signals_4 15 rfl) h (fun hh => nomatch hh)
  · refine go_aload_n X 0 (dk dt_M_signals_3 14 rfl) rfl rfl ?_
    refine go_getr X fo_X12_68 lM_0 sM_0 fM_0_30 (dk dt_M_signals_3 15 rfl) ?_
    refine go_bipush X (dk dt_M_signals_4 0 rfl) cb_60 ?_
    refine go_iload_n X 1 (dk dt_M_signals_4 1 rfl) rfl rfl ?_
    refine go_imul X (dk dt_M_signals_4 2 rfl) ?_
    refine go_iload X 2 (dk dt_M_signals_4 3 rfl) rfl ?_
    refine go_iadd X (dk dt_M_signals_4 4 rfl) ?_
    refine go_aload_n X 0 (dk dt_M_signals_4 5 rfl) rfl rfl ?_
    refine go_getr X fo_X12_74 lM_0 sM_0 fM_0_32 (dk dt_M_signals_4 6 rfl) ?_
    refine go_iload X 2 (dk dt_M_signals_4 7 rfl) rfl ?_
    refine go_iald X lM_22 sM_22 (dk dt_M_signals_4 8 rfl) h (fun h => ?_)
    refine go_i2b X (dk dt_M_signals_4 9 rfl) ?_
    refine go_bast X lM_20 sM_20 (dk dt_M_signals_4 10 rfl) h (fun h => ?_)
    refine go_iinc (lv' := [(4, .int (x4 + (1 : Int32))), (0, .ref 0), (1, .int x1)]) X 2 (dk dt_M_signals_4 11 rfl) rfl ci_1 (by decide) rfl ?_
    refine go_goto (tgt := 106) X (dk dt_M_signals_4 12 rfl) (by decide) ?_
    refine go_sub [1, 2, 0] rfl ?_
    exact hk106 _ _ _  h
set_option maxRecDepth 20000 in
theorem lkL_M_signals_106 (hi : zInj wM v) (xc : XC wM v) (nx : NXM v) (X : Cx wM v p R s m args c 0 0 cX12_signals 5 RX12 8) (rt : Rt wM v p l e R s m args below meth c 0 0 Q cX12_signals false (some (.int res.1)) res.2)   (n : Nat) : ∀ {x1 : Int32} {x4 : Int32} {σ : Hp},  L_M_signals_106   n x1 x4 σ = some res → Go wM v p l e R s m args below meth c 0 0 Q 5 106 [(0, .ref 0), (1, .int x1), (4, .int x4)] [] σ := by
  induction n with
  | zero => intro x1 x4 σ  h; cases h
  | succ n ih =>
    intro x1 x4 σ  h
    exact lkB_M_signals_106 hi xc nx X rt  (fun _ _ _  hh => ih  hh) h
set_option maxRecDepth 20000 in
theorem lkJ_M_signals_79 (hi : zInj wM v) (xc : XC wM v) (nx : NXM v) (X : Cx wM v p R s m args c 0 0 cX12_signals 5 RX12 8) (rt : Rt wM v p l e R s m args below meth c 0 0 Q cX12_signals false (some (.int res.1)) res.2)  {x1 : Int32} {x3 : Int32} {σ : Hp}   (h : J_M_signals_79   x1 x3 σ = some res) : Go wM v p l e R s m args below meth c 0 0 Q 5 79 [(0, .ref 0), (1, .int x1), (3, .int x3)] [] σ := by
  unfold J_M_signals_79 at h
  refine go_aload_n X 0 (dk dt_M_signals_2 10 rfl) rfl rfl ?_
  refine go_iconst X (dk dt_M_signals_2 11 rfl) ci_0 ?_
  refine go_puti X fo_X12_147 pf_12_6 lM_0 sM_0 fM_0_6 (dk dt_M_signals_2 12 rfl) ?_
  refine go_iload_n X 2 (dk dt_M_signals_2 13 rfl) rfl rfl ?_
  refine go_if_ne (tgt := 93) X (dk dt_M_signals_2 14 rfl) (by decide) h (fun h => ?_) (fun h => ?_)
  · refine go_aload_n X 0 (dk dt_M_signals_3 2 rfl) rfl rfl ?_
    refine go_getr X fo_X12_71 lM_0 sM_0 fM_0_31 (dk dt_M_signals_3 3 rfl) ?_
    refine go_iload_n X 1 (dk dt_M_signals_3 4 rfl) rfl rfl ?_
    refine go_aload_n X 0 (dk dt_M_signals_3 5 rfl) rfl rfl ?_
    refine go_geti X fo_X12_298 lM_0 sM_0 fM_0_36 (dk dt_M_signals_3 6 rfl) ?_
    refine go_iast X lM_21 sM_21 (dk dt_M_signals_3 7 rfl) h (fun h => ?_)
    refine go_iconst X (dk dt_M_signals_3 8 rfl) ci_0 ?_
    refine go_istore (lv' := [(4, .int (0 : Int32)), (0, .ref 0), (1, .int x1), (3, .int x3)]) X (dk dt_M_signals_3 9 rfl) (by decide) rfl ?_
    refine go_sub [1, 2, 0] rfl ?_
    exact lkL_M_signals_106 hi xc nx X rt  FU  h
  · refine go_aload_n X 0 (dk dt_M_signals_2 15 rfl) rfl rfl ?_
    refine go_geti X fo_X12_165 lM_0 sM_0 fM_0_9 (dk dt_M_signals_3 0 rfl) ?_
    exact go_iret rt (dk dt_M_signals_3 1 rfl) h (fun hh => nomatch hh)
set_option maxRecDepth 20000 in
theorem lkF_M_signals (hi : zInj wM v) (xc : XC wM v) (nx : NXM v) (X : Cx wM v p R s m args c 0 0 cX12_signals 5 RX12 8) (rt : Rt wM v p l e R s m args below meth c 0 0 Q cX12_signals false (some (.int res.1)) res.2) {a1 : Int32} {a2 : Int32} {σ : Hp}  (h : F_M_signals  a1 a2 σ = some res) : Go wM v p l e R s m args below meth c 0 0 Q 5 0 [(0, .ref 0), (1, .int a1), (2, .int a2)] [] σ := by
  unfold F_M_signals at h
  refine go_iload_n X 1 (dk dt_M_signals_0 0 rfl) rfl rfl ?_
  refine go_iconst X (dk dt_M_signals_0 1 rfl) ci_0 ?_
  refine go_iconst X (dk dt_M_signals_0 2 rfl) ci_1 ?_
  refine go_Si (As := [.int a1, .int (0 : Int32), .int (1 : Int32)]) (rest := []) X so_X12_122 (fun q hq => ct_M_in hi xc nx  hq) (by decide) rfl rfl (Nat.le_of_ble_eq_true rfl) (dk dt_M_signals_0 3 rfl) h (fun q3 h => ?_)
  refine go_if_eq (tgt := 27) X (dk dt_M_signals_0 4 rfl) (by decide) h (fun h => ?_) (fun h => ?_)
  · refine go_iconst X (dk dt_M_signals_0 14 rfl) ci_m1 ?_
    exact go_iret rt (dk dt_M_signals_0 15 rfl) h (fun hh => nomatch hh)
  · refine go_iload_n X 2 (dk dt_M_signals_0 5 rfl) rfl rfl ?_
    refine go_iconst X (dk dt_M_signals_0 6 rfl) ci_1 ?_
    refine go_bipush X (dk dt_M_signals_0 7 rfl) cb_40 ?_
    refine go_Si (As := [.int a2, .int (1 : Int32), .int (40 : Int32)]) (rest := []) X so_X12_122 (fun q hq => ct_M_in hi xc nx  hq) (by decide) rfl rfl (Nat.le_of_ble_eq_true rfl) (dk dt_M_signals_0 8 rfl) h (fun q13 h => ?_)
    refine go_if_eq (tgt := 27) X (dk dt_M_signals_0 9 rfl) (by decide) h (fun h => ?_) (fun h => ?_)
    · refine go_iconst X (dk dt_M_signals_0 14 rfl) ci_m1 ?_
      exact go_iret rt (dk dt_M_signals_0 15 rfl) h (fun hh => nomatch hh)
    · refine go_iload_n X 2 (dk dt_M_signals_0 10 rfl) rfl rfl ?_
      refine go_aload_n X 0 (dk dt_M_signals_0 11 rfl) rfl rfl ?_
      refine go_geti X fo_X12_147 lM_0 sM_0 fM_0_6 (dk dt_M_signals_0 12 rfl) ?_
      refine go_icmp_le (tgt := 29) X (dk dt_M_signals_0 13 rfl) (by decide) h (fun h => ?_) (fun h => ?_)
      · refine go_aload_n X 0 (dk dt_M_signals_1 0 rfl) rfl rfl ?_
        refine go_iload_n X 2 (dk dt_M_signals_1 1 rfl) rfl rfl ?_
        refine go_Vv (As := [.int a2]) (rest := []) X vo_X12_239 (fun q hq => ct_M_beginsText hi xc nx  hq) (by decide) rfl lM_0 sM_0 rfl rfl (Nat.le_of_ble_eq_true rfl) (dk dt_M_signals_1 2 rfl) h (fun q31 h => ?_)
        refine go_aload_n X 0 (dk dt_M_signals_1 3 rfl) rfl rfl ?_
        refine go_iconst X (dk dt_M_signals_1 4 rfl) ci_0 ?_
        refine go_puti X fo_X12_298 pf_12_36 lM_0 sM_0 fM_0_36 (dk dt_M_signals_1 5 rfl) ?_
        refine go_aload_n X 0 (dk dt_M_signals_1 6 rfl) rfl rfl ?_
        refine go_iconst X (dk dt_M_signals_1 7 rfl) ci_0 ?_
        refine go_puti X fo_X12_310 pf_12_37 lM_0 sM_0 fM_0_37 (dk dt_M_signals_1 8 rfl) ?_
        refine go_aload_n X 0 (dk dt_M_signals_1 9 rfl) rfl rfl ?_
        refine go_Vi (As := []) (rest := []) X vo_X12_316 (fun q hq => ct_M_readsItem hi xc nx  hq) (by decide) rfl lM_0 sM_0 rfl rfl (Nat.le_of_ble_eq_true rfl) (dk dt_M_signals_1 10 rfl) h (fun q45 h => ?_)
        refine go_istore_n (lv' := [(3, .int q45.1), (0, .ref 0), (1, .int a1), (2, .int a2)]) X (dk dt_M_signals_1 11 rfl) rfl (by decide) rfl ?_
        refine go_sub [1, 2, 0] rfl ?_
        exact lkL_M_signals_49 hi xc nx X rt (fun _ _ _  hh => lkJ_M_signals_79 hi xc nx X rt   hh) FU  h
      · refine go_iconst X (dk dt_M_signals_0 14 rfl) ci_m1 ?_
        exact go_iret rt (dk dt_M_signals_0 15 rfl) h (fun hh => nomatch hh)
set_option maxRecDepth 20000 in
theorem ct_M_signals (hi : zInj wM v) (xc : XC wM v) (nx : NXM v)  {a1 : Int32} {a2 : Int32} {σ : Hp}  {q : (Int32 × Hp)} (h : F_M_signals  a1 a2 σ = some q) : Ct wM v l yX12_signals cX12_signals 5 (some .int) 8 [.ref 0, .int a1, .int a2] σ (some (.int q.1)) q.2 :=
  Ct.intro false (by decide) hi xc (Nat.le_of_ble_eq_true rfl) rfl (fun p e R s m args below meth c Q X rt => lkF_M_signals hi xc nx X rt  h)
end
def T_M_toSee_0 : DT := [(0, .aload_n 0, 1), (1, .iload_n 1, 1), (2, .iload_n 2, 1), (3, .invokevirtual 285, 3), (6, .ifCond .eq 14, 3), (9, .aload_n 0, 1), (10, .iconst 1, 1), (11, .iload_n 1, 1), (12, .isub, 1), (13, .iload_n 3, 1), (14, .invokevirtual 285, 3), (17, .ifCond .ne 5, 3), (20, .iconst (-1), 1), (21, .ireturn, 1), (22, .aload_n 0, 1), (23, .bipush 8, 2)]
theorem dt_M_toSee_0 : dOk cX12_toSee T_M_toSee_0 := by unfold dOk; decide +kernel
def T_M_toSee_1 : DT := [(25, .iload_n 1, 1), (26, .imul, 1), (27, .iload_n 2, 1), (28, .iadd, 1), (29, .invokevirtual 130, 3), (32, .istore 4, 2), (34, .aload_n 0, 1), (35, .bipush 8, 2), (37, .iconst 1, 1), (38, .iload_n 1, 1), (39, .isub, 1), (40, .imul, 1), (41, .iload_n 3, 1), (42, .iadd, 1), (43, .invokevirtual 130, 3), (46, .istore 5, 2)]
theorem dt_M_toSee_1 : dOk cX12_toSee T_M_toSee_1 := by unfold dOk; decide +kernel
def T_M_toSee_2 : DT := [(48, .iconst 0, 1), (49, .istore 6, 2), (51, .iload 6, 2), (53, .aload_n 0, 1), (54, .getfield 7, 3), (57, .bipush 64, 2), (59, .bipush 8, 2), (61, .iload_n 1, 1), (62, .imul, 1), (63, .iadd, 1), (64, .iload_n 2, 1), (65, .iadd, 1), (66, .iaload, 1), (67, .iadd, 1), (68, .bipush 9, 2), (70, .if_icmp .gt 52, 3)]
theorem dt_M_toSee_2 : dOk cX12_toSee T_M_toSee_2 := by unfold dOk; decide +kernel
def T_M_toSee_3 : DT := [(73, .iload 4, 2), (75, .iconst 5, 1), (76, .iload 6, 2), (78, .imul, 1), (79, .iadd, 1), (80, .istore 7, 2), (82, .iload_n 1, 1), (83, .ifCond .ne 18, 3), (86, .aload_n 0, 1), (87, .iload 7, 2), (89, .iload 5, 2), (91, .iconst (-1), 1), (92, .invokevirtual 134, 3), (95, .ifCond .eq 21, 3), (98, .goto 15, 3), (101, .aload_n 0, 1)]
theorem dt_M_toSee_3 : dOk cX12_toSee T_M_toSee_3 := by unfold dOk; decide +kernel
def T_M_toSee_4 : DT := [(102, .iload 5, 2), (104, .iload 7, 2), (106, .iconst (-1), 1), (107, .invokevirtual 134, 3), (110, .ifCond .eq 6, 3), (113, .iload 6, 2), (115, .ireturn, 1), (116, .iinc 6 1, 3), (119, .goto (-68), 3), (122, .bipush (-2), 2), (124, .ireturn, 1)]
theorem dt_M_toSee_4 : dOk cX12_toSee T_M_toSee_4 := by unfold dOk; decide +kernel
section
variable {v : ZV} {l : Launch} {p : Program} {e : Env} {R : Room} {s : State} {m : MethodId} {args : Array Value} {below : List Frame} {meth : Method} {c : Code} {Q : State → Prop} {res : (Int32 × Hp)} 
set_option maxRecDepth 20000 in
theorem lkB_M_toSee_51 (hi : zInj wM v) (xc : XC wM v) (nx : NXM v) (X : Cx wM v p R s m args c 0 0 cX12_toSee 8 RX12 8) (rt : Rt wM v p l e R s m args below meth c 0 0 Q cX12_toSee false (some (.int res.1)) res.2) {k51 : Int32 → Int32 → Int32 → Int32 → Int32 → Hp → Option (Int32 × Hp)} {x1 : Int32} {x2 : Int32} {x4 : Int32} {x5 : Int32} {x6 : Int32} {σ : Hp}  (hk51 : ∀ (x1 : Int32) (x2 : Int32) (x4 : Int32) (x5 : Int32) (x6 : Int32) (σ : Hp),  k51 x1 x2 x4 x5 x6 σ = some res → Go wM v p l e R s m args below meth c 0 0 Q 8 51 [(0, .ref 0), (1, .int x1), (2, .int x2), (4, .int x4), (5, .int x5), (6, .int x6)] [] σ) (h : B_M_toSee_51  k51 x1 x2 x4 x5 x6 σ = some res) : Go wM v p l e R s m args below meth c 0 0 Q 8 51 [(0, .ref 0), (1, .int x1), (2, .int x2), (4, .int x4), (5, .int x5), (6, .int x6)] [] σ := by
  unfold B_M_toSee_51 at h
  refine go_iload X 5 (dk dt_M_toSee_2 2 rfl) rfl ?_
  refine go_aload_n X 0 (dk dt_M_toSee_2 3 rfl) rfl rfl ?_
  refine go_getr X fo_X12_7 lM_0 sM_0 fM_0_0 (dk dt_M_toSee_2 4 rfl) ?_
  refine go_bipush X (dk dt_M_toSee_2 5 rfl) cb_64 ?_
  refine go_bipush X (dk dt_M_toSee_2 6 rfl) cb_8 ?_
  refine go_iload_n X 1 (dk dt_M_toSee_2 7 rfl) rfl rfl ?_
  refine go_imul X (dk dt_M_toSee_2 8 rfl) ?_
  refine go_iadd X (dk dt_M_toSee_2 9 rfl) ?_
  refine go_iload_n X 2 (dk dt_M_toSee_2 10 rfl) rfl rfl ?_
  refine go_iadd X (dk dt_M_toSee_2 11 rfl) ?_
  refine go_iald X lM_1 sM_1 (dk dt_M_toSee_2 12 rfl) h (fun h => ?_)
  refine go_iadd X (dk dt_M_toSee_2 13 rfl) ?_
  refine go_bipush X (dk dt_M_toSee_2 14 rfl) cb_9 ?_
  refine go_icmp_gt (tgt := 122) X (dk dt_M_toSee_2 15 rfl) (by decide) h (fun h => ?_) (fun h => ?_)
  · refine go_bipush X (dk dt_M_toSee_4 9 rfl) cb_m2 ?_
    exact go_iret rt (dk dt_M_toSee_4 10 rfl) h (fun hh => nomatch hh)
  · refine go_iload X 3 (dk dt_M_toSee_3 0 rfl) rfl ?_
    refine go_iconst X (dk dt_M_toSee_3 1 rfl) ci_5 ?_
    refine go_iload X 5 (dk dt_M_toSee_3 2 rfl) rfl ?_
    refine go_imul X (dk dt_M_toSee_3 3 rfl) ?_
    refine go_iadd X (dk dt_M_toSee_3 4 rfl) ?_
    refine go_istore (lv' := [(7, .int (x4 + ((5 : Int32) * x6))), (0, .ref 0), (1, .int x1), (2, .int x2), (4, .int x4), (5, .int x5), (6, .int x6)]) X (dk dt_M_toSee_3 5 rfl) (by decide) rfl ?_
    refine go_iload_n X 2 (dk dt_M_toSee_3 6 rfl) rfl rfl ?_
    refine go_if_ne (tgt := 101) X (dk dt_M_toSee_3 7 rfl) (by decide) h (fun h => ?_) (fun h => ?_)
    · refine go_aload_n X 1 (dk dt_M_toSee_3 15 rfl) rfl rfl ?_
      refine go_iload X 5 (dk dt_M_toSee_4 0 rfl) rfl ?_
      refine go_iload X 0 (dk dt_M_toSee_4 1 rfl) rfl ?_
      refine go_iconst X (dk dt_M_toSee_4 2 rfl) ci_m1 ?_
      refine go_Vi (As := [.int x5, .int (x4 + ((5 : Int32) * x6)), .int (-1 : Int32)]) (rest := []) X vo_X12_134 (fun q hq => ct_M_seesOver hi xc nx  hq) (by decide) rfl lM_0 sM_0 rfl rfl (Nat.le_of_ble_eq_true rfl) (dk dt_M_toSee_4 3 rfl) h (fun q107 h => ?_)
      refine go_if_eq (tgt := 116) X (dk dt_M_toSee_4 4 rfl) (by decide) h (fun h => ?_) (fun h => ?_)
      · refine go_iinc (lv' := [(6, .int (x6 + (1 : Int32))), (7, .int (x4 + ((5 : Int32) * x6))), (0, .ref 0), (1, .int x1), (2, .int x2), (4, .int x4), (5, .int x5)]) X 6 (dk dt_M_toSee_4 7 rfl) rfl ci_1 (by decide) rfl ?_
        refine go_goto (tgt := 51) X (dk dt_M_toSee_4 8 rfl) (by decide) ?_
        refine go_sub [2, 3, 4, 5, 6, 0] rfl ?_
        exact hk51 _ _ _ _ _ _  h
      · refine go_iload X 6 (dk dt_M_toSee_4 5 rfl) rfl ?_
        exact go_iret rt (dk dt_M_toSee_4 6 rfl) h (fun hh => nomatch hh)
    · refine go_aload_n X 1 (dk dt_M_toSee_3 8 rfl) rfl rfl ?_
      refine go_iload X 0 (dk dt_M_toSee_3 9 rfl) rfl ?_
      refine go_iload X 5 (dk dt_M_toSee_3 10 rfl) rfl ?_
      refine go_iconst X (dk dt_M_toSee_3 11 rfl) ci_m1 ?_
      refine go_Vi (As := [.int (x4 + ((5 : Int32) * x6)), .int x5, .int (-1 : Int32)]) (rest := []) X vo_X12_134 (fun q hq => ct_M_seesOver hi xc nx  hq) (by decide) rfl lM_0 sM_0 rfl rfl (Nat.le_of_ble_eq_true rfl) (dk dt_M_toSee_3 12 rfl) h (fun q92 h => ?_)
      refine go_if_eq (tgt := 116) X (dk dt_M_toSee_3 13 rfl) (by decide) h (fun h => ?_) (fun h => ?_)
      · refine go_iinc (lv' := [(6, .int (x6 + (1 : Int32))), (7, .int (x4 + ((5 : Int32) * x6))), (0, .ref 0), (1, .int x1), (2, .int x2), (4, .int x4), (5, .int x5)]) X 6 (dk dt_M_toSee_4 7 rfl) rfl ci_1 (by decide) rfl ?_
        refine go_goto (tgt := 51) X (dk dt_M_toSee_4 8 rfl) (by decide) ?_
        refine go_sub [2, 3, 4, 5, 6, 0] rfl ?_
        exact hk51 _ _ _ _ _ _  h
      · refine go_goto (tgt := 113) X (dk dt_M_toSee_3 14 rfl) (by decide) ?_
        refine go_iload X 6 (dk dt_M_toSee_4 5 rfl) rfl ?_
        exact go_iret rt (dk dt_M_toSee_4 6 rfl) h (fun hh => nomatch hh)
set_option maxRecDepth 20000 in
theorem lkL_M_toSee_51 (hi : zInj wM v) (xc : XC wM v) (nx : NXM v) (X : Cx wM v p R s m args c 0 0 cX12_toSee 8 RX12 8) (rt : Rt wM v p l e R s m args below meth c 0 0 Q cX12_toSee false (some (.int res.1)) res.2)   (n : Nat) : ∀ {x1 : Int32} {x2 : Int32} {x4 : Int32} {x5 : Int32} {x6 : Int32} {σ : Hp},  L_M_toSee_51   n x1 x2 x4 x5 x6 σ = some res → Go wM v p l e R s m args below meth c 0 0 Q 8 51 [(0, .ref 0), (1, .int x1), (2, .int x2), (4, .int x4), (5, .int x5), (6, .int x6)] [] σ := by
  induction n with
  | zero => intro x1 x2 x4 x5 x6 σ  h; cases h
  | succ n ih =>
    intro x1 x2 x4 x5 x6 σ  h
    exact lkB_M_toSee_51 hi xc nx X rt  (fun _ _ _ _ _ _  hh => ih  hh) h
set_option maxRecDepth 20000 in
theorem lkF_M_toSee (hi : zInj wM v) (xc : XC wM v) (nx : NXM v) (X : Cx wM v p R s m args c 0 0 cX12_toSee 8 RX12 8) (rt : Rt wM v p l e R s m args below meth c 0 0 Q cX12_toSee false (some (.int res.1)) res.2) {a1 : Int32} {a2 : Int32} {a3 : Int32} {σ : Hp}  (h : F_M_toSee  a1 a2 a3 σ = some res) : Go wM v p l e R s m args below meth c 0 0 Q 8 0 [(0, .ref 0), (1, .int a1), (2, .int a2), (3, .int a3)] [] σ := by
  unfold F_M_toSee at h
  refine go_aload_n X 0 (dk dt_M_toSee_0 0 rfl) rfl rfl ?_
  refine go_iload_n X 1 (dk dt_M_toSee_0 1 rfl) rfl rfl ?_
  refine go_iload_n X 2 (dk dt_M_toSee_0 2 rfl) rfl rfl ?_
  refine go_Vi (As := [.int a1, .int a2]) (rest := []) X vo_X12_285 (fun q hq => ct_M_isThere hi xc nx  hq) (by decide) rfl lM_0 sM_0 rfl rfl (Nat.le_of_ble_eq_true rfl) (dk dt_M_toSee_0 3 rfl) h (fun q3 h => ?_)
  refine go_if_eq (tgt := 20) X (dk dt_M_toSee_0 4 rfl) (by decide) h (fun h => ?_) (fun h => ?_)
  · refine go_iconst X (dk dt_M_toSee_0 12 rfl) ci_m1 ?_
    exact go_iret rt (dk dt_M_toSee_0 13 rfl) h (fun hh => nomatch hh)
  · refine go_aload_n X 0 (dk dt_M_toSee_0 5 rfl) rfl rfl ?_
    refine go_iconst X (dk dt_M_toSee_0 6 rfl) ci_1 ?_
    refine go_iload_n X 1 (dk dt_M_toSee_0 7 rfl) rfl rfl ?_
    refine go_isub X (dk dt_M_toSee_0 8 rfl) ?_
    refine go_iload_n X 3 (dk dt_M_toSee_0 9 rfl) rfl rfl ?_
    refine go_Vi (As := [.int ((1 : Int32) - a1), .int a3]) (rest := []) X vo_X12_285 (fun q hq => ct_M_isThere hi xc nx  hq) (by decide) rfl lM_0 sM_0 rfl rfl (Nat.le_of_ble_eq_true rfl) (dk dt_M_toSee_0 10 rfl) h (fun q14 h => ?_)
    refine go_if_ne (tgt := 22) X (dk dt_M_toSee_0 11 rfl) (by decide) h (fun h => ?_) (fun h => ?_)
    · refine go_aload_n X 0 (dk dt_M_toSee_0 14 rfl) rfl rfl ?_
      refine go_bipush X (dk dt_M_toSee_0 15 rfl) cb_8 ?_
      refine go_iload_n X 1 (dk dt_M_toSee_1 0 rfl) rfl rfl ?_
      refine go_imul X (dk dt_M_toSee_1 1 rfl) ?_
      refine go_iload_n X 2 (dk dt_M_toSee_1 2 rfl) rfl rfl ?_
      refine go_iadd X (dk dt_M_toSee_1 3 rfl) ?_
      refine go_Vi (As := [.int (((8 : Int32) * a1) + a2)]) (rest := []) X vo_X12_130 (fun q hq => ct_M_eyeOf hi xc nx  hq) (by decide) rfl lM_0 sM_0 rfl rfl (Nat.le_of_ble_eq_true rfl) (dk dt_M_toSee_1 4 rfl) h (fun q29 h => ?_)
      refine go_istore (lv' := [(4, .int q29.1), (0, .ref 0), (1, .int a1), (2, .int a2), (3, .int a3)]) X (dk dt_M_toSee_1 5 rfl) (by decide) rfl ?_
      refine go_aload_n X 1 (dk dt_M_toSee_1 6 rfl) rfl rfl ?_
      refine go_bipush X (dk dt_M_toSee_1 7 rfl) cb_8 ?_
      refine go_iconst X (dk dt_M_toSee_1 8 rfl) ci_1 ?_
      refine go_iload_n X 2 (dk dt_M_toSee_1 9 rfl) rfl rfl ?_
      refine go_isub X (dk dt_M_toSee_1 10 rfl) ?_
      refine go_imul X (dk dt_M_toSee_1 11 rfl) ?_
      refine go_iload_n X 4 (dk dt_M_toSee_1 12 rfl) rfl rfl ?_
      refine go_iadd X (dk dt_M_toSee_1 13 rfl) ?_
      refine go_Vi (As := [.int (((8 : Int32) * ((1 : Int32) - a1)) + a3)]) (rest := []) X vo_X12_130 (fun q hq => ct_M_eyeOf hi xc nx  hq) (by decide) rfl lM_0 sM_0 rfl rfl (Nat.le_of_ble_eq_true rfl) (dk dt_M_toSee_1 14 rfl) h (fun q43 h => ?_)
      refine go_istore (lv' := [(5, .int q43.1), (4, .int q29.1), (0, .ref 0), (1, .int a1), (2, .int a2), (3, .int a3)]) X (dk dt_M_toSee_1 15 rfl) (by decide) rfl ?_
      refine go_iconst X (dk dt_M_toSee_2 0 rfl) ci_0 ?_
      refine go_istore (lv' := [(6, .int (0 : Int32)), (5, .int q43.1), (4, .int q29.1), (0, .ref 0), (1, .int a1), (2, .int a2), (3, .int a3)]) X (dk dt_M_toSee_2 1 rfl) (by decide) rfl ?_
      refine go_sub [3, 4, 5, 2, 1, 0] rfl ?_
      exact lkL_M_toSee_51 hi xc nx X rt  FU  h
    · refine go_iconst X (dk dt_M_toSee_0 12 rfl) ci_m1 ?_
      exact go_iret rt (dk dt_M_toSee_0 13 rfl) h (fun hh => nomatch hh)
set_option maxRecDepth 20000 in
theorem ct_M_toSee (hi : zInj wM v) (xc : XC wM v) (nx : NXM v)  {a1 : Int32} {a2 : Int32} {a3 : Int32} {σ : Hp}  {q : (Int32 × Hp)} (h : F_M_toSee  a1 a2 a3 σ = some q) : Ct wM v l yX12_toSee cX12_toSee 8 (some .int) 8 [.ref 0, .int a1, .int a2, .int a3] σ (some (.int q.1)) q.2 :=
  Ct.intro false (by decide) hi xc (Nat.le_of_ble_eq_true rfl) rfl (fun p e R s m args below meth c Q X rt => lkF_M_toSee hi xc nx X rt  h)
end
