def T_X6_readGift_0 : DT := [(0, .aload_n 0, 1), (1, .getfield 15, 3), (4, .getfield 33, 3), (7, .istore 4, 2), (9, .aload_n 0, 1), (10, .getfield 15, 3), (13, .iconst 2, 1), (14, .invokevirtual 66, 3), (17, .istore 5, 2), (19, .iload 5, 2), (21, .iconst (-1), 1), (22, .if_icmp .ne 5, 3), (25, .iconst 0, 1), (26, .ireturn, 1), (27, .iload_n 3, 1), (28, .bipush 76, 2)]
theorem dt_X6_readGift_0 : dOk cX6_readGift T_X6_readGift_0 := by unfold dOk; decide +kernel
def T_X6_readGift_1 : DT := [(30, .if_icmp .ne 25, 3), (33, .aload_n 1, 1), (34, .getfield 70, 3), (37, .iload_n 2, 1), (38, .bipush 99, 2), (40, .aload_n 1, 1), (41, .getfield 70, 3), (44, .iload_n 2, 1), (45, .iaload, 1), (46, .iload 5, 2), (48, .iadd, 1), (49, .invokestatic 73, 3), (52, .iastore, 1), (53, .iconst 1, 1), (54, .ireturn, 1), (55, .iload 5, 2)]
theorem dt_X6_readGift_1 : dOk cX6_readGift T_X6_readGift_1 := by unfold dOk; decide +kernel
def T_X6_readGift_2 : DT := [(57, .bipush 9, 2), (59, .if_icmp .le 14, 3), (62, .aload_n 0, 1), (63, .getfield 15, 3), (66, .iconst 3, 1), (67, .iload 4, 2), (69, .invokevirtual 79, 3), (72, .ireturn, 1), (73, .aload_n 1, 1), (74, .getfield 83, 3), (77, .iload_n 2, 1), (78, .iload 5, 2), (80, .iastore, 1), (81, .iconst 1, 1), (82, .ireturn, 1)]
theorem dt_X6_readGift_2 : dOk cX6_readGift T_X6_readGift_2 := by unfold dOk; decide +kernel
section
variable {v : ZV} {l : Launch} {p : Program} {e : Env} {R : Room} {s : State} {m : MethodId} {args : Array Value} {below : List Frame} {meth : Method} {c : Code} {Q : State → Prop} {res : (Int32 × Hp)} 
set_option maxRecDepth 20000 in
theorem lkF_X6_readGift (hi : zInj wC v) (xc : XC wC v) (nx : NXC v) (X : Cx wC v p R s m args c 0 0 cX6_readGift 6 RX6 8) (rt : Rt wC v p l e R s m args below meth c 0 0 Q cX6_readGift true (some (.int res.1)) res.2) {a1 : Nat} {a2 : Int32} {a3 : Int32} {σ : Hp} (ha1 : isW a1 = true) (h : F_X6_readGift  a1 a2 a3 σ = some res) : Go wC v p l e R s m args below meth c 0 0 Q 6 0 [(0, .ref 25), (1, .ref a1), (2, .int a2), (3, .int a3)] [] σ := by
  unfold F_X6_readGift at h
  refine go_aload_n X 0 (dk dt_X6_readGift_0 0 rfl) rfl rfl ?_
  refine go_getr X fo_X6_15 lC_25 sC_25 fC_25_0 (dk dt_X6_readGift_0 1 rfl) ?_
  refine go_geti X fo_X6_33 lC_23 sC_23 fC_23_3 (dk dt_X6_readGift_0 2 rfl) ?_
  refine go_istore (lv' := [(4, .int (σ 23 3)), (0, .ref 25), (1, .ref a1), (2, .int a2), (3, .int a3)]) X (dk dt_X6_readGift_0 3 rfl) (by decide) rfl ?_
  refine go_aload_n X 1 (dk dt_X6_readGift_0 4 rfl) rfl rfl ?_
  refine go_getr X fo_X6_15 lC_25 sC_25 fC_25_0 (dk dt_X6_readGift_0 5 rfl) ?_
  refine go_iconst X (dk dt_X6_readGift_0 6 rfl) ci_2 ?_
  refine go_Vi (As := [.int (2 : Int32)]) (rest := []) X vo_X6_66 (fun q hq => ct_X8_number hi xc nx  hq) (by decide) rfl lC_23 sC_23 rfl rfl (Nat.le_of_ble_eq_true rfl) (dk dt_X6_readGift_0 7 rfl) h (fun q14 h => ?_)
  refine go_istore (lv' := [(5, .int q14.1), (4, .int (σ 23 3)), (0, .ref 25), (1, .ref a1), (2, .int a2), (3, .int a3)]) X (dk dt_X6_readGift_0 8 rfl) (by decide) rfl ?_
  refine go_iload X 0 (dk dt_X6_readGift_0 9 rfl) rfl ?_
  refine go_iconst X (dk dt_X6_readGift_0 10 rfl) ci_m1 ?_
  refine go_icmp_ne (tgt := 27) X (dk dt_X6_readGift_0 11 rfl) (by decide) h (fun h => ?_) (fun h => ?_)
  · refine go_iload_n X 5 (dk dt_X6_readGift_0 14 rfl) rfl rfl ?_
    refine go_bipush X (dk dt_X6_readGift_0 15 rfl) cb_76 ?_
    refine go_icmp_ne (tgt := 55) X (dk dt_X6_readGift_1 0 rfl) (by decide) h (fun h => ?_) (fun h => ?_)
    · refine go_iload X 0 (dk dt_X6_readGift_1 15 rfl) rfl ?_
      refine go_bipush X (dk dt_X6_readGift_2 0 rfl) cb_9 ?_
      refine go_icmp_le (tgt := 73) X (dk dt_X6_readGift_2 1 rfl) (by decide) h (fun h => ?_) (fun h => ?_)
      · refine go_aload_n X 3 (dk dt_X6_readGift_2 8 rfl) rfl rfl ?_
        refine go_getr X fo_X6_83 (lW ha1) (sW ha1) (fW_3 ha1) (dk dt_X6_readGift_2 9 rfl) ?_
        refine go_iload_n X 4 (dk dt_X6_readGift_2 10 rfl) rfl rfl ?_
        refine go_iload X 0 (dk dt_X6_readGift_2 11 rfl) rfl ?_
        refine go_iast X (lWa_4 ha1) (sWa_4 ha1) (dk dt_X6_readGift_2 12 rfl) h (fun h => ?_)
        refine go_iconst X (dk dt_X6_readGift_2 13 rfl) ci_1 ?_
        exact go_iret rt (dk dt_X6_readGift_2 14 rfl) h (by decide)
      · refine go_aload_n X 2 (dk dt_X6_readGift_2 2 rfl) rfl rfl ?_
        refine go_getr X fo_X6_15 lC_25 sC_25 fC_25_0 (dk dt_X6_readGift_2 3 rfl) ?_
        refine go_iconst X (dk dt_X6_readGift_2 4 rfl) ci_3 ?_
        refine go_iload X 1 (dk dt_X6_readGift_2 5 rfl) rfl ?_
        refine go_Vi (As := [.int (3 : Int32), .int (σ 23 3)]) (rest := []) X vo_X6_79 (fun q hq => ct_X8_refuseAt hi xc nx  hq) (by decide) rfl lC_23 sC_23 rfl rfl (Nat.le_of_ble_eq_true rfl) (dk dt_X6_readGift_2 6 rfl) h (fun q69 h => ?_)
        exact go_zret rt (dk dt_X6_readGift_2 7 rfl) h
    · refine go_aload_n X 3 (dk dt_X6_readGift_1 1 rfl) rfl rfl ?_
      refine go_getr X fo_X6_70 (lW ha1) (sW ha1) (fW_2 ha1) (dk dt_X6_readGift_1 2 rfl) ?_
      refine go_iload_n X 4 (dk dt_X6_readGift_1 3 rfl) rfl rfl ?_
      refine go_bipush X (dk dt_X6_readGift_1 4 rfl) cb_99 ?_
      refine go_aload_n X 3 (dk dt_X6_readGift_1 5 rfl) rfl rfl ?_
      refine go_getr X fo_X6_70 (lW ha1) (sW ha1) (fW_2 ha1) (dk dt_X6_readGift_1 6 rfl) ?_
      refine go_iload_n X 4 (dk dt_X6_readGift_1 7 rfl) rfl rfl ?_
      refine go_iald X (lWa_3 ha1) (sWa_3 ha1) (dk dt_X6_readGift_1 8 rfl) h (fun h => ?_)
      refine go_iload X 0 (dk dt_X6_readGift_1 9 rfl) rfl ?_
      refine go_iadd X (dk dt_X6_readGift_1 10 rfl) ?_
      refine go_mmin X mo_X6_73 (by decide) (Nat.le_of_ble_eq_true rfl) (dk dt_X6_readGift_1 11 rfl) ?_
      refine go_iast X (lWa_3 ha1) (sWa_3 ha1) (dk dt_X6_readGift_1 12 rfl) h (fun h => ?_)
      refine go_iconst X (dk dt_X6_readGift_1 13 rfl) ci_1 ?_
      exact go_iret rt (dk dt_X6_readGift_1 14 rfl) h (by decide)
  · refine go_iconst X (dk dt_X6_readGift_0 12 rfl) ci_0 ?_
    exact go_iret rt (dk dt_X6_readGift_0 13 rfl) h (by decide)
set_option maxRecDepth 20000 in
theorem ct_X6_readGift (hi : zInj wC v) (xc : XC wC v) (nx : NXC v)  {a1 : Nat} {a2 : Int32} {a3 : Int32} {σ : Hp} (ha1 : isW a1 = true) {q : (Int32 × Hp)} (h : F_X6_readGift  a1 a2 a3 σ = some q) : Ct wC v l yX6_readGift cX6_readGift 6 (some .boolean) 8 [.ref 25, .ref a1, .int a2, .int a3] σ (some (.int q.1)) q.2 :=
  Ct.intro true (by decide) hi xc (Nat.le_of_ble_eq_true rfl) rfl (fun p e R s m args below meth c Q X rt => lkF_X6_readGift hi xc nx X rt ha1 h)
end
def T_X10_turn_0 : DT := [(0, .aload_n 0, 1), (1, .iload_n 1, 1), (2, .iaload, 1), (3, .istore_n 3, 1), (4, .aload_n 0, 1), (5, .iload_n 1, 1), (6, .aload_n 0, 1), (7, .iload_n 2, 1), (8, .iaload, 1), (9, .iastore, 1), (10, .aload_n 0, 1), (11, .iload_n 2, 1), (12, .iload_n 3, 1), (13, .iastore, 1), (14, .return_, 1)]
theorem dt_X10_turn_0 : dOk cX10_turn T_X10_turn_0 := by unfold dOk; decide +kernel
section
variable {v : ZV} {l : Launch} {p : Program} {e : Env} {R : Room} {s : State} {m : MethodId} {args : Array Value} {below : List Frame} {meth : Method} {c : Code} {Q : State → Prop} {res : Hp} 
set_option maxRecDepth 20000 in
theorem lkF_X10_turn (hi : zInj wC v) (xc : XC wC v) (nx : NXC v) (X : Cx wC v p R s m args c 0 0 cX10_turn 4 RX10 2) (rt : Rt wC v p l e R s m args below meth c 0 0 Q cX10_turn false none res) {a0 : Nat} {a0n : Nat} {a1 : Int32} {a2 : Int32} {σ : Hp} (ha0 : a0 < wC.1) (ha0n : wC.2.1 a0 = (0, a0n)) (h : F_X10_turn  a0 a0n a1 a2 σ = some res) : Go wC v p l e R s m args below meth c 0 0 Q 4 0 [(0, .ref a0), (1, .int a1), (2, .int a2)] [] σ := by
  unfold F_X10_turn at h
  refine go_aload_n X 0 (dk dt_X10_turn_0 0 rfl) rfl rfl ?_
  refine go_iload_n X 1 (dk dt_X10_turn_0 1 rfl) rfl rfl ?_
  refine go_iald X ha0 ha0n (dk dt_X10_turn_0 2 rfl) h (fun h => ?_)
  refine go_istore_n (lv' := [(3, .int (σ a0 (Int32.toNatClampNeg a1))), (0, .ref a0), (1, .int a1), (2, .int a2)]) X (dk dt_X10_turn_0 3 rfl) rfl (by decide) rfl ?_
  refine go_aload_n X 1 (dk dt_X10_turn_0 4 rfl) rfl rfl ?_
  refine go_iload_n X 2 (dk dt_X10_turn_0 5 rfl) rfl rfl ?_
  refine go_aload_n X 1 (dk dt_X10_turn_0 6 rfl) rfl rfl ?_
  refine go_iload_n X 3 (dk dt_X10_turn_0 7 rfl) rfl rfl ?_
  refine go_iald X ha0 ha0n (dk dt_X10_turn_0 8 rfl) h (fun h => ?_)
  refine go_iast X ha0 ha0n (dk dt_X10_turn_0 9 rfl) h (fun h => ?_)
  refine go_aload_n X 1 (dk dt_X10_turn_0 10 rfl) rfl rfl ?_
  refine go_iload_n X 3 (dk dt_X10_turn_0 11 rfl) rfl rfl ?_
  refine go_iload_n X 0 (dk dt_X10_turn_0 12 rfl) rfl rfl ?_
  refine go_iast X ha0 ha0n (dk dt_X10_turn_0 13 rfl) h (fun h => ?_)
  exact go_vret rt (dk dt_X10_turn_0 14 rfl) h
set_option maxRecDepth 20000 in
theorem ct_X10_turn (hi : zInj wC v) (xc : XC wC v) (nx : NXC v)  {a0 : Nat} {a0n : Nat} {a1 : Int32} {a2 : Int32} {σ : Hp} (ha0 : a0 < wC.1) (ha0n : wC.2.1 a0 = (0, a0n)) {q : Hp} (h : F_X10_turn  a0 a0n a1 a2 σ = some q) : Ct wC v l yX10_turn cX10_turn 4 none 2 [.ref a0, .int a1, .int a2] σ none q :=
  Ct.intro false (by decide) hi xc (Nat.le_of_ble_eq_true rfl) rfl (fun p e R s m args below meth c Q X rt => lkF_X10_turn hi xc nx X rt ha0 ha0n h)
end
def T_X10_change_0 : DT := [(0, .aload_n 0, 1), (1, .getfield 9, 3), (4, .iload_n 1, 1), (5, .iload_n 2, 1), (6, .invokestatic 52, 3), (9, .aload_n 0, 1), (10, .getfield 15, 3), (13, .iload_n 1, 1), (14, .iload_n 2, 1), (15, .invokestatic 52, 3), (18, .aload_n 0, 1), (19, .getfield 18, 3), (22, .iload_n 1, 1), (23, .iload_n 2, 1), (24, .invokestatic 52, 3), (27, .aload_n 0, 1)]
theorem dt_X10_change_0 : dOk cX10_change T_X10_change_0 := by unfold dOk; decide +kernel
def T_X10_change_1 : DT := [(28, .getfield 24, 3), (31, .iload_n 1, 1), (32, .iload_n 2, 1), (33, .invokestatic 52, 3), (36, .return_, 1)]
theorem dt_X10_change_1 : dOk cX10_change T_X10_change_1 := by unfold dOk; decide +kernel
section
variable {v : ZV} {l : Launch} {p : Program} {e : Env} {R : Room} {s : State} {m : MethodId} {args : Array Value} {below : List Frame} {meth : Method} {c : Code} {Q : State → Prop} {res : Hp} 
set_option maxRecDepth 20000 in
theorem lkF_X10_change (hi : zInj wC v) (xc : XC wC v) (nx : NXC v) (X : Cx wC v p R s m args c 0 0 cX10_change 3 RX10 4) (rt : Rt wC v p l e R s m args below meth c 0 0 Q cX10_change false none res) {t : Nat} {a1 : Int32} {a2 : Int32} {σ : Hp} (ht : isW t = true) (h : F_X10_change  t a1 a2 σ = some res) : Go wC v p l e R s m args below meth c 0 0 Q 3 0 [(0, .ref t), (1, .int a1), (2, .int a2)] [] σ := by
  unfold F_X10_change at h
  refine go_aload_n X 0 (dk dt_X10_change_0 0 rfl) rfl rfl ?_
  refine go_getr X fo_X10_9 (lW ht) (sW ht) (fW_0 ht) (dk dt_X10_change_0 1 rfl) ?_
  refine go_iload_n X 1 (dk dt_X10_change_0 2 rfl) rfl rfl ?_
  refine go_iload_n X 2 (dk dt_X10_change_0 3 rfl) rfl rfl ?_
  refine go_Sv (As := [.ref (t + 1), .int a1, .int a2]) (rest := []) X so_X10_52 (fun q hq => ct_X10_turn hi xc nx (lWa_1 ht) (sWa_1 ht) hq) (by decide) rfl rfl (Nat.le_of_ble_eq_true rfl) (dk dt_X10_change_0 4 rfl) h (fun q6 h => ?_)
  refine go_aload_n X 0 (dk dt_X10_change_0 5 rfl) rfl rfl ?_
  refine go_getr X fo_X10_15 (lW ht) (sW ht) (fW_1 ht) (dk dt_X10_change_0 6 rfl) ?_
  refine go_iload_n X 1 (dk dt_X10_change_0 7 rfl) rfl rfl ?_
  refine go_iload_n X 2 (dk dt_X10_change_0 8 rfl) rfl rfl ?_
  refine go_Sv (As := [.ref (t + 2), .int a1, .int a2]) (rest := []) X so_X10_52 (fun q hq => ct_X10_turn hi xc nx (lWa_2 ht) (sWa_2 ht) hq) (by decide) rfl rfl (Nat.le_of_ble_eq_true rfl) (dk dt_X10_change_0 9 rfl) h (fun q15 h => ?_)
  refine go_aload_n X 0 (dk dt_X10_change_0 10 rfl) rfl rfl ?_
  refine go_getr X fo_X10_18 (lW ht) (sW ht) (fW_2 ht) (dk dt_X10_change_0 11 rfl) ?_
  refine go_iload_n X 1 (dk dt_X10_change_0 12 rfl) rfl rfl ?_
  refine go_iload_n X 2 (dk dt_X10_change_0 13 rfl) rfl rfl ?_
  refine go_Sv (As := [.ref (t + 3), .int a1, .int a2]) (rest := []) X so_X10_52 (fun q hq => ct_X10_turn hi xc nx (lWa_3 ht) (sWa_3 ht) hq) (by decide) rfl rfl (Nat.le_of_ble_eq_true rfl) (dk dt_X10_change_0 14 rfl) h (fun q24 h => ?_)
  refine go_aload_n X 0 (dk dt_X10_change_0 15 rfl) rfl rfl ?_
  refine go_getr X fo_X10_24 (lW ht) (sW ht) (fW_4 ht) (dk dt_X10_change_1 0 rfl) ?_
  refine go_iload_n X 1 (dk dt_X10_change_1 1 rfl) rfl rfl ?_
  refine go_iload_n X 2 (dk dt_X10_change_1 2 rfl) rfl rfl ?_
  refine go_Sv (As := [.ref (t + 5), .int a1, .int a2]) (rest := []) X so_X10_52 (fun q hq => ct_X10_turn hi xc nx (lWa_5 ht) (sWa_5 ht) hq) (by decide) rfl rfl (Nat.le_of_ble_eq_true rfl) (dk dt_X10_change_1 3 rfl) h (fun q33 h => ?_)
  exact go_vret rt (dk dt_X10_change_1 4 rfl) h
set_option maxRecDepth 20000 in
theorem ct_X10_change (hi : zInj wC v) (xc : XC wC v) (nx : NXC v)  {t : Nat} {a1 : Int32} {a2 : Int32} {σ : Hp} (ht : isW t = true) {q : Hp} (h : F_X10_change  t a1 a2 σ = some q) : Ct wC v l yX10_change cX10_change 3 none 4 [.ref t, .int a1, .int a2] σ none q :=
  Ct.intro false (by decide) hi xc (Nat.le_of_ble_eq_true rfl) rfl (fun p e R s m args below meth c Q X rt => lkF_X10_change hi xc nx X rt ht h)
end
def T_X6_readChange_0 : DT := [(0, .aload_n 0, 1), (1, .getfield 15, 3), (4, .invokevirtual 43, 3), (7, .istore_n 3, 1), (8, .iload_n 3, 1), (9, .iconst 0, 1), (10, .bipush 7, 2), (12, .invokestatic 46, 3), (15, .ifCond .ne 12, 3), (18, .aload_n 0, 1), (19, .getfield 15, 3), (22, .iconst 1, 1), (23, .invokevirtual 29, 3), (26, .ireturn, 1), (27, .iload_n 2, 1), (28, .bipush 8, 2)]
theorem dt_X6_readChange_0 : dOk cX6_readChange T_X6_readChange_0 := by unfold dOk; decide +kernel
def T_X6_readChange_1 : DT := [(30, .idiv, 1), (31, .bipush 8, 2), (33, .imul, 1), (34, .iload_n 3, 1), (35, .iadd, 1), (36, .istore 4, 2), (38, .aload_n 0, 1), (39, .getfield 15, 3), (42, .dup, 1), (43, .getfield 33, 3), (46, .iconst 1, 1), (47, .iadd, 1), (48, .putfield 33, 3), (51, .aload_n 1, 1), (52, .iload_n 2, 1), (53, .iload 4, 2)]
theorem dt_X6_readChange_1 : dOk cX6_readChange T_X6_readChange_1 := by unfold dOk; decide +kernel
def T_X6_readChange_2 : DT := [(55, .invokevirtual 86, 3), (58, .iconst 1, 1), (59, .ireturn, 1)]
theorem dt_X6_readChange_2 : dOk cX6_readChange T_X6_readChange_2 := by unfold dOk; decide +kernel
section
variable {v : ZV} {l : Launch} {p : Program} {e : Env} {R : Room} {s : State} {m : MethodId} {args : Array Value} {below : List Frame} {meth : Method} {c : Code} {Q : State → Prop} {res : (Int32 × Hp)} 
set_option maxRecDepth 20000 in
theorem lkF_X6_readChange (hi : zInj wC v) (xc : XC wC v) (nx : NXC v) (X : Cx wC v p R s m args c 0 0 cX6_readChange 5 RX6 6) (rt : Rt wC v p l e R s m args below meth c 0 0 Q cX6_readChange true (some (.int res.1)) res.2) {a1 : Nat} {a2 : Int32} {σ : Hp} (ha1 : isW a1 = true) (h : F_X6_readChange  a1 a2 σ = some res) : Go wC v p l e R s m args below meth c 0 0 Q 5 0 [(0, .ref 25), (1, .ref a1), (2, .int a2)] [] σ := by
  unfold F_X6_readChange at h
  refine go_aload_n X 0 (dk dt_X6_readChange_0 0 rfl) rfl rfl ?_
  refine go_getr X fo_X6_15 lC_25 sC_25 fC_25_0 (dk dt_X6_readChange_0 1 rfl) ?_
  refine go_Vi (As := []) (rest := []) X vo_X6_43 (fun q hq => ct_X8_digit hi xc nx  hq) (by decide) rfl lC_23 sC_23 rfl rfl (Nat.le_of_ble_eq_true rfl) (dk dt_X6_readChange_0 2 rfl) h (fun q4 h => ?_)
  refine go_istore_n (lv' := [(3, .int q4.1), (0, .ref 25), (1, .ref a1), (2, .int a2)]) X (dk dt_X6_readChange_0 3 rfl) rfl (by decide) rfl ?_
  refine go_iload_n X 0 (dk dt_X6_readChange_0 4 rfl) rfl rfl ?_
  refine go_iconst X (dk dt_X6_readChange_0 5 rfl) ci_0 ?_
  refine go_bipush X (dk dt_X6_readChange_0 6 rfl) cb_7 ?_
  refine go_Ni (As := [.int q4.1, .int (0 : Int32), .int (7 : Int32)]) (rest := []) X no_V_within nx.1 (fun q hq => ct_V_within hi xc nx  hq) (by decide) rfl rfl (Nat.le_of_ble_eq_true rfl) (dk dt_X6_readChange_0 7 rfl) h (fun q12 h => ?_)
  refine go_if_ne (tgt := 27) X (dk dt_X6_readChange_0 8 rfl) (by decide) h (fun h => ?_) (fun h => ?_)
  · refine go_iload_n X 3 (dk dt_X6_readChange_0 14 rfl) rfl rfl ?_
    refine go_bipush X (dk dt_X6_readChange_0 15 rfl) cb_8 ?_
    refine go_idivL X (dk dt_X6_readChange_1 0 rfl) (by decide) ?_
    refine go_bipush X (dk dt_X6_readChange_1 1 rfl) cb_8 ?_
    refine go_imul X (dk dt_X6_readChange_1 2 rfl) ?_
    refine go_iload_n X 0 (dk dt_X6_readChange_1 3 rfl) rfl rfl ?_
    refine go_iadd X (dk dt_X6_readChange_1 4 rfl) ?_
    refine go_istore (lv' := [(4, .int (((a2 / (8 : Int32)) * (8 : Int32)) + q4.1)), (3, .int q4.1), (0, .ref 25), (1, .ref a1), (2, .int a2)]) X (dk dt_X6_readChange_1 5 rfl) (by decide) rfl ?_
    refine go_aload_n X 2 (dk dt_X6_readChange_1 6 rfl) rfl rfl ?_
    refine go_getr X fo_X6_15 lC_25 sC_25 fC_25_0 (dk dt_X6_readChange_1 7 rfl) ?_
    refine go_dup X (dk dt_X6_readChange_1 8 rfl) rfl ?_
    refine go_geti X fo_X6_33 lC_23 sC_23 fC_23_3 (dk dt_X6_readChange_1 9 rfl) ?_
    refine go_iconst X (dk dt_X6_readChange_1 10 rfl) ci_1 ?_
    refine go_iadd X (dk dt_X6_readChange_1 11 rfl) ?_
    refine go_puti X fo_X6_33 pf_8_3 lC_23 sC_23 fC_23_3 (dk dt_X6_readChange_1 12 rfl) ?_
    refine go_aload_n X 3 (dk dt_X6_readChange_1 13 rfl) rfl rfl ?_
    refine go_iload_n X 4 (dk dt_X6_readChange_1 14 rfl) rfl rfl ?_
    refine go_iload X 0 (dk dt_X6_readChange_1 15 rfl) rfl ?_
    refine go_Vv (As := [.int a2, .int (((a2 / (8 : Int32)) * (8 : Int32)) + q4.1)]) (rest := []) X vo_X6_86 (fun q hq => ct_X10_change hi xc nx ha1 hq) (by decide) rfl (lW ha1) (sW ha1) rfl rfl (Nat.le_of_ble_eq_true rfl) (dk dt_X6_readChange_2 0 rfl) h (fun q55 h => ?_)
    refine go_iconst X (dk dt_X6_readChange_2 1 rfl) ci_1 ?_
    exact go_iret rt (dk dt_X6_readChange_2 2 rfl) h (by decide)
  · refine go_aload_n X 1 (dk dt_X6_readChange_0 9 rfl) rfl rfl ?_
    refine go_getr X fo_X6_15 lC_25 sC_25 fC_25_0 (dk dt_X6_readChange_0 10 rfl) ?_
    refine go_iconst X (dk dt_X6_readChange_0 11 rfl) ci_1 ?_
    refine go_Vi (As := [.int (1 : Int32)]) (rest := []) X vo_X6_29 (fun q hq => ct_X8_refuse hi xc nx  hq) (by decide) rfl lC_23 sC_23 rfl rfl (Nat.le_of_ble_eq_true rfl) (dk dt_X6_readChange_0 12 rfl) h (fun q23 h => ?_)
    exact go_zret rt (dk dt_X6_readChange_0 13 rfl) h
set_option maxRecDepth 20000 in
theorem ct_X6_readChange (hi : zInj wC v) (xc : XC wC v) (nx : NXC v)  {a1 : Nat} {a2 : Int32} {σ : Hp} (ha1 : isW a1 = true) {q : (Int32 × Hp)} (h : F_X6_readChange  a1 a2 σ = some q) : Ct wC v l yX6_readChange cX6_readChange 5 (some .boolean) 6 [.ref 25, .ref a1, .int a2] σ (some (.int q.1)) q.2 :=
  Ct.intro true (by decide) hi xc (Nat.le_of_ble_eq_true rfl) rfl (fun p e R s m args below meth c Q X rt => lkF_X6_readChange hi xc nx X rt ha1 h)
end
def T_X6_readLine_0 : DT := [(0, .aload_n 0, 1), (1, .getfield 15, 3), (4, .invokevirtual 43, 3), (7, .istore_n 3, 1), (8, .iload_n 3, 1), (9, .iconst 0, 1), (10, .bipush 7, 2), (12, .invokestatic 46, 3), (15, .ifCond .ne 12, 3), (18, .aload_n 0, 1), (19, .getfield 15, 3), (22, .iconst 1, 1), (23, .invokevirtual 29, 3), (26, .ireturn, 1), (27, .iload_n 2, 1), (28, .bipush 8, 2)]
theorem dt_X6_readLine_0 : dOk cX6_readLine T_X6_readLine_0 := by unfold dOk; decide +kernel
def T_X6_readLine_1 : DT := [(30, .imul, 1), (31, .iload_n 3, 1), (32, .iadd, 1), (33, .istore 4, 2), (35, .aload_n 1, 1), (36, .getfield 50, 3), (39, .iload 4, 2), (41, .iaload, 1), (42, .iconst 3, 1), (43, .if_icmp .ne 13, 3), (46, .aload_n 0, 1), (47, .getfield 15, 3), (50, .bipush 7, 2), (52, .invokevirtual 29, 3), (55, .ireturn, 1), (56, .aload_n 0, 1)]
theorem dt_X6_readLine_1 : dOk cX6_readLine T_X6_readLine_1 := by unfold dOk; decide +kernel
def T_X6_readLine_2 : DT := [(57, .getfield 15, 3), (60, .dup, 1), (61, .getfield 33, 3), (64, .iconst 1, 1), (65, .iadd, 1), (66, .putfield 33, 3), (69, .aload_n 0, 1), (70, .getfield 15, 3), (73, .invokevirtual 25, 3), (76, .istore 5, 2), (78, .iload 5, 2), (80, .tableswitch 187 67 79 #[68, 187, 187, 187, 91, 187, 112, 187, 187, 68, 187, 187, 135], 68), (148, .aload_n 0, 1), (149, .getfield 15, 3), (152, .dup, 1), (153, .getfield 33, 3)]
theorem dt_X6_readLine_2 : dOk cX6_readLine T_X6_readLine_2 := by unfold dOk; decide +kernel
def T_X6_readLine_3 : DT := [(156, .iconst 1, 1), (157, .iadd, 1), (158, .putfield 33, 3), (161, .aload_n 0, 1), (162, .aload_n 1, 1), (163, .iload 4, 2), (165, .iload 5, 2), (167, .invokevirtual 56, 3), (170, .ireturn, 1), (171, .aload_n 0, 1), (172, .getfield 15, 3), (175, .dup, 1), (176, .getfield 33, 3), (179, .iconst 1, 1), (180, .iadd, 1), (181, .putfield 33, 3)]
theorem dt_X6_readLine_3 : dOk cX6_readLine T_X6_readLine_3 := by unfold dOk; decide +kernel
def T_X6_readLine_4 : DT := [(184, .aload_n 0, 1), (185, .aload_n 1, 1), (186, .iload 4, 2), (188, .invokevirtual 60, 3), (191, .ireturn, 1), (192, .aload_n 0, 1), (193, .getfield 15, 3), (196, .dup, 1), (197, .getfield 33, 3), (200, .iconst 1, 1), (201, .iadd, 1), (202, .putfield 33, 3), (205, .aload_n 1, 1), (206, .getfield 50, 3), (209, .iload 4, 2), (211, .iconst 2, 1)]
theorem dt_X6_readLine_4 : dOk cX6_readLine T_X6_readLine_4 := by unfold dOk; decide +kernel
def T_X6_readLine_5 : DT := [(212, .iastore, 1), (213, .iconst 1, 1), (214, .ireturn, 1), (215, .aload_n 0, 1), (216, .getfield 15, 3), (219, .dup, 1), (220, .getfield 33, 3), (223, .iconst 1, 1), (224, .iadd, 1), (225, .putfield 33, 3), (228, .aload_n 1, 1), (229, .getfield 63, 3), (232, .iload 4, 2), (234, .aload_n 1, 1), (235, .getfield 50, 3), (238, .iload 4, 2)]
theorem dt_X6_readLine_5 : dOk cX6_readLine T_X6_readLine_5 := by unfold dOk; decide +kernel
def T_X6_readLine_6 : DT := [(240, .iaload, 1), (241, .iconst 2, 1), (242, .if_icmp .ne 7, 3), (245, .iconst 0, 1), (246, .goto 10, 3), (249, .aload_n 1, 1), (250, .getfield 63, 3), (253, .iload 4, 2), (255, .iaload, 1), (256, .iastore, 1), (257, .aload_n 1, 1), (258, .getfield 50, 3), (261, .iload 4, 2), (263, .iconst 0, 1), (264, .iastore, 1), (265, .iconst 1, 1)]
theorem dt_X6_readLine_6 : dOk cX6_readLine T_X6_readLine_6 := by unfold dOk; decide +kernel
def T_X6_readLine_7 : DT := [(266, .ireturn, 1), (267, .aload_n 0, 1), (268, .getfield 15, 3), (271, .iconst 1, 1), (272, .invokevirtual 29, 3), (275, .ireturn, 1)]
theorem dt_X6_readLine_7 : dOk cX6_readLine T_X6_readLine_7 := by unfold dOk; decide +kernel
section
variable {v : ZV} {l : Launch} {p : Program} {e : Env} {R : Room} {s : State} {m : MethodId} {args : Array Value} {below : List Frame} {meth : Method} {c : Code} {Q : State → Prop} {res : (Int32 × Hp)} 
set_option maxRecDepth 20000 in
theorem lkJ_X6_readLine_256 (hi : zInj wC v) (xc : XC wC v) (nx : NXC v) (X : Cx wC v p R s m args c 0 0 cX6_readLine 6 RX6 10) (rt : Rt wC v p l e R s m args below meth c 0 0 Q cX6_readLine true (some (.int res.1)) res.2)  {r1 : Nat} {x4 : Int32} {s0 : Int32} {s1 : Int32} {s2 : Nat} {s2n : Nat} {σ : Hp} (hr1 : isW r1 = true) (hs2 : s2 < wC.1) (hs2n : wC.2.1 s2 = (0, s2n))  (h : J_X6_readLine_256   r1 x4 s0 s1 s2 s2n σ = some res) : Go wC v p l e R s m args below meth c 0 0 Q 6 256 [(1, .ref r1), (4, .int x4)] [.int s0, .int s1, .ref s2] σ := by
  unfold J_X6_readLine_256 at h
  refine go_iast X hs2 hs2n (dk dt_X6_readLine_6 9 rfl) h (fun h => ?_)
  refine go_aload_n X 0 (dk dt_X6_readLine_6 10 rfl) rfl rfl ?_
  refine go_getr X fo_X6_50 (lW hr1) (sW hr1) (fW_4 hr1) (dk dt_X6_readLine_6 11 rfl) ?_
  refine go_iload X 1 (dk dt_X6_readLine_6 12 rfl) rfl ?_
  refine go_iconst X (dk dt_X6_readLine_6 13 rfl) ci_0 ?_
  refine go_iast X (lWa_5 hr1) (sWa_5 hr1) (dk dt_X6_readLine_6 14 rfl) h (fun h => ?_)
  refine go_iconst X (dk dt_X6_readLine_6 15 rfl) ci_1 ?_
  exact go_iret rt (dk dt_X6_readLine_7 0 rfl) h (by decide)
set_option maxRecDepth 20000 in
theorem lkF_X6_readLine (hi : zInj wC v) (xc : XC wC v) (nx : NXC v) (X : Cx wC v p R s m args c 0 0 cX6_readLine 6 RX6 10) (rt : Rt wC v p l e R s m args below meth c 0 0 Q cX6_readLine true (some (.int res.1)) res.2) {a1 : Nat} {a2 : Int32} {σ : Hp} (ha1 : isW a1 = true) (h : F_X6_readLine  a1 a2 σ = some res) : Go wC v p l e R s m args below meth c 0 0 Q 6 0 [(0, .ref 25), (1, .ref a1), (2, .int a2)] [] σ := by
  unfold F_X6_readLine at h
  refine go_aload_n X 0 (dk dt_X6_readLine_0 0 rfl) rfl rfl ?_
  refine go_getr X fo_X6_15 lC_25 sC_25 fC_25_0 (dk dt_X6_readLine_0 1 rfl) ?_
  refine go_Vi (As := []) (rest := []) X vo_X6_43 (fun q hq => ct_X8_digit hi xc nx  hq) (by decide) rfl lC_23 sC_23 rfl rfl (Nat.le_of_ble_eq_true rfl) (dk dt_X6_readLine_0 2 rfl) h (fun q4 h => ?_)
  refine go_istore_n (lv' := [(3, .int q4.1), (0, .ref 25), (1, .ref a1), (2, .int a2)]) X (dk dt_X6_readLine_0 3 rfl) rfl (by decide) rfl ?_
  refine go_iload_n X 0 (dk dt_X6_readLine_0 4 rfl) rfl rfl ?_
  refine go_iconst X (dk dt_X6_readLine_0 5 rfl) ci_0 ?_
  refine go_bipush X (dk dt_X6_readLine_0 6 rfl) cb_7 ?_
  refine go_Ni (As := [.int q4.1, .int (0 : Int32), .int (7 : Int32)]) (rest := []) X no_V_within nx.1 (fun q hq => ct_V_within hi xc nx  hq) (by decide) rfl rfl (Nat.le_of_ble_eq_true rfl) (dk dt_X6_readLine_0 7 rfl) h (fun q12 h => ?_)
  refine go_if_ne (tgt := 27) X (dk dt_X6_readLine_0 8 rfl) (by decide) h (fun h => ?_) (fun h => ?_)
  · refine go_iload_n X 3 (dk dt_X6_readLine_0 14 rfl) rfl rfl ?_
    refine go_bipush X (dk dt_X6_readLine_0 15 rfl) cb_8 ?_
    refine go_imul X (dk dt_X6_readLine_1 0 rfl) ?_
    refine go_iload_n X 0 (dk dt_X6_readLine_1 1 rfl) rfl rfl ?_
    refine go_iadd X (dk dt_X6_readLine_1 2 rfl) ?_
    refine go_istore (lv' := [(4, .int ((a2 * (8 : Int32)) + q4.1)), (3, .int q4.1), (0, .ref 25), (1, .ref a1), (2, .int a2)]) X (dk dt_X6_readLine_1 3 rfl) (by decide) rfl ?_
    refine go_aload_n X 3 (dk dt_X6_readLine_1 4 rfl) rfl rfl ?_
    refine go_getr X fo_X6_50 (lW ha1) (sW ha1) (fW_4 ha1) (dk dt_X6_readLine_1 5 rfl) ?_
    refine go_iload X 0 (dk dt_X6_readLine_1 6 rfl) rfl ?_
    refine go_iald X (lWa_5 ha1) (sWa_5 ha1) (dk dt_X6_readLine_1 7 rfl) h (fun h => ?_)
    refine go_iconst X (dk dt_X6_readLine_1 8 rfl) ci_3 ?_
    refine go_icmp_ne (tgt := 56) X (dk dt_X6_readLine_1 9 rfl) (by decide) h (fun h => ?_) (fun h => ?_)
    · refine go_aload_n X 2 (dk dt_X6_readLine_1 15 rfl) rfl rfl ?_
      refine go_getr X fo_X6_15 lC_25 sC_25 fC_25_0 (dk dt_X6_readLine_2 0 rfl) ?_
      refine go_dup X (dk dt_X6_readLine_2 1 rfl) rfl ?_
      refine go_geti X fo_X6_33 lC_23 sC_23 fC_23_3 (dk dt_X6_readLine_2 2 rfl) ?_
      refine go_iconst X (dk dt_X6_readLine_2 3 rfl) ci_1 ?_
      refine go_iadd X (dk dt_X6_readLine_2 4 rfl) ?_
      refine go_puti X fo_X6_33 pf_8_3 lC_23 sC_23 fC_23_3 (dk dt_X6_readLine_2 5 rfl) ?_
      refine go_aload_n X 2 (dk dt_X6_readLine_2 6 rfl) rfl rfl ?_
      refine go_getr X fo_X6_15 lC_25 sC_25 fC_25_0 (dk dt_X6_readLine_2 7 rfl) ?_
      refine go_Vi (As := []) (rest := []) X vo_X6_25 (fun q hq => ct_X8_here hi xc nx  hq) (by decide) rfl lC_23 sC_23 rfl rfl (Nat.le_of_ble_eq_true rfl) (dk dt_X6_readLine_2 8 rfl) h (fun q73 h => ?_)
      refine go_istore (lv' := [(5, .int q73.1), (4, .int ((a2 * (8 : Int32)) + q4.1)), (3, .int q4.1), (0, .ref 25), (1, .ref a1), (2, .int a2)]) X (dk dt_X6_readLine_2 9 rfl) (by decide) rfl ?_
      refine go_iload X 0 (dk dt_X6_readLine_2 10 rfl) rfl ?_
      by_cases hc80_67 : q73.1 = (67 : Int32)
      · rw [if_pos hc80_67] at h
        refine go_tsw (tgt := 148) X (dk dt_X6_readLine_2 11 rfl) (by decide) (by rw [hc80_67]) (by decide) ?_
        refine go_aload_n X 3 (dk dt_X6_readLine_2 12 rfl) rfl rfl ?_
        refine go_getr X fo_X6_15 lC_25 sC_25 fC_25_0 (dk dt_X6_readLine_2 13 rfl) ?_
        refine go_dup X (dk dt_X6_readLine_2 14 rfl) rfl ?_
        refine go_geti X fo_X6_33 lC_23 sC_23 fC_23_3 (dk dt_X6_readLine_2 15 rfl) ?_
        refine go_iconst X (dk dt_X6_readLine_3 0 rfl) ci_1 ?_
        refine go_iadd X (dk dt_X6_readLine_3 1 rfl) ?_
        refine go_puti X fo_X6_33 pf_8_3 lC_23 sC_23 fC_23_3 (dk dt_X6_readLine_3 2 rfl) ?_
        refine go_aload_n X 3 (dk dt_X6_readLine_3 3 rfl) rfl rfl ?_
        refine go_aload_n X 4 (dk dt_X6_readLine_3 4 rfl) rfl rfl ?_
        refine go_iload X 1 (dk dt_X6_readLine_3 5 rfl) rfl ?_
        refine go_iload X 0 (dk dt_X6_readLine_3 6 rfl) rfl ?_
        refine go_Vi (As := [.ref a1, .int ((a2 * (8 : Int32)) + q4.1), .int q73.1]) (rest := []) X vo_X6_56 (fun q hq => ct_X6_readGift hi xc nx ha1 hq) (by decide) rfl lC_25 sC_25 rfl rfl (Nat.le_of_ble_eq_true rfl) (dk dt_X6_readLine_3 7 rfl) h (fun q167 h => ?_)
        exact go_zret rt (dk dt_X6_readLine_3 8 rfl) h
      rw [if_neg hc80_67] at h
      by_cases hc80_71 : q73.1 = (71 : Int32)
      · rw [if_pos hc80_71] at h
        refine go_tsw (tgt := 171) X (dk dt_X6_readLine_2 11 rfl) (by decide) (by rw [hc80_71]) (by decide) ?_
        refine go_aload_n X 3 (dk dt_X6_readLine_3 9 rfl) rfl rfl ?_
        refine go_getr X fo_X6_15 lC_25 sC_25 fC_25_0 (dk dt_X6_readLine_3 10 rfl) ?_
        refine go_dup X (dk dt_X6_readLine_3 11 rfl) rfl ?_
        refine go_geti X fo_X6_33 lC_23 sC_23 fC_23_3 (dk dt_X6_readLine_3 12 rfl) ?_
        refine go_iconst X (dk dt_X6_readLine_3 13 rfl) ci_1 ?_
        refine go_iadd X (dk dt_X6_readLine_3 14 rfl) ?_
        refine go_puti X fo_X6_33 pf_8_3 lC_23 sC_23 fC_23_3 (dk dt_X6_readLine_3 15 rfl) ?_
        refine go_aload_n X 3 (dk dt_X6_readLine_4 0 rfl) rfl rfl ?_
        refine go_aload_n X 4 (dk dt_X6_readLine_4 1 rfl) rfl rfl ?_
        refine go_iload X 1 (dk dt_X6_readLine_4 2 rfl) rfl ?_
        refine go_Vi (As := [.ref a1, .int ((a2 * (8 : Int32)) + q4.1)]) (rest := []) X vo_X6_60 (fun q hq => ct_X6_readChange hi xc nx ha1 hq) (by decide) rfl lC_25 sC_25 rfl rfl (Nat.le_of_ble_eq_true rfl) (dk dt_X6_readLine_4 3 rfl) h (fun q188 h => ?_)
        exact go_zret rt (dk dt_X6_readLine_4 4 rfl) h
      rw [if_neg hc80_71] at h
      by_cases hc80_73 : q73.1 = (73 : Int32)
      · rw [if_pos hc80_73] at h
        refine go_tsw (tgt := 192) X (dk dt_X6_readLine_2 11 rfl) (by decide) (by rw [hc80_73]) (by decide) ?_
        refine go_aload_n X 3 (dk dt_X6_readLine_4 5 rfl) rfl rfl ?_
        refine go_getr X fo_X6_15 lC_25 sC_25 fC_25_0 (dk dt_X6_readLine_4 6 rfl) ?_
        refine go_dup X (dk dt_X6_readLine_4 7 rfl) rfl ?_
        refine go_geti X fo_X6_33 lC_23 sC_23 fC_23_3 (dk dt_X6_readLine_4 8 rfl) ?_
        refine go_iconst X (dk dt_X6_readLine_4 9 rfl) ci_1 ?_
        refine go_iadd X (dk dt_X6_readLine_4 10 rfl) ?_
        refine go_puti X fo_X6_33 pf_8_3 lC_23 sC_23 fC_23_3 (dk dt_X6_readLine_4 11 rfl) ?_
        refine go_aload_n X 4 (dk dt_X6_readLine_4 12 rfl) rfl rfl ?_
        refine go_getr X fo_X6_50 (lW ha1) (sW ha1) (fW_4 ha1) (dk dt_X6_readLine_4 13 rfl) ?_
        refine go_iload X 1 (dk dt_X6_readLine_4 14 rfl) rfl ?_
        refine go_iconst X (dk dt_X6_readLine_4 15 rfl) ci_2 ?_
        refine go_iast X (lWa_5 ha1) (sWa_5 ha1) (dk dt_X6_readLine_5 0 rfl) h (fun h => ?_)
        refine go_iconst X (dk dt_X6_readLine_5 1 rfl) ci_1 ?_
        exact go_iret rt (dk dt_X6_readLine_5 2 rfl) h (by decide)
      rw [if_neg hc80_73] at h
      by_cases hc80_76 : q73.1 = (76 : Int32)
      · rw [if_pos hc80_76] at h
        refine go_tsw (tgt := 148) X (dk dt_X6_readLine_2 11 rfl) (by decide) (by rw [hc80_76]) (by decide) ?_
        refine go_aload_n X 3 (dk dt_X6_readLine_2 12 rfl) rfl rfl ?_
        refine go_getr X fo_X6_15 lC_25 sC_25 fC_25_0 (dk dt_X6_readLine_2 13 rfl) ?_
        refine go_dup X (dk dt_X6_readLine_2 14 rfl) rfl ?_
        refine go_geti X fo_X6_33 lC_23 sC_23 fC_23_3 (dk dt_X6_readLine_2 15 rfl) ?_
        refine go_iconst X (dk dt_X6_readLine_3 0 rfl) ci_1 ?_
        refine go_iadd X (dk dt_X6_readLine_3 1 rfl) ?_
        refine go_puti X fo_X6_33 pf_8_3 lC_23 sC_23 fC_23_3 (dk dt_X6_readLine_3 2 rfl) ?_
        refine go_aload_n X 3 (dk dt_X6_readLine_3 3 rfl) rfl rfl ?_
        refine go_aload_n X 4 (dk dt_X6_readLine_3 4 rfl) rfl rfl ?_
        refine go_iload X 1 (dk dt_X6_readLine_3 5 rfl) rfl ?_
        refine go_iload X 0 (dk dt_X6_readLine_3 6 rfl) rfl ?_
        refine go_Vi (As := [.ref a1, .int ((a2 * (8 : Int32)) + q4.1), .int q73.1]) (rest := []) X vo_X6_56 (fun q hq => ct_X6_readGift hi xc nx ha1 hq) (by decide) rfl lC_25 sC_25 rfl rfl (Nat.le_of_ble_eq_true rfl) (dk dt_X6_readLine_3 7 rfl) h (fun q167 h => ?_)
        exact go_zret rt (dk dt_X6_readLine_3 8 rfl) h
      rw [if_neg hc80_76] at h
      by_cases hc80_79 : q73.1 = (79 : Int32)
      · rw [if_pos hc80_79] at h
        refine go_tsw (tgt := 215) X (dk dt_X6_readLine_2 11 rfl) (by decide) (by rw [hc80_79]) (by decide) ?_
        refine go_aload_n X 3 (dk dt_X6_readLine_5 3 rfl) rfl rfl ?_
        refine go_getr X fo_X6_15 lC_25 sC_25 fC_25_0 (dk dt_X6_readLine_5 4 rfl) ?_
        refine go_dup X (dk dt_X6_readLine_5 5 rfl) rfl ?_
        refine go_geti X fo_X6_33 lC_23 sC_23 fC_23_3 (dk dt_X6_readLine_5 6 rfl) ?_
        refine go_iconst X (dk dt_X6_readLine_5 7 rfl) ci_1 ?_
        refine go_iadd X (dk dt_X6_readLine_5 8 rfl) ?_
        refine go_puti X fo_X6_33 pf_8_3 lC_23 sC_23 fC_23_3 (dk dt_X6_readLine_5 9 rfl) ?_
        refine go_aload_n X 4 (dk dt_X6_readLine_5 10 rfl) rfl rfl ?_
        refine go_getr X fo_X6_63 (lW ha1) (sW ha1) (fW_1 ha1) (dk dt_X6_readLine_5 11 rfl) ?_
        refine go_iload X 1 (dk dt_X6_readLine_5 12 rfl) rfl ?_
        refine go_aload_n X 4 (dk dt_X6_readLine_5 13 rfl) rfl rfl ?_
        refine go_getr X fo_X6_50 (lW ha1) (sW ha1) (fW_4 ha1) (dk dt_X6_readLine_5 14 rfl) ?_
        refine go_iload X 1 (dk dt_X6_readLine_5 15 rfl) rfl ?_
        refine go_iald X (lWa_5 ha1) (sWa_5 ha1) (dk dt_X6_readLine_6 0 rfl) h (fun h => ?_)
        refine go_iconst X (dk dt_X6_readLine_6 1 rfl) ci_2 ?_
        refine go_icmp_ne (tgt := 249) X (dk dt_X6_readLine_6 2 rfl) (by decide) h (fun h => ?_) (fun h => ?_)
        · refine go_aload_n X 4 (dk dt_X6_readLine_6 5 rfl) rfl rfl ?_
          refine go_getr X fo_X6_63 (lW ha1) (sW ha1) (fW_1 ha1) (dk dt_X6_readLine_6 6 rfl) ?_
          refine go_iload X 1 (dk dt_X6_readLine_6 7 rfl) rfl ?_
          refine go_iald X (lWa_2 ha1) (sWa_2 ha1) (dk dt_X6_readLine_6 8 rfl) h (fun h => ?_)
          refine go_sub [4, 1] rfl ?_
          exact lkJ_X6_readLine_256 hi xc nx X rt ha1 (lWa_2 ha1) (sWa_2 ha1)  h
        · refine go_iconst X (dk dt_X6_readLine_6 3 rfl) ci_0 ?_
          refine go_goto (tgt := 256) X (dk dt_X6_readLine_6 4 rfl) (by decide) ?_
          refine go_sub [4, 1] rfl ?_
          exact lkJ_X6_readLine_256 hi xc nx X rt ha1 (lWa_2 ha1) (sWa_2 ha1)  h
      rw [if_neg hc80_79] at h
      refine go_tsw (tgt := 267) X (dk dt_X6_readLine_2 11 rfl) (by decide) (sw_dflt [67, 71, 73, 76, 79] (by decide) (by simp only [List.mem_cons, List.not_mem_nil, or_false, not_or]; exact ⟨(i32_ne (k := 67) hc80_67), (i32_ne (k := 71) hc80_71), (i32_ne (k := 73) hc80_73), (i32_ne (k := 76) hc80_76), (i32_ne (k := 79) hc80_79)⟩)) (by decide) ?_
      refine go_aload_n X 3 (dk dt_X6_readLine_7 1 rfl) rfl rfl ?_
      refine go_getr X fo_X6_15 lC_25 sC_25 fC_25_0 (dk dt_X6_readLine_7 2 rfl) ?_
      refine go_iconst X (dk dt_X6_readLine_7 3 rfl) ci_1 ?_
      refine go_Vi (As := [.int (1 : Int32)]) (rest := []) X vo_X6_29 (fun q hq => ct_X8_refuse hi xc nx  hq) (by decide) rfl lC_23 sC_23 rfl rfl (Nat.le_of_ble_eq_true rfl) (dk dt_X6_readLine_7 4 rfl) h (fun q272 h => ?_)
      exact go_zret rt (dk dt_X6_readLine_7 5 rfl) h
    · refine go_aload_n X 2 (dk dt_X6_readLine_1 10 rfl) rfl rfl ?_
      refine go_getr X fo_X6_15 lC_25 sC_25 fC_25_0 (dk dt_X6_readLine_1 11 rfl) ?_
      refine go_bipush X (dk dt_X6_readLine_1 12 rfl) cb_7 ?_
      refine go_Vi (As := [.int (7 : Int32)]) (rest := []) X vo_X6_29 (fun q hq => ct_X8_refuse hi xc nx  hq) (by decide) rfl lC_23 sC_23 rfl rfl (Nat.le_of_ble_eq_true rfl) (dk dt_X6_readLine_1 13 rfl) h (fun q52 h => ?_)
      exact go_zret rt (dk dt_X6_readLine_1 14 rfl) h
  · refine go_aload_n X 1 (dk dt_X6_readLine_0 9 rfl) rfl rfl ?_
    refine go_getr X fo_X6_15 lC_25 sC_25 fC_25_0 (dk dt_X6_readLine_0 10 rfl) ?_
    refine go_iconst X (dk dt_X6_readLine_0 11 rfl) ci_1 ?_
    refine go_Vi (As := [.int (1 : Int32)]) (rest := []) X vo_X6_29 (fun q hq => ct_X8_refuse hi xc nx  hq) (by decide) rfl lC_23 sC_23 rfl rfl (Nat.le_of_ble_eq_true rfl) (dk dt_X6_readLine_0 12 rfl) h (fun q23 h => ?_)
    exact go_zret rt (dk dt_X6_readLine_0 13 rfl) h
set_option maxRecDepth 20000 in
theorem ct_X6_readLine (hi : zInj wC v) (xc : XC wC v) (nx : NXC v)  {a1 : Nat} {a2 : Int32} {σ : Hp} (ha1 : isW a1 = true) {q : (Int32 × Hp)} (h : F_X6_readLine  a1 a2 σ = some q) : Ct wC v l yX6_readLine cX6_readLine 6 (some .boolean) 10 [.ref 25, .ref a1, .int a2] σ (some (.int q.1)) q.2 :=
  Ct.intro true (by decide) hi xc (Nat.le_of_ble_eq_true rfl) rfl (fun p e R s m args below meth c Q X rt => lkF_X6_readLine hi xc nx X rt ha1 h)
end
def T_X6_readOnto_0 : DT := [(0, .aload_n 0, 1), (1, .getfield 15, 3), (4, .iload_n 2, 1), (5, .invokevirtual 19, 3), (8, .aload_n 0, 1), (9, .iconst 0, 1), (10, .putfield 9, 3), (13, .aload_n 0, 1), (14, .getfield 9, 3), (17, .bipush 20, 2), (19, .if_icmp .gt 141, 3), (22, .aload_n 0, 1), (23, .getfield 15, 3), (26, .invokevirtual 25, 3), (29, .istore_n 3, 1), (30, .iload_n 3, 1)]
theorem dt_X6_readOnto_0 : dOk cX6_readOnto T_X6_readOnto_0 := by unfold dOk; decide +kernel
def T_X6_readOnto_1 : DT := [(31, .bipush 60, 2), (33, .if_icmp .eq 18, 3), (36, .iload_n 3, 1), (37, .bipush 62, 2), (39, .if_icmp .eq 12, 3), (42, .aload_n 0, 1), (43, .getfield 15, 3), (46, .iconst 1, 1), (47, .invokevirtual 29, 3), (50, .ireturn, 1), (51, .aload_n 0, 1), (52, .getfield 9, 3), (55, .bipush 20, 2), (57, .if_icmp .ne 12, 3), (60, .aload_n 0, 1), (61, .getfield 15, 3)]
theorem dt_X6_readOnto_1 : dOk cX6_readOnto T_X6_readOnto_1 := by unfold dOk; decide +kernel
def T_X6_readOnto_2 : DT := [(64, .iconst 4, 1), (65, .invokevirtual 29, 3), (68, .ireturn, 1), (69, .aload_n 0, 1), (70, .getfield 15, 3), (73, .dup, 1), (74, .getfield 33, 3), (77, .iconst 1, 1), (78, .iadd, 1), (79, .putfield 33, 3), (82, .aload_n 0, 1), (83, .aload_n 1, 1), (84, .iload_n 3, 1), (85, .bipush 60, 2), (87, .if_icmp .ne 7, 3), (90, .iconst 0, 1)]
theorem dt_X6_readOnto_2 : dOk cX6_readOnto T_X6_readOnto_2 := by unfold dOk; decide +kernel
def T_X6_readOnto_3 : DT := [(91, .goto 4, 3), (94, .iconst 1, 1), (95, .invokevirtual 36, 3), (98, .ifCond .ne 5, 3), (101, .iconst 0, 1), (102, .ireturn, 1), (103, .aload_n 0, 1), (104, .getfield 15, 3), (107, .invokevirtual 25, 3), (110, .iconst (-1), 1), (111, .if_icmp .ne 15, 3), (114, .aload_n 0, 1), (115, .dup, 1), (116, .getfield 9, 3), (119, .iconst 1, 1), (120, .iadd, 1)]
theorem dt_X6_readOnto_3 : dOk cX6_readOnto T_X6_readOnto_3 := by unfold dOk; decide +kernel
def T_X6_readOnto_4 : DT := [(121, .putfield 9, 3), (124, .iconst 1, 1), (125, .ireturn, 1), (126, .aload_n 0, 1), (127, .getfield 15, 3), (130, .bipush 59, 2), (132, .invokevirtual 40, 3), (135, .ifCond .ne 12, 3), (138, .aload_n 0, 1), (139, .getfield 15, 3), (142, .iconst 1, 1), (143, .invokevirtual 29, 3), (146, .ireturn, 1), (147, .aload_n 0, 1), (148, .dup, 1), (149, .getfield 9, 3)]
theorem dt_X6_readOnto_4 : dOk cX6_readOnto T_X6_readOnto_4 := by unfold dOk; decide +kernel
def T_X6_readOnto_5 : DT := [(152, .iconst 1, 1), (153, .iadd, 1), (154, .putfield 9, 3), (157, .goto (-144), 3), (160, .iconst 0, 1), (161, .ireturn, 1)]
theorem dt_X6_readOnto_5 : dOk cX6_readOnto T_X6_readOnto_5 := by unfold dOk; decide +kernel
section
variable {v : ZV} {l : Launch} {p : Program} {e : Env} {R : Room} {s : State} {m : MethodId} {args : Array Value} {below : List Frame} {meth : Method} {c : Code} {Q : State → Prop} {res : (Int32 × Hp)} 
set_option maxRecDepth 20000 in
theorem lkJ_X6_readOnto_95 (hi : zInj wC v) (xc : XC wC v) (nx : NXC v) (X : Cx wC v p R s m args c 0 0 cX6_readOnto 4 RX6 12) (rt : Rt wC v p l e R s m args below meth c 0 0 Q cX6_readOnto true (some (.int res.1)) res.2) {k13 : Nat → Hp → Option (Int32 × Hp)} {k138 : Hp → Option (Int32 × Hp)} {k114 : Hp → Option (Int32 × Hp)} {r1 : Nat} {s0 : Int32} {s1 : Nat} {σ : Hp} (hr1 : isW r1 = true) (hs1 : isW s1 = true) (hk13 : ∀ (r1 : Nat) (σ : Hp), (hr1 : isW r1 = true) → k13 r1 σ = some res → Go wC v p l e R s m args below meth c 0 0 Q 4 13 [(0, .ref 25), (1, .ref r1)] [] σ) (hk138 : ∀  (σ : Hp),  k138  σ = some res → Go wC v p l e R s m args below meth c 0 0 Q 4 138 [(0, .ref 25)] [] σ) (hk114 : ∀  (σ : Hp),  k114  σ = some res → Go wC v p l e R s m args below meth c 0 0 Q 4 114 [(0, .ref 25)] [] σ) (h : J_X6_readOnto_95  k13 k138 k114 r1 s0 s1 σ = some res) : Go wC v p l e R s m args below meth c 0 0 Q 4 95 [(0, .ref 25), (1, .ref r1)] [.int s0, .ref s1, .ref 25] σ := by
  unfold J_X6_readOnto_95 at h
  refine go_Vi (As := [.ref s1, .int s0]) (rest := []) X vo_X6_36 (fun q hq => ct_X6_readLine hi xc nx hs1 hq) (by decide) rfl lC_25 sC_25 rfl rfl (Nat.le_of_ble_eq_true rfl) (dk dt_X6_readOnto_3 2 rfl) h (fun q95 h => ?_)
  refine go_if_ne (tgt := 103) X (dk dt_X6_readOnto_3 3 rfl) (by decide) h (fun h => ?_) (fun h => ?_)
  · refine go_aload_n X 0 (dk dt_X6_readOnto_3 6 rfl) rfl rfl ?_
    refine go_getr X fo_X6_15 lC_25 sC_25 fC_25_0 (dk dt_X6_readOnto_3 7 rfl) ?_
    refine go_Vi (As := []) (rest := []) X vo_X6_25 (fun q hq => ct_X8_here hi xc nx  hq) (by decide) rfl lC_23 sC_23 rfl rfl (Nat.le_of_ble_eq_true rfl) (dk dt_X6_readOnto_3 8 rfl) h (fun q107 h => ?_)
    refine go_iconst X (dk dt_X6_readOnto_3 9 rfl) ci_m1 ?_
    refine go_icmp_ne (tgt := 126) X (dk dt_X6_readOnto_3 10 rfl) (by decide) h (fun h => ?_) (fun h => ?_)
    · refine go_aload_n X 0 (dk dt_X6_readOnto_4 3 rfl) rfl rfl ?_
      refine go_getr X fo_X6_15 lC_25 sC_25 fC_25_0 (dk dt_X6_readOnto_4 4 rfl) ?_
      refine go_bipush X (dk dt_X6_readOnto_4 5 rfl) cb_59 ?_
      refine go_Vi (As := [.int (59 : Int32)]) (rest := []) X vo_X6_40 (fun q hq => ct_X8_takes hi xc nx  hq) (by decide) rfl lC_23 sC_23 rfl rfl (Nat.le_of_ble_eq_true rfl) (dk dt_X6_readOnto_4 6 rfl) h (fun q132 h => ?_)
      refine go_if_ne (tgt := 147) X (dk dt_X6_readOnto_4 7 rfl) (by decide) h (fun h => ?_) (fun h => ?_)
      · refine go_aload_n X 0 (dk dt_X6_readOnto_4 13 rfl) rfl rfl ?_
        refine go_dup X (dk dt_X6_readOnto_4 14 rfl) rfl ?_
        refine go_geti X fo_X6_9 lC_25 sC_25 fC_25_1 (dk dt_X6_readOnto_4 15 rfl) ?_
        refine go_iconst X (dk dt_X6_readOnto_5 0 rfl) ci_1 ?_
        refine go_iadd X (dk dt_X6_readOnto_5 1 rfl) ?_
        refine go_puti X fo_X6_9 pf_6_1 lC_25 sC_25 fC_25_1 (dk dt_X6_readOnto_5 2 rfl) ?_
        refine go_goto (tgt := 13) X (dk dt_X6_readOnto_5 3 rfl) (by decide) ?_
        exact hk13 _ _ hr1 h
      · refine go_sub [0] rfl ?_
        exact hk138  _  h
    · refine go_sub [0] rfl ?_
      exact hk114  _  h
  · refine go_iconst X (dk dt_X6_readOnto_3 4 rfl) ci_0 ?_
    exact go_iret rt (dk dt_X6_readOnto_3 5 rfl) h (by decide)
set_option maxRecDepth 20000 in
theorem lkJ_X6_readOnto_51 (hi : zInj wC v) (xc : XC wC v) (nx : NXC v) (X : Cx wC v p R s m args c 0 0 cX6_readOnto 4 RX6 12) (rt : Rt wC v p l e R s m args below meth c 0 0 Q cX6_readOnto true (some (.int res.1)) res.2) {k13 : Nat → Hp → Option (Int32 × Hp)} {k138 : Hp → Option (Int32 × Hp)} {k114 : Hp → Option (Int32 × Hp)} {k60 : Hp → Option (Int32 × Hp)} {r1 : Nat} {x3 : Int32} {σ : Hp} (hr1 : isW r1 = true) (hk13 : ∀ (r1 : Nat) (σ : Hp), (hr1 : isW r1 = true) → k13 r1 σ = some res → Go wC v p l e R s m args below meth c 0 0 Q 4 13 [(0, .ref 25), (1, .ref r1)] [] σ) (hk138 : ∀  (σ : Hp),  k138  σ = some res → Go wC v p l e R s m args below meth c 0 0 Q 4 138 [(0, .ref 25)] [] σ) (hk114 : ∀  (σ : Hp),  k114  σ = some res → Go wC v p l e R s m args below meth c 0 0 Q 4 114 [(0, .ref 25)] [] σ) (hk60 : ∀  (σ : Hp),  k60  σ = some res → Go wC v p l e R s m args below meth c 0 0 Q 4 60 [(0, .ref 25)] [] σ) (h : J_X6_readOnto_51  k13 k138 k114 k60 r1 x3 σ = some res) : Go wC v p l e R s m args below meth c 0 0 Q 4 51 [(0, .ref 25), (1, .ref r1), (3, .int x3)] [] σ := by
  unfold J_X6_readOnto_51 at h
  refine go_aload_n X 0 (dk dt_X6_readOnto_1 10 rfl) rfl rfl ?_
  refine go_geti X fo_X6_9 lC_25 sC_25 fC_25_1 (dk dt_X6_readOnto_1 11 rfl) ?_
  refine go_bipush X (dk dt_X6_readOnto_1 12 rfl) cb_20 ?_
  refine go_icmp_ne (tgt := 69) X (dk dt_X6_readOnto_1 13 rfl) (by decide) h (fun h => ?_) (fun h => ?_)
  · refine go_aload_n X 0 (dk dt_X6_readOnto_2 3 rfl) rfl rfl ?_
    refine go_getr X fo_X6_15 lC_25 sC_25 fC_25_0 (dk dt_X6_readOnto_2 4 rfl) ?_
    refine go_dup X (dk dt_X6_readOnto_2 5 rfl) rfl ?_
    refine go_geti X fo_X6_33 lC_23 sC_23 fC_23_3 (dk dt_X6_readOnto_2 6 rfl) ?_
    refine go_iconst X (dk dt_X6_readOnto_2 7 rfl) ci_1 ?_
    refine go_iadd X (dk dt_X6_readOnto_2 8 rfl) ?_
    refine go_puti X fo_X6_33 pf_8_3 lC_23 sC_23 fC_23_3 (dk dt_X6_readOnto_2 9 rfl) ?_
    refine go_aload_n X 0 (dk dt_X6_readOnto_2 10 rfl) rfl rfl ?_
    refine go_aload_n X 1 (dk dt_X6_readOnto_2 11 rfl) rfl rfl ?_
    refine go_iload_n X 2 (dk dt_X6_readOnto_2 12 rfl) rfl rfl ?_
    refine go_bipush X (dk dt_X6_readOnto_2 13 rfl) cb_60 ?_
    refine go_icmp_ne (tgt := 94) X (dk dt_X6_readOnto_2 14 rfl) (by decide) h (fun h => ?_) (fun h => ?_)
    · refine go_iconst X (dk dt_X6_readOnto_3 1 rfl) ci_1 ?_
      refine go_sub [0, 1] rfl ?_
      exact lkJ_X6_readOnto_95 hi xc nx X rt hr1 hr1 hk13 hk138 hk114 h
    · refine go_iconst X (dk dt_X6_readOnto_2 15 rfl) ci_0 ?_
      refine go_goto (tgt := 95) X (dk dt_X6_readOnto_3 0 rfl) (by decide) ?_
      refine go_sub [0, 1] rfl ?_
      exact lkJ_X6_readOnto_95 hi xc nx X rt hr1 hr1 hk13 hk138 hk114 h
  · refine go_sub [0] rfl ?_
    exact hk60  _  h
set_option maxRecDepth 20000 in
theorem lkB_X6_readOnto_13 (hi : zInj wC v) (xc : XC wC v) (nx : NXC v) (X : Cx wC v p R s m args c 0 0 cX6_readOnto 4 RX6 12) (rt : Rt wC v p l e R s m args below meth c 0 0 Q cX6_readOnto true (some (.int res.1)) res.2) {k13 : Nat → Hp → Option (Int32 × Hp)} {k138 : Hp → Option (Int32 × Hp)} {k114 : Hp → Option (Int32 × Hp)} {k60 : Hp → Option (Int32 × Hp)} {k42 : Hp → Option (Int32 × Hp)} {r1 : Nat} {σ : Hp} (hr1 : isW r1 = true) (hk13 : ∀ (r1 : Nat) (σ : Hp), (hr1 : isW r1 = true) → k13 r1 σ = some res → Go wC v p l e R s m args below meth c 0 0 Q 4 13 [(0, .ref 25), (1, .ref r1)] [] σ) (hk138 : ∀  (σ : Hp),  k138  σ = some res → Go wC v p l e R s m args below meth c 0 0 Q 4 138 [(0, .ref 25)] [] σ) (hk114 : ∀  (σ : Hp),  k114  σ = some res → Go wC v p l e R s m args below meth c 0 0 Q 4 114 [(0, .ref 25)] [] σ) (hk60 : ∀  (σ : Hp),  k60  σ = some res → Go wC v p l e R s m args below meth c 0 0 Q 4 60 [(0, .ref 25)] [] σ) (hk42 : ∀  (σ : Hp),  k42  σ = some res → Go wC v p l e R s m args below meth c 0 0 Q 4 42 [(0, .ref 25)] [] σ) (h : B_X6_readOnto_13  k13 k138 k114 k60 k42 r1 σ = some res) : Go wC v p l e R s m args below meth c 0 0 Q 4 13 [(0, .ref 25), (1, .ref r1)] [] σ := by
  unfold B_X6_readOnto_13 at h
  refine go_aload_n X 0 (dk dt_X6_readOnto_0 7 rfl) rfl rfl ?_
  refine go_geti X fo_X6_9 lC_25 sC_25 fC_25_1 (dk dt_X6_readOnto_0 8 rfl) ?_
  refine go_bipush X (dk dt_X6_readOnto_0 9 rfl) cb_20 ?_
  refine go_icmp_gt (tgt := 160) X (dk dt_X6_readOnto_0 10 rfl) (by decide) h (fun h => ?_) (fun h => ?_)
  · refine go_iconst X (dk dt_X6_readOnto_5 4 rfl) ci_0 ?_
    exact go_iret rt (dk dt_X6_readOnto_5 5 rfl) h (by decide)
  · refine go_aload_n X 0 (dk dt_X6_readOnto_0 11 rfl) rfl rfl ?_
    refine go_getr X fo_X6_15 lC_25 sC_25 fC_25_0 (dk dt_X6_readOnto_0 12 rfl) ?_
    refine go_Vi (As := []) (rest := []) X vo_X6_25 (fun q hq => ct_X8_here hi xc nx  hq) (by decide) rfl lC_23 sC_23 rfl rfl (Nat.le_of_ble_eq_true rfl) (dk dt_X6_readOnto_0 13 rfl) h (fun q26 h => ?_)
    refine go_istore_n (lv' := [(3, .int q26.1), (0, .ref 25), (1, .ref r1)]) X (dk dt_X6_readOnto_0 14 rfl) rfl (by decide) rfl ?_
    refine go_iload_n X 0 (dk dt_X6_readOnto_0 15 rfl) rfl rfl ?_
    refine go_bipush X (dk dt_X6_readOnto_1 0 rfl) cb_60 ?_
    refine go_icmp_eq (tgt := 51) X (dk dt_X6_readOnto_1 1 rfl) (by decide) h (fun h => ?_) (fun h => ?_)
    · refine go_sub [1, 2, 0] rfl ?_
      exact lkJ_X6_readOnto_51 hi xc nx X rt hr1 hk13 hk138 hk114 hk60 h
    · refine go_iload_n X 0 (dk dt_X6_readOnto_1 2 rfl) rfl rfl ?_
      refine go_bipush X (dk dt_X6_readOnto_1 3 rfl) cb_62 ?_
      refine go_icmp_eq (tgt := 51) X (dk dt_X6_readOnto_1 4 rfl) (by decide) h (fun h => ?_) (fun h => ?_)
      · refine go_sub [1, 2, 0] rfl ?_
        exact lkJ_X6_readOnto_51 hi xc nx X rt hr1 hk13 hk138 hk114 hk60 h
      · refine go_sub [1] rfl ?_
        exact hk42  _  h
set_option maxRecDepth 20000 in
theorem lkL_X6_readOnto_13 (hi : zInj wC v) (xc : XC wC v) (nx : NXC v) (X : Cx wC v p R s m args c 0 0 cX6_readOnto 4 RX6 12) (rt : Rt wC v p l e R s m args below meth c 0 0 Q cX6_readOnto true (some (.int res.1)) res.2) {k138 : Hp → Option (Int32 × Hp)} {k114 : Hp → Option (Int32 × Hp)} {k60 : Hp → Option (Int32 × Hp)} {k42 : Hp → Option (Int32 × Hp)} (hk138 : ∀  (σ : Hp),  k138  σ = some res → Go wC v p l e R s m args below meth c 0 0 Q 4 138 [(0, .ref 25)] [] σ) (hk114 : ∀  (σ : Hp),  k114  σ = some res → Go wC v p l e R s m args below meth c 0 0 Q 4 114 [(0, .ref 25)] [] σ) (hk60 : ∀  (σ : Hp),  k60  σ = some res → Go wC v p l e R s m args below meth c 0 0 Q 4 60 [(0, .ref 25)] [] σ) (hk42 : ∀  (σ : Hp),  k42  σ = some res → Go wC v p l e R s m args below meth c 0 0 Q 4 42 [(0, .ref 25)] [] σ) (n : Nat) : ∀ {r1 : Nat} {σ : Hp}, (hr1 : isW r1 = true) → L_X6_readOnto_13  k138 k114 k60 k42 n r1 σ = some res → Go wC v p l e R s m args below meth c 0 0 Q 4 13 [(0, .ref 25), (1, .ref r1)] [] σ := by
  induction n with
  | zero => intro r1 σ hr1 h; cases h
  | succ n ih =>
    intro r1 σ hr1 h
    exact lkB_X6_readOnto_13 hi xc nx X rt hr1 (fun _ _ hq0 hh => ih hq0 hh) hk138 hk114 hk60 hk42 h
set_option maxRecDepth 20000 in
theorem lkJ_X6_readOnto_138 (hi : zInj wC v) (xc : XC wC v) (nx : NXC v) (X : Cx wC v p R s m args c 0 0 cX6_readOnto 4 RX6 12) (rt : Rt wC v p l e R s m args below meth c 0 0 Q cX6_readOnto true (some (.int res.1)) res.2)   {σ : Hp}   (h : J_X6_readOnto_138    σ = some res) : Go wC v p l e R s m args below meth c 0 0 Q 4 138 [(0, .ref 25)] [] σ := by
  unfold J_X6_readOnto_138 at h
  refine go_aload_n X 0 (dk dt_X6_readOnto_4 8 rfl) rfl rfl ?_
  refine go_getr X fo_X6_15 lC_25 sC_25 fC_25_0 (dk dt_X6_readOnto_4 9 rfl) ?_
  refine go_iconst X (dk dt_X6_readOnto_4 10 rfl) ci_1 ?_
  refine go_Vi (As := [.int (1 : Int32)]) (rest := []) X vo_X6_29 (fun q hq => ct_X8_refuse hi xc nx  hq) (by decide) rfl lC_23 sC_23 rfl rfl (Nat.le_of_ble_eq_true rfl) (dk dt_X6_readOnto_4 11 rfl) h (fun q143 h => ?_)
  exact go_zret rt (dk dt_X6_readOnto_4 12 rfl) h
set_option maxRecDepth 20000 in
theorem lkJ_X6_readOnto_114 (hi : zInj wC v) (xc : XC wC v) (nx : NXC v) (X : Cx wC v p R s m args c 0 0 cX6_readOnto 4 RX6 12) (rt : Rt wC v p l e R s m args below meth c 0 0 Q cX6_readOnto true (some (.int res.1)) res.2)   {σ : Hp}   (h : J_X6_readOnto_114    σ = some res) : Go wC v p l e R s m args below meth c 0 0 Q 4 114 [(0, .ref 25)] [] σ := by
  unfold J_X6_readOnto_114 at h
  refine go_aload_n X 0 (dk dt_X6_readOnto_3 11 rfl) rfl rfl ?_
  refine go_dup X (dk dt_X6_readOnto_3 12 rfl) rfl ?_
  refine go_geti X fo_X6_9 lC_25 sC_25 fC_25_1 (dk dt_X6_readOnto_3 13 rfl) ?_
  refine go_iconst X (dk dt_X6_readOnto_3 14 rfl) ci_1 ?_
  refine go_iadd X (dk dt_X6_readOnto_3 15 rfl) ?_
  refine go_puti X fo_X6_9 pf_6_1 lC_25 sC_25 fC_25_1 (dk dt_X6_readOnto_4 0 rfl) ?_
  refine go_iconst X (dk dt_X6_readOnto_4 1 rfl) ci_1 ?_
  exact go_iret rt (dk dt_X6_readOnto_4 2 rfl) h (by decide)
set_option maxRecDepth 20000 in
theorem lkJ_X6_readOnto_60 (hi : zInj wC v) (xc : XC wC v) (nx : NXC v) (X : Cx wC v p R s m args c 0 0 cX6_readOnto 4 RX6 12) (rt : Rt wC v p l e R s m args below meth c 0 0 Q cX6_readOnto true (some (.int res.1)) res.2)   {σ : Hp}   (h : J_X6_readOnto_60    σ = some res) : Go wC v p l e R s m args below meth c 0 0 Q 4 60 [(0, .ref 25)] [] σ := by
  unfold J_X6_readOnto_60 at h
  refine go_aload_n X 0 (dk dt_X6_readOnto_1 14 rfl) rfl rfl ?_
  refine go_getr X fo_X6_15 lC_25 sC_25 fC_25_0 (dk dt_X6_readOnto_1 15 rfl) ?_
  refine go_iconst X (dk dt_X6_readOnto_2 0 rfl) ci_4 ?_
  refine go_Vi (As := [.int (4 : Int32)]) (rest := []) X vo_X6_29 (fun q hq => ct_X8_refuse hi xc nx  hq) (by decide) rfl lC_23 sC_23 rfl rfl (Nat.le_of_ble_eq_true rfl) (dk dt_X6_readOnto_2 1 rfl) h (fun q65 h => ?_)
  exact go_zret rt (dk dt_X6_readOnto_2 2 rfl) h
set_option maxRecDepth 20000 in
theorem lkJ_X6_readOnto_42 (hi : zInj wC v) (xc : XC wC v) (nx : NXC v) (X : Cx wC v p R s m args c 0 0 cX6_readOnto 4 RX6 12) (rt : Rt wC v p l e R s m args below meth c 0 0 Q cX6_readOnto true (some (.int res.1)) res.2)   {σ : Hp}   (h : J_X6_readOnto_42    σ = some res) : Go wC v p l e R s m args below meth c 0 0 Q 4 42 [(0, .ref 25)] [] σ := by
  unfold J_X6_readOnto_42 at h
  refine go_aload_n X 0 (dk dt_X6_readOnto_1 5 rfl) rfl rfl ?_
  refine go_getr X fo_X6_15 lC_25 sC_25 fC_25_0 (dk dt_X6_readOnto_1 6 rfl) ?_
  refine go_iconst X (dk dt_X6_readOnto_1 7 rfl) ci_1 ?_
  refine go_Vi (As := [.int (1 : Int32)]) (rest := []) X vo_X6_29 (fun q hq => ct_X8_refuse hi xc nx  hq) (by decide) rfl lC_23 sC_23 rfl rfl (Nat.le_of_ble_eq_true rfl) (dk dt_X6_readOnto_1 8 rfl) h (fun q47 h => ?_)
  exact go_zret rt (dk dt_X6_readOnto_1 9 rfl) h
set_option maxRecDepth 20000 in
theorem lkF_X6_readOnto (hi : zInj wC v) (xc : XC wC v) (nx : NXC v) (X : Cx wC v p R s m args c 0 0 cX6_readOnto 4 RX6 12) (rt : Rt wC v p l e R s m args below meth c 0 0 Q cX6_readOnto true (some (.int res.1)) res.2) {a1 : Nat} {a2 : Int32} {σ : Hp} (ha1 : isW a1 = true) (h : F_X6_readOnto  a1 a2 σ = some res) : Go wC v p l e R s m args below meth c 0 0 Q 4 0 [(0, .ref 25), (1, .ref a1), (2, .int a2)] [] σ := by
  unfold F_X6_readOnto at h
  refine go_aload_n X 0 (dk dt_X6_readOnto_0 0 rfl) rfl rfl ?_
  refine go_getr X fo_X6_15 lC_25 sC_25 fC_25_0 (dk dt_X6_readOnto_0 1 rfl) ?_
  refine go_iload_n X 2 (dk dt_X6_readOnto_0 2 rfl) rfl rfl ?_
  refine go_Vv (As := [.int a2]) (rest := []) X vo_X6_19 (fun q hq => ct_X8_begin hi xc nx  hq) (by decide) rfl lC_23 sC_23 rfl rfl (Nat.le_of_ble_eq_true rfl) (dk dt_X6_readOnto_0 3 rfl) h (fun q5 h => ?_)
  refine go_aload_n X 0 (dk dt_X6_readOnto_0 4 rfl) rfl rfl ?_
  refine go_iconst X (dk dt_X6_readOnto_0 5 rfl) ci_0 ?_
  refine go_puti X fo_X6_9 pf_6_1 lC_25 sC_25 fC_25_1 (dk dt_X6_readOnto_0 6 rfl) ?_
  refine go_sub [0, 1] rfl ?_
  exact lkL_X6_readOnto_13 hi xc nx X rt (fun  _  hh => lkJ_X6_readOnto_138 hi xc nx X rt   hh) (fun  _  hh => lkJ_X6_readOnto_114 hi xc nx X rt   hh) (fun  _  hh => lkJ_X6_readOnto_60 hi xc nx X rt   hh) (fun  _  hh => lkJ_X6_readOnto_42 hi xc nx X rt   hh) FU ha1 h
set_option maxRecDepth 20000 in
theorem ct_X6_readOnto (hi : zInj wC v) (xc : XC wC v) (nx : NXC v)  {a1 : Nat} {a2 : Int32} {σ : Hp} (ha1 : isW a1 = true) {q : (Int32 × Hp)} (h : F_X6_readOnto  a1 a2 σ = some q) : Ct wC v l yX6_readOnto cX6_readOnto 4 (some .boolean) 12 [.ref 25, .ref a1, .int a2] σ (some (.int q.1)) q.2 :=
  Ct.intro true (by decide) hi xc (Nat.le_of_ble_eq_true rfl) rfl (fun p e R s m args below meth c Q X rt => lkF_X6_readOnto hi xc nx X rt ha1 h)
end
def T_V_orders_0 : DT := [(0, .iload_n 1, 1), (1, .iconst 1, 1), (2, .bipush 120, 2), (4, .invokestatic 119, 3), (7, .ifCond .eq 14, 3), (10, .aload_n 0, 1), (11, .getfield 32, 3), (14, .iload_n 1, 1), (15, .invokevirtual 151, 3), (18, .ifCond .ne 5, 3), (21, .iconst (-1), 1), (22, .ireturn, 1), (23, .aload_n 0, 1), (24, .getfield 19, 3), (27, .aload_n 0, 1), (28, .getfield 10, 3)]
theorem dt_V_orders_0 : dOk cX11_orders T_V_orders_0 := by unfold dOk; decide +kernel
def T_V_orders_1 : DT := [(31, .invokevirtual 165, 3), (34, .aload_n 0, 1), (35, .getfield 41, 3), (38, .aload_n 0, 1), (39, .getfield 19, 3), (42, .iload_n 1, 1), (43, .invokevirtual 169, 3), (46, .istore_n 2, 1), (47, .aload_n 0, 1), (48, .getfield 32, 3), (51, .invokevirtual 158, 3), (54, .iload_n 2, 1), (55, .ifCond .ne 11, 3), (58, .aload_n 0, 1), (59, .getfield 32, 3), (62, .getfield 161, 3)]
theorem dt_V_orders_1 : dOk cX11_orders T_V_orders_1 := by unfold dOk; decide +kernel
def T_V_orders_2 : DT := [(65, .ireturn, 1), (66, .aload_n 0, 1), (67, .getfield 10, 3), (70, .aload_n 0, 1), (71, .getfield 19, 3), (74, .invokevirtual 165, 3), (77, .aload_n 0, 1), (78, .getfield 41, 3), (81, .getfield 173, 3), (84, .ireturn, 1)]
theorem dt_V_orders_2 : dOk cX11_orders T_V_orders_2 := by unfold dOk; decide +kernel
section
variable {v : ZV} {l : Launch} {p : Program} {e : Env} {R : Room} {s : State} {m : MethodId} {args : Array Value} {below : List Frame} {meth : Method} {c : Code} {Q : State → Prop} {res : (Int32 × Hp)} 
set_option maxRecDepth 20000 in
theorem lkF_V_orders (hi : zInj wC v) (xc : XC wC v) (nx : NXC v) (X : Cx wC v p R s m args c 0 0 cX11_orders 3 RX11 14) (rt : Rt wC v p l e R s m args below meth c 0 0 Q cX11_orders false (some (.int res.1)) res.2) {a1 : Int32} {σ : Hp}  (h : F_V_orders  a1 σ = some res) : Go wC v p l e R s m args below meth c 0 0 Q 3 0 [(0, .ref 0), (1, .int a1)] [] σ := by
  unfold F_V_orders at h
  refine go_iload_n X 1 (dk dt_V_orders_0 0 rfl) rfl rfl ?_
  refine go_iconst X (dk dt_V_orders_0 1 rfl) ci_1 ?_
  refine go_bipush X (dk dt_V_orders_0 2 rfl) cb_120 ?_
  refine go_Si (As := [.int a1, .int (1 : Int32), .int (120 : Int32)]) (rest := []) X so_X11_119 (fun q hq => ct_V_within hi xc nx  hq) (by decide) rfl rfl (Nat.le_of_ble_eq_true rfl) (dk dt_V_orders_0 3 rfl) h (fun q4 h => ?_)
  refine go_if_eq (tgt := 21) X (dk dt_V_orders_0 4 rfl) (by decide) h (fun h => ?_) (fun h => ?_)
  · refine go_iconst X (dk dt_V_orders_0 10 rfl) ci_m1 ?_
    exact go_iret rt (dk dt_V_orders_0 11 rfl) h (fun hh => nomatch hh)
  · refine go_aload_n X 0 (dk dt_V_orders_0 5 rfl) rfl rfl ?_
    refine go_getr X fo_X11_32 lC_0 sC_0 fC_0_4 (dk dt_V_orders_0 6 rfl) ?_
    refine go_iload_n X 1 (dk dt_V_orders_0 7 rfl) rfl rfl ?_
    refine go_Vi (As := [.int a1]) (rest := []) X vo_X11_151 (fun q hq => ct_X8_has hi xc nx  hq) (by decide) rfl lC_23 sC_23 rfl rfl (Nat.le_of_ble_eq_true rfl) (dk dt_V_orders_0 8 rfl) h (fun q15 h => ?_)
    refine go_if_ne (tgt := 23) X (dk dt_V_orders_0 9 rfl) (by decide) h (fun h => ?_) (fun h => ?_)
    · refine go_aload_n X 0 (dk dt_V_orders_0 12 rfl) rfl rfl ?_
      refine go_getr X fo_X11_19 lC_0 sC_0 fC_0_2 (dk dt_V_orders_0 13 rfl) ?_
      refine go_aload_n X 0 (dk dt_V_orders_0 14 rfl) rfl rfl ?_
      refine go_getr X fo_X11_10 lC_0 sC_0 fC_0_0 (dk dt_V_orders_0 15 rfl) ?_
      refine go_Vv (As := [.ref 1]) (rest := []) X vo_X11_165 (fun q hq => ct_X10_copy hi xc nx (by decide : isW 13 = true) (by decide : isW 1 = true) hq) (by decide) rfl lC_13 sC_13 rfl rfl (Nat.le_of_ble_eq_true rfl) (dk dt_V_orders_1 0 rfl) h (fun q31 h => ?_)
      refine go_aload_n X 0 (dk dt_V_orders_1 1 rfl) rfl rfl ?_
      refine go_getr X fo_X11_41 lC_0 sC_0 fC_0_5 (dk dt_V_orders_1 2 rfl) ?_
      refine go_aload_n X 0 (dk dt_V_orders_1 3 rfl) rfl rfl ?_
      refine go_getr X fo_X11_19 lC_0 sC_0 fC_0_2 (dk dt_V_orders_1 4 rfl) ?_
      refine go_iload_n X 1 (dk dt_V_orders_1 5 rfl) rfl rfl ?_
      refine go_Vi (As := [.ref 13, .int a1]) (rest := []) X vo_X11_169 (fun q hq => ct_X6_readOnto hi xc nx (by decide : isW 13 = true) hq) (by decide) rfl lC_25 sC_25 rfl rfl (Nat.le_of_ble_eq_true rfl) (dk dt_V_orders_1 6 rfl) h (fun q43 h => ?_)
      refine go_istore_n (lv' := [(2, .int q43.1), (0, .ref 0), (1, .int a1)]) X (dk dt_V_orders_1 7 rfl) rfl (by decide) rfl ?_
      refine go_aload_n X 1 (dk dt_V_orders_1 8 rfl) rfl rfl ?_
      refine go_getr X fo_X11_32 lC_0 sC_0 fC_0_4 (dk dt_V_orders_1 9 rfl) ?_
      refine go_Vv (As := []) (rest := []) X vo_X11_158 (fun q hq => ct_X8_clear hi xc nx  hq) (by decide) rfl lC_23 sC_23 rfl rfl (Nat.le_of_ble_eq_true rfl) (dk dt_V_orders_1 10 rfl) h (fun q51 h => ?_)
      refine go_iload_n X 0 (dk dt_V_orders_1 11 rfl) rfl rfl ?_
      refine go_if_ne (tgt := 66) X (dk dt_V_orders_1 12 rfl) (by decide) h (fun h => ?_) (fun h => ?_)
      · refine go_aload_n X 1 (dk dt_V_orders_2 1 rfl) rfl rfl ?_
        refine go_getr X fo_X11_10 lC_0 sC_0 fC_0_0 (dk dt_V_orders_2 2 rfl) ?_
        refine go_aload_n X 1 (dk dt_V_orders_2 3 rfl) rfl rfl ?_
        refine go_getr X fo_X11_19 lC_0 sC_0 fC_0_2 (dk dt_V_orders_2 4 rfl) ?_
        refine go_Vv (As := [.ref 13]) (rest := []) X vo_X11_165 (fun q hq => ct_X10_copy hi xc nx (by decide : isW 1 = true) (by decide : isW 13 = true) hq) (by decide) rfl lC_1 sC_1 rfl rfl (Nat.le_of_ble_eq_true rfl) (dk dt_V_orders_2 5 rfl) h (fun q74 h => ?_)
        refine go_aload_n X 1 (dk dt_V_orders_2 6 rfl) rfl rfl ?_
        refine go_getr X fo_X11_41 lC_0 sC_0 fC_0_5 (dk dt_V_orders_2 7 rfl) ?_
        refine go_geti X fo_X11_173 lC_25 sC_25 fC_25_1 (dk dt_V_orders_2 8 rfl) ?_
        exact go_iret rt (dk dt_V_orders_2 9 rfl) h (fun hh => nomatch hh)
      · refine go_aload_n X 1 (dk dt_V_orders_1 13 rfl) rfl rfl ?_
        refine go_getr X fo_X11_32 lC_0 sC_0 fC_0_4 (dk dt_V_orders_1 14 rfl) ?_
        refine go_geti X fo_X11_161 lC_23 sC_23 fC_23_4 (dk dt_V_orders_1 15 rfl) ?_
        exact go_iret rt (dk dt_V_orders_2 0 rfl) h (fun hh => nomatch hh)
    · refine go_iconst X (dk dt_V_orders_0 10 rfl) ci_m1 ?_
      exact go_iret rt (dk dt_V_orders_0 11 rfl) h (fun hh => nomatch hh)
set_option maxRecDepth 20000 in
theorem ct_V_orders (hi : zInj wC v) (xc : XC wC v) (nx : NXC v)  {a1 : Int32} {σ : Hp}  {q : (Int32 × Hp)} (h : F_V_orders  a1 σ = some q) : Ct wC v l yX11_orders cX11_orders 3 (some .int) 14 [.ref 0, .int a1] σ (some (.int q.1)) q.2 :=
  Ct.intro false (by decide) hi xc (Nat.le_of_ble_eq_true rfl) rfl (fun p e R s m args below meth c Q X rt => lkF_V_orders hi xc nx X rt  h)
end
def T_X9_twos_0 : DT := [(0, .iconst 0, 1), (1, .istore_n 3, 1), (2, .iconst 0, 1), (3, .istore 4, 2), (5, .iload 4, 2), (7, .bipush 8, 2), (9, .if_icmp .ge 98, 3), (12, .iconst 0, 1), (13, .istore 5, 2), (15, .iload 5, 2), (17, .bipush 8, 2), (19, .if_icmp .ge 82, 3), (22, .aload_n 1, 1), (23, .getfield 40, 3), (26, .iload 4, 2), (28, .iaload, 1)]
theorem dt_X9_twos_0 : dOk cX9_twos T_X9_twos_0 := by unfold dOk; decide +kernel
def T_X9_twos_1 : DT := [(29, .ifCond .ne 20, 3), (32, .aload_n 1, 1), (33, .getfield 40, 3), (36, .bipush 8, 2), (38, .iload 5, 2), (40, .iadd, 1), (41, .iaload, 1), (42, .ifCond .ne 7, 3), (45, .iconst 1, 1), (46, .goto 4, 3), (49, .iconst 0, 1), (50, .istore 6, 2), (52, .iload 6, 2), (54, .ifCond .eq 41, 3), (57, .aload_n 0, 1), (58, .aload_n 0, 1)]
theorem dt_X9_twos_1 : dOk cX9_twos T_X9_twos_1 := by unfold dOk; decide +kernel
def T_X9_twos_2 : DT := [(59, .iconst 0, 1), (60, .aload_n 1, 1), (61, .getfield 21, 3), (64, .iload 4, 2), (66, .iaload, 1), (67, .invokevirtual 26, 3), (70, .aload_n 0, 1), (71, .iconst 1, 1), (72, .aload_n 1, 1), (73, .getfield 21, 3), (76, .bipush 8, 2), (78, .iload 5, 2), (80, .iadd, 1), (81, .iaload, 1), (82, .invokevirtual 26, 3), (85, .iload_n 2, 1)]
theorem dt_X9_twos_2 : dOk cX9_twos T_X9_twos_2 := by unfold dOk; decide +kernel
def T_X9_twos_3 : DT := [(86, .invokevirtual 30, 3), (89, .ifCond .eq 6, 3), (92, .iinc 3 1, 3), (95, .iinc 5 1, 3), (98, .goto (-83), 3), (101, .iinc 4 1, 3), (104, .goto (-99), 3), (107, .iload_n 3, 1), (108, .ireturn, 1)]
theorem dt_X9_twos_3 : dOk cX9_twos T_X9_twos_3 := by unfold dOk; decide +kernel
section
variable {v : ZV} {l : Launch} {p : Program} {e : Env} {R : Room} {s : State} {m : MethodId} {args : Array Value} {below : List Frame} {meth : Method} {c : Code} {Q : State → Prop} {res : (Int32 × Hp)} 
set_option maxRecDepth 20000 in
theorem lkJ_X9_twos_50 (hi : zInj wC v) (xc : XC wC v) (nx : NXC v) (X : Cx wC v p R s m args c 0 0 cX9_twos 7 RX9 4) (rt : Rt wC v p l e R s m args below meth c 0 0 Q cX9_twos false (some (.int res.1)) res.2) {k15 : Nat → Int32 → Int32 → Int32 → Int32 → Hp → Option (Int32 × Hp)} {r1 : Nat} {x2 : Int32} {x3 : Int32} {x4 : Int32} {x5 : Int32} {s0 : Int32} {σ : Hp} (hr1 : isW r1 = true) (hk15 : ∀ (r1 : Nat) (x2 : Int32) (x3 : Int32) (x4 : Int32) (x5 : Int32) (σ : Hp), (hr1 : isW r1 = true) → k15 r1 x2 x3 x4 x5 σ = some res → Go wC v p l e R s m args below meth c 0 0 Q 7 15 [(0, .ref 19), (1, .ref r1), (2, .int x2), (3, .int x3), (4, .int x4), (5, .int x5)] [] σ) (h : J_X9_twos_50  k15 r1 x2 x3 x4 x5 s0 σ = some res) : Go wC v p l e R s m args below meth c 0 0 Q 7 50 [(0, .ref 19), (1, .ref r1), (2, .int x2), (3, .int x3), (4, .int x4), (5, .int x5)] [.int s0] σ := by
  unfold J_X9_twos_50 at h
  refine go_istore (lv' := [(6, .int s0), (0, .ref 19), (1, .ref r1), (2, .int x2), (3, .int x3), (4, .int x4), (5, .int x5)]) X (dk dt_X9_twos_1 11 rfl) (by decide) rfl ?_
  refine go_iload X 0 (dk dt_X9_twos_1 12 rfl) rfl ?_
  refine go_if_eq (tgt := 95) X (dk dt_X9_twos_1 13 rfl) (by decide) h (fun h => ?_) (fun h => ?_)
  · refine go_iinc (lv' := [(5, .int (x5 + (1 : Int32))), (6, .int s0), (0, .ref 19), (1, .ref r1), (2, .int x2), (3, .int x3), (4, .int x4)]) X 6 (dk dt_X9_twos_3 3 rfl) rfl ci_1 (by decide) rfl ?_
    refine go_goto (tgt := 15) X (dk dt_X9_twos_3 4 rfl) (by decide) ?_
    refine go_sub [2, 3, 4, 5, 6, 0] rfl ?_
    exact hk15 _ _ _ _ _ _ hr1 h
  · refine go_aload_n X 1 (dk dt_X9_twos_1 14 rfl) rfl rfl ?_
    refine go_aload_n X 1 (dk dt_X9_twos_1 15 rfl) rfl rfl ?_
    refine go_iconst X (dk dt_X9_twos_2 0 rfl) ci_0 ?_
    refine go_aload_n X 2 (dk dt_X9_twos_2 1 rfl) rfl rfl ?_
    refine go_getr X fo_X9_21 (lW hr1) (sW hr1) (fW_3 hr1) (dk dt_X9_twos_2 2 rfl) ?_
    refine go_iload X 5 (dk dt_X9_twos_2 3 rfl) rfl ?_
    refine go_iald X (lWa_4 hr1) (sWa_4 hr1) (dk dt_X9_twos_2 4 rfl) h (fun h => ?_)
    refine go_Vi (As := [.int (0 : Int32), .int (σ (r1 + 4) (Int32.toNatClampNeg x4))]) (rest := [.ref 19]) X vo_X9_26 (fun q hq => ct_X9_eye hi xc nx  hq) (by decide) rfl lC_19 sC_19 rfl rfl (Nat.le_of_ble_eq_true rfl) (dk dt_X9_twos_2 5 rfl) h (fun q67 h => ?_)
    refine go_aload_n X 1 (dk dt_X9_twos_2 6 rfl) rfl rfl ?_
    refine go_iconst X (dk dt_X9_twos_2 7 rfl) ci_1 ?_
    refine go_aload_n X 2 (dk dt_X9_twos_2 8 rfl) rfl rfl ?_
    refine go_getr X fo_X9_21 (lW hr1) (sW hr1) (fW_3 hr1) (dk dt_X9_twos_2 9 rfl) ?_
    refine go_bipush X (dk dt_X9_twos_2 10 rfl) cb_8 ?_
    refine go_iload X 6 (dk dt_X9_twos_2 11 rfl) rfl ?_
    refine go_iadd X (dk dt_X9_twos_2 12 rfl) ?_
    refine go_iald X (lWa_4 hr1) (sWa_4 hr1) (dk dt_X9_twos_2 13 rfl) h (fun h => ?_)
    refine go_Vi (As := [.int (1 : Int32), .int (q67.2 (r1 + 4) (Int32.toNatClampNeg ((8 : Int32) + x5)))]) (rest := [.int q67.1, .ref 19]) X vo_X9_26 (fun q hq => ct_X9_eye hi xc nx  hq) (by decide) rfl lC_19 sC_19 rfl rfl (Nat.le_of_ble_eq_true rfl) (dk dt_X9_twos_2 14 rfl) h (fun q82 h => ?_)
    refine go_iload_n X 3 (dk dt_X9_twos_2 15 rfl) rfl rfl ?_
    refine go_Vi (As := [.int q67.1, .int q82.1, .int x2]) (rest := []) X vo_X9_30 (fun q hq => ct_X9_isFree hi xc nx  hq) (by decide) rfl lC_19 sC_19 rfl rfl (Nat.le_of_ble_eq_true rfl) (dk dt_X9_twos_3 0 rfl) h (fun q86 h => ?_)
    refine go_if_eq (tgt := 95) X (dk dt_X9_twos_3 1 rfl) (by decide) h (fun h => ?_) (fun h => ?_)
    · refine go_iinc (lv' := [(5, .int (x5 + (1 : Int32))), (6, .int s0), (0, .ref 19), (1, .ref r1), (2, .int x2), (3, .int x3), (4, .int x4)]) X 6 (dk dt_X9_twos_3 3 rfl) rfl ci_1 (by decide) rfl ?_
      refine go_goto (tgt := 15) X (dk dt_X9_twos_3 4 rfl) (by decide) ?_
      refine go_sub [2, 3, 4, 5, 6, 0] rfl ?_
      exact hk15 _ _ _ _ _ _ hr1 h
    · refine go_iinc (lv' := [(3, .int (x3 + (1 : Int32))), (6, .int s0), (0, .ref 19), (1, .ref r1), (2, .int x2), (4, .int x4), (5, .int x5)]) X 4 (dk dt_X9_twos_3 2 rfl) rfl ci_1 (by decide) rfl ?_
      refine go_iinc (lv' := [(5, .int (x5 + (1 : Int32))), (3, .int (x3 + (1 : Int32))), (6, .int s0), (0, .ref 19), (1, .ref r1), (2, .int x2), (4, .int x4)]) X 6 (dk dt_X9_twos_3 3 rfl) rfl ci_1 (by decide) rfl ?_
      refine go_goto (tgt := 15) X (dk dt_X9_twos_3 4 rfl) (by decide) ?_
      refine go_sub [3, 4, 5, 1, 6, 0] rfl ?_
      exact hk15 _ _ _ _ _ _ hr1 h
set_option maxRecDepth 20000 in
theorem lkJ_X9_twos_49 (hi : zInj wC v) (xc : XC wC v) (nx : NXC v) (X : Cx wC v p R s m args c 0 0 cX9_twos 7 RX9 4) (rt : Rt wC v p l e R s m args below meth c 0 0 Q cX9_twos false (some (.int res.1)) res.2) {k15 : Nat → Int32 → Int32 → Int32 → Int32 → Hp → Option (Int32 × Hp)} {r1 : Nat} {x2 : Int32} {x3 : Int32} {x4 : Int32} {x5 : Int32} {σ : Hp} (hr1 : isW r1 = true) (hk15 : ∀ (r1 : Nat) (x2 : Int32) (x3 : Int32) (x4 : Int32) (x5 : Int32) (σ : Hp), (hr1 : isW r1 = true) → k15 r1 x2 x3 x4 x5 σ = some res → Go wC v p l e R s m args below meth c 0 0 Q 7 15 [(0, .ref 19), (1, .ref r1), (2, .int x2), (3, .int x3), (4, .int x4), (5, .int x5)] [] σ) (h : J_X9_twos_49  k15 r1 x2 x3 x4 x5 σ = some res) : Go wC v p l e R s m args below meth c 0 0 Q 7 49 [(0, .ref 19), (1, .ref r1), (2, .int x2), (3, .int x3), (4, .int x4), (5, .int x5)] [] σ := by
  unfold J_X9_twos_49 at h
  refine go_iconst X (dk dt_X9_twos_1 10 rfl) ci_0 ?_
  exact lkJ_X9_twos_50 hi xc nx X rt hr1 hk15 h
set_option maxRecDepth 20000 in
theorem lkB_X9_twos_15 (hi : zInj wC v) (xc : XC wC v) (nx : NXC v) (X : Cx wC v p R s m args c 0 0 cX9_twos 7 RX9 4) (rt : Rt wC v p l e R s m args below meth c 0 0 Q cX9_twos false (some (.int res.1)) res.2) {k101 : Nat → Int32 → Int32 → Int32 → Hp → Option (Int32 × Hp)} {k15 : Nat → Int32 → Int32 → Int32 → Int32 → Hp → Option (Int32 × Hp)} {r1 : Nat} {x2 : Int32} {x3 : Int32} {x4 : Int32} {x5 : Int32} {σ : Hp} (hr1 : isW r1 = true) (hk101 : ∀ (r1 : Nat) (x2 : Int32) (x3 : Int32) (x4 : Int32) (σ : Hp), (hr1 : isW r1 = true) → k101 r1 x2 x3 x4 σ = some res → Go wC v p l e R s m args below meth c 0 0 Q 7 101 [(0, .ref 19), (1, .ref r1), (2, .int x2), (3, .int x3), (4, .int x4)] [] σ) (hk15 : ∀ (r1 : Nat) (x2 : Int32) (x3 : Int32) (x4 : Int32) (x5 : Int32) (σ : Hp), (hr1 : isW r1 = true) → k15 r1 x2 x3 x4 x5 σ = some res → Go wC v p l e R s m args below meth c 0 0 Q 7 15 [(0, .ref 19), (1, .ref r1), (2, .int x2), (3, .int x3), (4, .int x4), (5, .int x5)] [] σ) (h : B_X9_twos_15  k101 k15 r1 x2 x3 x4 x5 σ = some res) : Go wC v p l e R s m args below meth c 0 0 Q 7 15 [(0, .ref 19), (1, .ref r1), (2, .int x2), (3, .int x3), (4, .int x4), (5, .int x5)] [] σ := by
  unfold B_X9_twos_15 at h
  refine go_iload X 5 (dk dt_X9_twos_0 9 rfl) rfl ?_
  refine go_bipush X (dk dt_X9_twos_0 10 rfl) cb_8 ?_
  refine go_icmp_ge (tgt := 101) X (dk dt_X9_twos_0 11 rfl) (by decide) h (fun h => ?_) (fun h => ?_)
  · refine go_sub [0, 1, 2, 3, 4] rfl ?_
    exact hk101 _ _ _ _ _ hr1 h
  · refine go_aload_n X 1 (dk dt_X9_twos_0 12 rfl) rfl rfl ?_
    refine go_getr X fo_X9_40 (lW hr1) (sW hr1) (fW_4 hr1) (dk dt_X9_twos_0 13 rfl) ?_
    refine go_iload X 4 (dk dt_X9_twos_0 14 rfl) rfl ?_
    refine go_iald X (lWa_5 hr1) (sWa_5 hr1) (dk dt_X9_twos_0 15 rfl) h (fun h => ?_)
    refine go_if_ne (tgt := 49) X (dk dt_X9_twos_1 0 rfl) (by decide) h (fun h => ?_) (fun h => ?_)
    · exact lkJ_X9_twos_49 hi xc nx X rt hr1 hk15 h
    · refine go_aload_n X 1 (dk dt_X9_twos_1 1 rfl) rfl rfl ?_
      refine go_getr X fo_X9_40 (lW hr1) (sW hr1) (fW_4 hr1) (dk dt_X9_twos_1 2 rfl) ?_
      refine go_bipush X (dk dt_X9_twos_1 3 rfl) cb_8 ?_
      refine go_iload X 5 (dk dt_X9_twos_1 4 rfl) rfl ?_
      refine go_iadd X (dk dt_X9_twos_1 5 rfl) ?_
      refine go_iald X (lWa_5 hr1) (sWa_5 hr1) (dk dt_X9_twos_1 6 rfl) h (fun h => ?_)
      refine go_if_ne (tgt := 49) X (dk dt_X9_twos_1 7 rfl) (by decide) h (fun h => ?_) (fun h => ?_)
      · exact lkJ_X9_twos_49 hi xc nx X rt hr1 hk15 h
      · refine go_iconst X (dk dt_X9_twos_1 8 rfl) ci_1 ?_
        refine go_goto (tgt := 50) X (dk dt_X9_twos_1 9 rfl) (by decide) ?_
        exact lkJ_X9_twos_50 hi xc nx X rt hr1 hk15 h
set_option maxRecDepth 20000 in
theorem lkL_X9_twos_15 (hi : zInj wC v) (xc : XC wC v) (nx : NXC v) (X : Cx wC v p R s m args c 0 0 cX9_twos 7 RX9 4) (rt : Rt wC v p l e R s m args below meth c 0 0 Q cX9_twos false (some (.int res.1)) res.2) {k101 : Nat → Int32 → Int32 → Int32 → Hp → Option (Int32 × Hp)} (hk101 : ∀ (r1 : Nat) (x2 : Int32) (x3 : Int32) (x4 : Int32) (σ : Hp), (hr1 : isW r1 = true) → k101 r1 x2 x3 x4 σ = some res → Go wC v p l e R s m args below meth c 0 0 Q 7 101 [(0, .ref 19), (1, .ref r1), (2, .int x2), (3, .int x3), (4, .int x4)] [] σ) (n : Nat) : ∀ {r1 : Nat} {x2 : Int32} {x3 : Int32} {x4 : Int32} {x5 : Int32} {σ : Hp}, (hr1 : isW r1 = true) → L_X9_twos_15  k101 n r1 x2 x3 x4 x5 σ = some res → Go wC v p l e R s m args below meth c 0 0 Q 7 15 [(0, .ref 19), (1, .ref r1), (2, .int x2), (3, .int x3), (4, .int x4), (5, .int x5)] [] σ := by
  induction n with
  | zero => intro r1 x2 x3 x4 x5 σ hr1 h; cases h
  | succ n ih =>
    intro r1 x2 x3 x4 x5 σ hr1 h
    exact lkB_X9_twos_15 hi xc nx X rt hr1 hk101 (fun _ _ _ _ _ _ hq0 hh => ih hq0 hh) h
set_option maxRecDepth 20000 in
theorem lkJ_X9_twos_101 (hi : zInj wC v) (xc : XC wC v) (nx : NXC v) (X : Cx wC v p R s m args c 0 0 cX9_twos 7 RX9 4) (rt : Rt wC v p l e R s m args below meth c 0 0 Q cX9_twos false (some (.int res.1)) res.2) {k5 : Nat → Int32 → Int32 → Int32 → Hp → Option (Int32 × Hp)} {r1 : Nat} {x2 : Int32} {x3 : Int32} {x4 : Int32} {σ : Hp} (hr1 : isW r1 = true) (hk5 : ∀ (r1 : Nat) (x2 : Int32) (x3 : Int32) (x4 : Int32) (σ : Hp), (hr1 : isW r1 = true) → k5 r1 x2 x3 x4 σ = some res → Go wC v p l e R s m args below meth c 0 0 Q 7 5 [(0, .ref 19), (1, .ref r1), (2, .int x2), (3, .int x3), (4, .int x4)] [] σ) (h : J_X9_twos_101  k5 r1 x2 x3 x4 σ = some res) : Go wC v p l e R s m args below meth c 0 0 Q 7 101 [(0, .ref 19), (1, .ref r1), (2, .int x2), (3, .int x3), (4, .int x4)] [] σ := by
  unfold J_X9_twos_101 at h
  refine go_iinc (lv' := [(4, .int (x4 + (1 : Int32))), (0, .ref 19), (1, .ref r1), (2, .int x2), (3, .int x3)]) X 4 (dk dt_X9_twos_3 5 rfl) rfl ci_1 (by decide) rfl ?_
  refine go_goto (tgt := 5) X (dk dt_X9_twos_3 6 rfl) (by decide) ?_
  refine go_sub [1, 2, 3, 4, 0] rfl ?_
  exact hk5 _ _ _ _ _ hr1 h
set_option maxRecDepth 20000 in
theorem lkB_X9_twos_5 (hi : zInj wC v) (xc : XC wC v) (nx : NXC v) (X : Cx wC v p R s m args c 0 0 cX9_twos 7 RX9 4) (rt : Rt wC v p l e R s m args below meth c 0 0 Q cX9_twos false (some (.int res.1)) res.2) {k5 : Nat → Int32 → Int32 → Int32 → Hp → Option (Int32 × Hp)} {r1 : Nat} {x2 : Int32} {x3 : Int32} {x4 : Int32} {σ : Hp} (hr1 : isW r1 = true) (hk5 : ∀ (r1 : Nat) (x2 : Int32) (x3 : Int32) (x4 : Int32) (σ : Hp), (hr1 : isW r1 = true) → k5 r1 x2 x3 x4 σ = some res → Go wC v p l e R s m args below meth c 0 0 Q 7 5 [(0, .ref 19), (1, .ref r1), (2, .int x2), (3, .int x3), (4, .int x4)] [] σ) (h : B_X9_twos_5  k5 r1 x2 x3 x4 σ = some res) : Go wC v p l e R s m args below meth c 0 0 Q 7 5 [(0, .ref 19), (1, .ref r1), (2, .int x2), (3, .int x3), (4, .int x4)] [] σ := by
  unfold B_X9_twos_5 at h
  refine go_iload X 4 (dk dt_X9_twos_0 4 rfl) rfl ?_
  refine go_bipush X (dk dt_X9_twos_0 5 rfl) cb_8 ?_
  refine go_icmp_ge (tgt := 107) X (dk dt_X9_twos_0 6 rfl) (by decide) h (fun h => ?_) (fun h => ?_)
  · refine go_iload_n X 3 (dk dt_X9_twos_3 7 rfl) rfl rfl ?_
    exact go_iret rt (dk dt_X9_twos_3 8 rfl) h (fun hh => nomatch hh)
  · refine go_iconst X (dk dt_X9_twos_0 7 rfl) ci_0 ?_
    refine go_istore (lv' := [(5, .int (0 : Int32)), (0, .ref 19), (1, .ref r1), (2, .int x2), (3, .int x3), (4, .int x4)]) X (dk dt_X9_twos_0 8 rfl) (by decide) rfl ?_
    refine go_sub [1, 2, 3, 4, 5, 0] rfl ?_
    exact lkL_X9_twos_15 hi xc nx X rt (fun _ _ _ _ _ hq0 hh => lkJ_X9_twos_101 hi xc nx X rt hq0 hk5 hh) FU hr1 h
set_option maxRecDepth 20000 in
theorem lkL_X9_twos_5 (hi : zInj wC v) (xc : XC wC v) (nx : NXC v) (X : Cx wC v p R s m args c 0 0 cX9_twos 7 RX9 4) (rt : Rt wC v p l e R s m args below meth c 0 0 Q cX9_twos false (some (.int res.1)) res.2)   (n : Nat) : ∀ {r1 : Nat} {x2 : Int32} {x3 : Int32} {x4 : Int32} {σ : Hp}, (hr1 : isW r1 = true) → L_X9_twos_5   n r1 x2 x3 x4 σ = some res → Go wC v p l e R s m args below meth c 0 0 Q 7 5 [(0, .ref 19), (1, .ref r1), (2, .int x2), (3, .int x3), (4, .int x4)] [] σ := by
  induction n with
  | zero => intro r1 x2 x3 x4 σ hr1 h; cases h
  | succ n ih =>
    intro r1 x2 x3 x4 σ hr1 h
    exact lkB_X9_twos_5 hi xc nx X rt hr1 (fun _ _ _ _ _ hq0 hh => ih hq0 hh) h
set_option maxRecDepth 20000 in
theorem lkF_X9_twos (hi : zInj wC v) (xc : XC wC v) (nx : NXC v) (X : Cx wC v p R s m args c 0 0 cX9_twos 7 RX9 4) (rt : Rt wC v p l e R s m args below meth c 0 0 Q cX9_twos false (some (.int res.1)) res.2) {a1 : Nat} {a2 : Int32} {σ : Hp} (ha1 : isW a1 = true) (h : F_X9_twos  a1 a2 σ = some res) : Go wC v p l e R s m args below meth c 0 0 Q 7 0 [(0, .ref 19), (1, .ref a1), (2, .int a2)] [] σ := by
  unfold F_X9_twos at h
  refine go_iconst X (dk dt_X9_twos_0 0 rfl) ci_0 ?_
  refine go_istore_n (lv' := [(3, .int (0 : Int32)), (0, .ref 19), (1, .ref a1), (2, .int a2)]) X (dk dt_X9_twos_0 1 rfl) rfl (by decide) rfl ?_
  refine go_iconst X (dk dt_X9_twos_0 2 rfl) ci_0 ?_
  refine go_istore (lv' := [(4, .int (0 : Int32)), (3, .int (0 : Int32)), (0, .ref 19), (1, .ref a1), (2, .int a2)]) X (dk dt_X9_twos_0 3 rfl) (by decide) rfl ?_
  refine go_sub [2, 3, 4, 1, 0] rfl ?_
  exact lkL_X9_twos_5 hi xc nx X rt  FU ha1 h
set_option maxRecDepth 20000 in
theorem ct_X9_twos (hi : zInj wC v) (xc : XC wC v) (nx : NXC v)  {a1 : Nat} {a2 : Int32} {σ : Hp} (ha1 : isW a1 = true) {q : (Int32 × Hp)} (h : F_X9_twos  a1 a2 σ = some q) : Ct wC v l yX9_twos cX9_twos 7 (some .int) 4 [.ref 19, .ref a1, .int a2] σ (some (.int q.1)) q.2 :=
  Ct.intro false (by decide) hi xc (Nat.le_of_ble_eq_true rfl) rfl (fun p e R s m args below meth c Q X rt => lkF_X9_twos hi xc nx X rt ha1 h)
end
def T_V_overTrees_0 : DT := [(0, .iload_n 1, 1), (1, .iconst 0, 1), (2, .iconst 2, 1), (3, .invokestatic 119, 3), (6, .ifCond .ne 5, 3), (9, .iconst (-1), 1), (10, .ireturn, 1), (11, .aload_n 0, 1), (12, .getfield 25, 3), (15, .aload_n 0, 1), (16, .getfield 10, 3), (19, .iconst (-1), 1), (20, .invokevirtual 242, 3), (23, .istore_n 2, 1), (24, .iload_n 1, 1), (25, .ifCond .ne 5, 3)]
theorem dt_V_overTrees_0 : dOk cX11_overTrees T_V_overTrees_0 := by unfold dOk; decide +kernel
def T_V_overTrees_1 : DT := [(28, .iload_n 2, 1), (29, .ireturn, 1), (30, .bipush (-2), 2), (32, .istore_n 3, 1), (33, .iconst 0, 1), (34, .istore 4, 2), (36, .iconst 0, 1), (37, .istore 5, 2), (39, .iload 5, 2), (41, .bipush 24, 2), (43, .if_icmp .ge 57, 3), (46, .aload_n 0, 1), (47, .getfield 25, 3), (50, .getfield 138, 3), (53, .iload 5, 2), (55, .iaload, 1)]
theorem dt_V_overTrees_1 : dOk cX11_overTrees T_V_overTrees_1 := by unfold dOk; decide +kernel
def T_V_overTrees_2 : DT := [(56, .ifCond .ne 7, 3), (59, .iconst 0, 1), (60, .goto 18, 3), (63, .aload_n 0, 1), (64, .getfield 25, 3), (67, .aload_n 0, 1), (68, .getfield 10, 3), (71, .iload 5, 2), (73, .invokevirtual 242, 3), (76, .iload_n 2, 1), (77, .isub, 1), (78, .istore 6, 2), (80, .iload 6, 2), (82, .iload 4, 2), (84, .if_icmp .le 10, 3), (87, .iload 5, 2)]
theorem dt_V_overTrees_2 : dOk cX11_overTrees T_V_overTrees_2 := by unfold dOk; decide +kernel
def T_V_overTrees_3 : DT := [(89, .istore_n 3, 1), (90, .iload 6, 2), (92, .istore 4, 2), (94, .iinc 5 1, 3), (97, .goto (-58), 3), (100, .iload_n 1, 1), (101, .iconst 1, 1), (102, .if_icmp .ne 7, 3), (105, .iload_n 3, 1), (106, .goto 5, 3), (109, .iload 4, 2), (111, .ireturn, 1)]
theorem dt_V_overTrees_3 : dOk cX11_overTrees T_V_overTrees_3 := by unfold dOk; decide +kernel
section
variable {v : ZV} {l : Launch} {p : Program} {e : Env} {R : Room} {s : State} {m : MethodId} {args : Array Value} {below : List Frame} {meth : Method} {c : Code} {Q : State → Prop} {res : (Int32 × Hp)} 
set_option maxRecDepth 20000 in
theorem lkJ_V_overTrees_78 (hi : zInj wC v) (xc : XC wC v) (nx : NXC v) (X : Cx wC v p R s m args c 0 0 cX11_overTrees 7 RX11 6) (rt : Rt wC v p l e R s m args below meth c 0 0 Q cX11_overTrees false (some (.int res.1)) res.2) {k39 : Int32 → Int32 → Int32 → Int32 → Int32 → Hp → Option (Int32 × Hp)} {x1 : Int32} {x2 : Int32} {x3 : Int32} {x4 : Int32} {x5 : Int32} {s0 : Int32} {σ : Hp}  (hk39 : ∀ (x1 : Int32) (x2 : Int32) (x3 : Int32) (x4 : Int32) (x5 : Int32) (σ : Hp),  k39 x1 x2 x3 x4 x5 σ = some res → Go wC v p l e R s m args below meth c 0 0 Q 7 39 [(0, .ref 0), (1, .int x1), (2, .int x2), (3, .int x3), (4, .int x4), (5, .int x5)] [] σ) (h : J_V_overTrees_78  k39 x1 x2 x3 x4 x5 s0 σ = some res) : Go wC v p l e R s m args below meth c 0 0 Q 7 78 [(0, .ref 0), (1, .int x1), (2, .int x2), (3, .int x3), (4, .int x4), (5, .int x5)] [.int s0] σ := by
  unfold J_V_overTrees_78 at h
  refine go_istore (lv' := [(6, .int s0), (0, .ref 0), (1, .int x1), (2, .int x2), (3, .int x3), (4, .int x4), (5, .int x5)]) X (dk dt_V_overTrees_2 11 rfl) (by decide) rfl ?_
  refine go_iload X 0 (dk dt_V_overTrees_2 12 rfl) rfl ?_
  refine go_iload X 5 (dk dt_V_overTrees_2 13 rfl) rfl ?_
  refine go_icmp_le (tgt := 94) X (dk dt_V_overTrees_2 14 rfl) (by decide) h (fun h => ?_) (fun h => ?_)
  · refine go_iinc (lv' := [(5, .int (x5 + (1 : Int32))), (6, .int s0), (0, .ref 0), (1, .int x1), (2, .int x2), (3, .int x3), (4, .int x4)]) X 6 (dk dt_V_overTrees_3 3 rfl) rfl ci_1 (by decide) rfl ?_
    refine go_goto (tgt := 39) X (dk dt_V_overTrees_3 4 rfl) (by decide) ?_
    refine go_sub [2, 3, 4, 5, 6, 0] rfl ?_
    exact hk39 _ _ _ _ _ _  h
  · refine go_iload X 6 (dk dt_V_overTrees_2 15 rfl) rfl ?_
    refine go_istore_n (lv' := [(3, .int x5), (6, .int s0), (0, .ref 0), (1, .int x1), (2, .int x2), (4, .int x4), (5, .int x5)]) X (dk dt_V_overTrees_3 0 rfl) rfl (by decide) rfl ?_
    refine go_iload X 1 (dk dt_V_overTrees_3 1 rfl) rfl ?_
    refine go_istore (lv' := [(4, .int s0), (3, .int x5), (6, .int s0), (0, .ref 0), (1, .int x1), (2, .int x2), (5, .int x5)]) X (dk dt_V_overTrees_3 2 rfl) (by decide) rfl ?_
    refine go_iinc (lv' := [(5, .int (x5 + (1 : Int32))), (4, .int s0), (3, .int x5), (6, .int s0), (0, .ref 0), (1, .int x1), (2, .int x2)]) X 6 (dk dt_V_overTrees_3 3 rfl) rfl ci_1 (by decide) rfl ?_
    refine go_goto (tgt := 39) X (dk dt_V_overTrees_3 4 rfl) (by decide) ?_
    refine go_sub [4, 5, 6, 2, 1, 0] rfl ?_
    exact hk39 _ _ _ _ _ _  h
set_option maxRecDepth 20000 in
theorem lkB_V_overTrees_39 (hi : zInj wC v) (xc : XC wC v) (nx : NXC v) (X : Cx wC v p R s m args c 0 0 cX11_overTrees 7 RX11 6) (rt : Rt wC v p l e R s m args below meth c 0 0 Q cX11_overTrees false (some (.int res.1)) res.2) {k100 : Int32 → Int32 → Int32 → Hp → Option (Int32 × Hp)} {k39 : Int32 → Int32 → Int32 → Int32 → Int32 → Hp → Option (Int32 × Hp)} {x1 : Int32} {x2 : Int32} {x3 : Int32} {x4 : Int32} {x5 : Int32} {σ : Hp}  (hk100 : ∀ (x1 : Int32) (x3 : Int32) (x4 : Int32) (σ : Hp),  k100 x1 x3 x4 σ = some res → Go wC v p l e R s m args below meth c 0 0 Q 7 100 [(1, .int x1), (3, .int x3), (4, .int x4)] [] σ) (hk39 : ∀ (x1 : Int32) (x2 : Int32) (x3 : Int32) (x4 : Int32) (x5 : Int32) (σ : Hp),  k39 x1 x2 x3 x4 x5 σ = some res → Go wC v p l e R s m args below meth c 0 0 Q 7 39 [(0, .ref 0), (1, .int x1), (2, .int x2), (3, .int x3), (4, .int x4), (5, .int x5)] [] σ) (h : B_V_overTrees_39  k100 k39 x1 x2 x3 x4 x5 σ = some res) : Go wC v p l e R s m args below meth c 0 0 Q 7 39 [(0, .ref 0), (1, .int x1), (2, .int x2), (3, .int x3), (4, .int x4), (5, .int x5)] [] σ := by
  unfold B_V_overTrees_39 at h
  refine go_iload X 5 (dk dt_V_overTrees_1 8 rfl) rfl ?_
  refine go_bipush X (dk dt_V_overTrees_1 9 rfl) cb_24 ?_
  refine go_icmp_ge (tgt := 100) X (dk dt_V_overTrees_1 10 rfl) (by decide) h (fun h => ?_) (fun h => ?_)
  · refine go_sub [1, 3, 4] rfl ?_
    exact hk100 _ _ _ _  h
  · refine go_aload_n X 0 (dk dt_V_overTrees_1 11 rfl) rfl rfl ?_
    refine go_getr X fo_X11_25 lC_0 sC_0 fC_0_3 (dk dt_V_overTrees_1 12 rfl) ?_
    refine go_getr X fo_X11_138 lC_19 sC_19 fC_19_0 (dk dt_V_overTrees_1 13 rfl) ?_
    refine go_iload X 5 (dk dt_V_overTrees_1 14 rfl) rfl ?_
    refine go_iald X lC_20 sC_20 (dk dt_V_overTrees_1 15 rfl) h (fun h => ?_)
    refine go_if_ne (tgt := 63) X (dk dt_V_overTrees_2 0 rfl) (by decide) h (fun h => ?_) (fun h => ?_)
    · refine go_aload_n X 0 (dk dt_V_overTrees_2 3 rfl) rfl rfl ?_
      refine go_getr X fo_X11_25 lC_0 sC_0 fC_0_3 (dk dt_V_overTrees_2 4 rfl) ?_
      refine go_aload_n X 0 (dk dt_V_overTrees_2 5 rfl) rfl rfl ?_
      refine go_getr X fo_X11_10 lC_0 sC_0 fC_0_0 (dk dt_V_overTrees_2 6 rfl) ?_
      refine go_iload X 5 (dk dt_V_overTrees_2 7 rfl) rfl ?_
      refine go_Vi (As := [.ref 1, .int x5]) (rest := []) X vo_X11_242 (fun q hq => ct_X9_twos hi xc nx (by decide : isW 1 = true) hq) (by decide) rfl lC_19 sC_19 rfl rfl (Nat.le_of_ble_eq_true rfl) (dk dt_V_overTrees_2 8 rfl) h (fun q73 h => ?_)
      refine go_iload_n X 2 (dk dt_V_overTrees_2 9 rfl) rfl rfl ?_
      refine go_isub X (dk dt_V_overTrees_2 10 rfl) ?_
      exact lkJ_V_overTrees_78 hi xc nx X rt  hk39 h
    · refine go_iconst X (dk dt_V_overTrees_2 1 rfl) ci_0 ?_
      refine go_goto (tgt := 78) X (dk dt_V_overTrees_2 2 rfl) (by decide) ?_
      exact lkJ_V_overTrees_78 hi xc nx X rt  hk39 h
set_option maxRecDepth 20000 in
theorem lkL_V_overTrees_39 (hi : zInj wC v) (xc : XC wC v) (nx : NXC v) (X : Cx wC v p R s m args c 0 0 cX11_overTrees 7 RX11 6) (rt : Rt wC v p l e R s m args below meth c 0 0 Q cX11_overTrees false (some (.int res.1)) res.2) {k100 : Int32 → Int32 → Int32 → Hp → Option (Int32 × Hp)} (hk100 : ∀ (x1 : Int32) (x3 : Int32) (x4 : Int32) (σ : Hp),  k100 x1 x3 x4 σ = some res → Go wC v p l e R s m args below meth c 0 0 Q 7 100 [(1, .int x1), (3, .int x3), (4, .int x4)] [] σ) (n : Nat) : ∀ {x1 : Int32} {x2 : Int32} {x3 : Int32} {x4 : Int32} {x5 : Int32} {σ : Hp},  L_V_overTrees_39  k100 n x1 x2 x3 x4 x5 σ = some res → Go wC v p l e R s m args below meth c 0 0 Q 7 39 [(0, .ref 0), (1, .int x1), (2, .int x2), (3, .int x3), (4, .int x4), (5, .int x5)] [] σ := by
  induction n with
  | zero => intro x1 x2 x3 x4 x5 σ  h; cases h
  | succ n ih =>
    intro x1 x2 x3 x4 x5 σ  h
    exact lkB_V_overTrees_39 hi xc nx X rt  hk100 (fun _ _ _ _ _ _  hh => ih  hh) h
set_option maxRecDepth 20000 in
theorem lkJ_V_overTrees_100 (hi : zInj wC v) (xc : XC wC v) (nx : NXC v) (X : Cx wC v p R s m args c 0 0 cX11_overTrees 7 RX11 6) (rt : Rt wC v p l e R s m args below meth c 0 0 Q cX11_overTrees false (some (.int res.1)) res.2)  {x1 : Int32} {x3 : Int32} {x4 : Int32} {σ : Hp}   (h : J_V_overTrees_100   x1 x3 x4 σ = some res) : Go wC v p l e R s m args below meth c 0 0 Q 7 100 [(1, .int x1), (3, .int x3), (4, .int x4)] [] σ := by
  unfold J_V_overTrees_100 at h
  refine go_iload_n X 0 (dk dt_V_overTrees_3 5 rfl) rfl rfl ?_
  refine go_iconst X (dk dt_V_overTrees_3 6 rfl) ci_1 ?_
  refine go_icmp_ne (tgt := 109) X (dk dt_V_overTrees_3 7 rfl) (by decide) h (fun h => ?_) (fun h => ?_)
  · refine go_iload X 2 (dk dt_V_overTrees_3 10 rfl) rfl ?_
    exact go_iret rt (dk dt_V_overTrees_3 11 rfl) h (fun hh => nomatch hh)
  · refine go_iload_n X 1 (dk dt_V_overTrees_3 8 rfl) rfl rfl ?_
    refine go_goto (tgt := 111) X (dk dt_V_overTrees_3 9 rfl) (by decide) ?_
    exact go_iret rt (dk dt_V_overTrees_3 11 rfl) h (fun hh => nomatch hh)
set_option maxRecDepth 20000 in
theorem lkF_V_overTrees (hi : zInj wC v) (xc : XC wC v) (nx : NXC v) (X : Cx wC v p R s m args c 0 0 cX11_overTrees 7 RX11 6) (rt : Rt wC v p l e R s m args below meth c 0 0 Q cX11_overTrees false (some (.int res.1)) res.2) {a1 : Int32} {σ : Hp}  (h : F_V_overTrees  a1 σ = some res) : Go wC v p l e R s m args below meth c 0 0 Q 7 0 [(0, .ref 0), (1, .int a1)] [] σ := by
  unfold F_V_overTrees at h
  refine go_iload_n X 1 (dk dt_V_overTrees_0 0 rfl) rfl rfl ?_
  refine go_iconst X (dk dt_V_overTrees_0 1 rfl) ci_0 ?_
  refine go_iconst X (dk dt_V_overTrees_0 2 rfl) ci_2 ?_
  refine go_Si (As := [.int a1, .int (0 : Int32), .int (2 : Int32)]) (rest := []) X so_X11_119 (fun q hq => ct_V_within hi xc nx  hq) (by decide) rfl rfl (Nat.le_of_ble_eq_true rfl) (dk dt_V_overTrees_0 3 rfl) h (fun q3 h => ?_)
  refine go_if_ne (tgt := 11) X (dk dt_V_overTrees_0 4 rfl) (by decide) h (fun h => ?_) (fun h => ?_)
  · refine go_aload_n X 0 (dk dt_V_overTrees_0 7 rfl) rfl rfl ?_
    refine go_getr X fo_X11_25 lC_0 sC_0 fC_0_3 (dk dt_V_overTrees_0 8 rfl) ?_
    refine go_aload_n X 0 (dk dt_V_overTrees_0 9 rfl) rfl rfl ?_
    refine go_getr X fo_X11_10 lC_0 sC_0 fC_0_0 (dk dt_V_overTrees_0 10 rfl) ?_
    refine go_iconst X (dk dt_V_overTrees_0 11 rfl) ci_m1 ?_
    refine go_Vi (As := [.ref 1, .int (-1 : Int32)]) (rest := []) X vo_X11_242 (fun q hq => ct_X9_twos hi xc nx (by decide : isW 1 = true) hq) (by decide) rfl lC_19 sC_19 rfl rfl (Nat.le_of_ble_eq_true rfl) (dk dt_V_overTrees_0 12 rfl) h (fun q20 h => ?_)
    refine go_istore_n (lv' := [(2, .int q20.1), (0, .ref 0), (1, .int a1)]) X (dk dt_V_overTrees_0 13 rfl) rfl (by decide) rfl ?_
    refine go_iload_n X 2 (dk dt_V_overTrees_0 14 rfl) rfl rfl ?_
    refine go_if_ne (tgt := 30) X (dk dt_V_overTrees_0 15 rfl) (by decide) h (fun h => ?_) (fun h => ?_)
    · refine go_bipush X (dk dt_V_overTrees_1 2 rfl) cb_m2 ?_
      refine go_istore_n (lv' := [(3, .int (-2 : Int32)), (2, .int q20.1), (0, .ref 0), (1, .int a1)]) X (dk dt_V_overTrees_1 3 rfl) rfl (by decide) rfl ?_
      refine go_iconst X (dk dt_V_overTrees_1 4 rfl) ci_0 ?_
      refine go_istore (lv' := [(4, .int (0 : Int32)), (3, .int (-2 : Int32)), (2, .int q20.1), (0, .ref 0), (1, .int a1)]) X (dk dt_V_overTrees_1 5 rfl) (by decide) rfl ?_
      refine go_iconst X (dk dt_V_overTrees_1 6 rfl) ci_0 ?_
      refine go_istore (lv' := [(5, .int (0 : Int32)), (4, .int (0 : Int32)), (3, .int (-2 : Int32)), (2, .int q20.1), (0, .ref 0), (1, .int a1)]) X (dk dt_V_overTrees_1 7 rfl) (by decide) rfl ?_
      refine go_sub [4, 5, 3, 2, 1, 0] rfl ?_
      exact lkL_V_overTrees_39 hi xc nx X rt (fun _ _ _ _  hh => lkJ_V_overTrees_100 hi xc nx X rt   hh) FU  h
    · refine go_iload_n X 0 (dk dt_V_overTrees_1 0 rfl) rfl rfl ?_
      exact go_iret rt (dk dt_V_overTrees_1 1 rfl) h (fun hh => nomatch hh)
  · refine go_iconst X (dk dt_V_overTrees_0 5 rfl) ci_m1 ?_
    exact go_iret rt (dk dt_V_overTrees_0 6 rfl) h (fun hh => nomatch hh)
set_option maxRecDepth 20000 in
theorem ct_V_overTrees (hi : zInj wC v) (xc : XC wC v) (nx : NXC v)  {a1 : Int32} {σ : Hp}  {q : (Int32 × Hp)} (h : F_V_overTrees  a1 σ = some q) : Ct wC v l yX11_overTrees cX11_overTrees 7 (some .int) 6 [.ref 0, .int a1] σ (some (.int q.1)) q.2 :=
  Ct.intro false (by decide) hi xc (Nat.le_of_ble_eq_true rfl) rfl (fun p e R s m args below meth c Q X rt => lkF_V_overTrees hi xc nx X rt  h)
end
def T_V_reckonArrivals_0 : DT := [(0, .aload_n 0, 1), (1, .getfield 88, 3), (4, .iconst 0, 1), (5, .invokestatic 353, 3), (8, .aload_n 0, 1), (9, .getfield 88, 3), (12, .iconst 0, 1), (13, .iconst 1, 1), (14, .iastore, 1), (15, .iconst 0, 1), (16, .istore_n 2, 1), (17, .iload_n 2, 1), (18, .iload_n 1, 1), (19, .if_icmp .ge 91, 3), (22, .aload_n 0, 1), (23, .getfield 32, 3)]
theorem dt_V_reckonArrivals_0 : dOk cX11_reckonArrivals T_V_reckonArrivals_0 := by unfold dOk; decide +kernel
def T_V_reckonArrivals_1 : DT := [(26, .iload_n 2, 1), (27, .invokevirtual 334, 3), (30, .istore_n 3, 1), (31, .iload_n 3, 1), (32, .iconst 0, 1), (33, .bipush 10, 2), (35, .invokestatic 119, 3), (38, .ifCond .ne 5, 3), (41, .iconst 0, 1), (42, .ireturn, 1), (43, .iload_n 2, 1), (44, .iconst 1, 1), (45, .iadd, 1), (46, .istore 4, 2), (48, .iload 4, 2), (50, .iconst 1, 1)]
theorem dt_V_reckonArrivals_1 : dOk cX11_reckonArrivals T_V_reckonArrivals_1 := by unfold dOk; decide +kernel
def T_V_reckonArrivals_2 : DT := [(51, .if_icmp .lt 40, 3), (54, .aload_n 0, 1), (55, .getfield 88, 3), (58, .iload 4, 2), (60, .aload_n 0, 1), (61, .getfield 88, 3), (64, .iload 4, 2), (66, .iaload, 1), (67, .bipush 10, 2), (69, .iload_n 3, 1), (70, .isub, 1), (71, .imul, 1), (72, .aload_n 0, 1), (73, .getfield 88, 3), (76, .iload 4, 2), (78, .iconst 1, 1)]
theorem dt_V_reckonArrivals_2 : dOk cX11_reckonArrivals T_V_reckonArrivals_2 := by unfold dOk; decide +kernel
def T_V_reckonArrivals_3 : DT := [(79, .isub, 1), (80, .iaload, 1), (81, .iload_n 3, 1), (82, .imul, 1), (83, .iadd, 1), (84, .iastore, 1), (85, .iinc 4 (-1), 3), (88, .goto (-40), 3), (91, .aload_n 0, 1), (92, .getfield 88, 3), (95, .iconst 0, 1), (96, .dup2, 1), (97, .iaload, 1), (98, .bipush 10, 2), (100, .iload_n 3, 1), (101, .isub, 1)]
theorem dt_V_reckonArrivals_3 : dOk cX11_reckonArrivals T_V_reckonArrivals_3 := by unfold dOk; decide +kernel
def T_V_reckonArrivals_4 : DT := [(102, .imul, 1), (103, .iastore, 1), (104, .iinc 2 1, 3), (107, .goto (-90), 3), (110, .iconst 1, 1), (111, .ireturn, 1)]
theorem dt_V_reckonArrivals_4 : dOk cX11_reckonArrivals T_V_reckonArrivals_4 := by unfold dOk; decide +kernel
section
variable {v : ZV} {l : Launch} {p : Program} {e : Env} {R : Room} {s : State} {m : MethodId} {args : Array Value} {below : List Frame} {meth : Method} {c : Code} {Q : State → Prop} {res : (Int32 × Hp)} 
set_option maxRecDepth 20000 in
theorem lkB_V_reckonArrivals_48 (hi : zInj wC v) (xc : XC wC v) (nx : NXC v) (X : Cx wC v p R s m args c 0 0 cX11_reckonArrivals 5 RX11 4) (rt : Rt wC v p l e R s m args below meth c 0 0 Q cX11_reckonArrivals true (some (.int res.1)) res.2) {k91 : Int32 → Int32 → Int32 → Hp → Option (Int32 × Hp)} {k48 : Int32 → Int32 → Int32 → Int32 → Hp → Option (Int32 × Hp)} {x1 : Int32} {x2 : Int32} {x3 : Int32} {x4 : Int32} {σ : Hp}  (hk91 : ∀ (x1 : Int32) (x2 : Int32) (x3 : Int32) (σ : Hp),  k91 x1 x2 x3 σ = some res → Go wC v p l e R s m args below meth c 0 0 Q 5 91 [(0, .ref 0), (1, .int x1), (2, .int x2), (3, .int x3)] [] σ) (hk48 : ∀ (x1 : Int32) (x2 : Int32) (x3 : Int32) (x4 : Int32) (σ : Hp),  k48 x1 x2 x3 x4 σ = some res → Go wC v p l e R s m args below meth c 0 0 Q 5 48 [(0, .ref 0), (1, .int x1), (2, .int x2), (3, .int x3), (4, .int x4)] [] σ) (h : B_V_reckonArrivals_48  k91 k48 x1 x2 x3 x4 σ = some res) : Go wC v p l e R s m args below meth c 0 0 Q 5 48 [(0, .ref 0), (1, .int x1), (2, .int x2), (3, .int x3), (4, .int x4)] [] σ := by
  unfold B_V_reckonArrivals_48 at h
  refine go_iload X 4 (dk dt_V_reckonArrivals_1 14 rfl) rfl ?_
  refine go_iconst X (dk dt_V_reckonArrivals_1 15 rfl) ci_1 ?_
  refine go_icmp_lt (tgt := 91) X (dk dt_V_reckonArrivals_2 0 rfl) (by decide) h (fun h => ?_) (fun h => ?_)
  · refine go_sub [0, 1, 2, 3] rfl ?_
    exact hk91 _ _ _ _  h
  · refine go_aload_n X 0 (dk dt_V_reckonArrivals_2 1 rfl) rfl rfl ?_
    refine go_getr X fo_X11_88 lC_0 sC_0 fC_0_13 (dk dt_V_reckonArrivals_2 2 rfl) ?_
    refine go_iload X 4 (dk dt_V_reckonArrivals_2 3 rfl) rfl ?_
    refine go_aload_n X 0 (dk dt_V_reckonArrivals_2 4 rfl) rfl rfl ?_
    refine go_getr X fo_X11_88 lC_0 sC_0 fC_0_13 (dk dt_V_reckonArrivals_2 5 rfl) ?_
    refine go_iload X 4 (dk dt_V_reckonArrivals_2 6 rfl) rfl ?_
    refine go_iald X lC_41 sC_41 (dk dt_V_reckonArrivals_2 7 rfl) h (fun h => ?_)
    refine go_bipush X (dk dt_V_reckonArrivals_2 8 rfl) cb_10 ?_
    refine go_iload_n X 3 (dk dt_V_reckonArrivals_2 9 rfl) rfl rfl ?_
    refine go_isub X (dk dt_V_reckonArrivals_2 10 rfl) ?_
    refine go_imul X (dk dt_V_reckonArrivals_2 11 rfl) ?_
    refine go_aload_n X 0 (dk dt_V_reckonArrivals_2 12 rfl) rfl rfl ?_
    refine go_getr X fo_X11_88 lC_0 sC_0 fC_0_13 (dk dt_V_reckonArrivals_2 13 rfl) ?_
    refine go_iload X 4 (dk dt_V_reckonArrivals_2 14 rfl) rfl ?_
    refine go_iconst X (dk dt_V_reckonArrivals_2 15 rfl) ci_1 ?_
    refine go_isub X (dk dt_V_reckonArrivals_3 0 rfl) ?_
    refine go_iald X lC_41 sC_41 (dk dt_V_reckonArrivals_3 1 rfl) h (fun h => ?_)
    refine go_iload_n X 3 (dk dt_V_reckonArrivals_3 2 rfl) rfl rfl ?_
    refine go_imul X (dk dt_V_reckonArrivals_3 3 rfl) ?_
    refine go_iadd X (dk dt_V_reckonArrivals_3 4 rfl) ?_
    refine go_iast X lC_41 sC_41 (dk dt_V_reckonArrivals_3 5 rfl) h (fun h => ?_)
    refine go_iinc (lv' := [(4, .int (x4 + (-1 : Int32))), (0, .ref 0), (1, .int x1), (2, .int x2), (3, .int x3)]) X 4 (dk dt_V_reckonArrivals_3 6 rfl) rfl ci_m1 (by decide) rfl ?_
    refine go_goto (tgt := 48) X (dk dt_V_reckonArrivals_3 7 rfl) (by decide) ?_
    refine go_sub [1, 2, 3, 4, 0] rfl ?_
    exact hk48 _ _ _ _ _  h
set_option maxRecDepth 20000 in
theorem lkL_V_reckonArrivals_48 (hi : zInj wC v) (xc : XC wC v) (nx : NXC v) (X : Cx wC v p R s m args c 0 0 cX11_reckonArrivals 5 RX11 4) (rt : Rt wC v p l e R s m args below meth c 0 0 Q cX11_reckonArrivals true (some (.int res.1)) res.2) {k91 : Int32 → Int32 → Int32 → Hp → Option (Int32 × Hp)} (hk91 : ∀ (x1 : Int32) (x2 : Int32) (x3 : Int32) (σ : Hp),  k91 x1 x2 x3 σ = some res → Go wC v p l e R s m args below meth c 0 0 Q 5 91 [(0, .ref 0), (1, .int x1), (2, .int x2), (3, .int x3)] [] σ) (n : Nat) : ∀ {x1 : Int32} {x2 : Int32} {x3 : Int32} {x4 : Int32} {σ : Hp},  L_V_reckonArrivals_48  k91 n x1 x2 x3 x4 σ = some res → Go wC v p l e R s m args below meth c 0 0 Q 5 48 [(0, .ref 0), (1, .int x1), (2, .int x2), (3, .int x3), (4, .int x4)] [] σ := by
  induction n with
  | zero => intro x1 x2 x3 x4 σ  h; cases h
  | succ n ih =>
    intro x1 x2 x3 x4 σ  h
    exact lkB_V_reckonArrivals_48 hi xc nx X rt  hk91 (fun _ _ _ _ _  hh => ih  hh) h
set_option maxRecDepth 20000 in
theorem lkJ_V_reckonArrivals_91 (hi : zInj wC v) (xc : XC wC v) (nx : NXC v) (X : Cx wC v p R s m args c 0 0 cX11_reckonArrivals 5 RX11 4) (rt : Rt wC v p l e R s m args below meth c 0 0 Q cX11_reckonArrivals true (some (.int res.1)) res.2) {k17 : Int32 → Int32 → Hp → Option (Int32 × Hp)} {x1 : Int32} {x2 : Int32} {x3 : Int32} {σ : Hp}  (hk17 : ∀ (x1 : Int32) (x2 : Int32) (σ : Hp),  k17 x1 x2 σ = some res → Go wC v p l e R s m args below meth c 0 0 Q 5 17 [(0, .ref 0), (1, .int x1), (2, .int x2)] [] σ) (h : J_V_reckonArrivals_91  k17 x1 x2 x3 σ = some res) : Go wC v p l e R s m args below meth c 0 0 Q 5 91 [(0, .ref 0), (1, .int x1), (2, .int x2), (3, .int x3)] [] σ := by
  unfold J_V_reckonArrivals_91 at h
  refine go_aload_n X 0 (dk dt_V_reckonArrivals_3 8 rfl) rfl rfl ?_
  refine go_getr X fo_X11_88 lC_0 sC_0 fC_0_13 (dk dt_V_reckonArrivals_3 9 rfl) ?_
  refine go_iconst X (dk dt_V_reckonArrivals_3 10 rfl) ci_0 ?_
  refine go_dup2 X (dk dt_V_reckonArrivals_3 11 rfl) rfl rfl ?_
  refine go_iald X lC_41 sC_41 (dk dt_V_reckonArrivals_3 12 rfl) h (fun h => ?_)
  refine go_bipush X (dk dt_V_reckonArrivals_3 13 rfl) cb_10 ?_
  refine go_iload_n X 3 (dk dt_V_reckonArrivals_3 14 rfl) rfl rfl ?_
  refine go_isub X (dk dt_V_reckonArrivals_3 15 rfl) ?_
  refine go_imul X (dk dt_V_reckonArrivals_4 0 rfl) ?_
  refine go_iast X lC_41 sC_41 (dk dt_V_reckonArrivals_4 1 rfl) h (fun h => ?_)
  refine go_iinc (lv' := [(2, .int (x2 + (1 : Int32))), (0, .ref 0), (1, .int x1), (3, .int x3)]) X 2 (dk dt_V_reckonArrivals_4 2 rfl) rfl ci_1 (by decide) rfl ?_
  refine go_goto (tgt := 17) X (dk dt_V_reckonArrivals_4 3 rfl) (by decide) ?_
  refine go_sub [1, 2, 0] rfl ?_
  exact hk17 _ _ _  h
set_option maxRecDepth 20000 in
theorem lkB_V_reckonArrivals_17 (hi : zInj wC v) (xc : XC wC v) (nx : NXC v) (X : Cx wC v p R s m args c 0 0 cX11_reckonArrivals 5 RX11 4) (rt : Rt wC v p l e R s m args below meth c 0 0 Q cX11_reckonArrivals true (some (.int res.1)) res.2) {k17 : Int32 → Int32 → Hp → Option (Int32 × Hp)} {x1 : Int32} {x2 : Int32} {σ : Hp}  (hk17 : ∀ (x1 : Int32) (x2 : Int32) (σ : Hp),  k17 x1 x2 σ = some res → Go wC v p l e R s m args below meth c 0 0 Q 5 17 [(0, .ref 0), (1, .int x1), (2, .int x2)] [] σ) (h : B_V_reckonArrivals_17  k17 x1 x2 σ = some res) : Go wC v p l e R s m args below meth c 0 0 Q 5 17 [(0, .ref 0), (1, .int x1), (2, .int x2)] [] σ := by
  unfold B_V_reckonArrivals_17 at h
  refine go_iload_n X 2 (dk dt_V_reckonArrivals_0 11 rfl) rfl rfl ?_
  refine go_iload_n X 1 (dk dt_V_reckonArrivals_0 12 rfl) rfl rfl ?_
  refine go_icmp_ge (tgt := 110) X (dk dt_V_reckonArrivals_0 13 rfl) (by decide) h (fun h => ?_) (fun h => ?_)
  · refine go_iconst X (dk dt_V_reckonArrivals_4 4 rfl) ci_1 ?_
    exact go_iret rt (dk dt_V_reckonArrivals_4 5 rfl) h (by decide)
  · refine go_aload_n X 0 (dk dt_V_reckonArrivals_0 14 rfl) rfl rfl ?_
    refine go_getr X fo_X11_32 lC_0 sC_0 fC_0_4 (dk dt_V_reckonArrivals_0 15 rfl) ?_
    refine go_iload_n X 2 (dk dt_V_reckonArrivals_1 0 rfl) rfl rfl ?_
    refine go_Vi (As := [.int x2]) (rest := []) X vo_X11_334 (fun q hq => ct_X8_byteAt hi xc nx  hq) (by decide) rfl lC_23 sC_23 rfl rfl (Nat.le_of_ble_eq_true rfl) (dk dt_V_reckonArrivals_1 1 rfl) h (fun q27 h => ?_)
    refine go_istore_n (lv' := [(3, .int q27.1), (0, .ref 0), (1, .int x1), (2, .int x2)]) X (dk dt_V_reckonArrivals_1 2 rfl) rfl (by decide) rfl ?_
    refine go_iload_n X 0 (dk dt_V_reckonArrivals_1 3 rfl) rfl rfl ?_
    refine go_iconst X (dk dt_V_reckonArrivals_1 4 rfl) ci_0 ?_
    refine go_bipush X (dk dt_V_reckonArrivals_1 5 rfl) cb_10 ?_
    refine go_Si (As := [.int q27.1, .int (0 : Int32), .int (10 : Int32)]) (rest := []) X so_X11_119 (fun q hq => ct_V_within hi xc nx  hq) (by decide) rfl rfl (Nat.le_of_ble_eq_true rfl) (dk dt_V_reckonArrivals_1 6 rfl) h (fun q35 h => ?_)
    refine go_if_ne (tgt := 43) X (dk dt_V_reckonArrivals_1 7 rfl) (by decide) h (fun h => ?_) (fun h => ?_)
    · refine go_iload_n X 3 (dk dt_V_reckonArrivals_1 10 rfl) rfl rfl ?_
      refine go_iconst X (dk dt_V_reckonArrivals_1 11 rfl) ci_1 ?_
      refine go_iadd X (dk dt_V_reckonArrivals_1 12 rfl) ?_
      refine go_istore (lv' := [(4, .int (x2 + (1 : Int32))), (3, .int q27.1), (0, .ref 0), (1, .int x1), (2, .int x2)]) X (dk dt_V_reckonArrivals_1 13 rfl) (by decide) rfl ?_
      refine go_sub [2, 3, 4, 1, 0] rfl ?_
      exact lkL_V_reckonArrivals_48 hi xc nx X rt (fun _ _ _ _  hh => lkJ_V_reckonArrivals_91 hi xc nx X rt  hk17 hh) FU  h
    · refine go_iconst X (dk dt_V_reckonArrivals_1 8 rfl) ci_0 ?_
      exact go_iret rt (dk dt_V_reckonArrivals_1 9 rfl) h (by decide)
set_option maxRecDepth 20000 in
theorem lkL_V_reckonArrivals_17 (hi : zInj wC v) (xc : XC wC v) (nx : NXC v) (X : Cx wC v p R s m args c 0 0 cX11_reckonArrivals 5 RX11 4) (rt : Rt wC v p l e R s m args below meth c 0 0 Q cX11_reckonArrivals true (some (.int res.1)) res.2)   (n : Nat) : ∀ {x1 : Int32} {x2 : Int32} {σ : Hp},  L_V_reckonArrivals_17   n x1 x2 σ = some res → Go wC v p l e R s m args below meth c 0 0 Q 5 17 [(0, .ref 0), (1, .int x1), (2, .int x2)] [] σ := by
  induction n with
  | zero => intro x1 x2 σ  h; cases h
  | succ n ih =>
    intro x1 x2 σ  h
    exact lkB_V_reckonArrivals_17 hi xc nx X rt  (fun _ _ _  hh => ih  hh) h
set_option maxRecDepth 20000 in
theorem lkF_V_reckonArrivals (hi : zInj wC v) (xc : XC wC v) (nx : NXC v) (X : Cx wC v p R s m args c 0 0 cX11_reckonArrivals 5 RX11 4) (rt : Rt wC v p l e R s m args below meth c 0 0 Q cX11_reckonArrivals true (some (.int res.1)) res.2) {a1 : Int32} {σ : Hp}  (h : F_V_reckonArrivals  a1 σ = some res) : Go wC v p l e R s m args below meth c 0 0 Q 5 0 [(0, .ref 0), (1, .int a1)] [] σ := by
  unfold F_V_reckonArrivals at h
  refine go_aload_n X 0 (dk dt_V_reckonArrivals_0 0 rfl) rfl rfl ?_
  refine go_getr X fo_X11_88 lC_0 sC_0 fC_0_13 (dk dt_V_reckonArrivals_0 1 rfl) ?_
  refine go_iconst X (dk dt_V_reckonArrivals_0 2 rfl) ci_0 ?_
  refine go_Sv (As := [.ref 41, .int (0 : Int32)]) (rest := []) X so_X11_353 (fun q hq => ct_J7_fill hi xc nx lC_41 sC_41 hq) (by decide) rfl rfl (Nat.le_of_ble_eq_true rfl) (dk dt_V_reckonArrivals_0 3 rfl) h (fun q5 h => ?_)
  refine go_aload_n X 0 (dk dt_V_reckonArrivals_0 4 rfl) rfl rfl ?_
  refine go_getr X fo_X11_88 lC_0 sC_0 fC_0_13 (dk dt_V_reckonArrivals_0 5 rfl) ?_
  refine go_iconst X (dk dt_V_reckonArrivals_0 6 rfl) ci_0 ?_
  refine go_iconst X (dk dt_V_reckonArrivals_0 7 rfl) ci_1 ?_
  refine go_iast X lC_41 sC_41 (dk dt_V_reckonArrivals_0 8 rfl) h (fun h => ?_)
  refine go_iconst X (dk dt_V_reckonArrivals_0 9 rfl) ci_0 ?_
  refine go_istore_n (lv' := [(2, .int (0 : Int32)), (0, .ref 0), (1, .int a1)]) X (dk dt_V_reckonArrivals_0 10 rfl) rfl (by decide) rfl ?_
  refine go_sub [1, 2, 0] rfl ?_
  exact lkL_V_reckonArrivals_17 hi xc nx X rt  FU  h
set_option maxRecDepth 20000 in
theorem ct_V_reckonArrivals (hi : zInj wC v) (xc : XC wC v) (nx : NXC v)  {a1 : Int32} {σ : Hp}  {q : (Int32 × Hp)} (h : F_V_reckonArrivals  a1 σ = some q) : Ct wC v l yX11_reckonArrivals cX11_reckonArrivals 5 (some .boolean) 4 [.ref 0, .int a1] σ (some (.int q.1)) q.2 :=
  Ct.intro true (by decide) hi xc (Nat.le_of_ble_eq_true rfl) rfl (fun p e R s m args below meth c Q X rt => lkF_V_reckonArrivals hi xc nx X rt  h)
end
def T_V_parrots_0 : DT := [(0, .iload_n 1, 1), (1, .iconst 1, 1), (2, .bipush 8, 2), (4, .invokestatic 119, 3), (7, .ifCond .eq 33, 3), (10, .iload_n 2, 1), (11, .iconst 0, 1), (12, .bipush 8, 2), (14, .invokestatic 119, 3), (17, .ifCond .eq 23, 3), (20, .iload_n 3, 1), (21, .iconst 0, 1), (22, .iconst 3, 1), (23, .invokestatic 119, 3), (26, .ifCond .eq 14, 3), (29, .aload_n 0, 1)]
theorem dt_V_parrots_0 : dOk cX11_parrots T_V_parrots_0 := by unfold dOk; decide +kernel
def T_V_parrots_1 : DT := [(30, .getfield 32, 3), (33, .iload_n 1, 1), (34, .invokevirtual 151, 3), (37, .ifCond .ne 5, 3), (40, .iconst (-1), 1), (41, .ireturn, 1), (42, .aload_n 0, 1), (43, .iload_n 1, 1), (44, .invokevirtual 328, 3), (47, .istore 4, 2), (49, .aload_n 0, 1), (50, .getfield 32, 3), (53, .invokevirtual 158, 3), (56, .iload 4, 2), (58, .ifCond .ne 6, 3), (61, .bipush (-2), 2)]
theorem dt_V_parrots_1 : dOk cX11_parrots T_V_parrots_1 := by unfold dOk; decide +kernel
def T_V_parrots_2 : DT := [(63, .ireturn, 1), (64, .iconst 0, 1), (65, .istore 5, 2), (67, .iconst 1, 1), (68, .istore 6, 2), (70, .iconst 0, 1), (71, .istore 7, 2), (73, .iload 7, 2), (75, .iload_n 1, 1), (76, .if_icmp .ge 16, 3), (79, .iload 6, 2), (81, .bipush 10, 2), (83, .imul, 1), (84, .istore 6, 2), (86, .iinc 7 1, 3), (89, .goto (-16), 3)]
theorem dt_V_parrots_2 : dOk cX11_parrots T_V_parrots_2 := by unfold dOk; decide +kernel
def T_V_parrots_3 : DT := [(92, .iload_n 2, 1), (93, .istore 7, 2), (95, .iload 7, 2), (97, .iload_n 1, 1), (98, .if_icmp .gt 32, 3), (101, .iload_n 3, 1), (102, .iconst 2, 1), (103, .if_icmp .lt 9, 3), (106, .iload 7, 2), (108, .iload_n 2, 1), (109, .if_icmp .ne 15, 3), (112, .iload 5, 2), (114, .aload_n 0, 1), (115, .getfield 88, 3), (118, .iload 7, 2), (120, .iaload, 1)]
theorem dt_V_parrots_3 : dOk cX11_parrots T_V_parrots_3 := by unfold dOk; decide +kernel
def T_V_parrots_4 : DT := [(121, .iadd, 1), (122, .istore 5, 2), (124, .iinc 7 1, 3), (127, .goto (-32), 3), (130, .iload 5, 2), (132, .iload 6, 2), (134, .invokestatic 331, 3), (137, .istore 7, 2), (139, .iload 7, 2), (141, .iconst 1, 1), (142, .if_icmp .ge 5, 3), (145, .iconst (-1), 1), (146, .ireturn, 1), (147, .iload_n 3, 1), (148, .iconst 2, 1), (149, .irem, 1)]
theorem dt_V_parrots_4 : dOk cX11_parrots T_V_parrots_4 := by unfold dOk; decide +kernel
def T_V_parrots_5 : DT := [(150, .ifCond .ne 11, 3), (153, .iload 5, 2), (155, .iload 7, 2), (157, .idiv, 1), (158, .goto 8, 3), (161, .iload 6, 2), (163, .iload 7, 2), (165, .idiv, 1), (166, .ireturn, 1)]
theorem dt_V_parrots_5 : dOk cX11_parrots T_V_parrots_5 := by unfold dOk; decide +kernel
section
variable {v : ZV} {l : Launch} {p : Program} {e : Env} {R : Room} {s : State} {m : MethodId} {args : Array Value} {below : List Frame} {meth : Method} {c : Code} {Q : State → Prop} {res : (Int32 × Hp)} 
set_option maxRecDepth 20000 in
theorem lkB_V_parrots_73 (hi : zInj wC v) (xc : XC wC v) (nx : NXC v) (X : Cx wC v p R s m args c 0 0 cX11_parrots 8 RX11 6) (rt : Rt wC v p l e R s m args below meth c 0 0 Q cX11_parrots false (some (.int res.1)) res.2) {k92 : Int32 → Int32 → Int32 → Int32 → Int32 → Hp → Option (Int32 × Hp)} {k73 : Int32 → Int32 → Int32 → Int32 → Int32 → Int32 → Hp → Option (Int32 × Hp)} {x1 : Int32} {x2 : Int32} {x3 : Int32} {x5 : Int32} {x6 : Int32} {x7 : Int32} {σ : Hp}  (hk92 : ∀ (x1 : Int32) (x2 : Int32) (x3 : Int32) (x5 : Int32) (x6 : Int32) (σ : Hp),  k92 x1 x2 x3 x5 x6 σ = some res → Go wC v p l e R s m args below meth c 0 0 Q 8 92 [(0, .ref 0), (1, .int x1), (2, .int x2), (3, .int x3), (5, .int x5), (6, .int x6)] [] σ) (hk73 : ∀ (x1 : Int32) (x2 : Int32) (x3 : Int32) (x5 : Int32) (x6 : Int32) (x7 : Int32) (σ : Hp),  k73 x1 x2 x3 x5 x6 x7 σ = some res → Go wC v p l e R s m args below meth c 0 0 Q 8 73 [(0, .ref 0), (1, .int x1), (2, .int x2), (3, .int x3), (5, .int x5), (6, .int x6), (7, .int x7)] [] σ) (h : B_V_parrots_73  k92 k73 x1 x2 x3 x5 x6 x7 σ = some res) : Go wC v p l e R s m args below meth c 0 0 Q 8 73 [(0, .ref 0), (1, .int x1), (2, .int x2), (3, .int x3), (5, .int x5), (6, .int x6), (7, .int x7)] [] σ := by
  unfold B_V_parrots_73 at h
  refine go_iload X 6 (dk dt_V_parrots_2 7 rfl) rfl ?_
  refine go_iload_n X 1 (dk dt_V_parrots_2 8 rfl) rfl rfl ?_
  refine go_icmp_ge (tgt := 92) X (dk dt_V_parrots_2 9 rfl) (by decide) h (fun h => ?_) (fun h => ?_)
  · refine go_sub [0, 1, 2, 3, 4, 5] rfl ?_
    exact hk92 _ _ _ _ _ _  h
  · refine go_iload X 5 (dk dt_V_parrots_2 10 rfl) rfl ?_
    refine go_bipush X (dk dt_V_parrots_2 11 rfl) cb_10 ?_
    refine go_imul X (dk dt_V_parrots_2 12 rfl) ?_
    refine go_istore (lv' := [(6, .int (x6 * (10 : Int32))), (0, .ref 0), (1, .int x1), (2, .int x2), (3, .int x3), (5, .int x5), (7, .int x7)]) X (dk dt_V_parrots_2 13 rfl) (by decide) rfl ?_
    refine go_iinc (lv' := [(7, .int (x7 + (1 : Int32))), (6, .int (x6 * (10 : Int32))), (0, .ref 0), (1, .int x1), (2, .int x2), (3, .int x3), (5, .int x5)]) X 6 (dk dt_V_parrots_2 14 rfl) rfl ci_1 (by decide) rfl ?_
    refine go_goto (tgt := 73) X (dk dt_V_parrots_2 15 rfl) (by decide) ?_
    refine go_sub [2, 3, 4, 5, 6, 1, 0] rfl ?_
    exact hk73 _ _ _ _ _ _ _  h
set_option maxRecDepth 20000 in
theorem lkL_V_parrots_73 (hi : zInj wC v) (xc : XC wC v) (nx : NXC v) (X : Cx wC v p R s m args c 0 0 cX11_parrots 8 RX11 6) (rt : Rt wC v p l e R s m args below meth c 0 0 Q cX11_parrots false (some (.int res.1)) res.2) {k92 : Int32 → Int32 → Int32 → Int32 → Int32 → Hp → Option (Int32 × Hp)} (hk92 : ∀ (x1 : Int32) (x2 : Int32) (x3 : Int32) (x5 : Int32) (x6 : Int32) (σ : Hp),  k92 x1 x2 x3 x5 x6 σ = some res → Go wC v p l e R s m args below meth c 0 0 Q 8 92 [(0, .ref 0), (1, .int x1), (2, .int x2), (3, .int x3), (5, .int x5), (6, .int x6)] [] σ) (n : Nat) : ∀ {x1 : Int32} {x2 : Int32} {x3 : Int32} {x5 : Int32} {x6 : Int32} {x7 : Int32} {σ : Hp},  L_V_parrots_73  k92 n x1 x2 x3 x5 x6 x7 σ = some res → Go wC v p l e R s m args below meth c 0 0 Q 8 73 [(0, .ref 0), (1, .int x1), (2, .int x2), (3, .int x3), (5, .int x5), (6, .int x6), (7, .int x7)] [] σ := by
  induction n with
  | zero => intro x1 x2 x3 x5 x6 x7 σ  h; cases h
  | succ n ih =>
    intro x1 x2 x3 x5 x6 x7 σ  h
    exact lkB_V_parrots_73 hi xc nx X rt  hk92 (fun _ _ _ _ _ _ _  hh => ih  hh) h
set_option maxRecDepth 20000 in
theorem lkJ_V_parrots_112 (hi : zInj wC v) (xc : XC wC v) (nx : NXC v) (X : Cx wC v p R s m args c 0 0 cX11_parrots 8 RX11 6) (rt : Rt wC v p l e R s m args below meth c 0 0 Q cX11_parrots false (some (.int res.1)) res.2) {k95 : Int32 → Int32 → Int32 → Int32 → Int32 → Int32 → Hp → Option (Int32 × Hp)} {x1 : Int32} {x2 : Int32} {x3 : Int32} {x5 : Int32} {x6 : Int32} {x7 : Int32} {σ : Hp}  (hk95 : ∀ (x1 : Int32) (x2 : Int32) (x3 : Int32) (x5 : Int32) (x6 : Int32) (x7 : Int32) (σ : Hp),  k95 x1 x2 x3 x5 x6 x7 σ = some res → Go wC v p l e R s m args below meth c 0 0 Q 8 95 [(0, .ref 0), (1, .int x1), (2, .int x2), (3, .int x3), (5, .int x5), (6, .int x6), (7, .int x7)] [] σ) (h : J_V_parrots_112  k95 x1 x2 x3 x5 x6 x7 σ = some res) : Go wC v p l e R s m args below meth c 0 0 Q 8 112 [(0, .ref 0), (1, .int x1), (2, .int x2), (3, .int x3), (5, .int x5), (6, .int x6), (7, .int x7)] [] σ := by
  unfold J_V_parrots_112 at h
  refine go_iload X 4 (dk dt_V_parrots_3 11 rfl) rfl ?_
  refine go_aload_n X 0 (dk dt_V_parrots_3 12 rfl) rfl rfl ?_
  refine go_getr X fo_X11_88 lC_0 sC_0 fC_0_13 (dk dt_V_parrots_3 13 rfl) ?_
  refine go_iload X 6 (dk dt_V_parrots_3 14 rfl) rfl ?_
  refine go_iald X lC_41 sC_41 (dk dt_V_parrots_3 15 rfl) h (fun h => ?_)
  refine go_iadd X (dk dt_V_parrots_4 0 rfl) ?_
  refine go_istore (lv' := [(5, .int (x5 + (σ 41 (Int32.toNatClampNeg x7)))), (0, .ref 0), (1, .int x1), (2, .int x2), (3, .int x3), (6, .int x6), (7, .int x7)]) X (dk dt_V_parrots_4 1 rfl) (by decide) rfl ?_
  refine go_iinc (lv' := [(7, .int (x7 + (1 : Int32))), (5, .int (x5 + (σ 41 (Int32.toNatClampNeg x7)))), (0, .ref 0), (1, .int x1), (2, .int x2), (3, .int x3), (6, .int x6)]) X 6 (dk dt_V_parrots_4 2 rfl) rfl ci_1 (by decide) rfl ?_
  refine go_goto (tgt := 95) X (dk dt_V_parrots_4 3 rfl) (by decide) ?_
  refine go_sub [2, 3, 4, 5, 1, 6, 0] rfl ?_
  exact hk95 _ _ _ _ _ _ _  h
set_option maxRecDepth 20000 in
theorem lkB_V_parrots_95 (hi : zInj wC v) (xc : XC wC v) (nx : NXC v) (X : Cx wC v p R s m args c 0 0 cX11_parrots 8 RX11 6) (rt : Rt wC v p l e R s m args below meth c 0 0 Q cX11_parrots false (some (.int res.1)) res.2) {k130 : Int32 → Int32 → Int32 → Hp → Option (Int32 × Hp)} {k95 : Int32 → Int32 → Int32 → Int32 → Int32 → Int32 → Hp → Option (Int32 × Hp)} {x1 : Int32} {x2 : Int32} {x3 : Int32} {x5 : Int32} {x6 : Int32} {x7 : Int32} {σ : Hp}  (hk130 : ∀ (x3 : Int32) (x5 : Int32) (x6 : Int32) (σ : Hp),  k130 x3 x5 x6 σ = some res → Go wC v p l e R s m args below meth c 0 0 Q 8 130 [(3, .int x3), (5, .int x5), (6, .int x6)] [] σ) (hk95 : ∀ (x1 : Int32) (x2 : Int32) (x3 : Int32) (x5 : Int32) (x6 : Int32) (x7 : Int32) (σ : Hp),  k95 x1 x2 x3 x5 x6 x7 σ = some res → Go wC v p l e R s m args below meth c 0 0 Q 8 95 [(0, .ref 0), (1, .int x1), (2, .int x2), (3, .int x3), (5, .int x5), (6, .int x6), (7, .int x7)] [] σ) (h : B_V_parrots_95  k130 k95 x1 x2 x3 x5 x6 x7 σ = some res) : Go wC v p l e R s m args below meth c 0 0 Q 8 95 [(0, .ref 0), (1, .int x1), (2, .int x2), (3, .int x3), (5, .int x5), (6, .int x6), (7, .int x7)] [] σ := by
  unfold B_V_parrots_95 at h
  refine go_iload X 6 (dk dt_V_parrots_3 2 rfl) rfl ?_
  refine go_iload_n X 1 (dk dt_V_parrots_3 3 rfl) rfl rfl ?_
  refine go_icmp_gt (tgt := 130) X (dk dt_V_parrots_3 4 rfl) (by decide) h (fun h => ?_) (fun h => ?_)
  · refine go_sub [3, 4, 5] rfl ?_
    exact hk130 _ _ _ _  h
  · refine go_iload_n X 3 (dk dt_V_parrots_3 5 rfl) rfl rfl ?_
    refine go_iconst X (dk dt_V_parrots_3 6 rfl) ci_2 ?_
    refine go_icmp_lt (tgt := 112) X (dk dt_V_parrots_3 7 rfl) (by decide) h (fun h => ?_) (fun h => ?_)
    · exact lkJ_V_parrots_112 hi xc nx X rt  hk95 h
    · refine go_iload X 6 (dk dt_V_parrots_3 8 rfl) rfl ?_
      refine go_iload_n X 2 (dk dt_V_parrots_3 9 rfl) rfl rfl ?_
      refine go_icmp_ne (tgt := 124) X (dk dt_V_parrots_3 10 rfl) (by decide) h (fun h => ?_) (fun h => ?_)
      · refine go_iinc (lv' := [(7, .int (x7 + (1 : Int32))), (0, .ref 0), (1, .int x1), (2, .int x2), (3, .int x3), (5, .int x5), (6, .int x6)]) X 6 (dk dt_V_parrots_4 2 rfl) rfl ci_1 (by decide) rfl ?_
        refine go_goto (tgt := 95) X (dk dt_V_parrots_4 3 rfl) (by decide) ?_
        refine go_sub [1, 2, 3, 4, 5, 6, 0] rfl ?_
        exact hk95 _ _ _ _ _ _ _  h
      · exact lkJ_V_parrots_112 hi xc nx X rt  hk95 h
set_option maxRecDepth 20000 in
theorem lkL_V_parrots_95 (hi : zInj wC v) (xc : XC wC v) (nx : NXC v) (X : Cx wC v p R s m args c 0 0 cX11_parrots 8 RX11 6) (rt : Rt wC v p l e R s m args below meth c 0 0 Q cX11_parrots false (some (.int res.1)) res.2) {k130 : Int32 → Int32 → Int32 → Hp → Option (Int32 × Hp)} (hk130 : ∀ (x3 : Int32) (x5 : Int32) (x6 : Int32) (σ : Hp),  k130 x3 x5 x6 σ = some res → Go wC v p l e R s m args below meth c 0 0 Q 8 130 [(3, .int x3), (5, .int x5), (6, .int x6)] [] σ) (n : Nat) : ∀ {x1 : Int32} {x2 : Int32} {x3 : Int32} {x5 : Int32} {x6 : Int32} {x7 : Int32} {σ : Hp},  L_V_parrots_95  k130 n x1 x2 x3 x5 x6 x7 σ = some res → Go wC v p l e R s m args below meth c 0 0 Q 8 95 [(0, .ref 0), (1, .int x1), (2, .int x2), (3, .int x3), (5, .int x5), (6, .int x6), (7, .int x7)] [] σ := by
  induction n with
  | zero => intro x1 x2 x3 x5 x6 x7 σ  h; cases h
  | succ n ih =>
    intro x1 x2 x3 x5 x6 x7 σ  h
    exact lkB_V_parrots_95 hi xc nx X rt  hk130 (fun _ _ _ _ _ _ _  hh => ih  hh) h
set_option maxRecDepth 20000 in
theorem lkJ_V_parrots_130 (hi : zInj wC v) (xc : XC wC v) (nx : NXC v) (X : Cx wC v p R s m args c 0 0 cX11_parrots 8 RX11 6) (rt : Rt wC v p l e R s m args below meth c 0 0 Q cX11_parrots false (some (.int res.1)) res.2)  {x3 : Int32} {x5 : Int32} {x6 : Int32} {σ : Hp}   (h : J_V_parrots_130   x3 x5 x6 σ = some res) : Go wC v p l e R s m args below meth c 0 0 Q 8 130 [(3, .int x3), (5, .int x5), (6, .int x6)] [] σ := by
  unfold J_V_parrots_130 at h
  refine go_iload X 1 (dk dt_V_parrots_4 4 rfl) rfl ?_
  refine go_iload X 2 (dk dt_V_parrots_4 5 rfl) rfl ?_
  refine go_Si (As := [.int x5, .int x6]) (rest := []) X so_X11_331 (fun q hq => ct_V_commonDivisor hi xc nx  hq) (by decide) rfl rfl (Nat.le_of_ble_eq_true rfl) (dk dt_V_parrots_4 6 rfl) h (fun q134 h => ?_)
  refine go_istore (lv' := [(7, .int q134.1), (3, .int x3), (5, .int x5), (6, .int x6)]) X (dk dt_V_parrots_4 7 rfl) (by decide) rfl ?_
  refine go_iload X 0 (dk dt_V_parrots_4 8 rfl) rfl ?_
  refine go_iconst X (dk dt_V_parrots_4 9 rfl) ci_1 ?_
  refine go_icmp_ge (tgt := 147) X (dk dt_V_parrots_4 10 rfl) (by decide) h (fun h => ?_) (fun h => ?_)
  · refine go_iload_n X 1 (dk dt_V_parrots_4 13 rfl) rfl rfl ?_
    refine go_iconst X (dk dt_V_parrots_4 14 rfl) ci_2 ?_
    refine go_iremL X (dk dt_V_parrots_4 15 rfl) (by decide) ?_
    refine go_if_ne (tgt := 161) X (dk dt_V_parrots_5 0 rfl) (by decide) h (fun h => ?_) (fun h => ?_)
    · refine go_iload X 3 (dk dt_V_parrots_5 5 rfl) rfl ?_
      refine go_iload X 0 (dk dt_V_parrots_5 6 rfl) rfl ?_
      refine go_idiv X (dk dt_V_parrots_5 7 rfl) h (fun h => ?_)
      exact go_iret rt (dk dt_V_parrots_5 8 rfl) h (fun hh => nomatch hh)
    · refine go_iload X 2 (dk dt_V_parrots_5 1 rfl) rfl ?_
      refine go_iload X 0 (dk dt_V_parrots_5 2 rfl) rfl ?_
      refine go_idiv X (dk dt_V_parrots_5 3 rfl) h (fun h => ?_)
      refine go_goto (tgt := 166) X (dk dt_V_parrots_5 4 rfl) (by decide) ?_
      exact go_iret rt (dk dt_V_parrots_5 8 rfl) h (fun hh => nomatch hh)
  · refine go_iconst X (dk dt_V_parrots_4 11 rfl) ci_m1 ?_
    exact go_iret rt (dk dt_V_parrots_4 12 rfl) h (fun hh => nomatch hh)
set_option maxRecDepth 20000 in
theorem lkJ_V_parrots_92 (hi : zInj wC v) (xc : XC wC v) (nx : NXC v) (X : Cx wC v p R s m args c 0 0 cX11_parrots 8 RX11 6) (rt : Rt wC v p l e R s m args below meth c 0 0 Q cX11_parrots false (some (.int res.1)) res.2)  {x1 : Int32} {x2 : Int32} {x3 : Int32} {x5 : Int32} {x6 : Int32} {σ : Hp}   (h : J_V_parrots_92   x1 x2 x3 x5 x6 σ = some res) : Go wC v p l e R s m args below meth c 0 0 Q 8 92 [(0, .ref 0), (1, .int x1), (2, .int x2), (3, .int x3), (5, .int x5), (6, .int x6)] [] σ := by
  unfold J_V_parrots_92 at h
  refine go_iload_n X 2 (dk dt_V_parrots_3 0 rfl) rfl rfl ?_
  refine go_istore (lv' := [(7, .int x2), (0, .ref 0), (1, .int x1), (2, .int x2), (3, .int x3), (5, .int x5), (6, .int x6)]) X (dk dt_V_parrots_3 1 rfl) (by decide) rfl ?_
  refine go_sub [1, 2, 3, 4, 5, 6, 0] rfl ?_
  exact lkL_V_parrots_95 hi xc nx X rt (fun _ _ _ _  hh => lkJ_V_parrots_130 hi xc nx X rt   hh) FU  h
set_option maxRecDepth 20000 in
theorem lkF_V_parrots (hi : zInj wC v) (xc : XC wC v) (nx : NXC v) (X : Cx wC v p R s m args c 0 0 cX11_parrots 8 RX11 6) (rt : Rt wC v p l e R s m args below meth c 0 0 Q cX11_parrots false (some (.int res.1)) res.2) {a1 : Int32} {a2 : Int32} {a3 : Int32} {σ : Hp}  (h : F_V_parrots  a1 a2 a3 σ = some res) : Go wC v p l e R s m args below meth c 0 0 Q 8 0 [(0, .ref 0), (1, .int a1), (2, .int a2), (3, .int a3)] [] σ := by
  unfold F_V_parrots at h
  refine go_iload_n X 1 (dk dt_V_parrots_0 0 rfl) rfl rfl ?_
  refine go_iconst X (dk dt_V_parrots_0 1 rfl) ci_1 ?_
  refine go_bipush X (dk dt_V_parrots_0 2 rfl) cb_8 ?_
  refine go_Si (As := [.int a1, .int (1 : Int32), .int (8 : Int32)]) (rest := []) X so_X11_119 (fun q hq => ct_V_within hi xc nx  hq) (by decide) rfl rfl (Nat.le_of_ble_eq_true rfl) (dk dt_V_parrots_0 3 rfl) h (fun q4 h => ?_)
  refine go_if_eq (tgt := 40) X (dk dt_V_parrots_0 4 rfl) (by decide) h (fun h => ?_) (fun h => ?_)
  · refine go_iconst X (dk dt_V_parrots_1 4 rfl) ci_m1 ?_
    exact go_iret rt (dk dt_V_parrots_1 5 rfl) h (fun hh => nomatch hh)
  · refine go_iload_n X 2 (dk dt_V_parrots_0 5 rfl) rfl rfl ?_
    refine go_iconst X (dk dt_V_parrots_0 6 rfl) ci_0 ?_
    refine go_bipush X (dk dt_V_parrots_0 7 rfl) cb_8 ?_
    refine go_Si (As := [.int a2, .int (0 : Int32), .int (8 : Int32)]) (rest := []) X so_X11_119 (fun q hq => ct_V_within hi xc nx  hq) (by decide) rfl rfl (Nat.le_of_ble_eq_true rfl) (dk dt_V_parrots_0 8 rfl) h (fun q14 h => ?_)
    refine go_if_eq (tgt := 40) X (dk dt_V_parrots_0 9 rfl) (by decide) h (fun h => ?_) (fun h => ?_)
    · refine go_iconst X (dk dt_V_parrots_1 4 rfl) ci_m1 ?_
      exact go_iret rt (dk dt_V_parrots_1 5 rfl) h (fun hh => nomatch hh)
    · refine go_iload_n X 3 (dk dt_V_parrots_0 10 rfl) rfl rfl ?_
      refine go_iconst X (dk dt_V_parrots_0 11 rfl) ci_0 ?_
      refine go_iconst X (dk dt_V_parrots_0 12 rfl) ci_3 ?_
      refine go_Si (As := [.int a3, .int (0 : Int32), .int (3 : Int32)]) (rest := []) X so_X11_119 (fun q hq => ct_V_within hi xc nx  hq) (by decide) rfl rfl (Nat.le_of_ble_eq_true rfl) (dk dt_V_parrots_0 13 rfl) h (fun q23 h => ?_)
      refine go_if_eq (tgt := 40) X (dk dt_V_parrots_0 14 rfl) (by decide) h (fun h => ?_) (fun h => ?_)
      · refine go_iconst X (dk dt_V_parrots_1 4 rfl) ci_m1 ?_
        exact go_iret rt (dk dt_V_parrots_1 5 rfl) h (fun hh => nomatch hh)
      · refine go_aload_n X 0 (dk dt_V_parrots_0 15 rfl) rfl rfl ?_
        refine go_getr X fo_X11_32 lC_0 sC_0 fC_0_4 (dk dt_V_parrots_1 0 rfl) ?_
        refine go_iload_n X 1 (dk dt_V_parrots_1 1 rfl) rfl rfl ?_
        refine go_Vi (As := [.int a1]) (rest := []) X vo_X11_151 (fun q hq => ct_X8_has hi xc nx  hq) (by decide) rfl lC_23 sC_23 rfl rfl (Nat.le_of_ble_eq_true rfl) (dk dt_V_parrots_1 2 rfl) h (fun q34 h => ?_)
        refine go_if_ne (tgt := 42) X (dk dt_V_parrots_1 3 rfl) (by decide) h (fun h => ?_) (fun h => ?_)
        · refine go_aload_n X 0 (dk dt_V_parrots_1 6 rfl) rfl rfl ?_
          refine go_iload_n X 1 (dk dt_V_parrots_1 7 rfl) rfl rfl ?_
          refine go_Vi (As := [.int a1]) (rest := []) X vo_X11_328 (fun q hq => ct_V_reckonArrivals hi xc nx  hq) (by decide) rfl lC_0 sC_0 rfl rfl (Nat.le_of_ble_eq_true rfl) (dk dt_V_parrots_1 8 rfl) h (fun q44 h => ?_)
          refine go_istore (lv' := [(4, .int q44.1), (0, .ref 0), (1, .int a1), (2, .int a2), (3, .int a3)]) X (dk dt_V_parrots_1 9 rfl) (by decide) rfl ?_
          refine go_aload_n X 1 (dk dt_V_parrots_1 10 rfl) rfl rfl ?_
          refine go_getr X fo_X11_32 lC_0 sC_0 fC_0_4 (dk dt_V_parrots_1 11 rfl) ?_
          refine go_Vv (As := []) (rest := []) X vo_X11_158 (fun q hq => ct_X8_clear hi xc nx  hq) (by decide) rfl lC_23 sC_23 rfl rfl (Nat.le_of_ble_eq_true rfl) (dk dt_V_parrots_1 12 rfl) h (fun q53 h => ?_)
          refine go_iload X 0 (dk dt_V_parrots_1 13 rfl) rfl ?_
          refine go_if_ne (tgt := 64) X (dk dt_V_parrots_1 14 rfl) (by decide) h (fun h => ?_) (fun h => ?_)
          · refine go_iconst X (dk dt_V_parrots_2 1 rfl) ci_0 ?_
            refine go_istore (lv' := [(5, .int (0 : Int32)), (4, .int q44.1), (0, .ref 0), (1, .int a1), (2, .int a2), (3, .int a3)]) X (dk dt_V_parrots_2 2 rfl) (by decide) rfl ?_
            refine go_iconst X (dk dt_V_parrots_2 3 rfl) ci_1 ?_
            refine go_istore (lv' := [(6, .int (1 : Int32)), (5, .int (0 : Int32)), (4, .int q44.1), (0, .ref 0), (1, .int a1), (2, .int a2), (3, .int a3)]) X (dk dt_V_parrots_2 4 rfl) (by decide) rfl ?_
            refine go_iconst X (dk dt_V_parrots_2 5 rfl) ci_0 ?_
            refine go_istore (lv' := [(7, .int (0 : Int32)), (6, .int (1 : Int32)), (5, .int (0 : Int32)), (4, .int q44.1), (0, .ref 0), (1, .int a1), (2, .int a2), (3, .int a3)]) X (dk dt_V_parrots_2 6 rfl) (by decide) rfl ?_
            refine go_sub [4, 5, 6, 7, 2, 1, 0] rfl ?_
            exact lkL_V_parrots_73 hi xc nx X rt (fun _ _ _ _ _ _  hh => lkJ_V_parrots_92 hi xc nx X rt   hh) FU  h
          · refine go_bipush X (dk dt_V_parrots_1 15 rfl) cb_m2 ?_
            exact go_iret rt (dk dt_V_parrots_2 0 rfl) h (fun hh => nomatch hh)
        · refine go_iconst X (dk dt_V_parrots_1 4 rfl) ci_m1 ?_
          exact go_iret rt (dk dt_V_parrots_1 5 rfl) h (fun hh => nomatch hh)
set_option maxRecDepth 20000 in
theorem ct_V_parrots (hi : zInj wC v) (xc : XC wC v) (nx : NXC v)  {a1 : Int32} {a2 : Int32} {a3 : Int32} {σ : Hp}  {q : (Int32 × Hp)} (h : F_V_parrots  a1 a2 a3 σ = some q) : Ct wC v l yX11_parrots cX11_parrots 8 (some .int) 6 [.ref 0, .int a1, .int a2, .int a3] σ (some (.int q.1)) q.2 :=
  Ct.intro false (by decide) hi xc (Nat.le_of_ble_eq_true rfl) rfl (fun p e R s m args below meth c Q X rt => lkF_V_parrots hi xc nx X rt  h)
end
def T_V_ridge_0 : DT := [(0, .iload_n 1, 1), (1, .iconst 0, 1), (2, .iconst 1, 1), (3, .invokestatic 119, 3), (6, .ifCond .ne 5, 3), (9, .iconst (-1), 1), (10, .ireturn, 1), (11, .iload_n 1, 1), (12, .ifCond .ne 10, 3), (15, .aload_n 0, 1), (16, .invokevirtual 284, 3), (19, .goto 7, 3), (22, .aload_n 0, 1), (23, .invokevirtual 287, 3), (26, .ireturn, 1)]
theorem dt_V_ridge_0 : dOk cX11_ridge T_V_ridge_0 := by unfold dOk; decide +kernel
section
variable {v : ZV} {l : Launch} {p : Program} {e : Env} {R : Room} {s : State} {m : MethodId} {args : Array Value} {below : List Frame} {meth : Method} {c : Code} {Q : State → Prop} {res : (Int32 × Hp)} 
set_option maxRecDepth 20000 in
theorem lkF_V_ridge (hi : zInj wC v) (xc : XC wC v) (nx : NXC v) (X : Cx wC v p R s m args c 0 0 cX11_ridge 2 RX11 4) (rt : Rt wC v p l e R s m args below meth c 0 0 Q cX11_ridge false (some (.int res.1)) res.2) {a1 : Int32} {σ : Hp}  (h : F_V_ridge  a1 σ = some res) : Go wC v p l e R s m args below meth c 0 0 Q 2 0 [(0, .ref 0), (1, .int a1)] [] σ := by
  unfold F_V_ridge at h
  refine go_iload_n X 1 (dk dt_V_ridge_0 0 rfl) rfl rfl ?_
  refine go_iconst X (dk dt_V_ridge_0 1 rfl) ci_0 ?_
  refine go_iconst X (dk dt_V_ridge_0 2 rfl) ci_1 ?_
  refine go_Si (As := [.int a1, .int (0 : Int32), .int (1 : Int32)]) (rest := []) X so_X11_119 (fun q hq => ct_V_within hi xc nx  hq) (by decide) rfl rfl (Nat.le_of_ble_eq_true rfl) (dk dt_V_ridge_0 3 rfl) h (fun q3 h => ?_)
  refine go_if_ne (tgt := 11) X (dk dt_V_ridge_0 4 rfl) (by decide) h (fun h => ?_) (fun h => ?_)
  · refine go_iload_n X 1 (dk dt_V_ridge_0 7 rfl) rfl rfl ?_
    refine go_if_ne (tgt := 22) X (dk dt_V_ridge_0 8 rfl) (by decide) h (fun h => ?_) (fun h => ?_)
    · refine go_aload_n X 0 (dk dt_V_ridge_0 12 rfl) rfl rfl ?_
      refine go_Vi (As := []) (rest := []) X vo_X11_287 (fun q hq => ct_V_longestRise hi xc nx  hq) (by decide) rfl lC_0 sC_0 rfl rfl (Nat.le_of_ble_eq_true rfl) (dk dt_V_ridge_0 13 rfl) h (fun q23 h => ?_)
      exact go_iret rt (dk dt_V_ridge_0 14 rfl) h (fun hh => nomatch hh)
    · refine go_aload_n X 0 (dk dt_V_ridge_0 9 rfl) rfl rfl ?_
      refine go_Vi (As := []) (rest := []) X vo_X11_284 (fun q hq => ct_V_crests hi xc nx  hq) (by decide) rfl lC_0 sC_0 rfl rfl (Nat.le_of_ble_eq_true rfl) (dk dt_V_ridge_0 10 rfl) h (fun q16 h => ?_)
      refine go_goto (tgt := 26) X (dk dt_V_ridge_0 11 rfl) (by decide) ?_
      exact go_iret rt (dk dt_V_ridge_0 14 rfl) h (fun hh => nomatch hh)
  · refine go_iconst X (dk dt_V_ridge_0 5 rfl) ci_m1 ?_
    exact go_iret rt (dk dt_V_ridge_0 6 rfl) h (fun hh => nomatch hh)
set_option maxRecDepth 20000 in
theorem ct_V_ridge (hi : zInj wC v) (xc : XC wC v) (nx : NXC v)  {a1 : Int32} {σ : Hp}  {q : (Int32 × Hp)} (h : F_V_ridge  a1 σ = some q) : Ct wC v l yX11_ridge cX11_ridge 2 (some .int) 4 [.ref 0, .int a1] σ (some (.int q.1)) q.2 :=
  Ct.intro false (by decide) hi xc (Nat.le_of_ble_eq_true rfl) rfl (fun p e R s m args below meth c Q X rt => lkF_V_ridge hi xc nx X rt  h)
end
def T_V_seed_0 : DT := [(0, .iload_n 1, 1), (1, .iconst 0, 1), (2, .ldc_w 337, 3), (5, .invokestatic 119, 3), (8, .ifCond .ne 5, 3), (11, .iconst 0, 1), (12, .ireturn, 1), (13, .aload_n 0, 1), (14, .getfield 10, 3), (17, .iload_n 1, 1), (18, .putfield 338, 3), (21, .iconst 1, 1), (22, .ireturn, 1)]
theorem dt_V_seed_0 : dOk cX11_seed T_V_seed_0 := by unfold dOk; decide +kernel
section
variable {v : ZV} {l : Launch} {p : Program} {e : Env} {R : Room} {s : State} {m : MethodId} {args : Array Value} {below : List Frame} {meth : Method} {c : Code} {Q : State → Prop} {res : (Int32 × Hp)} 
set_option maxRecDepth 20000 in
theorem lkF_V_seed (hi : zInj wC v) (xc : XC wC v) (nx : NXC v) (X : Cx wC v p R s m args c 0 0 cX11_seed 2 RX11 4) (rt : Rt wC v p l e R s m args below meth c 0 0 Q cX11_seed true (some (.int res.1)) res.2) {a1 : Int32} {σ : Hp}  (h : F_V_seed  a1 σ = some res) : Go wC v p l e R s m args below meth c 0 0 Q 2 0 [(0, .ref 0), (1, .int a1)] [] σ := by
  unfold F_V_seed at h
  refine go_iload_n X 1 (dk dt_V_seed_0 0 rfl) rfl rfl ?_
  refine go_iconst X (dk dt_V_seed_0 1 rfl) ci_0 ?_
  refine go_ldcw X wd_1110 (dk dt_V_seed_0 2 rfl) ?_
  refine go_Si (As := [.int a1, .int (0 : Int32), .int (65535 : Int32)]) (rest := []) X so_X11_119 (fun q hq => ct_V_within hi xc nx  hq) (by decide) rfl rfl (Nat.le_of_ble_eq_true rfl) (dk dt_V_seed_0 3 rfl) h (fun q5 h => ?_)
  refine go_if_ne (tgt := 13) X (dk dt_V_seed_0 4 rfl) (by decide) h (fun h => ?_) (fun h => ?_)
  · refine go_aload_n X 0 (dk dt_V_seed_0 7 rfl) rfl rfl ?_
    refine go_getr X fo_X11_10 lC_0 sC_0 fC_0_0 (dk dt_V_seed_0 8 rfl) ?_
    refine go_iload_n X 1 (dk dt_V_seed_0 9 rfl) rfl rfl ?_
    refine go_puti X fo_X11_338 pf_10_7 lC_1 sC_1 fC_1_7 (dk dt_V_seed_0 10 rfl) ?_
    refine go_iconst X (dk dt_V_seed_0 11 rfl) ci_1 ?_
    exact go_iret rt (dk dt_V_seed_0 12 rfl) h (by decide)
  · refine go_iconst X (dk dt_V_seed_0 5 rfl) ci_0 ?_
    exact go_iret rt (dk dt_V_seed_0 6 rfl) h (by decide)
set_option maxRecDepth 20000 in
theorem ct_V_seed (hi : zInj wC v) (xc : XC wC v) (nx : NXC v)  {a1 : Int32} {σ : Hp}  {q : (Int32 × Hp)} (h : F_V_seed  a1 σ = some q) : Ct wC v l yX11_seed cX11_seed 2 (some .boolean) 4 [.ref 0, .int a1] σ (some (.int q.1)) q.2 :=
  Ct.intro true (by decide) hi xc (Nat.le_of_ble_eq_true rfl) rfl (fun p e R s m args below meth c Q X rt => lkF_V_seed hi xc nx X rt  h)
end
def T_V_sees_0 : DT := [(0, .aload_n 0, 1), (1, .iconst 0, 1), (2, .iload_n 1, 1), (3, .invokevirtual 210, 3), (6, .ifCond .eq 12, 3), (9, .aload_n 0, 1), (10, .iconst 1, 1), (11, .iload_n 2, 1), (12, .invokevirtual 210, 3), (15, .ifCond .ne 5, 3), (18, .iconst (-1), 1), (19, .ireturn, 1), (20, .aload_n 0, 1), (21, .getfield 25, 3), (24, .aload_n 0, 1), (25, .getfield 10, 3)]
theorem dt_V_sees_0 : dOk cX11_sees T_V_sees_0 := by unfold dOk; decide +kernel
def T_V_sees_1 : DT := [(28, .iload_n 1, 1), (29, .iload_n 2, 1), (30, .invokevirtual 235, 3), (33, .ifCond .eq 7, 3), (36, .iconst 1, 1), (37, .goto 4, 3), (40, .iconst 0, 1), (41, .ireturn, 1)]
theorem dt_V_sees_1 : dOk cX11_sees T_V_sees_1 := by unfold dOk; decide +kernel
section
variable {v : ZV} {l : Launch} {p : Program} {e : Env} {R : Room} {s : State} {m : MethodId} {args : Array Value} {below : List Frame} {meth : Method} {c : Code} {Q : State → Prop} {res : (Int32 × Hp)} 
set_option maxRecDepth 20000 in
theorem lkF_V_sees (hi : zInj wC v) (xc : XC wC v) (nx : NXC v) (X : Cx wC v p R s m args c 0 0 cX11_sees 3 RX11 8) (rt : Rt wC v p l e R s m args below meth c 0 0 Q cX11_sees false (some (.int res.1)) res.2) {a1 : Int32} {a2 : Int32} {σ : Hp}  (h : F_V_sees  a1 a2 σ = some res) : Go wC v p l e R s m args below meth c 0 0 Q 3 0 [(0, .ref 0), (1, .int a1), (2, .int a2)] [] σ := by
  unfold F_V_sees at h
  refine go_aload_n X 0 (dk dt_V_sees_0 0 rfl) rfl rfl ?_
  refine go_iconst X (dk dt_V_sees_0 1 rfl) ci_0 ?_
  refine go_iload_n X 1 (dk dt_V_sees_0 2 rfl) rfl rfl ?_
  refine go_Vi (As := [.int (0 : Int32), .int a1]) (rest := []) X vo_X11_210 (fun q hq => ct_V_isGentleman hi xc nx  hq) (by decide) rfl lC_0 sC_0 rfl rfl (Nat.le_of_ble_eq_true rfl) (dk dt_V_sees_0 3 rfl) h (fun q3 h => ?_)
  refine go_if_eq (tgt := 18) X (dk dt_V_sees_0 4 rfl) (by decide) h (fun h => ?_) (fun h => ?_)
  · refine go_iconst X (dk dt_V_sees_0 10 rfl) ci_m1 ?_
    exact go_iret rt (dk dt_V_sees_0 11 rfl) h (fun hh => nomatch hh)
  · refine go_aload_n X 0 (dk dt_V_sees_0 5 rfl) rfl rfl ?_
    refine go_iconst X (dk dt_V_sees_0 6 rfl) ci_1 ?_
    refine go_iload_n X 2 (dk dt_V_sees_0 7 rfl) rfl rfl ?_
    refine go_Vi (As := [.int (1 : Int32), .int a2]) (rest := []) X vo_X11_210 (fun q hq => ct_V_isGentleman hi xc nx  hq) (by decide) rfl lC_0 sC_0 rfl rfl (Nat.le_of_ble_eq_true rfl) (dk dt_V_sees_0 8 rfl) h (fun q12 h => ?_)
    refine go_if_ne (tgt := 20) X (dk dt_V_sees_0 9 rfl) (by decide) h (fun h => ?_) (fun h => ?_)
    · refine go_aload_n X 0 (dk dt_V_sees_0 12 rfl) rfl rfl ?_
      refine go_getr X fo_X11_25 lC_0 sC_0 fC_0_3 (dk dt_V_sees_0 13 rfl) ?_
      refine go_aload_n X 0 (dk dt_V_sees_0 14 rfl) rfl rfl ?_
      refine go_getr X fo_X11_10 lC_0 sC_0 fC_0_0 (dk dt_V_sees_0 15 rfl) ?_
      refine go_iload_n X 1 (dk dt_V_sees_1 0 rfl) rfl rfl ?_
      refine go_iload_n X 2 (dk dt_V_sees_1 1 rfl) rfl rfl ?_
      refine go_Vi (As := [.ref 1, .int a1, .int a2]) (rest := []) X vo_X11_235 (fun q hq => ct_X9_sighted hi xc nx (by decide : isW 1 = true) hq) (by decide) rfl lC_19 sC_19 rfl rfl (Nat.le_of_ble_eq_true rfl) (dk dt_V_sees_1 2 rfl) h (fun q30 h => ?_)
      refine go_if_eq (tgt := 40) X (dk dt_V_sees_1 3 rfl) (by decide) h (fun h => ?_) (fun h => ?_)
      · refine go_iconst X (dk dt_V_sees_1 6 rfl) ci_0 ?_
        exact go_iret rt (dk dt_V_sees_1 7 rfl) h (fun hh => nomatch hh)
      · refine go_iconst X (dk dt_V_sees_1 4 rfl) ci_1 ?_
        refine go_goto (tgt := 41) X (dk dt_V_sees_1 5 rfl) (by decide) ?_
        exact go_iret rt (dk dt_V_sees_1 7 rfl) h (fun hh => nomatch hh)
    · refine go_iconst X (dk dt_V_sees_0 10 rfl) ci_m1 ?_
      exact go_iret rt (dk dt_V_sees_0 11 rfl) h (fun hh => nomatch hh)
set_option maxRecDepth 20000 in
theorem ct_V_sees (hi : zInj wC v) (xc : XC wC v) (nx : NXC v)  {a1 : Int32} {a2 : Int32} {σ : Hp}  {q : (Int32 × Hp)} (h : F_V_sees  a1 a2 σ = some q) : Ct wC v l yX11_sees cX11_sees 3 (some .int) 8 [.ref 0, .int a1, .int a2] σ (some (.int q.1)) q.2 :=
  Ct.intro false (by decide) hi xc (Nat.le_of_ble_eq_true rfl) rfl (fun p e R s m args below meth c Q X rt => lkF_V_sees hi xc nx X rt  h)
end
def T_X7_repeat_0 : DT := [(0, .aload_n 0, 1), (1, .getfield 15, 3), (4, .iload_n 1, 1), (5, .isub, 1), (6, .iload_n 2, 1), (7, .imul, 1), (8, .istore_n 3, 1), (9, .iload_n 1, 1), (10, .ifCond .lt 18, 3), (13, .iload_n 3, 1), (14, .ifCond .lt 14, 3), (17, .aload_n 0, 1), (18, .getfield 15, 3), (21, .iload_n 3, 1), (22, .iadd, 1), (23, .bipush 60, 2)]
theorem dt_X7_repeat_0 : dOk cX7_repeat T_X7_repeat_0 := by unfold dOk; decide +kernel
def T_X7_repeat_1 : DT := [(25, .if_icmp .le 5, 3), (28, .iconst 0, 1), (29, .ireturn, 1), (30, .aload_n 0, 1), (31, .getfield 15, 3), (34, .iload_n 1, 1), (35, .isub, 1), (36, .istore 4, 2), (38, .iconst 0, 1), (39, .istore 5, 2), (41, .iload 5, 2), (43, .iload_n 3, 1), (44, .if_icmp .ge 40, 3), (47, .aload_n 0, 1), (48, .getfield 11, 3), (51, .aload_n 0, 1)]
theorem dt_X7_repeat_1 : dOk cX7_repeat T_X7_repeat_1 := by unfold dOk; decide +kernel
def T_X7_repeat_2 : DT := [(52, .getfield 15, 3), (55, .aload_n 0, 1), (56, .getfield 11, 3), (59, .aload_n 0, 1), (60, .getfield 15, 3), (63, .iload 4, 2), (65, .isub, 1), (66, .iaload, 1), (67, .iastore, 1), (68, .aload_n 0, 1), (69, .dup, 1), (70, .getfield 15, 3), (73, .iconst 1, 1), (74, .iadd, 1), (75, .putfield 15, 3), (78, .iinc 5 1, 3)]
theorem dt_X7_repeat_2 : dOk cX7_repeat T_X7_repeat_2 := by unfold dOk; decide +kernel
def T_X7_repeat_3 : DT := [(81, .goto (-40), 3), (84, .iconst 1, 1), (85, .ireturn, 1)]
theorem dt_X7_repeat_3 : dOk cX7_repeat T_X7_repeat_3 := by unfold dOk; decide +kernel
section
variable {v : ZV} {l : Launch} {p : Program} {e : Env} {R : Room} {s : State} {m : MethodId} {args : Array Value} {below : List Frame} {meth : Method} {c : Code} {Q : State → Prop} {res : (Int32 × Hp)} 
set_option maxRecDepth 20000 in
theorem lkB_X7_repeat_41 (hi : zInj wC v) (xc : XC wC v) (nx : NXC v) (X : Cx wC v p R s m args c 0 0 cX7_repeat 6 RX7 2) (rt : Rt wC v p l e R s m args below meth c 0 0 Q cX7_repeat true (some (.int res.1)) res.2) {k41 : Nat → Int32 → Int32 → Int32 → Hp → Option (Int32 × Hp)} {r0 : Nat} {x3 : Int32} {x4 : Int32} {x5 : Int32} {σ : Hp} (hr0 : isS r0 = true) (hk41 : ∀ (r0 : Nat) (x3 : Int32) (x4 : Int32) (x5 : Int32) (σ : Hp), (hr0 : isS r0 = true) → k41 r0 x3 x4 x5 σ = some res → Go wC v p l e R s m args below meth c 0 0 Q 6 41 [(0, .ref r0), (3, .int x3), (4, .int x4), (5, .int x5)] [] σ) (h : B_X7_repeat_41  k41 r0 x3 x4 x5 σ = some res) : Go wC v p l e R s m args below meth c 0 0 Q 6 41 [(0, .ref r0), (3, .int x3), (4, .int x4), (5, .int x5)] [] σ := by
  unfold B_X7_repeat_41 at h
  refine go_iload X 3 (dk dt_X7_repeat_1 10 rfl) rfl ?_
  refine go_iload_n X 1 (dk dt_X7_repeat_1 11 rfl) rfl rfl ?_
  refine go_icmp_ge (tgt := 84) X (dk dt_X7_repeat_1 12 rfl) (by decide) h (fun h => ?_) (fun h => ?_)
  · refine go_iconst X (dk dt_X7_repeat_3 1 rfl) ci_1 ?_
    exact go_iret rt (dk dt_X7_repeat_3 2 rfl) h (by decide)
  · refine go_aload_n X 0 (dk dt_X7_repeat_1 13 rfl) rfl rfl ?_
    refine go_getr X fo_X7_11 (lS hr0) (sS hr0) (fS_0 hr0) (dk dt_X7_repeat_1 14 rfl) ?_
    refine go_aload_n X 0 (dk dt_X7_repeat_1 15 rfl) rfl rfl ?_
    refine go_geti X fo_X7_15 (lS hr0) (sS hr0) (fS_1 hr0) (dk dt_X7_repeat_2 0 rfl) ?_
    refine go_aload_n X 0 (dk dt_X7_repeat_2 1 rfl) rfl rfl ?_
    refine go_getr X fo_X7_11 (lS hr0) (sS hr0) (fS_0 hr0) (dk dt_X7_repeat_2 2 rfl) ?_
    refine go_aload_n X 0 (dk dt_X7_repeat_2 3 rfl) rfl rfl ?_
    refine go_geti X fo_X7_15 (lS hr0) (sS hr0) (fS_1 hr0) (dk dt_X7_repeat_2 4 rfl) ?_
    refine go_iload X 2 (dk dt_X7_repeat_2 5 rfl) rfl ?_
    refine go_isub X (dk dt_X7_repeat_2 6 rfl) ?_
    refine go_iald X (lSa_1 hr0) (sSa_1 hr0) (dk dt_X7_repeat_2 7 rfl) h (fun h => ?_)
    refine go_iast X (lSa_1 hr0) (sSa_1 hr0) (dk dt_X7_repeat_2 8 rfl) h (fun h => ?_)
    refine go_aload_n X 0 (dk dt_X7_repeat_2 9 rfl) rfl rfl ?_
    refine go_dup X (dk dt_X7_repeat_2 10 rfl) rfl ?_
    refine go_geti X fo_X7_15 (lS hr0) (sS hr0) (fS_1 hr0) (dk dt_X7_repeat_2 11 rfl) ?_
    refine go_iconst X (dk dt_X7_repeat_2 12 rfl) ci_1 ?_
    refine go_iadd X (dk dt_X7_repeat_2 13 rfl) ?_
    refine go_puti X fo_X7_15 pf_7_1 (lS hr0) (sS hr0) (fS_1 hr0) (dk dt_X7_repeat_2 14 rfl) ?_
    refine go_iinc (lv' := [(5, .int (x5 + (1 : Int32))), (0, .ref r0), (3, .int x3), (4, .int x4)]) X 3 (dk dt_X7_repeat_2 15 rfl) rfl ci_1 (by decide) rfl ?_
    refine go_goto (tgt := 41) X (dk dt_X7_repeat_3 0 rfl) (by decide) ?_
    refine go_sub [1, 2, 3, 0] rfl ?_
    exact hk41 _ _ _ _ _ hr0 h
set_option maxRecDepth 20000 in
theorem lkL_X7_repeat_41 (hi : zInj wC v) (xc : XC wC v) (nx : NXC v) (X : Cx wC v p R s m args c 0 0 cX7_repeat 6 RX7 2) (rt : Rt wC v p l e R s m args below meth c 0 0 Q cX7_repeat true (some (.int res.1)) res.2)   (n : Nat) : ∀ {r0 : Nat} {x3 : Int32} {x4 : Int32} {x5 : Int32} {σ : Hp}, (hr0 : isS r0 = true) → L_X7_repeat_41   n r0 x3 x4 x5 σ = some res → Go wC v p l e R s m args below meth c 0 0 Q 6 41 [(0, .ref r0), (3, .int x3), (4, .int x4), (5, .int x5)] [] σ := by
  induction n with
  | zero => intro r0 x3 x4 x5 σ hr0 h; cases h
  | succ n ih =>
    intro r0 x3 x4 x5 σ hr0 h
    exact lkB_X7_repeat_41 hi xc nx X rt hr0 (fun _ _ _ _ _ hq0 hh => ih hq0 hh) h
set_option maxRecDepth 20000 in
theorem lkF_X7_repeat (hi : zInj wC v) (xc : XC wC v) (nx : NXC v) (X : Cx wC v p R s m args c 0 0 cX7_repeat 6 RX7 2) (rt : Rt wC v p l e R s m args below meth c 0 0 Q cX7_repeat true (some (.int res.1)) res.2) {t : Nat} {a1 : Int32} {a2 : Int32} {σ : Hp} (ht : isS t = true) (h : F_X7_repeat  t a1 a2 σ = some res) : Go wC v p l e R s m args below meth c 0 0 Q 6 0 [(0, .ref t), (1, .int a1), (2, .int a2)] [] σ := by
  unfold F_X7_repeat at h
  refine go_aload_n X 0 (dk dt_X7_repeat_0 0 rfl) rfl rfl ?_
  refine go_geti X fo_X7_15 (lS ht) (sS ht) (fS_1 ht) (dk dt_X7_repeat_0 1 rfl) ?_
  refine go_iload_n X 1 (dk dt_X7_repeat_0 2 rfl) rfl rfl ?_
  refine go_isub X (dk dt_X7_repeat_0 3 rfl) ?_
  refine go_iload_n X 2 (dk dt_X7_repeat_0 4 rfl) rfl rfl ?_
  refine go_imul X (dk dt_X7_repeat_0 5 rfl) ?_
  refine go_istore_n (lv' := [(3, .int (((σ t 1) - a1) * a2)), (0, .ref t), (1, .int a1), (2, .int a2)]) X (dk dt_X7_repeat_0 6 rfl) rfl (by decide) rfl ?_
  refine go_iload_n X 2 (dk dt_X7_repeat_0 7 rfl) rfl rfl ?_
  refine go_if_lt (tgt := 28) X (dk dt_X7_repeat_0 8 rfl) (by decide) h (fun h => ?_) (fun h => ?_)
  · refine go_iconst X (dk dt_X7_repeat_1 1 rfl) ci_0 ?_
    exact go_iret rt (dk dt_X7_repeat_1 2 rfl) h (by decide)
  · refine go_iload_n X 0 (dk dt_X7_repeat_0 9 rfl) rfl rfl ?_
    refine go_if_lt (tgt := 28) X (dk dt_X7_repeat_0 10 rfl) (by decide) h (fun h => ?_) (fun h => ?_)
    · refine go_iconst X (dk dt_X7_repeat_1 1 rfl) ci_0 ?_
      exact go_iret rt (dk dt_X7_repeat_1 2 rfl) h (by decide)
    · refine go_aload_n X 1 (dk dt_X7_repeat_0 11 rfl) rfl rfl ?_
      refine go_geti X fo_X7_15 (lS ht) (sS ht) (fS_1 ht) (dk dt_X7_repeat_0 12 rfl) ?_
      refine go_iload_n X 0 (dk dt_X7_repeat_0 13 rfl) rfl rfl ?_
      refine go_iadd X (dk dt_X7_repeat_0 14 rfl) ?_
      refine go_bipush X (dk dt_X7_repeat_0 15 rfl) cb_60 ?_
      refine go_icmp_le (tgt := 30) X (dk dt_X7_repeat_1 0 rfl) (by decide) h (fun h => ?_) (fun h => ?_)
      · refine go_aload_n X 1 (dk dt_X7_repeat_1 3 rfl) rfl rfl ?_
        refine go_geti X fo_X7_15 (lS ht) (sS ht) (fS_1 ht) (dk dt_X7_repeat_1 4 rfl) ?_
        refine go_iload_n X 2 (dk dt_X7_repeat_1 5 rfl) rfl rfl ?_
        refine go_isub X (dk dt_X7_repeat_1 6 rfl) ?_
        refine go_istore (lv' := [(4, .int ((σ t 1) - a1)), (3, .int (((σ t 1) - a1) * a2)), (0, .ref t), (1, .int a1), (2, .int a2)]) X (dk dt_X7_repeat_1 7 rfl) (by decide) rfl ?_
        refine go_iconst X (dk dt_X7_repeat_1 8 rfl) ci_0 ?_
        refine go_istore (lv' := [(5, .int (0 : Int32)), (4, .int ((σ t 1) - a1)), (3, .int (((σ t 1) - a1) * a2)), (0, .ref t), (1, .int a1), (2, .int a2)]) X (dk dt_X7_repeat_1 9 rfl) (by decide) rfl ?_
        refine go_sub [3, 2, 1, 0] rfl ?_
        exact lkL_X7_repeat_41 hi xc nx X rt  FU ht h
      · refine go_iconst X (dk dt_X7_repeat_1 1 rfl) ci_0 ?_
        exact go_iret rt (dk dt_X7_repeat_1 2 rfl) h (by decide)
set_option maxRecDepth 20000 in
theorem ct_X7_repeat (hi : zInj wC v) (xc : XC wC v) (nx : NXC v)  {t : Nat} {a1 : Int32} {a2 : Int32} {σ : Hp} (ht : isS t = true) {q : (Int32 × Hp)} (h : F_X7_repeat  t a1 a2 σ = some q) : Ct wC v l yX7_repeat cX7_repeat 6 (some .boolean) 2 [.ref t, .int a1, .int a2] σ (some (.int q.1)) q.2 :=
  Ct.intro true (by decide) hi xc (Nat.le_of_ble_eq_true rfl) rfl (fun p e R s m args below meth c Q X rt => lkF_X7_repeat hi xc nx X rt ht h)
end
def T_X7_readItem_0 : DT := [(0, .aload_n 1, 1), (1, .getfield 46, 3), (4, .istore_n 3, 1), (5, .iconst 1, 1), (6, .istore 4, 2), (8, .aload_n 1, 1), (9, .invokevirtual 49, 3), (12, .iconst 2, 1), (13, .if_icmp .lt 19, 3), (16, .aload_n 1, 1), (17, .invokevirtual 49, 3), (20, .istore 4, 2), (22, .aload_n 1, 1), (23, .dup, 1), (24, .getfield 46, 3), (27, .iconst 1, 1)]
theorem dt_X7_readItem_0 : dOk cX7_readItem T_X7_readItem_0 := by unfold dOk; decide +kernel
def T_X7_readItem_1 : DT := [(28, .iadd, 1), (29, .putfield 46, 3), (32, .aload_n 0, 1), (33, .getfield 15, 3), (36, .istore 5, 2), (38, .aload_n 1, 1), (39, .invokevirtual 35, 3), (42, .istore 6, 2), (44, .iload 6, 2), (46, .bipush 40, 2), (48, .if_icmp .ne 81, 3), (51, .iload_n 2, 1), (52, .iconst 2, 1), (53, .if_icmp .lt 9, 3), (56, .aload_n 1, 1), (57, .iconst 5, 1)]
theorem dt_X7_readItem_1 : dOk cX7_readItem T_X7_readItem_1 := by unfold dOk; decide +kernel
def T_X7_readItem_2 : DT := [(58, .invokevirtual 39, 3), (61, .ireturn, 1), (62, .aload_n 1, 1), (63, .dup, 1), (64, .getfield 46, 3), (67, .iconst 1, 1), (68, .iadd, 1), (69, .putfield 46, 3), (72, .aload_n 0, 1), (73, .aload_n 1, 1), (74, .iload_n 2, 1), (75, .iconst 1, 1), (76, .iadd, 1), (77, .invokevirtual 31, 3), (80, .ifCond .ne 5, 3), (83, .iconst 0, 1)]
theorem dt_X7_readItem_2 : dOk cX7_readItem T_X7_readItem_2 := by unfold dOk; decide +kernel
def T_X7_readItem_3 : DT := [(84, .ireturn, 1), (85, .aload_n 1, 1), (86, .bipush 41, 2), (88, .invokevirtual 52, 3), (91, .ifCond .ne 9, 3), (94, .aload_n 1, 1), (95, .iconst 1, 1), (96, .invokevirtual 39, 3), (99, .ireturn, 1), (100, .aload_n 0, 1), (101, .iload 5, 2), (103, .iload 4, 2), (105, .iconst 1, 1), (106, .isub, 1), (107, .invokevirtual 55, 3), (110, .ifCond .ne 13, 3)]
theorem dt_X7_readItem_3 : dOk cX7_readItem T_X7_readItem_3 := by unfold dOk; decide +kernel
def T_X7_readItem_4 : DT := [(113, .aload_n 1, 1), (114, .bipush 6, 2), (116, .iload_n 3, 1), (117, .invokevirtual 59, 3), (120, .ifCond .eq 7, 3), (123, .iconst 1, 1), (124, .goto 4, 3), (127, .iconst 0, 1), (128, .ireturn, 1), (129, .iload 6, 2), (131, .bipush 46, 2), (133, .if_icmp .eq 21, 3), (136, .iload 6, 2), (138, .bipush 97, 2), (140, .bipush 101, 2), (142, .invokestatic 62, 3)]
theorem dt_X7_readItem_4 : dOk cX7_readItem T_X7_readItem_4 := by unfold dOk; decide +kernel
def T_X7_readItem_5 : DT := [(145, .ifCond .ne 9, 3), (148, .aload_n 1, 1), (149, .iconst 1, 1), (150, .invokevirtual 39, 3), (153, .ireturn, 1), (154, .aload_n 1, 1), (155, .dup, 1), (156, .getfield 46, 3), (159, .iconst 1, 1), (160, .iadd, 1), (161, .putfield 46, 3), (164, .aload_n 0, 1), (165, .getfield 15, 3), (168, .bipush 60, 2), (170, .if_icmp .lt 11, 3), (173, .aload_n 1, 1)]
theorem dt_X7_readItem_5 : dOk cX7_readItem T_X7_readItem_5 := by unfold dOk; decide +kernel
def T_X7_readItem_6 : DT := [(174, .bipush 6, 2), (176, .iload_n 3, 1), (177, .invokevirtual 59, 3), (180, .ireturn, 1), (181, .aload_n 0, 1), (182, .getfield 11, 3), (185, .aload_n 0, 1), (186, .getfield 15, 3), (189, .iload 6, 2), (191, .bipush 46, 2), (193, .if_icmp .ne 7, 3), (196, .iconst 0, 1), (197, .goto 10, 3), (200, .iload 6, 2), (202, .bipush 97, 2), (204, .isub, 1)]
theorem dt_X7_readItem_6 : dOk cX7_readItem T_X7_readItem_6 := by unfold dOk; decide +kernel
def T_X7_readItem_7 : DT := [(205, .iconst 1, 1), (206, .iadd, 1), (207, .iastore, 1), (208, .aload_n 0, 1), (209, .dup, 1), (210, .getfield 15, 3), (213, .iconst 1, 1), (214, .iadd, 1), (215, .putfield 15, 3), (218, .aload_n 0, 1), (219, .iload 5, 2), (221, .iload 4, 2), (223, .iconst 1, 1), (224, .isub, 1), (225, .invokevirtual 55, 3), (228, .ifCond .ne 13, 3)]
theorem dt_X7_readItem_7 : dOk cX7_readItem T_X7_readItem_7 := by unfold dOk; decide +kernel
def T_X7_readItem_8 : DT := [(231, .aload_n 1, 1), (232, .bipush 6, 2), (234, .iload_n 3, 1), (235, .invokevirtual 59, 3), (238, .ifCond .eq 7, 3), (241, .iconst 1, 1), (242, .goto 4, 3), (245, .iconst 0, 1), (246, .ireturn, 1)]
theorem dt_X7_readItem_8 : dOk cX7_readItem T_X7_readItem_8 := by unfold dOk; decide +kernel
section
variable {v : ZV} {l : Launch} {p : Program} {e : Env} {R : Room} {s : State} {m : MethodId} {args : Array Value} {below : List Frame} {meth : Method} {c : Code} {Q : State → Prop} {res : (Int32 × Hp)} {d d' : Nat} {o_X7_readLamps : Nat → Int32 → Hp → Option (Int32 × Hp)}
set_option maxRecDepth 20000 in
theorem lkJ_X7_readItem_207 (hi : zInj wC v) (xc : XC wC v) (nx : NXC v) (X : Cx wC v p R s m args c 0 0 cX7_readItem 7 RX7 d) (rt : Rt wC v p l e R s m args below meth c 0 0 Q cX7_readItem true (some (.int res.1)) res.2) (hdb : 6 ≤ d) (ho_X7_readLamps : ∀ {t : Nat} {b1 : Int32} {σ : Hp} {q : (Int32 × Hp)}, (ht : isS t = true) → o_X7_readLamps t b1 σ = some q → Ct wC v l yX7_readLamps cX7_readLamps 4 (some .boolean) d' [.ref t, .ref 23, .int b1] σ (some (.int q.1)) q.2) (hdd : d' < d)  {r0 : Nat} {x3 : Int32} {x4 : Int32} {x5 : Int32} {s0 : Int32} {s1 : Int32} {s2 : Nat} {s2n : Nat} {σ : Hp} (hr0 : isS r0 = true) (hs2 : s2 < wC.1) (hs2n : wC.2.1 s2 = (0, s2n))  (h : J_X7_readItem_207 o_X7_readLamps  r0 x3 x4 x5 s0 s1 s2 s2n σ = some res) : Go wC v p l e R s m args below meth c 0 0 Q 7 207 [(0, .ref r0), (1, .ref 23), (3, .int x3), (4, .int x4), (5, .int x5)] [.int s0, .int s1, .ref s2] σ := by
  unfold J_X7_readItem_207 at h
  refine go_iast X hs2 hs2n (dk dt_X7_readItem_7 2 rfl) h (fun h => ?_)
  refine go_aload_n X 0 (dk dt_X7_readItem_7 3 rfl) rfl rfl ?_
  refine go_dup X (dk dt_X7_readItem_7 4 rfl) rfl ?_
  refine go_geti X fo_X7_15 (lS hr0) (sS hr0) (fS_1 hr0) (dk dt_X7_readItem_7 5 rfl) ?_
  refine go_iconst X (dk dt_X7_readItem_7 6 rfl) ci_1 ?_
  refine go_iadd X (dk dt_X7_readItem_7 7 rfl) ?_
  refine go_puti X fo_X7_15 pf_7_1 (lS hr0) (sS hr0) (fS_1 hr0) (dk dt_X7_readItem_7 8 rfl) ?_
  refine go_aload_n X 0 (dk dt_X7_readItem_7 9 rfl) rfl rfl ?_
  refine go_iload X 4 (dk dt_X7_readItem_7 10 rfl) rfl ?_
  refine go_iload X 3 (dk dt_X7_readItem_7 11 rfl) rfl ?_
  refine go_iconst X (dk dt_X7_readItem_7 12 rfl) ci_1 ?_
  refine go_isub X (dk dt_X7_readItem_7 13 rfl) ?_
  refine go_Vi (As := [.int x5, .int (x4 - (1 : Int32))]) (rest := []) X vo_X7_55 (fun q hq => ct_X7_repeat hi xc nx hr0 hq) (by omega) rfl (lS hr0) (sS hr0) rfl rfl (Nat.le_of_ble_eq_true rfl) (dk dt_X7_readItem_7 14 rfl) h (fun q225 h => ?_)
  refine go_if_ne (tgt := 241) X (dk dt_X7_readItem_7 15 rfl) (by decide) h (fun h => ?_) (fun h => ?_)
  · refine go_iconst X (dk dt_X7_readItem_8 5 rfl) ci_1 ?_
    refine go_goto (tgt := 246) X (dk dt_X7_readItem_8 6 rfl) (by decide) ?_
    exact go_iret rt (dk dt_X7_readItem_8 8 rfl) h (by decide)
  · refine go_aload_n X 1 (dk dt_X7_readItem_8 0 rfl) rfl rfl ?_
    refine go_bipush X (dk dt_X7_readItem_8 1 rfl) cb_6 ?_
    refine go_iload_n X 2 (dk dt_X7_readItem_8 2 rfl) rfl rfl ?_
    refine go_Vi (As := [.int (6 : Int32), .int x3]) (rest := []) X vo_X7_59 (fun q hq => ct_X8_refuseAt hi xc nx  hq) (by omega) rfl lC_23 sC_23 rfl rfl (Nat.le_of_ble_eq_true rfl) (dk dt_X7_readItem_8 3 rfl) h (fun q235 h => ?_)
    refine go_if_eq (tgt := 245) X (dk dt_X7_readItem_8 4 rfl) (by decide) h (fun h => ?_) (fun h => ?_)
    · refine go_iconst X (dk dt_X7_readItem_8 7 rfl) ci_0 ?_
      exact go_iret rt (dk dt_X7_readItem_8 8 rfl) h (by decide)
    · refine go_iconst X (dk dt_X7_readItem_8 5 rfl) ci_1 ?_
      refine go_goto (tgt := 246) X (dk dt_X7_readItem_8 6 rfl) (by decide) ?_
      exact go_iret rt (dk dt_X7_readItem_8 8 rfl) h (by decide)
set_option maxRecDepth 20000 in
theorem lkJ_X7_readItem_154 (hi : zInj wC v) (xc : XC wC v) (nx : NXC v) (X : Cx wC v p R s m args c 0 0 cX7_readItem 7 RX7 d) (rt : Rt wC v p l e R s m args below meth c 0 0 Q cX7_readItem true (some (.int res.1)) res.2) (hdb : 6 ≤ d) (ho_X7_readLamps : ∀ {t : Nat} {b1 : Int32} {σ : Hp} {q : (Int32 × Hp)}, (ht : isS t = true) → o_X7_readLamps t b1 σ = some q → Ct wC v l yX7_readLamps cX7_readLamps 4 (some .boolean) d' [.ref t, .ref 23, .int b1] σ (some (.int q.1)) q.2) (hdd : d' < d)  {r0 : Nat} {x3 : Int32} {x4 : Int32} {x5 : Int32} {x6 : Int32} {σ : Hp} (hr0 : isS r0 = true)  (h : J_X7_readItem_154 o_X7_readLamps  r0 x3 x4 x5 x6 σ = some res) : Go wC v p l e R s m args below meth c 0 0 Q 7 154 [(0, .ref r0), (1, .ref 23), (3, .int x3), (4, .int x4), (5, .int x5), (6, .int x6)] [] σ := by
  unfold J_X7_readItem_154 at h
  refine go_aload_n X 1 (dk dt_X7_readItem_5 5 rfl) rfl rfl ?_
  refine go_dup X (dk dt_X7_readItem_5 6 rfl) rfl ?_
  refine go_geti X fo_X7_46 lC_23 sC_23 fC_23_3 (dk dt_X7_readItem_5 7 rfl) ?_
  refine go_iconst X (dk dt_X7_readItem_5 8 rfl) ci_1 ?_
  refine go_iadd X (dk dt_X7_readItem_5 9 rfl) ?_
  refine go_puti X fo_X7_46 pf_8_3 lC_23 sC_23 fC_23_3 (dk dt_X7_readItem_5 10 rfl) ?_
  refine go_aload_n X 0 (dk dt_X7_readItem_5 11 rfl) rfl rfl ?_
  refine go_geti X fo_X7_15 (lS hr0) (sS hr0) (fS_1 hr0) (dk dt_X7_readItem_5 12 rfl) ?_
  refine go_bipush X (dk dt_X7_readItem_5 13 rfl) cb_60 ?_
  refine go_icmp_lt (tgt := 181) X (dk dt_X7_readItem_5 14 rfl) (by decide) h (fun h => ?_) (fun h => ?_)
  · refine go_aload_n X 0 (dk dt_X7_readItem_6 4 rfl) rfl rfl ?_
    refine go_getr X fo_X7_11 (lS hr0) (sS hr0) (fS_0 hr0) (dk dt_X7_readItem_6 5 rfl) ?_
    refine go_aload_n X 0 (dk dt_X7_readItem_6 6 rfl) rfl rfl ?_
    refine go_geti X fo_X7_15 (lS hr0) (sS hr0) (fS_1 hr0) (dk dt_X7_readItem_6 7 rfl) ?_
    refine go_iload X 5 (dk dt_X7_readItem_6 8 rfl) rfl ?_
    refine go_bipush X (dk dt_X7_readItem_6 9 rfl) cb_46 ?_
    refine go_icmp_ne (tgt := 200) X (dk dt_X7_readItem_6 10 rfl) (by decide) h (fun h => ?_) (fun h => ?_)
    · refine go_iload X 5 (dk dt_X7_readItem_6 13 rfl) rfl ?_
      refine go_bipush X (dk dt_X7_readItem_6 14 rfl) cb_97 ?_
      refine go_isub X (dk dt_X7_readItem_6 15 rfl) ?_
      refine go_iconst X (dk dt_X7_readItem_7 0 rfl) ci_1 ?_
      refine go_iadd X (dk dt_X7_readItem_7 1 rfl) ?_
      refine go_sub [0, 1, 2, 3, 4] rfl ?_
      exact lkJ_X7_readItem_207 hi xc nx X rt hdb ho_X7_readLamps hdd hr0 (lSa_1 hr0) (sSa_1 hr0)  h
    · refine go_iconst X (dk dt_X7_readItem_6 11 rfl) ci_0 ?_
      refine go_goto (tgt := 207) X (dk dt_X7_readItem_6 12 rfl) (by decide) ?_
      refine go_sub [0, 1, 2, 3, 4] rfl ?_
      exact lkJ_X7_readItem_207 hi xc nx X rt hdb ho_X7_readLamps hdd hr0 (lSa_1 hr0) (sSa_1 hr0)  h
  · refine go_aload_n X 1 (dk dt_X7_readItem_5 15 rfl) rfl rfl ?_
    refine go_bipush X (dk dt_X7_readItem_6 0 rfl) cb_6 ?_
    refine go_iload_n X 2 (dk dt_X7_readItem_6 1 rfl) rfl rfl ?_
    refine go_Vi (As := [.int (6 : Int32), .int x3]) (rest := []) X vo_X7_59 (fun q hq => ct_X8_refuseAt hi xc nx  hq) (by omega) rfl lC_23 sC_23 rfl rfl (Nat.le_of_ble_eq_true rfl) (dk dt_X7_readItem_6 2 rfl) h (fun q177 h => ?_)
    exact go_zret rt (dk dt_X7_readItem_6 3 rfl) h
set_option maxRecDepth 20000 in
theorem lkJ_X7_readItem_32 (hi : zInj wC v) (xc : XC wC v) (nx : NXC v) (X : Cx wC v p R s m args c 0 0 cX7_readItem 7 RX7 d) (rt : Rt wC v p l e R s m args below meth c 0 0 Q cX7_readItem true (some (.int res.1)) res.2) (hdb : 6 ≤ d) (ho_X7_readLamps : ∀ {t : Nat} {b1 : Int32} {σ : Hp} {q : (Int32 × Hp)}, (ht : isS t = true) → o_X7_readLamps t b1 σ = some q → Ct wC v l yX7_readLamps cX7_readLamps 4 (some .boolean) d' [.ref t, .ref 23, .int b1] σ (some (.int q.1)) q.2) (hdd : d' < d)  {r0 : Nat} {x2 : Int32} {x3 : Int32} {x4 : Int32} {σ : Hp} (hr0 : isS r0 = true)  (h : J_X7_readItem_32 o_X7_readLamps  r0 x2 x3 x4 σ = some res) : Go wC v p l e R s m args below meth c 0 0 Q 7 32 [(0, .ref r0), (1, .ref 23), (2, .int x2), (3, .int x3), (4, .int x4)] [] σ := by
  unfold J_X7_readItem_32 at h
  refine go_aload_n X 0 (dk dt_X7_readItem_1 2 rfl) rfl rfl ?_
  refine go_geti X fo_X7_15 (lS hr0) (sS hr0) (fS_1 hr0) (dk dt_X7_readItem_1 3 rfl) ?_
  refine go_istore (lv' := [(5, .int (σ r0 1)), (0, .ref r0), (1, .ref 23), (2, .int x2), (3, .int x3), (4, .int x4)]) X (dk dt_X7_readItem_1 4 rfl) (by decide) rfl ?_
  refine go_aload_n X 2 (dk dt_X7_readItem_1 5 rfl) rfl rfl ?_
  refine go_Vi (As := []) (rest := []) X vo_X7_35 (fun q hq => ct_X8_here hi xc nx  hq) (by omega) rfl lC_23 sC_23 rfl rfl (Nat.le_of_ble_eq_true rfl) (dk dt_X7_readItem_1 6 rfl) h (fun q39 h => ?_)
  refine go_istore (lv' := [(6, .int q39.1), (5, .int (σ r0 1)), (0, .ref r0), (1, .ref 23), (2, .int x2), (3, .int x3), (4, .int x4)]) X (dk dt_X7_readItem_1 7 rfl) (by decide) rfl ?_
  refine go_iload X 0 (dk dt_X7_readItem_1 8 rfl) rfl ?_
  refine go_bipush X (dk dt_X7_readItem_1 9 rfl) cb_40 ?_
  refine go_icmp_ne (tgt := 129) X (dk dt_X7_readItem_1 10 rfl) (by decide) h (fun h => ?_) (fun h => ?_)
  · refine go_iload X 0 (dk dt_X7_readItem_4 9 rfl) rfl ?_
    refine go_bipush X (dk dt_X7_readItem_4 10 rfl) cb_46 ?_
    refine go_icmp_eq (tgt := 154) X (dk dt_X7_readItem_4 11 rfl) (by decide) h (fun h => ?_) (fun h => ?_)
    · refine go_sub [2, 3, 5, 6, 1, 0] rfl ?_
      exact lkJ_X7_readItem_154 hi xc nx X rt hdb ho_X7_readLamps hdd hr0  h
    · refine go_iload X 0 (dk dt_X7_readItem_4 12 rfl) rfl ?_
      refine go_bipush X (dk dt_X7_readItem_4 13 rfl) cb_97 ?_
      refine go_bipush X (dk dt_X7_readItem_4 14 rfl) cb_101 ?_
      refine go_Ni (As := [.int q39.1, .int (97 : Int32), .int (101 : Int32)]) (rest := []) X no_V_within nx.2.1 (fun q hq => ct_V_within hi xc nx  hq) (by omega) rfl rfl (Nat.le_of_ble_eq_true rfl) (dk dt_X7_readItem_4 15 rfl) h (fun q142 h => ?_)
      refine go_if_ne (tgt := 154) X (dk dt_X7_readItem_5 0 rfl) (by decide) h (fun h => ?_) (fun h => ?_)
      · refine go_sub [2, 3, 5, 6, 1, 0] rfl ?_
        exact lkJ_X7_readItem_154 hi xc nx X rt hdb ho_X7_readLamps hdd hr0  h
      · refine go_aload_n X 3 (dk dt_X7_readItem_5 1 rfl) rfl rfl ?_
        refine go_iconst X (dk dt_X7_readItem_5 2 rfl) ci_1 ?_
        refine go_Vi (As := [.int (1 : Int32)]) (rest := []) X vo_X7_39 (fun q hq => ct_X8_refuse hi xc nx  hq) (by omega) rfl lC_23 sC_23 rfl rfl (Nat.le_of_ble_eq_true rfl) (dk dt_X7_readItem_5 3 rfl) h (fun q150 h => ?_)
        exact go_zret rt (dk dt_X7_readItem_5 4 rfl) h
  · refine go_iload_n X 4 (dk dt_X7_readItem_1 11 rfl) rfl rfl ?_
    refine go_iconst X (dk dt_X7_readItem_1 12 rfl) ci_2 ?_
    refine go_icmp_lt (tgt := 62) X (dk dt_X7_readItem_1 13 rfl) (by decide) h (fun h => ?_) (fun h => ?_)
    · refine go_aload_n X 3 (dk dt_X7_readItem_2 2 rfl) rfl rfl ?_
      refine go_dup X (dk dt_X7_readItem_2 3 rfl) rfl ?_
      refine go_geti X fo_X7_46 lC_23 sC_23 fC_23_3 (dk dt_X7_readItem_2 4 rfl) ?_
      refine go_iconst X (dk dt_X7_readItem_2 5 rfl) ci_1 ?_
      refine go_iadd X (dk dt_X7_readItem_2 6 rfl) ?_
      refine go_puti X fo_X7_46 pf_8_3 lC_23 sC_23 fC_23_3 (dk dt_X7_readItem_2 7 rfl) ?_
      refine go_aload_n X 2 (dk dt_X7_readItem_2 8 rfl) rfl rfl ?_
      refine go_aload_n X 3 (dk dt_X7_readItem_2 9 rfl) rfl rfl ?_
      refine go_iload_n X 4 (dk dt_X7_readItem_2 10 rfl) rfl rfl ?_
      refine go_iconst X (dk dt_X7_readItem_2 11 rfl) ci_1 ?_
      refine go_iadd X (dk dt_X7_readItem_2 12 rfl) ?_
      refine go_Vi (As := [.ref 23, .int (x2 + (1 : Int32))]) (rest := []) X vo_X7_31 (fun q hq => ho_X7_readLamps hr0 hq) hdd rfl (lS hr0) (sS hr0) rfl rfl (Nat.le_of_ble_eq_true rfl) (dk dt_X7_readItem_2 13 rfl) h (fun q77 h => ?_)
      refine go_if_ne (tgt := 85) X (dk dt_X7_readItem_2 14 rfl) (by decide) h (fun h => ?_) (fun h => ?_)
      · refine go_aload_n X 3 (dk dt_X7_readItem_3 1 rfl) rfl rfl ?_
        refine go_bipush X (dk dt_X7_readItem_3 2 rfl) cb_41 ?_
        refine go_Vi (As := [.int (41 : Int32)]) (rest := []) X vo_X7_52 (fun q hq => ct_X8_takes hi xc nx  hq) (by omega) rfl lC_23 sC_23 rfl rfl (Nat.le_of_ble_eq_true rfl) (dk dt_X7_readItem_3 3 rfl) h (fun q88 h => ?_)
        refine go_if_ne (tgt := 100) X (dk dt_X7_readItem_3 4 rfl) (by decide) h (fun h => ?_) (fun h => ?_)
        · refine go_aload_n X 2 (dk dt_X7_readItem_3 9 rfl) rfl rfl ?_
          refine go_iload X 1 (dk dt_X7_readItem_3 10 rfl) rfl ?_
          refine go_iload X 6 (dk dt_X7_readItem_3 11 rfl) rfl ?_
          refine go_iconst X (dk dt_X7_readItem_3 12 rfl) ci_1 ?_
          refine go_isub X (dk dt_X7_readItem_3 13 rfl) ?_
          refine go_Vi (As := [.int (σ r0 1), .int (x4 - (1 : Int32))]) (rest := []) X vo_X7_55 (fun q hq => ct_X7_repeat hi xc nx hr0 hq) (by omega) rfl (lS hr0) (sS hr0) rfl rfl (Nat.le_of_ble_eq_true rfl) (dk dt_X7_readItem_3 14 rfl) h (fun q107 h => ?_)
          refine go_if_ne (tgt := 123) X (dk dt_X7_readItem_3 15 rfl) (by decide) h (fun h => ?_) (fun h => ?_)
          · refine go_iconst X (dk dt_X7_readItem_4 5 rfl) ci_1 ?_
            refine go_goto (tgt := 128) X (dk dt_X7_readItem_4 6 rfl) (by decide) ?_
            exact go_iret rt (dk dt_X7_readItem_4 8 rfl) h (by decide)
          · refine go_aload_n X 3 (dk dt_X7_readItem_4 0 rfl) rfl rfl ?_
            refine go_bipush X (dk dt_X7_readItem_4 1 rfl) cb_6 ?_
            refine go_iload_n X 5 (dk dt_X7_readItem_4 2 rfl) rfl rfl ?_
            refine go_Vi (As := [.int (6 : Int32), .int x3]) (rest := []) X vo_X7_59 (fun q hq => ct_X8_refuseAt hi xc nx  hq) (by omega) rfl lC_23 sC_23 rfl rfl (Nat.le_of_ble_eq_true rfl) (dk dt_X7_readItem_4 3 rfl) h (fun q117 h => ?_)
            refine go_if_eq (tgt := 127) X (dk dt_X7_readItem_4 4 rfl) (by decide) h (fun h => ?_) (fun h => ?_)
            · refine go_iconst X (dk dt_X7_readItem_4 7 rfl) ci_0 ?_
              exact go_iret rt (dk dt_X7_readItem_4 8 rfl) h (by decide)
            · refine go_iconst X (dk dt_X7_readItem_4 5 rfl) ci_1 ?_
              refine go_goto (tgt := 128) X (dk dt_X7_readItem_4 6 rfl) (by decide) ?_
              exact go_iret rt (dk dt_X7_readItem_4 8 rfl) h (by decide)
        · refine go_aload_n X 3 (dk dt_X7_readItem_3 5 rfl) rfl rfl ?_
          refine go_iconst X (dk dt_X7_readItem_3 6 rfl) ci_1 ?_
          refine go_Vi (As := [.int (1 : Int32)]) (rest := []) X vo_X7_39 (fun q hq => ct_X8_refuse hi xc nx  hq) (by omega) rfl lC_23 sC_23 rfl rfl (Nat.le_of_ble_eq_true rfl) (dk dt_X7_readItem_3 7 rfl) h (fun q96 h => ?_)
          exact go_zret rt (dk dt_X7_readItem_3 8 rfl) h
      · refine go_iconst X (dk dt_X7_readItem_2 15 rfl) ci_0 ?_
        exact go_iret rt (dk dt_X7_readItem_3 0 rfl) h (by decide)
    · refine go_aload_n X 3 (dk dt_X7_readItem_1 14 rfl) rfl rfl ?_
      refine go_iconst X (dk dt_X7_readItem_1 15 rfl) ci_5 ?_
      refine go_Vi (As := [.int (5 : Int32)]) (rest := []) X vo_X7_39 (fun q hq => ct_X8_refuse hi xc nx  hq) (by omega) rfl lC_23 sC_23 rfl rfl (Nat.le_of_ble_eq_true rfl) (dk dt_X7_readItem_2 0 rfl) h (fun q58 h => ?_)
      exact go_zret rt (dk dt_X7_readItem_2 1 rfl) h
set_option maxRecDepth 20000 in
theorem lkF_X7_readItem (hi : zInj wC v) (xc : XC wC v) (nx : NXC v) (X : Cx wC v p R s m args c 0 0 cX7_readItem 7 RX7 d) (rt : Rt wC v p l e R s m args below meth c 0 0 Q cX7_readItem true (some (.int res.1)) res.2) (hdb : 6 ≤ d) (ho_X7_readLamps : ∀ {t : Nat} {b1 : Int32} {σ : Hp} {q : (Int32 × Hp)}, (ht : isS t = true) → o_X7_readLamps t b1 σ = some q → Ct wC v l yX7_readLamps cX7_readLamps 4 (some .boolean) d' [.ref t, .ref 23, .int b1] σ (some (.int q.1)) q.2) (hdd : d' < d) {t : Nat} {a2 : Int32} {σ : Hp} (ht : isS t = true) (h : F_X7_readItem o_X7_readLamps t a2 σ = some res) : Go wC v p l e R s m args below meth c 0 0 Q 7 0 [(0, .ref t), (1, .ref 23), (2, .int a2)] [] σ := by
  unfold F_X7_readItem at h
  refine go_aload_n X 1 (dk dt_X7_readItem_0 0 rfl) rfl rfl ?_
  refine go_geti X fo_X7_46 lC_23 sC_23 fC_23_3 (dk dt_X7_readItem_0 1 rfl) ?_
  refine go_istore_n (lv' := [(3, .int (σ 23 3)), (0, .ref t), (1, .ref 23), (2, .int a2)]) X (dk dt_X7_readItem_0 2 rfl) rfl (by decide) rfl ?_
  refine go_iconst X (dk dt_X7_readItem_0 3 rfl) ci_1 ?_
  refine go_istore (lv' := [(4, .int (1 : Int32)), (3, .int (σ 23 3)), (0, .ref t), (1, .ref 23), (2, .int a2)]) X (dk dt_X7_readItem_0 4 rfl) (by decide) rfl ?_
  refine go_aload_n X 3 (dk dt_X7_readItem_0 5 rfl) rfl rfl ?_
  refine go_Vi (As := []) (rest := []) X vo_X7_49 (fun q hq => ct_X8_digit hi xc nx  hq) (by omega) rfl lC_23 sC_23 rfl rfl (Nat.le_of_ble_eq_true rfl) (dk dt_X7_readItem_0 6 rfl) h (fun q9 h => ?_)
  refine go_iconst X (dk dt_X7_readItem_0 7 rfl) ci_2 ?_
  refine go_icmp_lt (tgt := 32) X (dk dt_X7_readItem_0 8 rfl) (by decide) h (fun h => ?_) (fun h => ?_)
  · refine go_sub [2, 3, 4, 1, 0] rfl ?_
    exact lkJ_X7_readItem_32 hi xc nx X rt hdb ho_X7_readLamps hdd ht  h
  · refine go_aload_n X 3 (dk dt_X7_readItem_0 9 rfl) rfl rfl ?_
    refine go_Vi (As := []) (rest := []) X vo_X7_49 (fun q hq => ct_X8_digit hi xc nx  hq) (by omega) rfl lC_23 sC_23 rfl rfl (Nat.le_of_ble_eq_true rfl) (dk dt_X7_readItem_0 10 rfl) h (fun q17 h => ?_)
    refine go_istore (lv' := [(4, .int q17.1), (3, .int (σ 23 3)), (0, .ref t), (1, .ref 23), (2, .int a2)]) X (dk dt_X7_readItem_0 11 rfl) (by decide) rfl ?_
    refine go_aload_n X 3 (dk dt_X7_readItem_0 12 rfl) rfl rfl ?_
    refine go_dup X (dk dt_X7_readItem_0 13 rfl) rfl ?_
    refine go_geti X fo_X7_46 lC_23 sC_23 fC_23_3 (dk dt_X7_readItem_0 14 rfl) ?_
    refine go_iconst X (dk dt_X7_readItem_0 15 rfl) ci_1 ?_
    refine go_iadd X (dk dt_X7_readItem_1 0 rfl) ?_
    refine go_puti X fo_X7_46 pf_8_3 lC_23 sC_23 fC_23_3 (dk dt_X7_readItem_1 1 rfl) ?_
    refine go_sub [2, 3, 4, 1, 0] rfl ?_
    exact lkJ_X7_readItem_32 hi xc nx X rt hdb ho_X7_readLamps hdd ht  h
set_option maxRecDepth 20000 in
theorem ct_X7_readItem (hi : zInj wC v) (xc : XC wC v) (nx : NXC v)  (hdb : 6 ≤ d) (ho_X7_readLamps : ∀ {t : Nat} {b1 : Int32} {σ : Hp} {q : (Int32 × Hp)}, (ht : isS t = true) → o_X7_readLamps t b1 σ = some q → Ct wC v l yX7_readLamps cX7_readLamps 4 (some .boolean) d' [.ref t, .ref 23, .int b1] σ (some (.int q.1)) q.2) (hdd : d' < d) {t : Nat} {a2 : Int32} {σ : Hp} (ht : isS t = true) {q : (Int32 × Hp)} (h : F_X7_readItem o_X7_readLamps t a2 σ = some q) : Ct wC v l yX7_readItem cX7_readItem 7 (some .boolean) d [.ref t, .ref 23, .int a2] σ (some (.int q.1)) q.2 :=
  Ct.intro true (by decide) hi xc (Nat.le_of_ble_eq_true rfl) rfl (fun p e R s m args below meth c Q X rt => lkF_X7_readItem hi xc nx X rt hdb ho_X7_readLamps hdd ht h)
end
