def T_X3_leastPartner_0 : DT := [(0, .aload_n 0, 1), (1, .getfield 18, 3), (4, .iload_n 1, 1), (5, .invokestatic 47, 3), (8, .ifCond .ne 6, 3), (11, .bipush 8, 2), (13, .ireturn, 1), (14, .iload_n 2, 1), (15, .istore_n 3, 1), (16, .iload_n 3, 1), (17, .bipush 8, 2), (19, .if_icmp .ge 76, 3), (22, .aload_n 0, 1), (23, .getfield 22, 3), (26, .iload_n 3, 1), (27, .invokestatic 47, 3)]
theorem dt_X3_leastPartner_0 : dOk cX3_leastPartner T_X3_leastPartner_0 := by unfold dOk; decide +kernel
def T_X3_leastPartner_1 : DT := [(30, .ifCond .eq 41, 3), (33, .iload_n 1, 1), (34, .iload_n 3, 1), (35, .isub, 1), (36, .invokestatic 51, 3), (39, .aload_n 0, 1), (40, .getfield 11, 3), (43, .iload_n 1, 1), (44, .iconst 1, 1), (45, .iadd, 1), (46, .bipush 9, 2), (48, .imul, 1), (49, .iload_n 3, 1), (50, .iadd, 1), (51, .iconst 1, 1), (52, .iadd, 1)]
theorem dt_X3_leastPartner_1 : dOk cX3_leastPartner T_X3_leastPartner_1 := by unfold dOk; decide +kernel
def T_X3_leastPartner_2 : DT := [(53, .iaload, 1), (54, .iadd, 1), (55, .aload_n 0, 1), (56, .getfield 11, 3), (59, .iload_n 1, 1), (60, .bipush 9, 2), (62, .imul, 1), (63, .iload_n 2, 1), (64, .iadd, 1), (65, .iaload, 1), (66, .if_icmp .ne 5, 3), (69, .iload_n 3, 1), (70, .ireturn, 1), (71, .aload_n 0, 1), (72, .getfield 22, 3), (75, .aload_n 0, 1)]
theorem dt_X3_leastPartner_2 : dOk cX3_leastPartner T_X3_leastPartner_2 := by unfold dOk; decide +kernel
def T_X3_leastPartner_3 : DT := [(76, .getfield 18, 3), (79, .iload_n 3, 1), (80, .invokestatic 43, 3), (83, .ifCond .ne 6, 3), (86, .bipush 8, 2), (88, .ireturn, 1), (89, .iinc 3 1, 3), (92, .goto (-76), 3), (95, .bipush 8, 2), (97, .ireturn, 1)]
theorem dt_X3_leastPartner_3 : dOk cX3_leastPartner T_X3_leastPartner_3 := by unfold dOk; decide +kernel
section
variable {v : ZV} {l : Launch} {p : Program} {e : Env} {R : Room} {s : State} {m : MethodId} {args : Array Value} {below : List Frame} {meth : Method} {c : Code} {Q : State → Prop} {res : (Int32 × Hp)} 
set_option maxRecDepth 20000 in
theorem lkJ_X3_leastPartner_71 (hi : zInj wC v) (xc : XC wC v) (nx : NXC v) (X : Cx wC v p R s m args c 0 0 cX3_leastPartner 4 RX3 6) (rt : Rt wC v p l e R s m args below meth c 0 0 Q cX3_leastPartner false (some (.int res.1)) res.2) {k16 : Int32 → Int32 → Int32 → Hp → Option (Int32 × Hp)} {x1 : Int32} {x2 : Int32} {x3 : Int32} {σ : Hp}  (hk16 : ∀ (x1 : Int32) (x2 : Int32) (x3 : Int32) (σ : Hp),  k16 x1 x2 x3 σ = some res → Go wC v p l e R s m args below meth c 0 0 Q 4 16 [(0, .ref 36), (1, .int x1), (2, .int x2), (3, .int x3)] [] σ) (h : J_X3_leastPartner_71  k16 x1 x2 x3 σ = some res) : Go wC v p l e R s m args below meth c 0 0 Q 4 71 [(0, .ref 36), (1, .int x1), (2, .int x2), (3, .int x3)] [] σ := by
  unfold J_X3_leastPartner_71 at h
  refine go_aload_n X 0 (dk dt_X3_leastPartner_2 13 rfl) rfl rfl ?_
  refine go_geti X fo_X3_22 lC_36 sC_36 fC_36_3 (dk dt_X3_leastPartner_2 14 rfl) ?_
  refine go_aload_n X 0 (dk dt_X3_leastPartner_2 15 rfl) rfl rfl ?_
  refine go_geti X fo_X3_18 lC_36 sC_36 fC_36_2 (dk dt_X3_leastPartner_3 0 rfl) ?_
  refine go_iload_n X 3 (dk dt_X3_leastPartner_3 1 rfl) rfl rfl ?_
  refine go_Si (As := [.int (σ 36 3), .int (σ 36 2), .int x3]) (rest := []) X so_X3_43 (fun q hq => ct_X3_mayPass hi xc nx  hq) (by decide) rfl rfl (Nat.le_of_ble_eq_true rfl) (dk dt_X3_leastPartner_3 2 rfl) h (fun q80 h => ?_)
  refine go_if_ne (tgt := 89) X (dk dt_X3_leastPartner_3 3 rfl) (by decide) h (fun h => ?_) (fun h => ?_)
  · refine go_iinc (lv' := [(3, .int (x3 + (1 : Int32))), (0, .ref 36), (1, .int x1), (2, .int x2)]) X 3 (dk dt_X3_leastPartner_3 6 rfl) rfl ci_1 (by decide) rfl ?_
    refine go_goto (tgt := 16) X (dk dt_X3_leastPartner_3 7 rfl) (by decide) ?_
    refine go_sub [1, 2, 3, 0] rfl ?_
    exact hk16 _ _ _ _  h
  · refine go_bipush X (dk dt_X3_leastPartner_3 4 rfl) cb_8 ?_
    exact go_iret rt (dk dt_X3_leastPartner_3 5 rfl) h (fun hh => nomatch hh)
set_option maxRecDepth 20000 in
theorem lkB_X3_leastPartner_16 (hi : zInj wC v) (xc : XC wC v) (nx : NXC v) (X : Cx wC v p R s m args c 0 0 cX3_leastPartner 4 RX3 6) (rt : Rt wC v p l e R s m args below meth c 0 0 Q cX3_leastPartner false (some (.int res.1)) res.2) {k16 : Int32 → Int32 → Int32 → Hp → Option (Int32 × Hp)} {x1 : Int32} {x2 : Int32} {x3 : Int32} {σ : Hp}  (hk16 : ∀ (x1 : Int32) (x2 : Int32) (x3 : Int32) (σ : Hp),  k16 x1 x2 x3 σ = some res → Go wC v p l e R s m args below meth c 0 0 Q 4 16 [(0, .ref 36), (1, .int x1), (2, .int x2), (3, .int x3)] [] σ) (h : B_X3_leastPartner_16  k16 x1 x2 x3 σ = some res) : Go wC v p l e R s m args below meth c 0 0 Q 4 16 [(0, .ref 36), (1, .int x1), (2, .int x2), (3, .int x3)] [] σ := by
  unfold B_X3_leastPartner_16 at h
  refine go_iload_n X 3 (dk dt_X3_leastPartner_0 9 rfl) rfl rfl ?_
  refine go_bipush X (dk dt_X3_leastPartner_0 10 rfl) cb_8 ?_
  refine go_icmp_ge (tgt := 95) X (dk dt_X3_leastPartner_0 11 rfl) (by decide) h (fun h => ?_) (fun h => ?_)
  · refine go_bipush X (dk dt_X3_leastPartner_3 8 rfl) cb_8 ?_
    exact go_iret rt (dk dt_X3_leastPartner_3 9 rfl) h (fun hh => nomatch hh)
  · refine go_aload_n X 0 (dk dt_X3_leastPartner_0 12 rfl) rfl rfl ?_
    refine go_geti X fo_X3_22 lC_36 sC_36 fC_36_3 (dk dt_X3_leastPartner_0 13 rfl) ?_
    refine go_iload_n X 3 (dk dt_X3_leastPartner_0 14 rfl) rfl rfl ?_
    refine go_Si (As := [.int (σ 36 3), .int x3]) (rest := []) X so_X3_47 (fun q hq => ct_X3_sits hi xc nx  hq) (by decide) rfl rfl (Nat.le_of_ble_eq_true rfl) (dk dt_X3_leastPartner_0 15 rfl) h (fun q27 h => ?_)
    refine go_if_eq (tgt := 71) X (dk dt_X3_leastPartner_1 0 rfl) (by decide) h (fun h => ?_) (fun h => ?_)
    · exact lkJ_X3_leastPartner_71 hi xc nx X rt  hk16 h
    · refine go_iload_n X 1 (dk dt_X3_leastPartner_1 1 rfl) rfl rfl ?_
      refine go_iload_n X 3 (dk dt_X3_leastPartner_1 2 rfl) rfl rfl ?_
      refine go_isub X (dk dt_X3_leastPartner_1 3 rfl) ?_
      refine go_mabs X mo_X3_51 (by decide) (Nat.le_of_ble_eq_true rfl) (dk dt_X3_leastPartner_1 4 rfl) ?_
      refine go_aload_n X 0 (dk dt_X3_leastPartner_1 5 rfl) rfl rfl ?_
      refine go_getr X fo_X3_11 lC_36 sC_36 fC_36_0 (dk dt_X3_leastPartner_1 6 rfl) ?_
      refine go_iload_n X 1 (dk dt_X3_leastPartner_1 7 rfl) rfl rfl ?_
      refine go_iconst X (dk dt_X3_leastPartner_1 8 rfl) ci_1 ?_
      refine go_iadd X (dk dt_X3_leastPartner_1 9 rfl) ?_
      refine go_bipush X (dk dt_X3_leastPartner_1 10 rfl) cb_9 ?_
      refine go_imul X (dk dt_X3_leastPartner_1 11 rfl) ?_
      refine go_iload_n X 3 (dk dt_X3_leastPartner_1 12 rfl) rfl rfl ?_
      refine go_iadd X (dk dt_X3_leastPartner_1 13 rfl) ?_
      refine go_iconst X (dk dt_X3_leastPartner_1 14 rfl) ci_1 ?_
      refine go_iadd X (dk dt_X3_leastPartner_1 15 rfl) ?_
      refine go_iald X lC_37 sC_37 (dk dt_X3_leastPartner_2 0 rfl) h (fun h => ?_)
      refine go_iadd X (dk dt_X3_leastPartner_2 1 rfl) ?_
      refine go_aload_n X 0 (dk dt_X3_leastPartner_2 2 rfl) rfl rfl ?_
      refine go_getr X fo_X3_11 lC_36 sC_36 fC_36_0 (dk dt_X3_leastPartner_2 3 rfl) ?_
      refine go_iload_n X 1 (dk dt_X3_leastPartner_2 4 rfl) rfl rfl ?_
      refine go_bipush X (dk dt_X3_leastPartner_2 5 rfl) cb_9 ?_
      refine go_imul X (dk dt_X3_leastPartner_2 6 rfl) ?_
      refine go_iload_n X 2 (dk dt_X3_leastPartner_2 7 rfl) rfl rfl ?_
      refine go_iadd X (dk dt_X3_leastPartner_2 8 rfl) ?_
      refine go_iald X lC_37 sC_37 (dk dt_X3_leastPartner_2 9 rfl) h (fun h => ?_)
      refine go_icmp_ne (tgt := 71) X (dk dt_X3_leastPartner_2 10 rfl) (by decide) h (fun h => ?_) (fun h => ?_)
      · exact lkJ_X3_leastPartner_71 hi xc nx X rt  hk16 h
      · refine go_iload_n X 3 (dk dt_X3_leastPartner_2 11 rfl) rfl rfl ?_
        exact go_iret rt (dk dt_X3_leastPartner_2 12 rfl) h (fun hh => nomatch hh)
set_option maxRecDepth 20000 in
theorem lkL_X3_leastPartner_16 (hi : zInj wC v) (xc : XC wC v) (nx : NXC v) (X : Cx wC v p R s m args c 0 0 cX3_leastPartner 4 RX3 6) (rt : Rt wC v p l e R s m args below meth c 0 0 Q cX3_leastPartner false (some (.int res.1)) res.2)   (n : Nat) : ∀ {x1 : Int32} {x2 : Int32} {x3 : Int32} {σ : Hp},  L_X3_leastPartner_16   n x1 x2 x3 σ = some res → Go wC v p l e R s m args below meth c 0 0 Q 4 16 [(0, .ref 36), (1, .int x1), (2, .int x2), (3, .int x3)] [] σ := by
  induction n with
  | zero => intro x1 x2 x3 σ  h; cases h
  | succ n ih =>
    intro x1 x2 x3 σ  h
    exact lkB_X3_leastPartner_16 hi xc nx X rt  (fun _ _ _ _  hh => ih  hh) h
set_option maxRecDepth 20000 in
theorem lkF_X3_leastPartner (hi : zInj wC v) (xc : XC wC v) (nx : NXC v) (X : Cx wC v p R s m args c 0 0 cX3_leastPartner 4 RX3 6) (rt : Rt wC v p l e R s m args below meth c 0 0 Q cX3_leastPartner false (some (.int res.1)) res.2) {a1 : Int32} {a2 : Int32} {σ : Hp}  (h : F_X3_leastPartner  a1 a2 σ = some res) : Go wC v p l e R s m args below meth c 0 0 Q 4 0 [(0, .ref 36), (1, .int a1), (2, .int a2)] [] σ := by
  unfold F_X3_leastPartner at h
  refine go_aload_n X 0 (dk dt_X3_leastPartner_0 0 rfl) rfl rfl ?_
  refine go_geti X fo_X3_18 lC_36 sC_36 fC_36_2 (dk dt_X3_leastPartner_0 1 rfl) ?_
  refine go_iload_n X 1 (dk dt_X3_leastPartner_0 2 rfl) rfl rfl ?_
  refine go_Si (As := [.int (σ 36 2), .int a1]) (rest := []) X so_X3_47 (fun q hq => ct_X3_sits hi xc nx  hq) (by decide) rfl rfl (Nat.le_of_ble_eq_true rfl) (dk dt_X3_leastPartner_0 3 rfl) h (fun q5 h => ?_)
  refine go_if_ne (tgt := 14) X (dk dt_X3_leastPartner_0 4 rfl) (by decide) h (fun h => ?_) (fun h => ?_)
  · refine go_iload_n X 2 (dk dt_X3_leastPartner_0 7 rfl) rfl rfl ?_
    refine go_istore_n (lv' := [(3, .int a2), (0, .ref 36), (1, .int a1), (2, .int a2)]) X (dk dt_X3_leastPartner_0 8 rfl) rfl (by decide) rfl ?_
    refine go_sub [1, 2, 3, 0] rfl ?_
    exact lkL_X3_leastPartner_16 hi xc nx X rt  FU  h
  · refine go_bipush X (dk dt_X3_leastPartner_0 5 rfl) cb_8 ?_
    exact go_iret rt (dk dt_X3_leastPartner_0 6 rfl) h (fun hh => nomatch hh)
set_option maxRecDepth 20000 in
theorem ct_X3_leastPartner (hi : zInj wC v) (xc : XC wC v) (nx : NXC v)  {a1 : Int32} {a2 : Int32} {σ : Hp}  {q : (Int32 × Hp)} (h : F_X3_leastPartner  a1 a2 σ = some q) : Ct wC v l yX3_leastPartner cX3_leastPartner 4 (some .int) 6 [.ref 36, .int a1, .int a2] σ (some (.int q.1)) q.2 :=
  Ct.intro false (by decide) hi xc (Nat.le_of_ble_eq_true rfl) rfl (fun p e R s m args below meth c Q X rt => lkF_X3_leastPartner hi xc nx X rt  h)
end
def T_X3_carry_0 : DT := [(0, .aload_n 0, 1), (1, .iload_n 1, 1), (2, .putfield 18, 3), (5, .aload_n 0, 1), (6, .iload_n 2, 1), (7, .putfield 22, 3), (10, .bipush 8, 2), (12, .istore_n 3, 1), (13, .iload_n 3, 1), (14, .ifCond .lt 43, 3), (17, .bipush 8, 2), (19, .istore 4, 2), (21, .iload 4, 2), (23, .ifCond .lt 28, 3), (26, .aload_n 0, 1), (27, .getfield 11, 3)]
theorem dt_X3_carry_0 : dOk cX3_carry T_X3_carry_0 := by unfold dOk; decide +kernel
def T_X3_carry_1 : DT := [(30, .iload_n 3, 1), (31, .bipush 9, 2), (33, .imul, 1), (34, .iload 4, 2), (36, .iadd, 1), (37, .aload_n 0, 1), (38, .iload_n 3, 1), (39, .iload 4, 2), (41, .invokevirtual 25, 3), (44, .iastore, 1), (45, .iinc 4 (-1), 3), (48, .goto (-27), 3), (51, .iinc 3 (-1), 3), (54, .goto (-41), 3), (57, .iconst 0, 1), (58, .istore_n 3, 1)]
theorem dt_X3_carry_1 : dOk cX3_carry T_X3_carry_1 := by unfold dOk; decide +kernel
def T_X3_carry_2 : DT := [(59, .iconst 0, 1), (60, .istore 4, 2), (62, .iload 4, 2), (64, .bipush 8, 2), (66, .if_icmp .ge 49, 3), (69, .aload_n 0, 1), (70, .getfield 15, 3), (73, .iload 4, 2), (75, .aload_n 0, 1), (76, .iload 4, 2), (78, .iload_n 3, 1), (79, .invokevirtual 29, 3), (82, .iastore, 1), (83, .aload_n 0, 1), (84, .getfield 15, 3), (87, .iload 4, 2)]
theorem dt_X3_carry_2 : dOk cX3_carry T_X3_carry_2 := by unfold dOk; decide +kernel
def T_X3_carry_3 : DT := [(89, .iaload, 1), (90, .bipush 8, 2), (92, .if_icmp .ne 7, 3), (95, .iload_n 3, 1), (96, .goto 12, 3), (99, .aload_n 0, 1), (100, .getfield 15, 3), (103, .iload 4, 2), (105, .iaload, 1), (106, .iconst 1, 1), (107, .iadd, 1), (108, .istore_n 3, 1), (109, .iinc 4 1, 3), (112, .goto (-50), 3), (115, .return_, 1)]
theorem dt_X3_carry_3 : dOk cX3_carry T_X3_carry_3 := by unfold dOk; decide +kernel
section
variable {v : ZV} {l : Launch} {p : Program} {e : Env} {R : Room} {s : State} {m : MethodId} {args : Array Value} {below : List Frame} {meth : Method} {c : Code} {Q : State → Prop} {res : Hp} 
set_option maxRecDepth 20000 in
theorem lkB_X3_carry_21 (hi : zInj wC v) (xc : XC wC v) (nx : NXC v) (X : Cx wC v p R s m args c 0 0 cX3_carry 5 RX3 8) (rt : Rt wC v p l e R s m args below meth c 0 0 Q cX3_carry false none res) {k51 : Int32 → Hp → Option Hp} {k21 : Int32 → Int32 → Hp → Option Hp} {x3 : Int32} {x4 : Int32} {σ : Hp}  (hk51 : ∀ (x3 : Int32) (σ : Hp),  k51 x3 σ = some res → Go wC v p l e R s m args below meth c 0 0 Q 5 51 [(0, .ref 36), (3, .int x3)] [] σ) (hk21 : ∀ (x3 : Int32) (x4 : Int32) (σ : Hp),  k21 x3 x4 σ = some res → Go wC v p l e R s m args below meth c 0 0 Q 5 21 [(0, .ref 36), (3, .int x3), (4, .int x4)] [] σ) (h : B_X3_carry_21  k51 k21 x3 x4 σ = some res) : Go wC v p l e R s m args below meth c 0 0 Q 5 21 [(0, .ref 36), (3, .int x3), (4, .int x4)] [] σ := by
  unfold B_X3_carry_21 at h
  refine go_iload X 2 (dk dt_X3_carry_0 12 rfl) rfl ?_
  refine go_if_lt (tgt := 51) X (dk dt_X3_carry_0 13 rfl) (by decide) h (fun h => ?_) (fun h => ?_)
  · refine go_sub [0, 1] rfl ?_
    exact hk51 _ _  h
  · refine go_aload_n X 0 (dk dt_X3_carry_0 14 rfl) rfl rfl ?_
    refine go_getr X fo_X3_11 lC_36 sC_36 fC_36_0 (dk dt_X3_carry_0 15 rfl) ?_
    refine go_iload_n X 1 (dk dt_X3_carry_1 0 rfl) rfl rfl ?_
    refine go_bipush X (dk dt_X3_carry_1 1 rfl) cb_9 ?_
    refine go_imul X (dk dt_X3_carry_1 2 rfl) ?_
    refine go_iload X 2 (dk dt_X3_carry_1 3 rfl) rfl ?_
    refine go_iadd X (dk dt_X3_carry_1 4 rfl) ?_
    refine go_aload_n X 0 (dk dt_X3_carry_1 5 rfl) rfl rfl ?_
    refine go_iload_n X 1 (dk dt_X3_carry_1 6 rfl) rfl rfl ?_
    refine go_iload X 2 (dk dt_X3_carry_1 7 rfl) rfl ?_
    refine go_Vi (As := [.int x3, .int x4]) (rest := [.int ((x3 * (9 : Int32)) + x4), .ref 37]) X vo_X3_25 (fun q hq => ct_X3_leastWay hi xc nx  hq) (by decide) rfl lC_36 sC_36 rfl rfl (Nat.le_of_ble_eq_true rfl) (dk dt_X3_carry_1 8 rfl) h (fun q41 h => ?_)
    refine go_iast X lC_37 sC_37 (dk dt_X3_carry_1 9 rfl) h (fun h => ?_)
    refine go_iinc (lv' := [(4, .int (x4 + (-1 : Int32))), (0, .ref 36), (3, .int x3)]) X 2 (dk dt_X3_carry_1 10 rfl) rfl ci_m1 (by decide) rfl ?_
    refine go_goto (tgt := 21) X (dk dt_X3_carry_1 11 rfl) (by decide) ?_
    refine go_sub [1, 2, 0] rfl ?_
    exact hk21 _ _ _  h
set_option maxRecDepth 20000 in
theorem lkL_X3_carry_21 (hi : zInj wC v) (xc : XC wC v) (nx : NXC v) (X : Cx wC v p R s m args c 0 0 cX3_carry 5 RX3 8) (rt : Rt wC v p l e R s m args below meth c 0 0 Q cX3_carry false none res) {k51 : Int32 → Hp → Option Hp} (hk51 : ∀ (x3 : Int32) (σ : Hp),  k51 x3 σ = some res → Go wC v p l e R s m args below meth c 0 0 Q 5 51 [(0, .ref 36), (3, .int x3)] [] σ) (n : Nat) : ∀ {x3 : Int32} {x4 : Int32} {σ : Hp},  L_X3_carry_21  k51 n x3 x4 σ = some res → Go wC v p l e R s m args below meth c 0 0 Q 5 21 [(0, .ref 36), (3, .int x3), (4, .int x4)] [] σ := by
  induction n with
  | zero => intro x3 x4 σ  h; cases h
  | succ n ih =>
    intro x3 x4 σ  h
    exact lkB_X3_carry_21 hi xc nx X rt  hk51 (fun _ _ _  hh => ih  hh) h
set_option maxRecDepth 20000 in
theorem lkJ_X3_carry_51 (hi : zInj wC v) (xc : XC wC v) (nx : NXC v) (X : Cx wC v p R s m args c 0 0 cX3_carry 5 RX3 8) (rt : Rt wC v p l e R s m args below meth c 0 0 Q cX3_carry false none res) {k13 : Int32 → Hp → Option Hp} {x3 : Int32} {σ : Hp}  (hk13 : ∀ (x3 : Int32) (σ : Hp),  k13 x3 σ = some res → Go wC v p l e R s m args below meth c 0 0 Q 5 13 [(0, .ref 36), (3, .int x3)] [] σ) (h : J_X3_carry_51  k13 x3 σ = some res) : Go wC v p l e R s m args below meth c 0 0 Q 5 51 [(0, .ref 36), (3, .int x3)] [] σ := by
  unfold J_X3_carry_51 at h
  refine go_iinc (lv' := [(3, .int (x3 + (-1 : Int32))), (0, .ref 36)]) X 1 (dk dt_X3_carry_1 12 rfl) rfl ci_m1 (by decide) rfl ?_
  refine go_goto (tgt := 13) X (dk dt_X3_carry_1 13 rfl) (by decide) ?_
  refine go_sub [1, 0] rfl ?_
  exact hk13 _ _  h
set_option maxRecDepth 20000 in
theorem lkB_X3_carry_13 (hi : zInj wC v) (xc : XC wC v) (nx : NXC v) (X : Cx wC v p R s m args c 0 0 cX3_carry 5 RX3 8) (rt : Rt wC v p l e R s m args below meth c 0 0 Q cX3_carry false none res) {k57 : Hp → Option Hp} {k13 : Int32 → Hp → Option Hp} {x3 : Int32} {σ : Hp}  (hk57 : ∀  (σ : Hp),  k57  σ = some res → Go wC v p l e R s m args below meth c 0 0 Q 5 57 [(0, .ref 36)] [] σ) (hk13 : ∀ (x3 : Int32) (σ : Hp),  k13 x3 σ = some res → Go wC v p l e R s m args below meth c 0 0 Q 5 13 [(0, .ref 36), (3, .int x3)] [] σ) (h : B_X3_carry_13  k57 k13 x3 σ = some res) : Go wC v p l e R s m args below meth c 0 0 Q 5 13 [(0, .ref 36), (3, .int x3)] [] σ := by
  unfold B_X3_carry_13 at h
  refine go_iload_n X 1 (dk dt_X3_carry_0 8 rfl) rfl rfl ?_
  refine go_if_lt (tgt := 57) X (dk dt_X3_carry_0 9 rfl) (by decide) h (fun h => ?_) (fun h => ?_)
  · refine go_sub [0] rfl ?_
    exact hk57  _  h
  · refine go_bipush X (dk dt_X3_carry_0 10 rfl) cb_8 ?_
    refine go_istore (lv' := [(4, .int (8 : Int32)), (0, .ref 36), (3, .int x3)]) X (dk dt_X3_carry_0 11 rfl) (by decide) rfl ?_
    refine go_sub [1, 2, 0] rfl ?_
    exact lkL_X3_carry_21 hi xc nx X rt (fun _ _  hh => lkJ_X3_carry_51 hi xc nx X rt  hk13 hh) FU  h
set_option maxRecDepth 20000 in
theorem lkL_X3_carry_13 (hi : zInj wC v) (xc : XC wC v) (nx : NXC v) (X : Cx wC v p R s m args c 0 0 cX3_carry 5 RX3 8) (rt : Rt wC v p l e R s m args below meth c 0 0 Q cX3_carry false none res) {k57 : Hp → Option Hp} (hk57 : ∀  (σ : Hp),  k57  σ = some res → Go wC v p l e R s m args below meth c 0 0 Q 5 57 [(0, .ref 36)] [] σ) (n : Nat) : ∀ {x3 : Int32} {σ : Hp},  L_X3_carry_13  k57 n x3 σ = some res → Go wC v p l e R s m args below meth c 0 0 Q 5 13 [(0, .ref 36), (3, .int x3)] [] σ := by
  induction n with
  | zero => intro x3 σ  h; cases h
  | succ n ih =>
    intro x3 σ  h
    exact lkB_X3_carry_13 hi xc nx X rt  hk57 (fun _ _  hh => ih  hh) h
set_option maxRecDepth 20000 in
theorem lkB_X3_carry_62 (hi : zInj wC v) (xc : XC wC v) (nx : NXC v) (X : Cx wC v p R s m args c 0 0 cX3_carry 5 RX3 8) (rt : Rt wC v p l e R s m args below meth c 0 0 Q cX3_carry false none res) {k62 : Int32 → Int32 → Hp → Option Hp} {x3 : Int32} {x4 : Int32} {σ : Hp}  (hk62 : ∀ (x3 : Int32) (x4 : Int32) (σ : Hp),  k62 x3 x4 σ = some res → Go wC v p l e R s m args below meth c 0 0 Q 5 62 [(0, .ref 36), (3, .int x3), (4, .int x4)] [] σ) (h : B_X3_carry_62  k62 x3 x4 σ = some res) : Go wC v p l e R s m args below meth c 0 0 Q 5 62 [(0, .ref 36), (3, .int x3), (4, .int x4)] [] σ := by
  unfold B_X3_carry_62 at h
  refine go_iload X 2 (dk dt_X3_carry_2 2 rfl) rfl ?_
  refine go_bipush X (dk dt_X3_carry_2 3 rfl) cb_8 ?_
  refine go_icmp_ge (tgt := 115) X (dk dt_X3_carry_2 4 rfl) (by decide) h (fun h => ?_) (fun h => ?_)
  · exact go_vret rt (dk dt_X3_carry_3 14 rfl) h
  · refine go_aload_n X 0 (dk dt_X3_carry_2 5 rfl) rfl rfl ?_
    refine go_getr X fo_X3_15 lC_36 sC_36 fC_36_1 (dk dt_X3_carry_2 6 rfl) ?_
    refine go_iload X 2 (dk dt_X3_carry_2 7 rfl) rfl ?_
    refine go_aload_n X 0 (dk dt_X3_carry_2 8 rfl) rfl rfl ?_
    refine go_iload X 2 (dk dt_X3_carry_2 9 rfl) rfl ?_
    refine go_iload_n X 1 (dk dt_X3_carry_2 10 rfl) rfl rfl ?_
    refine go_Vi (As := [.int x4, .int x3]) (rest := [.int x4, .ref 38]) X vo_X3_29 (fun q hq => ct_X3_leastPartner hi xc nx  hq) (by decide) rfl lC_36 sC_36 rfl rfl (Nat.le_of_ble_eq_true rfl) (dk dt_X3_carry_2 11 rfl) h (fun q79 h => ?_)
    refine go_iast X lC_38 sC_38 (dk dt_X3_carry_2 12 rfl) h (fun h => ?_)
    refine go_aload_n X 0 (dk dt_X3_carry_2 13 rfl) rfl rfl ?_
    refine go_getr X fo_X3_15 lC_36 sC_36 fC_36_1 (dk dt_X3_carry_2 14 rfl) ?_
    refine go_iload X 2 (dk dt_X3_carry_2 15 rfl) rfl ?_
    refine go_iald X lC_38 sC_38 (dk dt_X3_carry_3 0 rfl) h (fun h => ?_)
    refine go_bipush X (dk dt_X3_carry_3 1 rfl) cb_8 ?_
    refine go_icmp_ne (tgt := 99) X (dk dt_X3_carry_3 2 rfl) (by decide) h (fun h => ?_) (fun h => ?_)
    · refine go_aload_n X 0 (dk dt_X3_carry_3 5 rfl) rfl rfl ?_
      refine go_getr X fo_X3_15 lC_36 sC_36 fC_36_1 (dk dt_X3_carry_3 6 rfl) ?_
      refine go_iload X 2 (dk dt_X3_carry_3 7 rfl) rfl ?_
      refine go_iald X lC_38 sC_38 (dk dt_X3_carry_3 8 rfl) h (fun h => ?_)
      refine go_iconst X (dk dt_X3_carry_3 9 rfl) ci_1 ?_
      refine go_iadd X (dk dt_X3_carry_3 10 rfl) ?_
      refine go_istore_n (lv' := [(3, .int (((zu q79.2 38 (Int32.toNatClampNeg x4) q79.1) 38 (Int32.toNatClampNeg x4)) + (1 : Int32))), (0, .ref 36), (4, .int x4)]) X (dk dt_X3_carry_3 11 rfl) rfl (by decide) rfl ?_
      refine go_iinc (lv' := [(4, .int (x4 + (1 : Int32))), (3, .int (((zu q79.2 38 (Int32.toNatClampNeg x4) q79.1) 38 (Int32.toNatClampNeg x4)) + (1 : Int32))), (0, .ref 36)]) X 2 (dk dt_X3_carry_3 12 rfl) rfl ci_1 (by decide) rfl ?_
      refine go_goto (tgt := 62) X (dk dt_X3_carry_3 13 rfl) (by decide) ?_
      refine go_sub [2, 1, 0] rfl ?_
      exact hk62 _ _ _  h
    · refine go_iload_n X 1 (dk dt_X3_carry_3 3 rfl) rfl rfl ?_
      refine go_goto (tgt := 108) X (dk dt_X3_carry_3 4 rfl) (by decide) ?_
      refine go_istore_n (lv' := [(3, .int x3), (0, .ref 36), (4, .int x4)]) X (dk dt_X3_carry_3 11 rfl) rfl (by decide) rfl ?_
      refine go_iinc (lv' := [(4, .int (x4 + (1 : Int32))), (3, .int x3), (0, .ref 36)]) X 2 (dk dt_X3_carry_3 12 rfl) rfl ci_1 (by decide) rfl ?_
      refine go_goto (tgt := 62) X (dk dt_X3_carry_3 13 rfl) (by decide) ?_
      refine go_sub [2, 1, 0] rfl ?_
      exact hk62 _ _ _  h
set_option maxRecDepth 20000 in
theorem lkL_X3_carry_62 (hi : zInj wC v) (xc : XC wC v) (nx : NXC v) (X : Cx wC v p R s m args c 0 0 cX3_carry 5 RX3 8) (rt : Rt wC v p l e R s m args below meth c 0 0 Q cX3_carry false none res)   (n : Nat) : ∀ {x3 : Int32} {x4 : Int32} {σ : Hp},  L_X3_carry_62   n x3 x4 σ = some res → Go wC v p l e R s m args below meth c 0 0 Q 5 62 [(0, .ref 36), (3, .int x3), (4, .int x4)] [] σ := by
  induction n with
  | zero => intro x3 x4 σ  h; cases h
  | succ n ih =>
    intro x3 x4 σ  h
    exact lkB_X3_carry_62 hi xc nx X rt  (fun _ _ _  hh => ih  hh) h
set_option maxRecDepth 20000 in
theorem lkJ_X3_carry_57 (hi : zInj wC v) (xc : XC wC v) (nx : NXC v) (X : Cx wC v p R s m args c 0 0 cX3_carry 5 RX3 8) (rt : Rt wC v p l e R s m args below meth c 0 0 Q cX3_carry false none res)   {σ : Hp}   (h : J_X3_carry_57    σ = some res) : Go wC v p l e R s m args below meth c 0 0 Q 5 57 [(0, .ref 36)] [] σ := by
  unfold J_X3_carry_57 at h
  refine go_iconst X (dk dt_X3_carry_1 14 rfl) ci_0 ?_
  refine go_istore_n (lv' := [(3, .int (0 : Int32)), (0, .ref 36)]) X (dk dt_X3_carry_1 15 rfl) rfl (by decide) rfl ?_
  refine go_iconst X (dk dt_X3_carry_2 0 rfl) ci_0 ?_
  refine go_istore (lv' := [(4, .int (0 : Int32)), (3, .int (0 : Int32)), (0, .ref 36)]) X (dk dt_X3_carry_2 1 rfl) (by decide) rfl ?_
  refine go_sub [2, 1, 0] rfl ?_
  exact lkL_X3_carry_62 hi xc nx X rt  FU  h
set_option maxRecDepth 20000 in
theorem lkF_X3_carry (hi : zInj wC v) (xc : XC wC v) (nx : NXC v) (X : Cx wC v p R s m args c 0 0 cX3_carry 5 RX3 8) (rt : Rt wC v p l e R s m args below meth c 0 0 Q cX3_carry false none res) {a1 : Int32} {a2 : Int32} {σ : Hp}  (h : F_X3_carry  a1 a2 σ = some res) : Go wC v p l e R s m args below meth c 0 0 Q 5 0 [(0, .ref 36), (1, .int a1), (2, .int a2)] [] σ := by
  unfold F_X3_carry at h
  refine go_aload_n X 0 (dk dt_X3_carry_0 0 rfl) rfl rfl ?_
  refine go_iload_n X 1 (dk dt_X3_carry_0 1 rfl) rfl rfl ?_
  refine go_puti X fo_X3_18 pf_3_2 lC_36 sC_36 fC_36_2 (dk dt_X3_carry_0 2 rfl) ?_
  refine go_aload_n X 0 (dk dt_X3_carry_0 3 rfl) rfl rfl ?_
  refine go_iload_n X 2 (dk dt_X3_carry_0 4 rfl) rfl rfl ?_
  refine go_puti X fo_X3_22 pf_3_3 lC_36 sC_36 fC_36_3 (dk dt_X3_carry_0 5 rfl) ?_
  refine go_bipush X (dk dt_X3_carry_0 6 rfl) cb_8 ?_
  refine go_istore_n (lv' := [(3, .int (8 : Int32)), (0, .ref 36), (1, .int a1), (2, .int a2)]) X (dk dt_X3_carry_0 7 rfl) rfl (by decide) rfl ?_
  refine go_sub [1, 0] rfl ?_
  exact lkL_X3_carry_13 hi xc nx X rt (fun  _  hh => lkJ_X3_carry_57 hi xc nx X rt   hh) FU  h
set_option maxRecDepth 20000 in
theorem ct_X3_carry (hi : zInj wC v) (xc : XC wC v) (nx : NXC v)  {a1 : Int32} {a2 : Int32} {σ : Hp}  {q : Hp} (h : F_X3_carry  a1 a2 σ = some q) : Ct wC v l yX3_carry cX3_carry 5 none 8 [.ref 36, .int a1, .int a2] σ none q :=
  Ct.intro false (by decide) hi xc (Nat.le_of_ble_eq_true rfl) rfl (fun p e R s m args below meth c Q X rt => lkF_X3_carry hi xc nx X rt  h)
end
def T_X3_apart_0 : DT := [(0, .aload_n 0, 1), (1, .getfield 11, 3), (4, .iconst 0, 1), (5, .iaload, 1), (6, .ireturn, 1)]
theorem dt_X3_apart_0 : dOk cX3_apart T_X3_apart_0 := by unfold dOk; decide +kernel
section
variable {v : ZV} {l : Launch} {p : Program} {e : Env} {R : Room} {s : State} {m : MethodId} {args : Array Value} {below : List Frame} {meth : Method} {c : Code} {Q : State → Prop} {res : (Int32 × Hp)} 
set_option maxRecDepth 20000 in
theorem lkF_X3_apart (hi : zInj wC v) (xc : XC wC v) (nx : NXC v) (X : Cx wC v p R s m args c 0 0 cX3_apart 1 RX3 2) (rt : Rt wC v p l e R s m args below meth c 0 0 Q cX3_apart false (some (.int res.1)) res.2)  {σ : Hp}  (h : F_X3_apart   σ = some res) : Go wC v p l e R s m args below meth c 0 0 Q 1 0 [(0, .ref 36)] [] σ := by
  unfold F_X3_apart at h
  refine go_aload_n X 0 (dk dt_X3_apart_0 0 rfl) rfl rfl ?_
  refine go_getr X fo_X3_11 lC_36 sC_36 fC_36_0 (dk dt_X3_apart_0 1 rfl) ?_
  refine go_iconst X (dk dt_X3_apart_0 2 rfl) ci_0 ?_
  refine go_iald X lC_37 sC_37 (dk dt_X3_apart_0 3 rfl) h (fun h => ?_)
  exact go_iret rt (dk dt_X3_apart_0 4 rfl) h (fun hh => nomatch hh)
set_option maxRecDepth 20000 in
theorem ct_X3_apart (hi : zInj wC v) (xc : XC wC v) (nx : NXC v)   {σ : Hp}  {q : (Int32 × Hp)} (h : F_X3_apart   σ = some q) : Ct wC v l yX3_apart cX3_apart 1 (some .int) 2 [.ref 36] σ (some (.int q.1)) q.2 :=
  Ct.intro false (by decide) hi xc (Nat.le_of_ble_eq_true rfl) rfl (fun p e R s m args below meth c Q X rt => lkF_X3_apart hi xc nx X rt  h)
end
def T_X3_twos_0 : DT := [(0, .aload_n 0, 1), (1, .getfield 18, 3), (4, .invokestatic 32, 3), (7, .aload_n 0, 1), (8, .getfield 22, 3), (11, .invokestatic 32, 3), (14, .invokestatic 38, 3), (17, .ireturn, 1)]
theorem dt_X3_twos_0 : dOk cX3_twos T_X3_twos_0 := by unfold dOk; decide +kernel
section
variable {v : ZV} {l : Launch} {p : Program} {e : Env} {R : Room} {s : State} {m : MethodId} {args : Array Value} {below : List Frame} {meth : Method} {c : Code} {Q : State → Prop} {res : (Int32 × Hp)} 
set_option maxRecDepth 20000 in
theorem lkF_X3_twos (hi : zInj wC v) (xc : XC wC v) (nx : NXC v) (X : Cx wC v p R s m args c 0 0 cX3_twos 1 RX3 4) (rt : Rt wC v p l e R s m args below meth c 0 0 Q cX3_twos false (some (.int res.1)) res.2)  {σ : Hp}  (h : F_X3_twos   σ = some res) : Go wC v p l e R s m args below meth c 0 0 Q 1 0 [(0, .ref 36)] [] σ := by
  unfold F_X3_twos at h
  refine go_aload_n X 0 (dk dt_X3_twos_0 0 rfl) rfl rfl ?_
  refine go_geti X fo_X3_18 lC_36 sC_36 fC_36_2 (dk dt_X3_twos_0 1 rfl) ?_
  refine go_Si (As := [.int (σ 36 2)]) (rest := []) X so_X3_32 (fun q hq => ct_J6_bitCount hi xc nx  hq) (by decide) rfl rfl (Nat.le_of_ble_eq_true rfl) (dk dt_X3_twos_0 2 rfl) h (fun q4 h => ?_)
  refine go_aload_n X 0 (dk dt_X3_twos_0 3 rfl) rfl rfl ?_
  refine go_geti X fo_X3_22 lC_36 sC_36 fC_36_3 (dk dt_X3_twos_0 4 rfl) ?_
  refine go_Si (As := [.int (q4.2 36 3)]) (rest := [.int q4.1]) X so_X3_32 (fun q hq => ct_J6_bitCount hi xc nx  hq) (by decide) rfl rfl (Nat.le_of_ble_eq_true rfl) (dk dt_X3_twos_0 5 rfl) h (fun q11 h => ?_)
  refine go_mmin X mo_X3_38 (by decide) (Nat.le_of_ble_eq_true rfl) (dk dt_X3_twos_0 6 rfl) ?_
  exact go_iret rt (dk dt_X3_twos_0 7 rfl) h (fun hh => nomatch hh)
set_option maxRecDepth 20000 in
theorem ct_X3_twos (hi : zInj wC v) (xc : XC wC v) (nx : NXC v)   {σ : Hp}  {q : (Int32 × Hp)} (h : F_X3_twos   σ = some q) : Ct wC v l yX3_twos cX3_twos 1 (some .int) 4 [.ref 36] σ (some (.int q.1)) q.2 :=
  Ct.intro false (by decide) hi xc (Nat.le_of_ble_eq_true rfl) rfl (fun p e R s m args below meth c Q X rt => lkF_X3_twos hi xc nx X rt  h)
end
def T_V_glasses_0 : DT := [(0, .iload_n 1, 1), (1, .iconst 0, 1), (2, .bipush 7, 2), (4, .invokestatic 119, 3), (7, .ifCond .ne 16, 3), (10, .iload_n 1, 1), (11, .bipush 100, 2), (13, .bipush 101, 2), (15, .invokestatic 119, 3), (18, .ifCond .ne 5, 3), (21, .iconst (-1), 1), (22, .ireturn, 1), (23, .aload_n 0, 1), (24, .getfield 77, 3), (27, .aload_n 0, 1), (28, .getfield 10, 3)]
theorem dt_V_glasses_0 : dOk cX11_glasses T_V_glasses_0 := by unfold dOk; decide +kernel
def T_V_glasses_1 : DT := [(31, .iconst 0, 1), (32, .iconst 0, 1), (33, .invokevirtual 228, 3), (36, .aload_n 0, 1), (37, .getfield 10, 3), (40, .iconst 1, 1), (41, .iconst 0, 1), (42, .invokevirtual 228, 3), (45, .invokevirtual 271, 3), (48, .iload_n 1, 1), (49, .bipush 100, 2), (51, .if_icmp .ne 11, 3), (54, .aload_n 0, 1), (55, .getfield 77, 3), (58, .invokevirtual 275, 3), (61, .ireturn, 1)]
theorem dt_V_glasses_1 : dOk cX11_glasses T_V_glasses_1 := by unfold dOk; decide +kernel
def T_V_glasses_2 : DT := [(62, .iload_n 1, 1), (63, .bipush 101, 2), (65, .if_icmp .ne 11, 3), (68, .aload_n 0, 1), (69, .getfield 77, 3), (72, .invokevirtual 279, 3), (75, .ireturn, 1), (76, .aload_n 0, 1), (77, .getfield 77, 3), (80, .getfield 281, 3), (83, .iload_n 1, 1), (84, .iaload, 1), (85, .bipush 8, 2), (87, .if_icmp .ne 8, 3), (90, .bipush (-2), 2), (92, .goto 12, 3)]
theorem dt_V_glasses_2 : dOk cX11_glasses T_V_glasses_2 := by unfold dOk; decide +kernel
def T_V_glasses_3 : DT := [(95, .aload_n 0, 1), (96, .getfield 77, 3), (99, .getfield 281, 3), (102, .iload_n 1, 1), (103, .iaload, 1), (104, .ireturn, 1)]
theorem dt_V_glasses_3 : dOk cX11_glasses T_V_glasses_3 := by unfold dOk; decide +kernel
section
variable {v : ZV} {l : Launch} {p : Program} {e : Env} {R : Room} {s : State} {m : MethodId} {args : Array Value} {below : List Frame} {meth : Method} {c : Code} {Q : State → Prop} {res : (Int32 × Hp)} 
set_option maxRecDepth 20000 in
theorem lkJ_V_glasses_23 (hi : zInj wC v) (xc : XC wC v) (nx : NXC v) (X : Cx wC v p R s m args c 0 0 cX11_glasses 2 RX11 10) (rt : Rt wC v p l e R s m args below meth c 0 0 Q cX11_glasses false (some (.int res.1)) res.2)  {x1 : Int32} {σ : Hp}   (h : J_V_glasses_23   x1 σ = some res) : Go wC v p l e R s m args below meth c 0 0 Q 2 23 [(0, .ref 0), (1, .int x1)] [] σ := by
  unfold J_V_glasses_23 at h
  refine go_aload_n X 0 (dk dt_V_glasses_0 12 rfl) rfl rfl ?_
  refine go_getr X fo_X11_77 lC_0 sC_0 fC_0_11 (dk dt_V_glasses_0 13 rfl) ?_
  refine go_aload_n X 0 (dk dt_V_glasses_0 14 rfl) rfl rfl ?_
  refine go_getr X fo_X11_10 lC_0 sC_0 fC_0_0 (dk dt_V_glasses_0 15 rfl) ?_
  refine go_iconst X (dk dt_V_glasses_1 0 rfl) ci_0 ?_
  refine go_iconst X (dk dt_V_glasses_1 1 rfl) ci_0 ?_
  refine go_Vi (As := [.int (0 : Int32), .int (0 : Int32)]) (rest := [.ref 36]) X vo_X11_228 (fun q hq => ct_X10_bits hi xc nx (by decide : isW 1 = true) hq) (by decide) rfl lC_1 sC_1 rfl rfl (Nat.le_of_ble_eq_true rfl) (dk dt_V_glasses_1 2 rfl) h (fun q33 h => ?_)
  refine go_aload_n X 0 (dk dt_V_glasses_1 3 rfl) rfl rfl ?_
  refine go_getr X fo_X11_10 lC_0 sC_0 fC_0_0 (dk dt_V_glasses_1 4 rfl) ?_
  refine go_iconst X (dk dt_V_glasses_1 5 rfl) ci_1 ?_
  refine go_iconst X (dk dt_V_glasses_1 6 rfl) ci_0 ?_
  refine go_Vi (As := [.int (1 : Int32), .int (0 : Int32)]) (rest := [.int q33.1, .ref 36]) X vo_X11_228 (fun q hq => ct_X10_bits hi xc nx (by decide : isW 1 = true) hq) (by decide) rfl lC_1 sC_1 rfl rfl (Nat.le_of_ble_eq_true rfl) (dk dt_V_glasses_1 7 rfl) h (fun q42 h => ?_)
  refine go_Vv (As := [.int q33.1, .int q42.1]) (rest := []) X vo_X11_271 (fun q hq => ct_X3_carry hi xc nx  hq) (by decide) rfl lC_36 sC_36 rfl rfl (Nat.le_of_ble_eq_true rfl) (dk dt_V_glasses_1 8 rfl) h (fun q45 h => ?_)
  refine go_iload_n X 1 (dk dt_V_glasses_1 9 rfl) rfl rfl ?_
  refine go_bipush X (dk dt_V_glasses_1 10 rfl) cb_100 ?_
  refine go_icmp_ne (tgt := 62) X (dk dt_V_glasses_1 11 rfl) (by decide) h (fun h => ?_) (fun h => ?_)
  · refine go_iload_n X 1 (dk dt_V_glasses_2 0 rfl) rfl rfl ?_
    refine go_bipush X (dk dt_V_glasses_2 1 rfl) cb_101 ?_
    refine go_icmp_ne (tgt := 76) X (dk dt_V_glasses_2 2 rfl) (by decide) h (fun h => ?_) (fun h => ?_)
    · refine go_aload_n X 0 (dk dt_V_glasses_2 7 rfl) rfl rfl ?_
      refine go_getr X fo_X11_77 lC_0 sC_0 fC_0_11 (dk dt_V_glasses_2 8 rfl) ?_
      refine go_getr X fo_X11_281 lC_36 sC_36 fC_36_1 (dk dt_V_glasses_2 9 rfl) ?_
      refine go_iload_n X 1 (dk dt_V_glasses_2 10 rfl) rfl rfl ?_
      refine go_iald X lC_38 sC_38 (dk dt_V_glasses_2 11 rfl) h (fun h => ?_)
      refine go_bipush X (dk dt_V_glasses_2 12 rfl) cb_8 ?_
      refine go_icmp_ne (tgt := 95) X (dk dt_V_glasses_2 13 rfl) (by decide) h (fun h => ?_) (fun h => ?_)
      · refine go_aload_n X 0 (dk dt_V_glasses_3 0 rfl) rfl rfl ?_
        refine go_getr X fo_X11_77 lC_0 sC_0 fC_0_11 (dk dt_V_glasses_3 1 rfl) ?_
        refine go_getr X fo_X11_281 lC_36 sC_36 fC_36_1 (dk dt_V_glasses_3 2 rfl) ?_
        refine go_iload_n X 1 (dk dt_V_glasses_3 3 rfl) rfl rfl ?_
        refine go_iald X lC_38 sC_38 (dk dt_V_glasses_3 4 rfl) h (fun h => ?_)
        exact go_iret rt (dk dt_V_glasses_3 5 rfl) h (fun hh => nomatch hh)
      · refine go_bipush X (dk dt_V_glasses_2 14 rfl) cb_m2 ?_
        refine go_goto (tgt := 104) X (dk dt_V_glasses_2 15 rfl) (by decide) ?_
        exact go_iret rt (dk dt_V_glasses_3 5 rfl) h (fun hh => nomatch hh)
    · refine go_aload_n X 0 (dk dt_V_glasses_2 3 rfl) rfl rfl ?_
      refine go_getr X fo_X11_77 lC_0 sC_0 fC_0_11 (dk dt_V_glasses_2 4 rfl) ?_
      refine go_Vi (As := []) (rest := []) X vo_X11_279 (fun q hq => ct_X3_twos hi xc nx  hq) (by decide) rfl lC_36 sC_36 rfl rfl (Nat.le_of_ble_eq_true rfl) (dk dt_V_glasses_2 5 rfl) h (fun q72 h => ?_)
      exact go_iret rt (dk dt_V_glasses_2 6 rfl) h (fun hh => nomatch hh)
  · refine go_aload_n X 0 (dk dt_V_glasses_1 12 rfl) rfl rfl ?_
    refine go_getr X fo_X11_77 lC_0 sC_0 fC_0_11 (dk dt_V_glasses_1 13 rfl) ?_
    refine go_Vi (As := []) (rest := []) X vo_X11_275 (fun q hq => ct_X3_apart hi xc nx  hq) (by decide) rfl lC_36 sC_36 rfl rfl (Nat.le_of_ble_eq_true rfl) (dk dt_V_glasses_1 14 rfl) h (fun q58 h => ?_)
    exact go_iret rt (dk dt_V_glasses_1 15 rfl) h (fun hh => nomatch hh)
set_option maxRecDepth 20000 in
theorem lkF_V_glasses (hi : zInj wC v) (xc : XC wC v) (nx : NXC v) (X : Cx wC v p R s m args c 0 0 cX11_glasses 2 RX11 10) (rt : Rt wC v p l e R s m args below meth c 0 0 Q cX11_glasses false (some (.int res.1)) res.2) {a1 : Int32} {σ : Hp}  (h : F_V_glasses  a1 σ = some res) : Go wC v p l e R s m args below meth c 0 0 Q 2 0 [(0, .ref 0), (1, .int a1)] [] σ := by
  unfold F_V_glasses at h
  refine go_iload_n X 1 (dk dt_V_glasses_0 0 rfl) rfl rfl ?_
  refine go_iconst X (dk dt_V_glasses_0 1 rfl) ci_0 ?_
  refine go_bipush X (dk dt_V_glasses_0 2 rfl) cb_7 ?_
  refine go_Si (As := [.int a1, .int (0 : Int32), .int (7 : Int32)]) (rest := []) X so_X11_119 (fun q hq => ct_V_within hi xc nx  hq) (by decide) rfl rfl (Nat.le_of_ble_eq_true rfl) (dk dt_V_glasses_0 3 rfl) h (fun q4 h => ?_)
  refine go_if_ne (tgt := 23) X (dk dt_V_glasses_0 4 rfl) (by decide) h (fun h => ?_) (fun h => ?_)
  · exact lkJ_V_glasses_23 hi xc nx X rt   h
  · refine go_iload_n X 1 (dk dt_V_glasses_0 5 rfl) rfl rfl ?_
    refine go_bipush X (dk dt_V_glasses_0 6 rfl) cb_100 ?_
    refine go_bipush X (dk dt_V_glasses_0 7 rfl) cb_101 ?_
    refine go_Si (As := [.int a1, .int (100 : Int32), .int (101 : Int32)]) (rest := []) X so_X11_119 (fun q hq => ct_V_within hi xc nx  hq) (by decide) rfl rfl (Nat.le_of_ble_eq_true rfl) (dk dt_V_glasses_0 8 rfl) h (fun q15 h => ?_)
    refine go_if_ne (tgt := 23) X (dk dt_V_glasses_0 9 rfl) (by decide) h (fun h => ?_) (fun h => ?_)
    · exact lkJ_V_glasses_23 hi xc nx X rt   h
    · refine go_iconst X (dk dt_V_glasses_0 10 rfl) ci_m1 ?_
      exact go_iret rt (dk dt_V_glasses_0 11 rfl) h (fun hh => nomatch hh)
set_option maxRecDepth 20000 in
theorem ct_V_glasses (hi : zInj wC v) (xc : XC wC v) (nx : NXC v)  {a1 : Int32} {σ : Hp}  {q : (Int32 × Hp)} (h : F_V_glasses  a1 σ = some q) : Ct wC v l yX11_glasses cX11_glasses 2 (some .int) 10 [.ref 0, .int a1] σ (some (.int q.1)) q.2 :=
  Ct.intro false (by decide) hi xc (Nat.le_of_ble_eq_true rfl) rfl (fun p e R s m args below meth c Q X rt => lkF_V_glasses hi xc nx X rt  h)
end
def T_X9_seenBy_0 : DT := [(0, .iconst 0, 1), (1, .istore_n 2, 1), (2, .iconst 0, 1), (3, .istore_n 3, 1), (4, .iload_n 3, 1), (5, .bipush 8, 2), (7, .if_icmp .ge 27, 3), (10, .iload_n 1, 1), (11, .iload_n 3, 1), (12, .ishr, 1), (13, .iconst 1, 1), (14, .iand, 1), (15, .iconst 1, 1), (16, .if_icmp .ne 12, 3), (19, .iload_n 2, 1), (20, .aload_n 0, 1)]
theorem dt_X9_seenBy_0 : dOk cX9_seenBy T_X9_seenBy_0 := by unfold dOk; decide +kernel
def T_X9_seenBy_1 : DT := [(21, .getfield 18, 3), (24, .iload_n 3, 1), (25, .iaload, 1), (26, .ior, 1), (27, .istore_n 2, 1), (28, .iinc 3 1, 3), (31, .goto (-27), 3), (34, .iload_n 2, 1), (35, .ireturn, 1)]
theorem dt_X9_seenBy_1 : dOk cX9_seenBy T_X9_seenBy_1 := by unfold dOk; decide +kernel
section
variable {v : ZV} {l : Launch} {p : Program} {e : Env} {R : Room} {s : State} {m : MethodId} {args : Array Value} {below : List Frame} {meth : Method} {c : Code} {Q : State → Prop} {res : (Int32 × Hp)} 
set_option maxRecDepth 20000 in
theorem lkB_X9_seenBy_4 (hi : zInj wC v) (xc : XC wC v) (nx : NXC v) (X : Cx wC v p R s m args c 0 0 cX9_seenBy 4 RX9 2) (rt : Rt wC v p l e R s m args below meth c 0 0 Q cX9_seenBy false (some (.int res.1)) res.2) {k4 : Int32 → Int32 → Int32 → Hp → Option (Int32 × Hp)} {x1 : Int32} {x2 : Int32} {x3 : Int32} {σ : Hp}  (hk4 : ∀ (x1 : Int32) (x2 : Int32) (x3 : Int32) (σ : Hp),  k4 x1 x2 x3 σ = some res → Go wC v p l e R s m args below meth c 0 0 Q 4 4 [(0, .ref 19), (1, .int x1), (2, .int x2), (3, .int x3)] [] σ) (h : B_X9_seenBy_4  k4 x1 x2 x3 σ = some res) : Go wC v p l e R s m args below meth c 0 0 Q 4 4 [(0, .ref 19), (1, .int x1), (2, .int x2), (3, .int x3)] [] σ := by
  unfold B_X9_seenBy_4 at h
  refine go_iload_n X 3 (dk dt_X9_seenBy_0 4 rfl) rfl rfl ?_
  refine go_bipush X (dk dt_X9_seenBy_0 5 rfl) cb_8 ?_
  refine go_icmp_ge (tgt := 34) X (dk dt_X9_seenBy_0 6 rfl) (by decide) h (fun h => ?_) (fun h => ?_)
  · refine go_iload_n X 2 (dk dt_X9_seenBy_1 7 rfl) rfl rfl ?_
    exact go_iret rt (dk dt_X9_seenBy_1 8 rfl) h (fun hh => nomatch hh)
  · refine go_iload_n X 1 (dk dt_X9_seenBy_0 7 rfl) rfl rfl ?_
    refine go_iload_n X 3 (dk dt_X9_seenBy_0 8 rfl) rfl rfl ?_
    refine go_ishr X (dk dt_X9_seenBy_0 9 rfl) ?_
    refine go_iconst X (dk dt_X9_seenBy_0 10 rfl) ci_1 ?_
    refine go_iand X (dk dt_X9_seenBy_0 11 rfl) ?_
    refine go_iconst X (dk dt_X9_seenBy_0 12 rfl) ci_1 ?_
    refine go_icmp_ne (tgt := 28) X (dk dt_X9_seenBy_0 13 rfl) (by decide) h (fun h => ?_) (fun h => ?_)
    · refine go_iinc (lv' := [(3, .int (x3 + (1 : Int32))), (0, .ref 19), (1, .int x1), (2, .int x2)]) X 3 (dk dt_X9_seenBy_1 5 rfl) rfl ci_1 (by decide) rfl ?_
      refine go_goto (tgt := 4) X (dk dt_X9_seenBy_1 6 rfl) (by decide) ?_
      refine go_sub [1, 2, 3, 0] rfl ?_
      exact hk4 _ _ _ _  h
    · refine go_iload_n X 2 (dk dt_X9_seenBy_0 14 rfl) rfl rfl ?_
      refine go_aload_n X 0 (dk dt_X9_seenBy_0 15 rfl) rfl rfl ?_
      refine go_getr X fo_X9_18 lC_19 sC_19 fC_19_2 (dk dt_X9_seenBy_1 0 rfl) ?_
      refine go_iload_n X 3 (dk dt_X9_seenBy_1 1 rfl) rfl rfl ?_
      refine go_iald X lC_22 sC_22 (dk dt_X9_seenBy_1 2 rfl) h (fun h => ?_)
      refine go_ior X (dk dt_X9_seenBy_1 3 rfl) ?_
      refine go_istore_n (lv' := [(2, .int (x2 ||| (σ 22 (Int32.toNatClampNeg x3)))), (0, .ref 19), (1, .int x1), (3, .int x3)]) X (dk dt_X9_seenBy_1 4 rfl) rfl (by decide) rfl ?_
      refine go_iinc (lv' := [(3, .int (x3 + (1 : Int32))), (2, .int (x2 ||| (σ 22 (Int32.toNatClampNeg x3)))), (0, .ref 19), (1, .int x1)]) X 3 (dk dt_X9_seenBy_1 5 rfl) rfl ci_1 (by decide) rfl ?_
      refine go_goto (tgt := 4) X (dk dt_X9_seenBy_1 6 rfl) (by decide) ?_
      refine go_sub [2, 3, 1, 0] rfl ?_
      exact hk4 _ _ _ _  h
set_option maxRecDepth 20000 in
theorem lkL_X9_seenBy_4 (hi : zInj wC v) (xc : XC wC v) (nx : NXC v) (X : Cx wC v p R s m args c 0 0 cX9_seenBy 4 RX9 2) (rt : Rt wC v p l e R s m args below meth c 0 0 Q cX9_seenBy false (some (.int res.1)) res.2)   (n : Nat) : ∀ {x1 : Int32} {x2 : Int32} {x3 : Int32} {σ : Hp},  L_X9_seenBy_4   n x1 x2 x3 σ = some res → Go wC v p l e R s m args below meth c 0 0 Q 4 4 [(0, .ref 19), (1, .int x1), (2, .int x2), (3, .int x3)] [] σ := by
  induction n with
  | zero => intro x1 x2 x3 σ  h; cases h
  | succ n ih =>
    intro x1 x2 x3 σ  h
    exact lkB_X9_seenBy_4 hi xc nx X rt  (fun _ _ _ _  hh => ih  hh) h
set_option maxRecDepth 20000 in
theorem lkF_X9_seenBy (hi : zInj wC v) (xc : XC wC v) (nx : NXC v) (X : Cx wC v p R s m args c 0 0 cX9_seenBy 4 RX9 2) (rt : Rt wC v p l e R s m args below meth c 0 0 Q cX9_seenBy false (some (.int res.1)) res.2) {a1 : Int32} {σ : Hp}  (h : F_X9_seenBy  a1 σ = some res) : Go wC v p l e R s m args below meth c 0 0 Q 4 0 [(0, .ref 19), (1, .int a1)] [] σ := by
  unfold F_X9_seenBy at h
  refine go_iconst X (dk dt_X9_seenBy_0 0 rfl) ci_0 ?_
  refine go_istore_n (lv' := [(2, .int (0 : Int32)), (0, .ref 19), (1, .int a1)]) X (dk dt_X9_seenBy_0 1 rfl) rfl (by decide) rfl ?_
  refine go_iconst X (dk dt_X9_seenBy_0 2 rfl) ci_0 ?_
  refine go_istore_n (lv' := [(3, .int (0 : Int32)), (2, .int (0 : Int32)), (0, .ref 19), (1, .int a1)]) X (dk dt_X9_seenBy_0 3 rfl) rfl (by decide) rfl ?_
  refine go_sub [2, 3, 1, 0] rfl ?_
  exact lkL_X9_seenBy_4 hi xc nx X rt  FU  h
set_option maxRecDepth 20000 in
theorem ct_X9_seenBy (hi : zInj wC v) (xc : XC wC v) (nx : NXC v)  {a1 : Int32} {σ : Hp}  {q : (Int32 × Hp)} (h : F_X9_seenBy  a1 σ = some q) : Ct wC v l yX9_seenBy cX9_seenBy 4 (some .int) 2 [.ref 19, .int a1] σ (some (.int q.1)) q.2 :=
  Ct.intro false (by decide) hi xc (Nat.le_of_ble_eq_true rfl) rfl (fun p e R s m args below meth c Q X rt => lkF_X9_seenBy hi xc nx X rt  h)
end
def T_V_hidden_0 : DT := [(0, .iload_n 1, 1), (1, .iconst 0, 1), (2, .iconst 2, 1), (3, .invokestatic 119, 3), (6, .ifCond .ne 5, 3), (9, .iconst (-1), 1), (10, .ireturn, 1), (11, .aload_n 0, 1), (12, .getfield 25, 3), (15, .aload_n 0, 1), (16, .getfield 10, 3), (19, .invokevirtual 222, 3), (22, .aload_n 0, 1), (23, .getfield 10, 3), (26, .iconst 0, 1), (27, .iconst 0, 1)]
theorem dt_V_hidden_0 : dOk cX11_hidden T_V_hidden_0 := by unfold dOk; decide +kernel
def T_V_hidden_1 : DT := [(28, .invokevirtual 228, 3), (31, .istore_n 2, 1), (32, .aload_n 0, 1), (33, .getfield 10, 3), (36, .iconst 1, 1), (37, .iconst 0, 1), (38, .invokevirtual 228, 3), (41, .istore_n 3, 1), (42, .bipush 17, 2), (44, .istore 4, 2), (46, .iconst 0, 1), (47, .istore 5, 2), (49, .iconst 0, 1), (50, .istore 6, 2), (52, .iconst 0, 1), (53, .istore 7, 2)]
theorem dt_V_hidden_1 : dOk cX11_hidden T_V_hidden_1 := by unfold dOk; decide +kernel
def T_V_hidden_2 : DT := [(55, .iload 7, 2), (57, .sipush 256, 3), (60, .if_icmp .ge 67, 3), (63, .iload 7, 2), (65, .iload_n 2, 1), (66, .iconst (-1), 1), (67, .ixor, 1), (68, .iand, 1), (69, .ifCond .ne 52, 3), (72, .aload_n 0, 1), (73, .getfield 25, 3), (76, .iload_n 2, 1), (77, .iload 7, 2), (79, .iconst (-1), 1), (80, .ixor, 1), (81, .iand, 1)]
theorem dt_V_hidden_2 : dOk cX11_hidden T_V_hidden_2 := by unfold dOk; decide +kernel
def T_V_hidden_3 : DT := [(82, .invokevirtual 246, 3), (85, .iload_n 3, 1), (86, .iand, 1), (87, .istore 8, 2), (89, .iload 7, 2), (91, .invokestatic 250, 3), (94, .iload 8, 2), (96, .invokestatic 250, 3), (99, .iadd, 1), (100, .istore 9, 2), (102, .iload 9, 2), (104, .iload 4, 2), (106, .if_icmp .ge 15, 3), (109, .iload 9, 2), (111, .istore 4, 2), (113, .iload 7, 2)]
theorem dt_V_hidden_3 : dOk cX11_hidden T_V_hidden_3 := by unfold dOk; decide +kernel
def T_V_hidden_4 : DT := [(115, .istore 5, 2), (117, .iload 8, 2), (119, .istore 6, 2), (121, .iinc 7 1, 3), (124, .goto (-69), 3), (127, .iload_n 1, 1), (128, .ifCond .ne 8, 3), (131, .iload 4, 2), (133, .goto 15, 3), (136, .iload_n 1, 1), (137, .iconst 1, 1), (138, .if_icmp .ne 8, 3), (141, .iload 5, 2), (143, .goto 5, 3), (146, .iload 6, 2), (148, .ireturn, 1)]
theorem dt_V_hidden_4 : dOk cX11_hidden T_V_hidden_4 := by unfold dOk; decide +kernel
section
variable {v : ZV} {l : Launch} {p : Program} {e : Env} {R : Room} {s : State} {m : MethodId} {args : Array Value} {below : List Frame} {meth : Method} {c : Code} {Q : State → Prop} {res : (Int32 × Hp)} 
set_option maxRecDepth 20000 in
theorem lkB_V_hidden_55 (hi : zInj wC v) (xc : XC wC v) (nx : NXC v) (X : Cx wC v p R s m args c 0 0 cX11_hidden 10 RX11 8) (rt : Rt wC v p l e R s m args below meth c 0 0 Q cX11_hidden false (some (.int res.1)) res.2) {k127 : Int32 → Int32 → Int32 → Int32 → Hp → Option (Int32 × Hp)} {k55 : Int32 → Int32 → Int32 → Int32 → Int32 → Int32 → Int32 → Hp → Option (Int32 × Hp)} {x1 : Int32} {x2 : Int32} {x3 : Int32} {x4 : Int32} {x5 : Int32} {x6 : Int32} {x7 : Int32} {σ : Hp}  (hk127 : ∀ (x1 : Int32) (x4 : Int32) (x5 : Int32) (x6 : Int32) (σ : Hp),  k127 x1 x4 x5 x6 σ = some res → Go wC v p l e R s m args below meth c 0 0 Q 10 127 [(1, .int x1), (4, .int x4), (5, .int x5), (6, .int x6)] [] σ) (hk55 : ∀ (x1 : Int32) (x2 : Int32) (x3 : Int32) (x4 : Int32) (x5 : Int32) (x6 : Int32) (x7 : Int32) (σ : Hp),  k55 x1 x2 x3 x4 x5 x6 x7 σ = some res → Go wC v p l e R s m args below meth c 0 0 Q 10 55 [(0, .ref 0), (1, .int x1), (2, .int x2), (3, .int x3), (4, .int x4), (5, .int x5), (6, .int x6), (7, .int x7)] [] σ) (h : B_V_hidden_55  k127 k55 x1 x2 x3 x4 x5 x6 x7 σ = some res) : Go wC v p l e R s m args below meth c 0 0 Q 10 55 [(0, .ref 0), (1, .int x1), (2, .int x2), (3, .int x3), (4, .int x4), (5, .int x5), (6, .int x6), (7, .int x7)] [] σ := by
  unfold B_V_hidden_55 at h
  refine go_iload X 7 (dk dt_V_hidden_2 0 rfl) rfl ?_
  refine go_sipush X (dk dt_V_hidden_2 1 rfl) cs_256 ?_
  refine go_icmp_ge (tgt := 127) X (dk dt_V_hidden_2 2 rfl) (by decide) h (fun h => ?_) (fun h => ?_)
  · refine go_sub [1, 4, 5, 6] rfl ?_
    exact hk127 _ _ _ _ _  h
  · refine go_iload X 7 (dk dt_V_hidden_2 3 rfl) rfl ?_
    refine go_iload_n X 2 (dk dt_V_hidden_2 4 rfl) rfl rfl ?_
    refine go_iconst X (dk dt_V_hidden_2 5 rfl) ci_m1 ?_
    refine go_ixor X (dk dt_V_hidden_2 6 rfl) ?_
    refine go_iand X (dk dt_V_hidden_2 7 rfl) ?_
    refine go_if_ne (tgt := 121) X (dk dt_V_hidden_2 8 rfl) (by decide) h (fun h => ?_) (fun h => ?_)
    · refine go_iinc (lv' := [(7, .int (x7 + (1 : Int32))), (0, .ref 0), (1, .int x1), (2, .int x2), (3, .int x3), (4, .int x4), (5, .int x5), (6, .int x6)]) X 7 (dk dt_V_hidden_4 3 rfl) rfl ci_1 (by decide) rfl ?_
      refine go_goto (tgt := 55) X (dk dt_V_hidden_4 4 rfl) (by decide) ?_
      refine go_sub [1, 2, 3, 4, 5, 6, 7, 0] rfl ?_
      exact hk55 _ _ _ _ _ _ _ _  h
    · refine go_aload_n X 0 (dk dt_V_hidden_2 9 rfl) rfl rfl ?_
      refine go_getr X fo_X11_25 lC_0 sC_0 fC_0_3 (dk dt_V_hidden_2 10 rfl) ?_
      refine go_iload_n X 2 (dk dt_V_hidden_2 11 rfl) rfl rfl ?_
      refine go_iload X 7 (dk dt_V_hidden_2 12 rfl) rfl ?_
      refine go_iconst X (dk dt_V_hidden_2 13 rfl) ci_m1 ?_
      refine go_ixor X (dk dt_V_hidden_2 14 rfl) ?_
      refine go_iand X (dk dt_V_hidden_2 15 rfl) ?_
      refine go_Vi (As := [.int (x2 &&& (x7 ^^^ (-1 : Int32)))]) (rest := []) X vo_X11_246 (fun q hq => ct_X9_seenBy hi xc nx  hq) (by decide) rfl lC_19 sC_19 rfl rfl (Nat.le_of_ble_eq_true rfl) (dk dt_V_hidden_3 0 rfl) h (fun q82 h => ?_)
      refine go_iload_n X 3 (dk dt_V_hidden_3 1 rfl) rfl rfl ?_
      refine go_iand X (dk dt_V_hidden_3 2 rfl) ?_
      refine go_istore (lv' := [(8, .int (q82.1 &&& x3)), (0, .ref 0), (1, .int x1), (2, .int x2), (3, .int x3), (4, .int x4), (5, .int x5), (6, .int x6), (7, .int x7)]) X (dk dt_V_hidden_3 3 rfl) (by decide) rfl ?_
      refine go_iload X 8 (dk dt_V_hidden_3 4 rfl) rfl ?_
      refine go_Si (As := [.int x7]) (rest := []) X so_X11_250 (fun q hq => ct_J6_bitCount hi xc nx  hq) (by decide) rfl rfl (Nat.le_of_ble_eq_true rfl) (dk dt_V_hidden_3 5 rfl) h (fun q91 h => ?_)
      refine go_iload X 0 (dk dt_V_hidden_3 6 rfl) rfl ?_
      refine go_Si (As := [.int (q82.1 &&& x3)]) (rest := [.int q91.1]) X so_X11_250 (fun q hq => ct_J6_bitCount hi xc nx  hq) (by decide) rfl rfl (Nat.le_of_ble_eq_true rfl) (dk dt_V_hidden_3 7 rfl) h (fun q96 h => ?_)
      refine go_iadd X (dk dt_V_hidden_3 8 rfl) ?_
      refine go_istore (lv' := [(9, .int (q91.1 + q96.1)), (8, .int (q82.1 &&& x3)), (0, .ref 0), (1, .int x1), (2, .int x2), (3, .int x3), (4, .int x4), (5, .int x5), (6, .int x6), (7, .int x7)]) X (dk dt_V_hidden_3 9 rfl) (by decide) rfl ?_
      refine go_iload X 0 (dk dt_V_hidden_3 10 rfl) rfl ?_
      refine go_iload X 6 (dk dt_V_hidden_3 11 rfl) rfl ?_
      refine go_icmp_ge (tgt := 121) X (dk dt_V_hidden_3 12 rfl) (by decide) h (fun h => ?_) (fun h => ?_)
      · refine go_iinc (lv' := [(7, .int (x7 + (1 : Int32))), (9, .int (q91.1 + q96.1)), (8, .int (q82.1 &&& x3)), (0, .ref 0), (1, .int x1), (2, .int x2), (3, .int x3), (4, .int x4), (5, .int x5), (6, .int x6)]) X 9 (dk dt_V_hidden_4 3 rfl) rfl ci_1 (by decide) rfl ?_
        refine go_goto (tgt := 55) X (dk dt_V_hidden_4 4 rfl) (by decide) ?_
        refine go_sub [3, 4, 5, 6, 7, 8, 9, 0] rfl ?_
        exact hk55 _ _ _ _ _ _ _ _  h
      · refine go_iload X 0 (dk dt_V_hidden_3 13 rfl) rfl ?_
        refine go_istore (lv' := [(4, .int (q91.1 + q96.1)), (9, .int (q91.1 + q96.1)), (8, .int (q82.1 &&& x3)), (0, .ref 0), (1, .int x1), (2, .int x2), (3, .int x3), (5, .int x5), (6, .int x6), (7, .int x7)]) X (dk dt_V_hidden_3 14 rfl) (by decide) rfl ?_
        refine go_iload X 9 (dk dt_V_hidden_3 15 rfl) rfl ?_
        refine go_istore (lv' := [(5, .int x7), (4, .int (q91.1 + q96.1)), (9, .int (q91.1 + q96.1)), (8, .int (q82.1 &&& x3)), (0, .ref 0), (1, .int x1), (2, .int x2), (3, .int x3), (6, .int x6), (7, .int x7)]) X (dk dt_V_hidden_4 0 rfl) (by decide) rfl ?_
        refine go_iload X 3 (dk dt_V_hidden_4 1 rfl) rfl ?_
        refine go_istore (lv' := [(6, .int (q82.1 &&& x3)), (5, .int x7), (4, .int (q91.1 + q96.1)), (9, .int (q91.1 + q96.1)), (8, .int (q82.1 &&& x3)), (0, .ref 0), (1, .int x1), (2, .int x2), (3, .int x3), (7, .int x7)]) X (dk dt_V_hidden_4 2 rfl) (by decide) rfl ?_
        refine go_iinc (lv' := [(7, .int (x7 + (1 : Int32))), (6, .int (q82.1 &&& x3)), (5, .int x7), (4, .int (q91.1 + q96.1)), (9, .int (q91.1 + q96.1)), (8, .int (q82.1 &&& x3)), (0, .ref 0), (1, .int x1), (2, .int x2), (3, .int x3)]) X 9 (dk dt_V_hidden_4 3 rfl) rfl ci_1 (by decide) rfl ?_
        refine go_goto (tgt := 55) X (dk dt_V_hidden_4 4 rfl) (by decide) ?_
        refine go_sub [6, 7, 8, 9, 3, 2, 1, 0] rfl ?_
        exact hk55 _ _ _ _ _ _ _ _  h
set_option maxRecDepth 20000 in
theorem lkL_V_hidden_55 (hi : zInj wC v) (xc : XC wC v) (nx : NXC v) (X : Cx wC v p R s m args c 0 0 cX11_hidden 10 RX11 8) (rt : Rt wC v p l e R s m args below meth c 0 0 Q cX11_hidden false (some (.int res.1)) res.2) {k127 : Int32 → Int32 → Int32 → Int32 → Hp → Option (Int32 × Hp)} (hk127 : ∀ (x1 : Int32) (x4 : Int32) (x5 : Int32) (x6 : Int32) (σ : Hp),  k127 x1 x4 x5 x6 σ = some res → Go wC v p l e R s m args below meth c 0 0 Q 10 127 [(1, .int x1), (4, .int x4), (5, .int x5), (6, .int x6)] [] σ) (n : Nat) : ∀ {x1 : Int32} {x2 : Int32} {x3 : Int32} {x4 : Int32} {x5 : Int32} {x6 : Int32} {x7 : Int32} {σ : Hp},  L_V_hidden_55  k127 n x1 x2 x3 x4 x5 x6 x7 σ = some res → Go wC v p l e R s m args below meth c 0 0 Q 10 55 [(0, .ref 0), (1, .int x1), (2, .int x2), (3, .int x3), (4, .int x4), (5, .int x5), (6, .int x6), (7, .int x7)] [] σ := by
  induction n with
  | zero => intro x1 x2 x3 x4 x5 x6 x7 σ  h; cases h
  | succ n ih =>
    intro x1 x2 x3 x4 x5 x6 x7 σ  h
    exact lkB_V_hidden_55 hi xc nx X rt  hk127 (fun _ _ _ _ _ _ _ _  hh => ih  hh) h
set_option maxRecDepth 20000 in
theorem lkJ_V_hidden_127 (hi : zInj wC v) (xc : XC wC v) (nx : NXC v) (X : Cx wC v p R s m args c 0 0 cX11_hidden 10 RX11 8) (rt : Rt wC v p l e R s m args below meth c 0 0 Q cX11_hidden false (some (.int res.1)) res.2)  {x1 : Int32} {x4 : Int32} {x5 : Int32} {x6 : Int32} {σ : Hp}   (h : J_V_hidden_127   x1 x4 x5 x6 σ = some res) : Go wC v p l e R s m args below meth c 0 0 Q 10 127 [(1, .int x1), (4, .int x4), (5, .int x5), (6, .int x6)] [] σ := by
  unfold J_V_hidden_127 at h
  refine go_iload_n X 0 (dk dt_V_hidden_4 5 rfl) rfl rfl ?_
  refine go_if_ne (tgt := 136) X (dk dt_V_hidden_4 6 rfl) (by decide) h (fun h => ?_) (fun h => ?_)
  · refine go_iload_n X 0 (dk dt_V_hidden_4 9 rfl) rfl rfl ?_
    refine go_iconst X (dk dt_V_hidden_4 10 rfl) ci_1 ?_
    refine go_icmp_ne (tgt := 146) X (dk dt_V_hidden_4 11 rfl) (by decide) h (fun h => ?_) (fun h => ?_)
    · refine go_iload X 3 (dk dt_V_hidden_4 14 rfl) rfl ?_
      exact go_iret rt (dk dt_V_hidden_4 15 rfl) h (fun hh => nomatch hh)
    · refine go_iload X 2 (dk dt_V_hidden_4 12 rfl) rfl ?_
      refine go_goto (tgt := 148) X (dk dt_V_hidden_4 13 rfl) (by decide) ?_
      exact go_iret rt (dk dt_V_hidden_4 15 rfl) h (fun hh => nomatch hh)
  · refine go_iload X 1 (dk dt_V_hidden_4 7 rfl) rfl ?_
    refine go_goto (tgt := 148) X (dk dt_V_hidden_4 8 rfl) (by decide) ?_
    exact go_iret rt (dk dt_V_hidden_4 15 rfl) h (fun hh => nomatch hh)
set_option maxRecDepth 20000 in
theorem lkF_V_hidden (hi : zInj wC v) (xc : XC wC v) (nx : NXC v) (X : Cx wC v p R s m args c 0 0 cX11_hidden 10 RX11 8) (rt : Rt wC v p l e R s m args below meth c 0 0 Q cX11_hidden false (some (.int res.1)) res.2) {a1 : Int32} {σ : Hp}  (h : F_V_hidden  a1 σ = some res) : Go wC v p l e R s m args below meth c 0 0 Q 10 0 [(0, .ref 0), (1, .int a1)] [] σ := by
  unfold F_V_hidden at h
  refine go_iload_n X 1 (dk dt_V_hidden_0 0 rfl) rfl rfl ?_
  refine go_iconst X (dk dt_V_hidden_0 1 rfl) ci_0 ?_
  refine go_iconst X (dk dt_V_hidden_0 2 rfl) ci_2 ?_
  refine go_Si (As := [.int a1, .int (0 : Int32), .int (2 : Int32)]) (rest := []) X so_X11_119 (fun q hq => ct_V_within hi xc nx  hq) (by decide) rfl rfl (Nat.le_of_ble_eq_true rfl) (dk dt_V_hidden_0 3 rfl) h (fun q3 h => ?_)
  refine go_if_ne (tgt := 11) X (dk dt_V_hidden_0 4 rfl) (by decide) h (fun h => ?_) (fun h => ?_)
  · refine go_aload_n X 0 (dk dt_V_hidden_0 7 rfl) rfl rfl ?_
    refine go_getr X fo_X11_25 lC_0 sC_0 fC_0_3 (dk dt_V_hidden_0 8 rfl) ?_
    refine go_aload_n X 0 (dk dt_V_hidden_0 9 rfl) rfl rfl ?_
    refine go_getr X fo_X11_10 lC_0 sC_0 fC_0_0 (dk dt_V_hidden_0 10 rfl) ?_
    refine go_Vv (As := [.ref 1]) (rest := []) X vo_X11_222 (fun q hq => ct_X9_lookAround hi xc nx (by decide : isW 1 = true) hq) (by decide) rfl lC_19 sC_19 rfl rfl (Nat.le_of_ble_eq_true rfl) (dk dt_V_hidden_0 11 rfl) h (fun q19 h => ?_)
    refine go_aload_n X 0 (dk dt_V_hidden_0 12 rfl) rfl rfl ?_
    refine go_getr X fo_X11_10 lC_0 sC_0 fC_0_0 (dk dt_V_hidden_0 13 rfl) ?_
    refine go_iconst X (dk dt_V_hidden_0 14 rfl) ci_0 ?_
    refine go_iconst X (dk dt_V_hidden_0 15 rfl) ci_0 ?_
    refine go_Vi (As := [.int (0 : Int32), .int (0 : Int32)]) (rest := []) X vo_X11_228 (fun q hq => ct_X10_bits hi xc nx (by decide : isW 1 = true) hq) (by decide) rfl lC_1 sC_1 rfl rfl (Nat.le_of_ble_eq_true rfl) (dk dt_V_hidden_1 0 rfl) h (fun q28 h => ?_)
    refine go_istore_n (lv' := [(2, .int q28.1), (0, .ref 0), (1, .int a1)]) X (dk dt_V_hidden_1 1 rfl) rfl (by decide) rfl ?_
    refine go_aload_n X 1 (dk dt_V_hidden_1 2 rfl) rfl rfl ?_
    refine go_getr X fo_X11_10 lC_0 sC_0 fC_0_0 (dk dt_V_hidden_1 3 rfl) ?_
    refine go_iconst X (dk dt_V_hidden_1 4 rfl) ci_1 ?_
    refine go_iconst X (dk dt_V_hidden_1 5 rfl) ci_0 ?_
    refine go_Vi (As := [.int (1 : Int32), .int (0 : Int32)]) (rest := []) X vo_X11_228 (fun q hq => ct_X10_bits hi xc nx (by decide : isW 1 = true) hq) (by decide) rfl lC_1 sC_1 rfl rfl (Nat.le_of_ble_eq_true rfl) (dk dt_V_hidden_1 6 rfl) h (fun q38 h => ?_)
    refine go_istore_n (lv' := [(3, .int q38.1), (2, .int q28.1), (0, .ref 0), (1, .int a1)]) X (dk dt_V_hidden_1 7 rfl) rfl (by decide) rfl ?_
    refine go_bipush X (dk dt_V_hidden_1 8 rfl) cb_17 ?_
    refine go_istore (lv' := [(4, .int (17 : Int32)), (3, .int q38.1), (2, .int q28.1), (0, .ref 0), (1, .int a1)]) X (dk dt_V_hidden_1 9 rfl) (by decide) rfl ?_
    refine go_iconst X (dk dt_V_hidden_1 10 rfl) ci_0 ?_
    refine go_istore (lv' := [(5, .int (0 : Int32)), (4, .int (17 : Int32)), (3, .int q38.1), (2, .int q28.1), (0, .ref 0), (1, .int a1)]) X (dk dt_V_hidden_1 11 rfl) (by decide) rfl ?_
    refine go_iconst X (dk dt_V_hidden_1 12 rfl) ci_0 ?_
    refine go_istore (lv' := [(6, .int (0 : Int32)), (5, .int (0 : Int32)), (4, .int (17 : Int32)), (3, .int q38.1), (2, .int q28.1), (0, .ref 0), (1, .int a1)]) X (dk dt_V_hidden_1 13 rfl) (by decide) rfl ?_
    refine go_iconst X (dk dt_V_hidden_1 14 rfl) ci_0 ?_
    refine go_istore (lv' := [(7, .int (0 : Int32)), (6, .int (0 : Int32)), (5, .int (0 : Int32)), (4, .int (17 : Int32)), (3, .int q38.1), (2, .int q28.1), (0, .ref 0), (1, .int a1)]) X (dk dt_V_hidden_1 15 rfl) (by decide) rfl ?_
    refine go_sub [6, 7, 5, 4, 3, 2, 1, 0] rfl ?_
    exact lkL_V_hidden_55 hi xc nx X rt (fun _ _ _ _ _  hh => lkJ_V_hidden_127 hi xc nx X rt   hh) FU  h
  · refine go_iconst X (dk dt_V_hidden_0 5 rfl) ci_m1 ?_
    exact go_iret rt (dk dt_V_hidden_0 6 rfl) h (fun hh => nomatch hh)
set_option maxRecDepth 20000 in
theorem ct_V_hidden (hi : zInj wC v) (xc : XC wC v) (nx : NXC v)  {a1 : Int32} {σ : Hp}  {q : (Int32 × Hp)} (h : F_V_hidden  a1 σ = some q) : Ct wC v l yX11_hidden cX11_hidden 10 (some .int) 8 [.ref 0, .int a1] σ (some (.int q.1)) q.2 :=
  Ct.intro false (by decide) hi xc (Nat.le_of_ble_eq_true rfl) rfl (fun p e R s m args below meth c Q X rt => lkF_V_hidden hi xc nx X rt  h)
end
def T_X1_reckon_0 : DT := [(0, .iload_n 3, 1), (1, .aload_n 1, 1), (2, .getfield 17, 3), (5, .if_icmp .ge 12, 3), (8, .iload 4, 2), (10, .aload_n 2, 1), (11, .getfield 17, 3), (14, .if_icmp .lt 5, 3), (17, .iconst 0, 1), (18, .ireturn, 1), (19, .aload_n 1, 1), (20, .getfield 25, 3), (23, .iload_n 3, 1), (24, .iaload, 1), (25, .aload_n 2, 1), (26, .getfield 25, 3)]
theorem dt_X1_reckon_0 : dOk cX1_reckon T_X1_reckon_0 := by unfold dOk; decide +kernel
def T_X1_reckon_1 : DT := [(29, .iload 4, 2), (31, .iaload, 1), (32, .if_icmp .ne 22, 3), (35, .aload_n 0, 1), (36, .getfield 13, 3), (39, .iload_n 3, 1), (40, .iconst 1, 1), (41, .iadd, 1), (42, .bipush 61, 2), (44, .imul, 1), (45, .iload 4, 2), (47, .iadd, 1), (48, .iconst 1, 1), (49, .iadd, 1), (50, .iaload, 1), (51, .iconst 1, 1)]
theorem dt_X1_reckon_1 : dOk cX1_reckon T_X1_reckon_1 := by unfold dOk; decide +kernel
def T_X1_reckon_2 : DT := [(52, .iadd, 1), (53, .ireturn, 1), (54, .aload_n 0, 1), (55, .getfield 13, 3), (58, .iload_n 3, 1), (59, .iconst 1, 1), (60, .iadd, 1), (61, .bipush 61, 2), (63, .imul, 1), (64, .iload 4, 2), (66, .iadd, 1), (67, .iaload, 1), (68, .aload_n 0, 1), (69, .getfield 13, 3), (72, .iload_n 3, 1), (73, .bipush 61, 2)]
theorem dt_X1_reckon_2 : dOk cX1_reckon T_X1_reckon_2 := by unfold dOk; decide +kernel
def T_X1_reckon_3 : DT := [(75, .imul, 1), (76, .iload 4, 2), (78, .iadd, 1), (79, .iconst 1, 1), (80, .iadd, 1), (81, .iaload, 1), (82, .invokestatic 28, 3), (85, .ireturn, 1)]
theorem dt_X1_reckon_3 : dOk cX1_reckon T_X1_reckon_3 := by unfold dOk; decide +kernel
section
variable {v : ZV} {l : Launch} {p : Program} {e : Env} {R : Room} {s : State} {m : MethodId} {args : Array Value} {below : List Frame} {meth : Method} {c : Code} {Q : State → Prop} {res : (Int32 × Hp)} 
set_option maxRecDepth 20000 in
theorem lkF_X1_reckon (hi : zInj wC v) (xc : XC wC v) (nx : NXC v) (X : Cx wC v p R s m args c 0 0 cX1_reckon 5 RX1 2) (rt : Rt wC v p l e R s m args below meth c 0 0 Q cX1_reckon false (some (.int res.1)) res.2) {a1 : Nat} {a2 : Nat} {a3 : Int32} {a4 : Int32} {σ : Hp} (ha1 : isS a1 = true) (ha2 : isS a2 = true) (h : F_X1_reckon  a1 a2 a3 a4 σ = some res) : Go wC v p l e R s m args below meth c 0 0 Q 5 0 [(0, .ref 34), (1, .ref a1), (2, .ref a2), (3, .int a3), (4, .int a4)] [] σ := by
  unfold F_X1_reckon at h
  refine go_iload_n X 3 (dk dt_X1_reckon_0 0 rfl) rfl rfl ?_
  refine go_aload_n X 1 (dk dt_X1_reckon_0 1 rfl) rfl rfl ?_
  refine go_geti X fo_X1_17 (lS ha1) (sS ha1) (fS_1 ha1) (dk dt_X1_reckon_0 2 rfl) ?_
  refine go_icmp_ge (tgt := 17) X (dk dt_X1_reckon_0 3 rfl) (by decide) h (fun h => ?_) (fun h => ?_)
  · refine go_iconst X (dk dt_X1_reckon_0 8 rfl) ci_0 ?_
    exact go_iret rt (dk dt_X1_reckon_0 9 rfl) h (fun hh => nomatch hh)
  · refine go_iload X 4 (dk dt_X1_reckon_0 4 rfl) rfl ?_
    refine go_aload_n X 2 (dk dt_X1_reckon_0 5 rfl) rfl rfl ?_
    refine go_geti X fo_X1_17 (lS ha2) (sS ha2) (fS_1 ha2) (dk dt_X1_reckon_0 6 rfl) ?_
    refine go_icmp_lt (tgt := 19) X (dk dt_X1_reckon_0 7 rfl) (by decide) h (fun h => ?_) (fun h => ?_)
    · refine go_aload_n X 1 (dk dt_X1_reckon_0 10 rfl) rfl rfl ?_
      refine go_getr X fo_X1_25 (lS ha1) (sS ha1) (fS_0 ha1) (dk dt_X1_reckon_0 11 rfl) ?_
      refine go_iload_n X 3 (dk dt_X1_reckon_0 12 rfl) rfl rfl ?_
      refine go_iald X (lSa_1 ha1) (sSa_1 ha1) (dk dt_X1_reckon_0 13 rfl) h (fun h => ?_)
      refine go_aload_n X 2 (dk dt_X1_reckon_0 14 rfl) rfl rfl ?_
      refine go_getr X fo_X1_25 (lS ha2) (sS ha2) (fS_0 ha2) (dk dt_X1_reckon_0 15 rfl) ?_
      refine go_iload X 4 (dk dt_X1_reckon_1 0 rfl) rfl ?_
      refine go_iald X (lSa_1 ha2) (sSa_1 ha2) (dk dt_X1_reckon_1 1 rfl) h (fun h => ?_)
      refine go_icmp_ne (tgt := 54) X (dk dt_X1_reckon_1 2 rfl) (by decide) h (fun h => ?_) (fun h => ?_)
      · refine go_aload_n X 0 (dk dt_X1_reckon_2 2 rfl) rfl rfl ?_
        refine go_getr X fo_X1_13 lC_34 sC_34 fC_34_0 (dk dt_X1_reckon_2 3 rfl) ?_
        refine go_iload_n X 3 (dk dt_X1_reckon_2 4 rfl) rfl rfl ?_
        refine go_iconst X (dk dt_X1_reckon_2 5 rfl) ci_1 ?_
        refine go_iadd X (dk dt_X1_reckon_2 6 rfl) ?_
        refine go_bipush X (dk dt_X1_reckon_2 7 rfl) cb_61 ?_
        refine go_imul X (dk dt_X1_reckon_2 8 rfl) ?_
        refine go_iload X 4 (dk dt_X1_reckon_2 9 rfl) rfl ?_
        refine go_iadd X (dk dt_X1_reckon_2 10 rfl) ?_
        refine go_iald X lC_35 sC_35 (dk dt_X1_reckon_2 11 rfl) h (fun h => ?_)
        refine go_aload_n X 0 (dk dt_X1_reckon_2 12 rfl) rfl rfl ?_
        refine go_getr X fo_X1_13 lC_34 sC_34 fC_34_0 (dk dt_X1_reckon_2 13 rfl) ?_
        refine go_iload_n X 3 (dk dt_X1_reckon_2 14 rfl) rfl rfl ?_
        refine go_bipush X (dk dt_X1_reckon_2 15 rfl) cb_61 ?_
        refine go_imul X (dk dt_X1_reckon_3 0 rfl) ?_
        refine go_iload X 4 (dk dt_X1_reckon_3 1 rfl) rfl ?_
        refine go_iadd X (dk dt_X1_reckon_3 2 rfl) ?_
        refine go_iconst X (dk dt_X1_reckon_3 3 rfl) ci_1 ?_
        refine go_iadd X (dk dt_X1_reckon_3 4 rfl) ?_
        refine go_iald X lC_35 sC_35 (dk dt_X1_reckon_3 5 rfl) h (fun h => ?_)
        refine go_mmax X mo_X1_28 (by decide) (Nat.le_of_ble_eq_true rfl) (dk dt_X1_reckon_3 6 rfl) ?_
        exact go_iret rt (dk dt_X1_reckon_3 7 rfl) h (fun hh => nomatch hh)
      · refine go_aload_n X 0 (dk dt_X1_reckon_1 3 rfl) rfl rfl ?_
        refine go_getr X fo_X1_13 lC_34 sC_34 fC_34_0 (dk dt_X1_reckon_1 4 rfl) ?_
        refine go_iload_n X 3 (dk dt_X1_reckon_1 5 rfl) rfl rfl ?_
        refine go_iconst X (dk dt_X1_reckon_1 6 rfl) ci_1 ?_
        refine go_iadd X (dk dt_X1_reckon_1 7 rfl) ?_
        refine go_bipush X (dk dt_X1_reckon_1 8 rfl) cb_61 ?_
        refine go_imul X (dk dt_X1_reckon_1 9 rfl) ?_
        refine go_iload X 4 (dk dt_X1_reckon_1 10 rfl) rfl ?_
        refine go_iadd X (dk dt_X1_reckon_1 11 rfl) ?_
        refine go_iconst X (dk dt_X1_reckon_1 12 rfl) ci_1 ?_
        refine go_iadd X (dk dt_X1_reckon_1 13 rfl) ?_
        refine go_iald X lC_35 sC_35 (dk dt_X1_reckon_1 14 rfl) h (fun h => ?_)
        refine go_iconst X (dk dt_X1_reckon_1 15 rfl) ci_1 ?_
        refine go_iadd X (dk dt_X1_reckon_2 0 rfl) ?_
        exact go_iret rt (dk dt_X1_reckon_2 1 rfl) h (fun hh => nomatch hh)
    · refine go_iconst X (dk dt_X1_reckon_0 8 rfl) ci_0 ?_
      exact go_iret rt (dk dt_X1_reckon_0 9 rfl) h (fun hh => nomatch hh)
set_option maxRecDepth 20000 in
theorem ct_X1_reckon (hi : zInj wC v) (xc : XC wC v) (nx : NXC v)  {a1 : Nat} {a2 : Nat} {a3 : Int32} {a4 : Int32} {σ : Hp} (ha1 : isS a1 = true) (ha2 : isS a2 = true) {q : (Int32 × Hp)} (h : F_X1_reckon  a1 a2 a3 a4 σ = some q) : Ct wC v l yX1_reckon cX1_reckon 5 (some .int) 2 [.ref 34, .ref a1, .ref a2, .int a3, .int a4] σ (some (.int q.1)) q.2 :=
  Ct.intro false (by decide) hi xc (Nat.le_of_ble_eq_true rfl) rfl (fun p e R s m args below meth c Q X rt => lkF_X1_reckon hi xc nx X rt ha1 ha2 h)
end
def T_X1_compare_0 : DT := [(0, .aload_n 1, 1), (1, .getfield 17, 3), (4, .istore_n 3, 1), (5, .iload_n 3, 1), (6, .ifCond .lt 47, 3), (9, .aload_n 2, 1), (10, .getfield 17, 3), (13, .istore 4, 2), (15, .iload 4, 2), (17, .ifCond .lt 30, 3), (20, .aload_n 0, 1), (21, .getfield 13, 3), (24, .iload_n 3, 1), (25, .bipush 61, 2), (27, .imul, 1), (28, .iload 4, 2)]
theorem dt_X1_compare_0 : dOk cX1_compare T_X1_compare_0 := by unfold dOk; decide +kernel
def T_X1_compare_1 : DT := [(30, .iadd, 1), (31, .aload_n 0, 1), (32, .aload_n 1, 1), (33, .aload_n 2, 1), (34, .iload_n 3, 1), (35, .iload 4, 2), (37, .invokevirtual 21, 3), (40, .iastore, 1), (41, .iinc 4 (-1), 3), (44, .goto (-29), 3), (47, .iinc 3 (-1), 3), (50, .goto (-45), 3), (53, .return_, 1)]
theorem dt_X1_compare_1 : dOk cX1_compare T_X1_compare_1 := by unfold dOk; decide +kernel
section
variable {v : ZV} {l : Launch} {p : Program} {e : Env} {R : Room} {s : State} {m : MethodId} {args : Array Value} {below : List Frame} {meth : Method} {c : Code} {Q : State → Prop} {res : Hp} 
set_option maxRecDepth 20000 in
theorem lkB_X1_compare_15 (hi : zInj wC v) (xc : XC wC v) (nx : NXC v) (X : Cx wC v p R s m args c 0 0 cX1_compare 5 RX1 4) (rt : Rt wC v p l e R s m args below meth c 0 0 Q cX1_compare false none res) {k47 : Nat → Nat → Int32 → Hp → Option Hp} {k15 : Nat → Nat → Int32 → Int32 → Hp → Option Hp} {r1 : Nat} {r2 : Nat} {x3 : Int32} {x4 : Int32} {σ : Hp} (hr1 : isS r1 = true) (hr2 : isS r2 = true) (hk47 : ∀ (r1 : Nat) (r2 : Nat) (x3 : Int32) (σ : Hp), (hr1 : isS r1 = true) → (hr2 : isS r2 = true) → k47 r1 r2 x3 σ = some res → Go wC v p l e R s m args below meth c 0 0 Q 5 47 [(0, .ref 34), (1, .ref r1), (2, .ref r2), (3, .int x3)] [] σ) (hk15 : ∀ (r1 : Nat) (r2 : Nat) (x3 : Int32) (x4 : Int32) (σ : Hp), (hr1 : isS r1 = true) → (hr2 : isS r2 = true) → k15 r1 r2 x3 x4 σ = some res → Go wC v p l e R s m args below meth c 0 0 Q 5 15 [(0, .ref 34), (1, .ref r1), (2, .ref r2), (3, .int x3), (4, .int x4)] [] σ) (h : B_X1_compare_15  k47 k15 r1 r2 x3 x4 σ = some res) : Go wC v p l e R s m args below meth c 0 0 Q 5 15 [(0, .ref 34), (1, .ref r1), (2, .ref r2), (3, .int x3), (4, .int x4)] [] σ := by
  unfold B_X1_compare_15 at h
  refine go_iload X 4 (dk dt_X1_compare_0 8 rfl) rfl ?_
  refine go_if_lt (tgt := 47) X (dk dt_X1_compare_0 9 rfl) (by decide) h (fun h => ?_) (fun h => ?_)
  · refine go_sub [0, 1, 2, 3] rfl ?_
    exact hk47 _ _ _ _ hr1 hr2 h
  · refine go_aload_n X 0 (dk dt_X1_compare_0 10 rfl) rfl rfl ?_
    refine go_getr X fo_X1_13 lC_34 sC_34 fC_34_0 (dk dt_X1_compare_0 11 rfl) ?_
    refine go_iload_n X 3 (dk dt_X1_compare_0 12 rfl) rfl rfl ?_
    refine go_bipush X (dk dt_X1_compare_0 13 rfl) cb_61 ?_
    refine go_imul X (dk dt_X1_compare_0 14 rfl) ?_
    refine go_iload X 4 (dk dt_X1_compare_0 15 rfl) rfl ?_
    refine go_iadd X (dk dt_X1_compare_1 0 rfl) ?_
    refine go_aload_n X 0 (dk dt_X1_compare_1 1 rfl) rfl rfl ?_
    refine go_aload_n X 1 (dk dt_X1_compare_1 2 rfl) rfl rfl ?_
    refine go_aload_n X 2 (dk dt_X1_compare_1 3 rfl) rfl rfl ?_
    refine go_iload_n X 3 (dk dt_X1_compare_1 4 rfl) rfl rfl ?_
    refine go_iload X 4 (dk dt_X1_compare_1 5 rfl) rfl ?_
    refine go_Vi (As := [.ref r1, .ref r2, .int x3, .int x4]) (rest := [.int ((x3 * (61 : Int32)) + x4), .ref 35]) X vo_X1_21 (fun q hq => ct_X1_reckon hi xc nx hr1 hr2 hq) (by decide) rfl lC_34 sC_34 rfl rfl (Nat.le_of_ble_eq_true rfl) (dk dt_X1_compare_1 6 rfl) h (fun q37 h => ?_)
    refine go_iast X lC_35 sC_35 (dk dt_X1_compare_1 7 rfl) h (fun h => ?_)
    refine go_iinc (lv' := [(4, .int (x4 + (-1 : Int32))), (0, .ref 34), (1, .ref r1), (2, .ref r2), (3, .int x3)]) X 4 (dk dt_X1_compare_1 8 rfl) rfl ci_m1 (by decide) rfl ?_
    refine go_goto (tgt := 15) X (dk dt_X1_compare_1 9 rfl) (by decide) ?_
    refine go_sub [1, 2, 3, 4, 0] rfl ?_
    exact hk15 _ _ _ _ _ hr1 hr2 h
set_option maxRecDepth 20000 in
theorem lkL_X1_compare_15 (hi : zInj wC v) (xc : XC wC v) (nx : NXC v) (X : Cx wC v p R s m args c 0 0 cX1_compare 5 RX1 4) (rt : Rt wC v p l e R s m args below meth c 0 0 Q cX1_compare false none res) {k47 : Nat → Nat → Int32 → Hp → Option Hp} (hk47 : ∀ (r1 : Nat) (r2 : Nat) (x3 : Int32) (σ : Hp), (hr1 : isS r1 = true) → (hr2 : isS r2 = true) → k47 r1 r2 x3 σ = some res → Go wC v p l e R s m args below meth c 0 0 Q 5 47 [(0, .ref 34), (1, .ref r1), (2, .ref r2), (3, .int x3)] [] σ) (n : Nat) : ∀ {r1 : Nat} {r2 : Nat} {x3 : Int32} {x4 : Int32} {σ : Hp}, (hr1 : isS r1 = true) → (hr2 : isS r2 = true) → L_X1_compare_15  k47 n r1 r2 x3 x4 σ = some res → Go wC v p l e R s m args below meth c 0 0 Q 5 15 [(0, .ref 34), (1, .ref r1), (2, .ref r2), (3, .int x3), (4, .int x4)] [] σ := by
  induction n with
  | zero => intro r1 r2 x3 x4 σ hr1 hr2 h; cases h
  | succ n ih =>
    intro r1 r2 x3 x4 σ hr1 hr2 h
    exact lkB_X1_compare_15 hi xc nx X rt hr1 hr2 hk47 (fun _ _ _ _ _ hq0 hq1 hh => ih hq0 hq1 hh) h
set_option maxRecDepth 20000 in
theorem lkJ_X1_compare_47 (hi : zInj wC v) (xc : XC wC v) (nx : NXC v) (X : Cx wC v p R s m args c 0 0 cX1_compare 5 RX1 4) (rt : Rt wC v p l e R s m args below meth c 0 0 Q cX1_compare false none res) {k5 : Nat → Nat → Int32 → Hp → Option Hp} {r1 : Nat} {r2 : Nat} {x3 : Int32} {σ : Hp} (hr1 : isS r1 = true) (hr2 : isS r2 = true) (hk5 : ∀ (r1 : Nat) (r2 : Nat) (x3 : Int32) (σ : Hp), (hr1 : isS r1 = true) → (hr2 : isS r2 = true) → k5 r1 r2 x3 σ = some res → Go wC v p l e R s m args below meth c 0 0 Q 5 5 [(0, .ref 34), (1, .ref r1), (2, .ref r2), (3, .int x3)] [] σ) (h : J_X1_compare_47  k5 r1 r2 x3 σ = some res) : Go wC v p l e R s m args below meth c 0 0 Q 5 47 [(0, .ref 34), (1, .ref r1), (2, .ref r2), (3, .int x3)] [] σ := by
  unfold J_X1_compare_47 at h
  refine go_iinc (lv' := [(3, .int (x3 + (-1 : Int32))), (0, .ref 34), (1, .ref r1), (2, .ref r2)]) X 3 (dk dt_X1_compare_1 10 rfl) rfl ci_m1 (by decide) rfl ?_
  refine go_goto (tgt := 5) X (dk dt_X1_compare_1 11 rfl) (by decide) ?_
  refine go_sub [1, 2, 3, 0] rfl ?_
  exact hk5 _ _ _ _ hr1 hr2 h
set_option maxRecDepth 20000 in
theorem lkB_X1_compare_5 (hi : zInj wC v) (xc : XC wC v) (nx : NXC v) (X : Cx wC v p R s m args c 0 0 cX1_compare 5 RX1 4) (rt : Rt wC v p l e R s m args below meth c 0 0 Q cX1_compare false none res) {k5 : Nat → Nat → Int32 → Hp → Option Hp} {r1 : Nat} {r2 : Nat} {x3 : Int32} {σ : Hp} (hr1 : isS r1 = true) (hr2 : isS r2 = true) (hk5 : ∀ (r1 : Nat) (r2 : Nat) (x3 : Int32) (σ : Hp), (hr1 : isS r1 = true) → (hr2 : isS r2 = true) → k5 r1 r2 x3 σ = some res → Go wC v p l e R s m args below meth c 0 0 Q 5 5 [(0, .ref 34), (1, .ref r1), (2, .ref r2), (3, .int x3)] [] σ) (h : B_X1_compare_5  k5 r1 r2 x3 σ = some res) : Go wC v p l e R s m args below meth c 0 0 Q 5 5 [(0, .ref 34), (1, .ref r1), (2, .ref r2), (3, .int x3)] [] σ := by
  unfold B_X1_compare_5 at h
  refine go_iload_n X 3 (dk dt_X1_compare_0 3 rfl) rfl rfl ?_
  refine go_if_lt (tgt := 53) X (dk dt_X1_compare_0 4 rfl) (by decide) h (fun h => ?_) (fun h => ?_)
  · exact go_vret rt (dk dt_X1_compare_1 12 rfl) h
  · refine go_aload_n X 2 (dk dt_X1_compare_0 5 rfl) rfl rfl ?_
    refine go_geti X fo_X1_17 (lS hr2) (sS hr2) (fS_1 hr2) (dk dt_X1_compare_0 6 rfl) ?_
    refine go_istore (lv' := [(4, .int (σ r2 1)), (0, .ref 34), (1, .ref r1), (2, .ref r2), (3, .int x3)]) X (dk dt_X1_compare_0 7 rfl) (by decide) rfl ?_
    refine go_sub [1, 2, 3, 4, 0] rfl ?_
    exact lkL_X1_compare_15 hi xc nx X rt (fun _ _ _ _ hq0 hq1 hh => lkJ_X1_compare_47 hi xc nx X rt hq0 hq1 hk5 hh) FU hr1 hr2 h
set_option maxRecDepth 20000 in
theorem lkL_X1_compare_5 (hi : zInj wC v) (xc : XC wC v) (nx : NXC v) (X : Cx wC v p R s m args c 0 0 cX1_compare 5 RX1 4) (rt : Rt wC v p l e R s m args below meth c 0 0 Q cX1_compare false none res)   (n : Nat) : ∀ {r1 : Nat} {r2 : Nat} {x3 : Int32} {σ : Hp}, (hr1 : isS r1 = true) → (hr2 : isS r2 = true) → L_X1_compare_5   n r1 r2 x3 σ = some res → Go wC v p l e R s m args below meth c 0 0 Q 5 5 [(0, .ref 34), (1, .ref r1), (2, .ref r2), (3, .int x3)] [] σ := by
  induction n with
  | zero => intro r1 r2 x3 σ hr1 hr2 h; cases h
  | succ n ih =>
    intro r1 r2 x3 σ hr1 hr2 h
    exact lkB_X1_compare_5 hi xc nx X rt hr1 hr2 (fun _ _ _ _ hq0 hq1 hh => ih hq0 hq1 hh) h
set_option maxRecDepth 20000 in
theorem lkF_X1_compare (hi : zInj wC v) (xc : XC wC v) (nx : NXC v) (X : Cx wC v p R s m args c 0 0 cX1_compare 5 RX1 4) (rt : Rt wC v p l e R s m args below meth c 0 0 Q cX1_compare false none res) {a1 : Nat} {a2 : Nat} {σ : Hp} (ha1 : isS a1 = true) (ha2 : isS a2 = true) (h : F_X1_compare  a1 a2 σ = some res) : Go wC v p l e R s m args below meth c 0 0 Q 5 0 [(0, .ref 34), (1, .ref a1), (2, .ref a2)] [] σ := by
  unfold F_X1_compare at h
  refine go_aload_n X 1 (dk dt_X1_compare_0 0 rfl) rfl rfl ?_
  refine go_geti X fo_X1_17 (lS ha1) (sS ha1) (fS_1 ha1) (dk dt_X1_compare_0 1 rfl) ?_
  refine go_istore_n (lv' := [(3, .int (σ a1 1)), (0, .ref 34), (1, .ref a1), (2, .ref a2)]) X (dk dt_X1_compare_0 2 rfl) rfl (by decide) rfl ?_
  refine go_sub [1, 2, 3, 0] rfl ?_
  exact lkL_X1_compare_5 hi xc nx X rt  FU ha1 ha2 h
set_option maxRecDepth 20000 in
theorem ct_X1_compare (hi : zInj wC v) (xc : XC wC v) (nx : NXC v)  {a1 : Nat} {a2 : Nat} {σ : Hp} (ha1 : isS a1 = true) (ha2 : isS a2 = true) {q : Hp} (h : F_X1_compare  a1 a2 σ = some q) : Ct wC v l yX1_compare cX1_compare 5 none 4 [.ref 34, .ref a1, .ref a2] σ none q :=
  Ct.intro false (by decide) hi xc (Nat.le_of_ble_eq_true rfl) rfl (fun p e R s m args below meth c Q X rt => lkF_X1_compare hi xc nx X rt ha1 ha2 h)
end
def T_X1_length_0 : DT := [(0, .aload_n 0, 1), (1, .getfield 13, 3), (4, .iconst 0, 1), (5, .iaload, 1), (6, .ireturn, 1)]
theorem dt_X1_length_0 : dOk cX1_length T_X1_length_0 := by unfold dOk; decide +kernel
section
variable {v : ZV} {l : Launch} {p : Program} {e : Env} {R : Room} {s : State} {m : MethodId} {args : Array Value} {below : List Frame} {meth : Method} {c : Code} {Q : State → Prop} {res : (Int32 × Hp)} 
set_option maxRecDepth 20000 in
theorem lkF_X1_length (hi : zInj wC v) (xc : XC wC v) (nx : NXC v) (X : Cx wC v p R s m args c 0 0 cX1_length 1 RX1 2) (rt : Rt wC v p l e R s m args below meth c 0 0 Q cX1_length false (some (.int res.1)) res.2)  {σ : Hp}  (h : F_X1_length   σ = some res) : Go wC v p l e R s m args below meth c 0 0 Q 1 0 [(0, .ref 34)] [] σ := by
  unfold F_X1_length at h
  refine go_aload_n X 0 (dk dt_X1_length_0 0 rfl) rfl rfl ?_
  refine go_getr X fo_X1_13 lC_34 sC_34 fC_34_0 (dk dt_X1_length_0 1 rfl) ?_
  refine go_iconst X (dk dt_X1_length_0 2 rfl) ci_0 ?_
  refine go_iald X lC_35 sC_35 (dk dt_X1_length_0 3 rfl) h (fun h => ?_)
  exact go_iret rt (dk dt_X1_length_0 4 rfl) h (fun hh => nomatch hh)
set_option maxRecDepth 20000 in
theorem ct_X1_length (hi : zInj wC v) (xc : XC wC v) (nx : NXC v)   {σ : Hp}  {q : (Int32 × Hp)} (h : F_X1_length   σ = some q) : Ct wC v l yX1_length cX1_length 1 (some .int) 2 [.ref 34] σ (some (.int q.1)) q.2 :=
  Ct.intro false (by decide) hi xc (Nat.le_of_ble_eq_true rfl) rfl (fun p e R s m args below meth c Q X rt => lkF_X1_length hi xc nx X rt  h)
end
def T_X7_next_0 : DT := [(0, .iload_n 2, 1), (1, .istore_n 3, 1), (2, .iload_n 3, 1), (3, .aload_n 0, 1), (4, .getfield 15, 3), (7, .if_icmp .ge 21, 3), (10, .aload_n 0, 1), (11, .getfield 11, 3), (14, .iload_n 3, 1), (15, .iaload, 1), (16, .iload_n 1, 1), (17, .if_icmp .ne 5, 3), (20, .iload_n 3, 1), (21, .ireturn, 1), (22, .iinc 3 1, 3), (25, .goto (-23), 3)]
theorem dt_X7_next_0 : dOk cX7_next T_X7_next_0 := by unfold dOk; decide +kernel
def T_X7_next_1 : DT := [(28, .aload_n 0, 1), (29, .getfield 15, 3), (32, .ireturn, 1)]
theorem dt_X7_next_1 : dOk cX7_next T_X7_next_1 := by unfold dOk; decide +kernel
section
variable {v : ZV} {l : Launch} {p : Program} {e : Env} {R : Room} {s : State} {m : MethodId} {args : Array Value} {below : List Frame} {meth : Method} {c : Code} {Q : State → Prop} {res : (Int32 × Hp)} 
set_option maxRecDepth 20000 in
theorem lkB_X7_next_2 (hi : zInj wC v) (xc : XC wC v) (nx : NXC v) (X : Cx wC v p R s m args c 0 0 cX7_next 4 RX7 2) (rt : Rt wC v p l e R s m args below meth c 0 0 Q cX7_next false (some (.int res.1)) res.2) {k2 : Nat → Int32 → Int32 → Hp → Option (Int32 × Hp)} {r0 : Nat} {x1 : Int32} {x3 : Int32} {σ : Hp} (hr0 : isS r0 = true) (hk2 : ∀ (r0 : Nat) (x1 : Int32) (x3 : Int32) (σ : Hp), (hr0 : isS r0 = true) → k2 r0 x1 x3 σ = some res → Go wC v p l e R s m args below meth c 0 0 Q 4 2 [(0, .ref r0), (1, .int x1), (3, .int x3)] [] σ) (h : B_X7_next_2  k2 r0 x1 x3 σ = some res) : Go wC v p l e R s m args below meth c 0 0 Q 4 2 [(0, .ref r0), (1, .int x1), (3, .int x3)] [] σ := by
  unfold B_X7_next_2 at h
  refine go_iload_n X 2 (dk dt_X7_next_0 2 rfl) rfl rfl ?_
  refine go_aload_n X 0 (dk dt_X7_next_0 3 rfl) rfl rfl ?_
  refine go_geti X fo_X7_15 (lS hr0) (sS hr0) (fS_1 hr0) (dk dt_X7_next_0 4 rfl) ?_
  refine go_icmp_ge (tgt := 28) X (dk dt_X7_next_0 5 rfl) (by decide) h (fun h => ?_) (fun h => ?_)
  · refine go_aload_n X 0 (dk dt_X7_next_1 0 rfl) rfl rfl ?_
    refine go_geti X fo_X7_15 (lS hr0) (sS hr0) (fS_1 hr0) (dk dt_X7_next_1 1 rfl) ?_
    exact go_iret rt (dk dt_X7_next_1 2 rfl) h (fun hh => nomatch hh)
  · refine go_aload_n X 0 (dk dt_X7_next_0 6 rfl) rfl rfl ?_
    refine go_getr X fo_X7_11 (lS hr0) (sS hr0) (fS_0 hr0) (dk dt_X7_next_0 7 rfl) ?_
    refine go_iload_n X 2 (dk dt_X7_next_0 8 rfl) rfl rfl ?_
    refine go_iald X (lSa_1 hr0) (sSa_1 hr0) (dk dt_X7_next_0 9 rfl) h (fun h => ?_)
    refine go_iload_n X 1 (dk dt_X7_next_0 10 rfl) rfl rfl ?_
    refine go_icmp_ne (tgt := 22) X (dk dt_X7_next_0 11 rfl) (by decide) h (fun h => ?_) (fun h => ?_)
    · refine go_iinc (lv' := [(3, .int (x3 + (1 : Int32))), (0, .ref r0), (1, .int x1)]) X 2 (dk dt_X7_next_0 14 rfl) rfl ci_1 (by decide) rfl ?_
      refine go_goto (tgt := 2) X (dk dt_X7_next_0 15 rfl) (by decide) ?_
      refine go_sub [1, 2, 0] rfl ?_
      exact hk2 _ _ _ _ hr0 h
    · refine go_iload_n X 2 (dk dt_X7_next_0 12 rfl) rfl rfl ?_
      exact go_iret rt (dk dt_X7_next_0 13 rfl) h (fun hh => nomatch hh)
set_option maxRecDepth 20000 in
theorem lkL_X7_next_2 (hi : zInj wC v) (xc : XC wC v) (nx : NXC v) (X : Cx wC v p R s m args c 0 0 cX7_next 4 RX7 2) (rt : Rt wC v p l e R s m args below meth c 0 0 Q cX7_next false (some (.int res.1)) res.2)   (n : Nat) : ∀ {r0 : Nat} {x1 : Int32} {x3 : Int32} {σ : Hp}, (hr0 : isS r0 = true) → L_X7_next_2   n r0 x1 x3 σ = some res → Go wC v p l e R s m args below meth c 0 0 Q 4 2 [(0, .ref r0), (1, .int x1), (3, .int x3)] [] σ := by
  induction n with
  | zero => intro r0 x1 x3 σ hr0 h; cases h
  | succ n ih =>
    intro r0 x1 x3 σ hr0 h
    exact lkB_X7_next_2 hi xc nx X rt hr0 (fun _ _ _ _ hq0 hh => ih hq0 hh) h
set_option maxRecDepth 20000 in
theorem lkF_X7_next (hi : zInj wC v) (xc : XC wC v) (nx : NXC v) (X : Cx wC v p R s m args c 0 0 cX7_next 4 RX7 2) (rt : Rt wC v p l e R s m args below meth c 0 0 Q cX7_next false (some (.int res.1)) res.2) {t : Nat} {a1 : Int32} {a2 : Int32} {σ : Hp} (ht : isS t = true) (h : F_X7_next  t a1 a2 σ = some res) : Go wC v p l e R s m args below meth c 0 0 Q 4 0 [(0, .ref t), (1, .int a1), (2, .int a2)] [] σ := by
  unfold F_X7_next at h
  refine go_iload_n X 2 (dk dt_X7_next_0 0 rfl) rfl rfl ?_
  refine go_istore_n (lv' := [(3, .int a2), (0, .ref t), (1, .int a1), (2, .int a2)]) X (dk dt_X7_next_0 1 rfl) rfl (by decide) rfl ?_
  refine go_sub [1, 2, 0] rfl ?_
  exact lkL_X7_next_2 hi xc nx X rt  FU ht h
set_option maxRecDepth 20000 in
theorem ct_X7_next (hi : zInj wC v) (xc : XC wC v) (nx : NXC v)  {t : Nat} {a1 : Int32} {a2 : Int32} {σ : Hp} (ht : isS t = true) {q : (Int32 × Hp)} (h : F_X7_next  t a1 a2 σ = some q) : Ct wC v l yX7_next cX7_next 4 (some .int) 2 [.ref t, .int a1, .int a2] σ (some (.int q.1)) q.2 :=
  Ct.intro false (by decide) hi xc (Nat.le_of_ble_eq_true rfl) rfl (fun p e R s m args below meth c Q X rt => lkF_X7_next hi xc nx X rt ht h)
end
def T_X1_leastSign_0 : DT := [(0, .iconst 0, 1), (1, .istore 5, 2), (3, .iload 5, 2), (5, .iconst 5, 1), (6, .if_icmp .ge 83, 3), (9, .aload_n 1, 1), (10, .iload 5, 2), (12, .iload_n 3, 1), (13, .invokevirtual 41, 3), (16, .istore 6, 2), (18, .aload_n 2, 1), (19, .iload 5, 2), (21, .iload 4, 2), (23, .invokevirtual 41, 3), (26, .istore 7, 2), (28, .iload 6, 2)]
theorem dt_X1_leastSign_0 : dOk cX1_leastSign T_X1_leastSign_0 := by unfold dOk; decide +kernel
def T_X1_leastSign_1 : DT := [(30, .aload_n 1, 1), (31, .getfield 17, 3), (34, .if_icmp .ge 49, 3), (37, .iload 7, 2), (39, .aload_n 2, 1), (40, .getfield 17, 3), (43, .if_icmp .ge 40, 3), (46, .aload_n 0, 1), (47, .getfield 13, 3), (50, .iload 6, 2), (52, .iconst 1, 1), (53, .iadd, 1), (54, .bipush 61, 2), (56, .imul, 1), (57, .iload 7, 2), (59, .iadd, 1)]
theorem dt_X1_leastSign_1 : dOk cX1_leastSign T_X1_leastSign_1 := by unfold dOk; decide +kernel
def T_X1_leastSign_2 : DT := [(60, .iconst 1, 1), (61, .iadd, 1), (62, .iaload, 1), (63, .iconst 1, 1), (64, .iadd, 1), (65, .aload_n 0, 1), (66, .getfield 13, 3), (69, .iload_n 3, 1), (70, .bipush 61, 2), (72, .imul, 1), (73, .iload 4, 2), (75, .iadd, 1), (76, .iaload, 1), (77, .if_icmp .ne 6, 3), (80, .iload 5, 2), (82, .ireturn, 1)]
theorem dt_X1_leastSign_2 : dOk cX1_leastSign T_X1_leastSign_2 := by unfold dOk; decide +kernel
def T_X1_leastSign_3 : DT := [(83, .iinc 5 1, 3), (86, .goto (-83), 3), (89, .iconst 5, 1), (90, .ireturn, 1)]
theorem dt_X1_leastSign_3 : dOk cX1_leastSign T_X1_leastSign_3 := by unfold dOk; decide +kernel
section
variable {v : ZV} {l : Launch} {p : Program} {e : Env} {R : Room} {s : State} {m : MethodId} {args : Array Value} {below : List Frame} {meth : Method} {c : Code} {Q : State → Prop} {res : (Int32 × Hp)} 
set_option maxRecDepth 20000 in
theorem lkB_X1_leastSign_3 (hi : zInj wC v) (xc : XC wC v) (nx : NXC v) (X : Cx wC v p R s m args c 0 0 cX1_leastSign 8 RX1 4) (rt : Rt wC v p l e R s m args below meth c 0 0 Q cX1_leastSign false (some (.int res.1)) res.2) {k3 : Nat → Nat → Int32 → Int32 → Int32 → Hp → Option (Int32 × Hp)} {r1 : Nat} {r2 : Nat} {x3 : Int32} {x4 : Int32} {x5 : Int32} {σ : Hp} (hr1 : isS r1 = true) (hr2 : isS r2 = true) (hk3 : ∀ (r1 : Nat) (r2 : Nat) (x3 : Int32) (x4 : Int32) (x5 : Int32) (σ : Hp), (hr1 : isS r1 = true) → (hr2 : isS r2 = true) → k3 r1 r2 x3 x4 x5 σ = some res → Go wC v p l e R s m args below meth c 0 0 Q 8 3 [(0, .ref 34), (1, .ref r1), (2, .ref r2), (3, .int x3), (4, .int x4), (5, .int x5)] [] σ) (h : B_X1_leastSign_3  k3 r1 r2 x3 x4 x5 σ = some res) : Go wC v p l e R s m args below meth c 0 0 Q 8 3 [(0, .ref 34), (1, .ref r1), (2, .ref r2), (3, .int x3), (4, .int x4), (5, .int x5)] [] σ := by
  unfold B_X1_leastSign_3 at h
  refine go_iload X 5 (dk dt_X1_leastSign_0 2 rfl) rfl ?_
  refine go_iconst X (dk dt_X1_leastSign_0 3 rfl) ci_5 ?_
  refine go_icmp_ge (tgt := 89) X (dk dt_X1_leastSign_0 4 rfl) (by decide) h (fun h => ?_) (fun h => ?_)
  · refine go_iconst X (dk dt_X1_leastSign_3 2 rfl) ci_5 ?_
    exact go_iret rt (dk dt_X1_leastSign_3 3 rfl) h (fun hh => nomatch hh)
  · refine go_aload_n X 1 (dk dt_X1_leastSign_0 5 rfl) rfl rfl ?_
    refine go_iload X 5 (dk dt_X1_leastSign_0 6 rfl) rfl ?_
    refine go_iload_n X 3 (dk dt_X1_leastSign_0 7 rfl) rfl rfl ?_
    refine go_Vi (As := [.int x5, .int x3]) (rest := []) X vo_X1_41 (fun q hq => ct_X7_next hi xc nx hr1 hq) (by decide) rfl (lS hr1) (sS hr1) rfl rfl (Nat.le_of_ble_eq_true rfl) (dk dt_X1_leastSign_0 8 rfl) h (fun q13 h => ?_)
    refine go_istore (lv' := [(6, .int q13.1), (0, .ref 34), (1, .ref r1), (2, .ref r2), (3, .int x3), (4, .int x4), (5, .int x5)]) X (dk dt_X1_leastSign_0 9 rfl) (by decide) rfl ?_
    refine go_aload_n X 3 (dk dt_X1_leastSign_0 10 rfl) rfl rfl ?_
    refine go_iload X 6 (dk dt_X1_leastSign_0 11 rfl) rfl ?_
    refine go_iload X 5 (dk dt_X1_leastSign_0 12 rfl) rfl ?_
    refine go_Vi (As := [.int x5, .int x4]) (rest := []) X vo_X1_41 (fun q hq => ct_X7_next hi xc nx hr2 hq) (by decide) rfl (lS hr2) (sS hr2) rfl rfl (Nat.le_of_ble_eq_true rfl) (dk dt_X1_leastSign_0 13 rfl) h (fun q23 h => ?_)
    refine go_istore (lv' := [(7, .int q23.1), (6, .int q13.1), (0, .ref 34), (1, .ref r1), (2, .ref r2), (3, .int x3), (4, .int x4), (5, .int x5)]) X (dk dt_X1_leastSign_0 14 rfl) (by decide) rfl ?_
    refine go_iload X 1 (dk dt_X1_leastSign_0 15 rfl) rfl ?_
    refine go_aload_n X 3 (dk dt_X1_leastSign_1 0 rfl) rfl rfl ?_
    refine go_geti X fo_X1_17 (lS hr1) (sS hr1) (fS_1 hr1) (dk dt_X1_leastSign_1 1 rfl) ?_
    refine go_icmp_ge (tgt := 83) X (dk dt_X1_leastSign_1 2 rfl) (by decide) h (fun h => ?_) (fun h => ?_)
    · refine go_iinc (lv' := [(5, .int (x5 + (1 : Int32))), (7, .int q23.1), (6, .int q13.1), (0, .ref 34), (1, .ref r1), (2, .ref r2), (3, .int x3), (4, .int x4)]) X 7 (dk dt_X1_leastSign_3 0 rfl) rfl ci_1 (by decide) rfl ?_
      refine go_goto (tgt := 3) X (dk dt_X1_leastSign_3 1 rfl) (by decide) ?_
      refine go_sub [3, 4, 5, 6, 7, 0] rfl ?_
      exact hk3 _ _ _ _ _ _ hr1 hr2 h
    · refine go_iload X 0 (dk dt_X1_leastSign_1 3 rfl) rfl ?_
      refine go_aload_n X 4 (dk dt_X1_leastSign_1 4 rfl) rfl rfl ?_
      refine go_geti X fo_X1_17 (lS hr2) (sS hr2) (fS_1 hr2) (dk dt_X1_leastSign_1 5 rfl) ?_
      refine go_icmp_ge (tgt := 83) X (dk dt_X1_leastSign_1 6 rfl) (by decide) h (fun h => ?_) (fun h => ?_)
      · refine go_iinc (lv' := [(5, .int (x5 + (1 : Int32))), (7, .int q23.1), (6, .int q13.1), (0, .ref 34), (1, .ref r1), (2, .ref r2), (3, .int x3), (4, .int x4)]) X 7 (dk dt_X1_leastSign_3 0 rfl) rfl ci_1 (by decide) rfl ?_
        refine go_goto (tgt := 3) X (dk dt_X1_leastSign_3 1 rfl) (by decide) ?_
        refine go_sub [3, 4, 5, 6, 7, 0] rfl ?_
        exact hk3 _ _ _ _ _ _ hr1 hr2 h
      · refine go_aload_n X 2 (dk dt_X1_leastSign_1 7 rfl) rfl rfl ?_
        refine go_getr X fo_X1_13 lC_34 sC_34 fC_34_0 (dk dt_X1_leastSign_1 8 rfl) ?_
        refine go_iload X 1 (dk dt_X1_leastSign_1 9 rfl) rfl ?_
        refine go_iconst X (dk dt_X1_leastSign_1 10 rfl) ci_1 ?_
        refine go_iadd X (dk dt_X1_leastSign_1 11 rfl) ?_
        refine go_bipush X (dk dt_X1_leastSign_1 12 rfl) cb_61 ?_
        refine go_imul X (dk dt_X1_leastSign_1 13 rfl) ?_
        refine go_iload X 0 (dk dt_X1_leastSign_1 14 rfl) rfl ?_
        refine go_iadd X (dk dt_X1_leastSign_1 15 rfl) ?_
        refine go_iconst X (dk dt_X1_leastSign_2 0 rfl) ci_1 ?_
        refine go_iadd X (dk dt_X1_leastSign_2 1 rfl) ?_
        refine go_iald X lC_35 sC_35 (dk dt_X1_leastSign_2 2 rfl) h (fun h => ?_)
        refine go_iconst X (dk dt_X1_leastSign_2 3 rfl) ci_1 ?_
        refine go_iadd X (dk dt_X1_leastSign_2 4 rfl) ?_
        refine go_aload_n X 2 (dk dt_X1_leastSign_2 5 rfl) rfl rfl ?_
        refine go_getr X fo_X1_13 lC_34 sC_34 fC_34_0 (dk dt_X1_leastSign_2 6 rfl) ?_
        refine go_iload_n X 5 (dk dt_X1_leastSign_2 7 rfl) rfl rfl ?_
        refine go_bipush X (dk dt_X1_leastSign_2 8 rfl) cb_61 ?_
        refine go_imul X (dk dt_X1_leastSign_2 9 rfl) ?_
        refine go_iload X 6 (dk dt_X1_leastSign_2 10 rfl) rfl ?_
        refine go_iadd X (dk dt_X1_leastSign_2 11 rfl) ?_
        refine go_iald X lC_35 sC_35 (dk dt_X1_leastSign_2 12 rfl) h (fun h => ?_)
        refine go_icmp_ne (tgt := 83) X (dk dt_X1_leastSign_2 13 rfl) (by decide) h (fun h => ?_) (fun h => ?_)
        · refine go_iinc (lv' := [(5, .int (x5 + (1 : Int32))), (7, .int q23.1), (6, .int q13.1), (0, .ref 34), (1, .ref r1), (2, .ref r2), (3, .int x3), (4, .int x4)]) X 7 (dk dt_X1_leastSign_3 0 rfl) rfl ci_1 (by decide) rfl ?_
          refine go_goto (tgt := 3) X (dk dt_X1_leastSign_3 1 rfl) (by decide) ?_
          refine go_sub [3, 4, 5, 6, 7, 0] rfl ?_
          exact hk3 _ _ _ _ _ _ hr1 hr2 h
        · refine go_iload X 7 (dk dt_X1_leastSign_2 14 rfl) rfl ?_
          exact go_iret rt (dk dt_X1_leastSign_2 15 rfl) h (fun hh => nomatch hh)
set_option maxRecDepth 20000 in
theorem lkL_X1_leastSign_3 (hi : zInj wC v) (xc : XC wC v) (nx : NXC v) (X : Cx wC v p R s m args c 0 0 cX1_leastSign 8 RX1 4) (rt : Rt wC v p l e R s m args below meth c 0 0 Q cX1_leastSign false (some (.int res.1)) res.2)   (n : Nat) : ∀ {r1 : Nat} {r2 : Nat} {x3 : Int32} {x4 : Int32} {x5 : Int32} {σ : Hp}, (hr1 : isS r1 = true) → (hr2 : isS r2 = true) → L_X1_leastSign_3   n r1 r2 x3 x4 x5 σ = some res → Go wC v p l e R s m args below meth c 0 0 Q 8 3 [(0, .ref 34), (1, .ref r1), (2, .ref r2), (3, .int x3), (4, .int x4), (5, .int x5)] [] σ := by
  induction n with
  | zero => intro r1 r2 x3 x4 x5 σ hr1 hr2 h; cases h
  | succ n ih =>
    intro r1 r2 x3 x4 x5 σ hr1 hr2 h
    exact lkB_X1_leastSign_3 hi xc nx X rt hr1 hr2 (fun _ _ _ _ _ _ hq0 hq1 hh => ih hq0 hq1 hh) h
set_option maxRecDepth 20000 in
theorem lkF_X1_leastSign (hi : zInj wC v) (xc : XC wC v) (nx : NXC v) (X : Cx wC v p R s m args c 0 0 cX1_leastSign 8 RX1 4) (rt : Rt wC v p l e R s m args below meth c 0 0 Q cX1_leastSign false (some (.int res.1)) res.2) {a1 : Nat} {a2 : Nat} {a3 : Int32} {a4 : Int32} {σ : Hp} (ha1 : isS a1 = true) (ha2 : isS a2 = true) (h : F_X1_leastSign  a1 a2 a3 a4 σ = some res) : Go wC v p l e R s m args below meth c 0 0 Q 8 0 [(0, .ref 34), (1, .ref a1), (2, .ref a2), (3, .int a3), (4, .int a4)] [] σ := by
  unfold F_X1_leastSign at h
  refine go_iconst X (dk dt_X1_leastSign_0 0 rfl) ci_0 ?_
  refine go_istore (lv' := [(5, .int (0 : Int32)), (0, .ref 34), (1, .ref a1), (2, .ref a2), (3, .int a3), (4, .int a4)]) X (dk dt_X1_leastSign_0 1 rfl) (by decide) rfl ?_
  refine go_sub [1, 2, 3, 4, 5, 0] rfl ?_
  exact lkL_X1_leastSign_3 hi xc nx X rt  FU ha1 ha2 h
set_option maxRecDepth 20000 in
theorem ct_X1_leastSign (hi : zInj wC v) (xc : XC wC v) (nx : NXC v)  {a1 : Nat} {a2 : Nat} {a3 : Int32} {a4 : Int32} {σ : Hp} (ha1 : isS a1 = true) (ha2 : isS a2 = true) {q : (Int32 × Hp)} (h : F_X1_leastSign  a1 a2 a3 a4 σ = some q) : Ct wC v l yX1_leastSign cX1_leastSign 8 (some .int) 4 [.ref 34, .ref a1, .ref a2, .int a3, .int a4] σ (some (.int q.1)) q.2 :=
  Ct.intro false (by decide) hi xc (Nat.le_of_ble_eq_true rfl) rfl (fun p e R s m args below meth c Q X rt => lkF_X1_leastSign hi xc nx X rt ha1 ha2 h)
end
def T_X1_lampAt_0 : DT := [(0, .iload_n 3, 1), (1, .aload_n 0, 1), (2, .invokevirtual 34, 3), (5, .if_icmp .lt 6, 3), (8, .bipush (-4), 2), (10, .ireturn, 1), (11, .iconst 0, 1), (12, .istore 4, 2), (14, .iconst 0, 1), (15, .istore 5, 2), (17, .iconst 0, 1), (18, .istore 6, 2), (20, .iconst 0, 1), (21, .istore 7, 2), (23, .iload 7, 2), (25, .iload_n 3, 1)]
theorem dt_X1_lampAt_0 : dOk cX1_lampAt T_X1_lampAt_0 := by unfold dOk; decide +kernel
def T_X1_lampAt_1 : DT := [(26, .if_icmp .gt 59, 3), (29, .aload_n 0, 1), (30, .aload_n 1, 1), (31, .aload_n 2, 1), (32, .iload 4, 2), (34, .iload 5, 2), (36, .invokevirtual 38, 3), (39, .istore 6, 2), (41, .aload_n 1, 1), (42, .getfield 17, 3), (45, .aload_n 1, 1), (46, .iload 6, 2), (48, .iload 4, 2), (50, .invokevirtual 41, 3), (53, .iconst 1, 1), (54, .iadd, 1)]
theorem dt_X1_lampAt_1 : dOk cX1_lampAt T_X1_lampAt_1 := by unfold dOk; decide +kernel
def T_X1_lampAt_2 : DT := [(55, .invokestatic 44, 3), (58, .istore 4, 2), (60, .aload_n 2, 1), (61, .getfield 17, 3), (64, .aload_n 2, 1), (65, .iload 6, 2), (67, .iload 5, 2), (69, .invokevirtual 41, 3), (72, .iconst 1, 1), (73, .iadd, 1), (74, .invokestatic 44, 3), (77, .istore 5, 2), (79, .iinc 7 1, 3), (82, .goto (-59), 3), (85, .iload 6, 2), (87, .ireturn, 1)]
theorem dt_X1_lampAt_2 : dOk cX1_lampAt T_X1_lampAt_2 := by unfold dOk; decide +kernel
section
variable {v : ZV} {l : Launch} {p : Program} {e : Env} {R : Room} {s : State} {m : MethodId} {args : Array Value} {below : List Frame} {meth : Method} {c : Code} {Q : State → Prop} {res : (Int32 × Hp)} 
set_option maxRecDepth 20000 in
theorem lkB_X1_lampAt_23 (hi : zInj wC v) (xc : XC wC v) (nx : NXC v) (X : Cx wC v p R s m args c 0 0 cX1_lampAt 8 RX1 6) (rt : Rt wC v p l e R s m args below meth c 0 0 Q cX1_lampAt false (some (.int res.1)) res.2) {k23 : Nat → Nat → Int32 → Int32 → Int32 → Int32 → Int32 → Hp → Option (Int32 × Hp)} {r1 : Nat} {r2 : Nat} {x3 : Int32} {x4 : Int32} {x5 : Int32} {x6 : Int32} {x7 : Int32} {σ : Hp} (hr1 : isS r1 = true) (hr2 : isS r2 = true) (hk23 : ∀ (r1 : Nat) (r2 : Nat) (x3 : Int32) (x4 : Int32) (x5 : Int32) (x6 : Int32) (x7 : Int32) (σ : Hp), (hr1 : isS r1 = true) → (hr2 : isS r2 = true) → k23 r1 r2 x3 x4 x5 x6 x7 σ = some res → Go wC v p l e R s m args below meth c 0 0 Q 8 23 [(0, .ref 34), (1, .ref r1), (2, .ref r2), (3, .int x3), (4, .int x4), (5, .int x5), (6, .int x6), (7, .int x7)] [] σ) (h : B_X1_lampAt_23  k23 r1 r2 x3 x4 x5 x6 x7 σ = some res) : Go wC v p l e R s m args below meth c 0 0 Q 8 23 [(0, .ref 34), (1, .ref r1), (2, .ref r2), (3, .int x3), (4, .int x4), (5, .int x5), (6, .int x6), (7, .int x7)] [] σ := by
  unfold B_X1_lampAt_23 at h
  refine go_iload X 7 (dk dt_X1_lampAt_0 14 rfl) rfl ?_
  refine go_iload_n X 3 (dk dt_X1_lampAt_0 15 rfl) rfl rfl ?_
  refine go_icmp_gt (tgt := 85) X (dk dt_X1_lampAt_1 0 rfl) (by decide) h (fun h => ?_) (fun h => ?_)
  · refine go_iload X 6 (dk dt_X1_lampAt_2 14 rfl) rfl ?_
    exact go_iret rt (dk dt_X1_lampAt_2 15 rfl) h (fun hh => nomatch hh)
  · refine go_aload_n X 0 (dk dt_X1_lampAt_1 1 rfl) rfl rfl ?_
    refine go_aload_n X 1 (dk dt_X1_lampAt_1 2 rfl) rfl rfl ?_
    refine go_aload_n X 2 (dk dt_X1_lampAt_1 3 rfl) rfl rfl ?_
    refine go_iload X 4 (dk dt_X1_lampAt_1 4 rfl) rfl ?_
    refine go_iload X 5 (dk dt_X1_lampAt_1 5 rfl) rfl ?_
    refine go_Vi (As := [.ref r1, .ref r2, .int x4, .int x5]) (rest := []) X vo_X1_38 (fun q hq => ct_X1_leastSign hi xc nx hr1 hr2 hq) (by decide) rfl lC_34 sC_34 rfl rfl (Nat.le_of_ble_eq_true rfl) (dk dt_X1_lampAt_1 6 rfl) h (fun q36 h => ?_)
    refine go_istore (lv' := [(6, .int q36.1), (0, .ref 34), (1, .ref r1), (2, .ref r2), (3, .int x3), (4, .int x4), (5, .int x5), (7, .int x7)]) X (dk dt_X1_lampAt_1 7 rfl) (by decide) rfl ?_
    refine go_aload_n X 2 (dk dt_X1_lampAt_1 8 rfl) rfl rfl ?_
    refine go_geti X fo_X1_17 (lS hr1) (sS hr1) (fS_1 hr1) (dk dt_X1_lampAt_1 9 rfl) ?_
    refine go_aload_n X 2 (dk dt_X1_lampAt_1 10 rfl) rfl rfl ?_
    refine go_iload X 0 (dk dt_X1_lampAt_1 11 rfl) rfl ?_
    refine go_iload X 5 (dk dt_X1_lampAt_1 12 rfl) rfl ?_
    refine go_Vi (As := [.int q36.1, .int x4]) (rest := [.int (q36.2 r1 1)]) X vo_X1_41 (fun q hq => ct_X7_next hi xc nx hr1 hq) (by decide) rfl (lS hr1) (sS hr1) rfl rfl (Nat.le_of_ble_eq_true rfl) (dk dt_X1_lampAt_1 13 rfl) h (fun q50 h => ?_)
    refine go_iconst X (dk dt_X1_lampAt_1 14 rfl) ci_1 ?_
    refine go_iadd X (dk dt_X1_lampAt_1 15 rfl) ?_
    refine go_mmin X mo_X1_44 (by decide) (Nat.le_of_ble_eq_true rfl) (dk dt_X1_lampAt_2 0 rfl) ?_
    refine go_istore (lv' := [(4, .int (jmin (q36.2 r1 1) (q50.1 + (1 : Int32)))), (6, .int q36.1), (0, .ref 34), (1, .ref r1), (2, .ref r2), (3, .int x3), (5, .int x5), (7, .int x7)]) X (dk dt_X1_lampAt_2 1 rfl) (by decide) rfl ?_
    refine go_aload_n X 4 (dk dt_X1_lampAt_2 2 rfl) rfl rfl ?_
    refine go_geti X fo_X1_17 (lS hr2) (sS hr2) (fS_1 hr2) (dk dt_X1_lampAt_2 3 rfl) ?_
    refine go_aload_n X 4 (dk dt_X1_lampAt_2 4 rfl) rfl rfl ?_
    refine go_iload X 1 (dk dt_X1_lampAt_2 5 rfl) rfl ?_
    refine go_iload X 6 (dk dt_X1_lampAt_2 6 rfl) rfl ?_
    refine go_Vi (As := [.int q36.1, .int x5]) (rest := [.int (q50.2 r2 1)]) X vo_X1_41 (fun q hq => ct_X7_next hi xc nx hr2 hq) (by decide) rfl (lS hr2) (sS hr2) rfl rfl (Nat.le_of_ble_eq_true rfl) (dk dt_X1_lampAt_2 7 rfl) h (fun q69 h => ?_)
    refine go_iconst X (dk dt_X1_lampAt_2 8 rfl) ci_1 ?_
    refine go_iadd X (dk dt_X1_lampAt_2 9 rfl) ?_
    refine go_mmin X mo_X1_44 (by decide) (Nat.le_of_ble_eq_true rfl) (dk dt_X1_lampAt_2 10 rfl) ?_
    refine go_istore (lv' := [(5, .int (jmin (q50.2 r2 1) (q69.1 + (1 : Int32)))), (4, .int (jmin (q36.2 r1 1) (q50.1 + (1 : Int32)))), (6, .int q36.1), (0, .ref 34), (1, .ref r1), (2, .ref r2), (3, .int x3), (7, .int x7)]) X (dk dt_X1_lampAt_2 11 rfl) (by decide) rfl ?_
    refine go_iinc (lv' := [(7, .int (x7 + (1 : Int32))), (5, .int (jmin (q50.2 r2 1) (q69.1 + (1 : Int32)))), (4, .int (jmin (q36.2 r1 1) (q50.1 + (1 : Int32)))), (6, .int q36.1), (0, .ref 34), (1, .ref r1), (2, .ref r2), (3, .int x3)]) X 7 (dk dt_X1_lampAt_2 12 rfl) rfl ci_1 (by decide) rfl ?_
    refine go_goto (tgt := 23) X (dk dt_X1_lampAt_2 13 rfl) (by decide) ?_
    refine go_sub [4, 5, 6, 7, 2, 1, 3, 0] rfl ?_
    exact hk23 _ _ _ _ _ _ _ _ hr1 hr2 h
set_option maxRecDepth 20000 in
theorem lkL_X1_lampAt_23 (hi : zInj wC v) (xc : XC wC v) (nx : NXC v) (X : Cx wC v p R s m args c 0 0 cX1_lampAt 8 RX1 6) (rt : Rt wC v p l e R s m args below meth c 0 0 Q cX1_lampAt false (some (.int res.1)) res.2)   (n : Nat) : ∀ {r1 : Nat} {r2 : Nat} {x3 : Int32} {x4 : Int32} {x5 : Int32} {x6 : Int32} {x7 : Int32} {σ : Hp}, (hr1 : isS r1 = true) → (hr2 : isS r2 = true) → L_X1_lampAt_23   n r1 r2 x3 x4 x5 x6 x7 σ = some res → Go wC v p l e R s m args below meth c 0 0 Q 8 23 [(0, .ref 34), (1, .ref r1), (2, .ref r2), (3, .int x3), (4, .int x4), (5, .int x5), (6, .int x6), (7, .int x7)] [] σ := by
  induction n with
  | zero => intro r1 r2 x3 x4 x5 x6 x7 σ hr1 hr2 h; cases h
  | succ n ih =>
    intro r1 r2 x3 x4 x5 x6 x7 σ hr1 hr2 h
    exact lkB_X1_lampAt_23 hi xc nx X rt hr1 hr2 (fun _ _ _ _ _ _ _ _ hq0 hq1 hh => ih hq0 hq1 hh) h
set_option maxRecDepth 20000 in
theorem lkF_X1_lampAt (hi : zInj wC v) (xc : XC wC v) (nx : NXC v) (X : Cx wC v p R s m args c 0 0 cX1_lampAt 8 RX1 6) (rt : Rt wC v p l e R s m args below meth c 0 0 Q cX1_lampAt false (some (.int res.1)) res.2) {a1 : Nat} {a2 : Nat} {a3 : Int32} {σ : Hp} (ha1 : isS a1 = true) (ha2 : isS a2 = true) (h : F_X1_lampAt  a1 a2 a3 σ = some res) : Go wC v p l e R s m args below meth c 0 0 Q 8 0 [(0, .ref 34), (1, .ref a1), (2, .ref a2), (3, .int a3)] [] σ := by
  unfold F_X1_lampAt at h
  refine go_iload_n X 3 (dk dt_X1_lampAt_0 0 rfl) rfl rfl ?_
  refine go_aload_n X 0 (dk dt_X1_lampAt_0 1 rfl) rfl rfl ?_
  refine go_Vi (As := []) (rest := [.int a3]) X vo_X1_34 (fun q hq => ct_X1_length hi xc nx  hq) (by decide) rfl lC_34 sC_34 rfl rfl (Nat.le_of_ble_eq_true rfl) (dk dt_X1_lampAt_0 2 rfl) h (fun q2 h => ?_)
  refine go_icmp_lt (tgt := 11) X (dk dt_X1_lampAt_0 3 rfl) (by decide) h (fun h => ?_) (fun h => ?_)
  · refine go_iconst X (dk dt_X1_lampAt_0 6 rfl) ci_0 ?_
    refine go_istore (lv' := [(4, .int (0 : Int32)), (0, .ref 34), (1, .ref a1), (2, .ref a2), (3, .int a3)]) X (dk dt_X1_lampAt_0 7 rfl) (by decide) rfl ?_
    refine go_iconst X (dk dt_X1_lampAt_0 8 rfl) ci_0 ?_
    refine go_istore (lv' := [(5, .int (0 : Int32)), (4, .int (0 : Int32)), (0, .ref 34), (1, .ref a1), (2, .ref a2), (3, .int a3)]) X (dk dt_X1_lampAt_0 9 rfl) (by decide) rfl ?_
    refine go_iconst X (dk dt_X1_lampAt_0 10 rfl) ci_0 ?_
    refine go_istore (lv' := [(6, .int (0 : Int32)), (5, .int (0 : Int32)), (4, .int (0 : Int32)), (0, .ref 34), (1, .ref a1), (2, .ref a2), (3, .int a3)]) X (dk dt_X1_lampAt_0 11 rfl) (by decide) rfl ?_
    refine go_iconst X (dk dt_X1_lampAt_0 12 rfl) ci_0 ?_
    refine go_istore (lv' := [(7, .int (0 : Int32)), (6, .int (0 : Int32)), (5, .int (0 : Int32)), (4, .int (0 : Int32)), (0, .ref 34), (1, .ref a1), (2, .ref a2), (3, .int a3)]) X (dk dt_X1_lampAt_0 13 rfl) (by decide) rfl ?_
    refine go_sub [4, 5, 6, 7, 3, 2, 1, 0] rfl ?_
    exact lkL_X1_lampAt_23 hi xc nx X rt  FU ha1 ha2 h
  · refine go_bipush X (dk dt_X1_lampAt_0 4 rfl) cb_m4 ?_
    exact go_iret rt (dk dt_X1_lampAt_0 5 rfl) h (fun hh => nomatch hh)
set_option maxRecDepth 20000 in
theorem ct_X1_lampAt (hi : zInj wC v) (xc : XC wC v) (nx : NXC v)  {a1 : Nat} {a2 : Nat} {a3 : Int32} {σ : Hp} (ha1 : isS a1 = true) (ha2 : isS a2 = true) {q : (Int32 × Hp)} (h : F_X1_lampAt  a1 a2 a3 σ = some q) : Ct wC v l yX1_lampAt cX1_lampAt 8 (some .int) 6 [.ref 34, .ref a1, .ref a2, .int a3] σ (some (.int q.1)) q.2 :=
  Ct.intro false (by decide) hi xc (Nat.le_of_ble_eq_true rfl) rfl (fun p e R s m args below meth c Q X rt => lkF_X1_lampAt hi xc nx X rt ha1 ha2 h)
end
def T_V_inCommon_0 : DT := [(0, .iload_n 1, 1), (1, .bipush 100, 2), (3, .if_icmp .eq 15, 3), (6, .iload_n 1, 1), (7, .iconst 0, 1), (8, .bipush 59, 2), (10, .invokestatic 119, 3), (13, .ifCond .ne 5, 3), (16, .iconst (-1), 1), (17, .ireturn, 1), (18, .aload_n 0, 1), (19, .getfield 70, 3), (22, .aload_n 0, 1), (23, .getfield 57, 3), (26, .aload_n 0, 1), (27, .getfield 61, 3)]
theorem dt_V_inCommon_0 : dOk cX11_inCommon T_V_inCommon_0 := by unfold dOk; decide +kernel
def T_V_inCommon_1 : DT := [(30, .invokevirtual 298, 3), (33, .iload_n 1, 1), (34, .bipush 100, 2), (36, .if_icmp .ne 13, 3), (39, .aload_n 0, 1), (40, .getfield 70, 3), (43, .invokevirtual 302, 3), (46, .goto 19, 3), (49, .aload_n 0, 1), (50, .getfield 70, 3), (53, .aload_n 0, 1), (54, .getfield 57, 3), (57, .aload_n 0, 1), (58, .getfield 61, 3), (61, .iload_n 1, 1), (62, .invokevirtual 305, 3)]
theorem dt_V_inCommon_1 : dOk cX11_inCommon T_V_inCommon_1 := by unfold dOk; decide +kernel
def T_V_inCommon_2 : DT := [(65, .ireturn, 1)]
theorem dt_V_inCommon_2 : dOk cX11_inCommon T_V_inCommon_2 := by unfold dOk; decide +kernel
section
variable {v : ZV} {l : Launch} {p : Program} {e : Env} {R : Room} {s : State} {m : MethodId} {args : Array Value} {below : List Frame} {meth : Method} {c : Code} {Q : State → Prop} {res : (Int32 × Hp)} 
set_option maxRecDepth 20000 in
theorem lkJ_V_inCommon_18 (hi : zInj wC v) (xc : XC wC v) (nx : NXC v) (X : Cx wC v p R s m args c 0 0 cX11_inCommon 2 RX11 8) (rt : Rt wC v p l e R s m args below meth c 0 0 Q cX11_inCommon false (some (.int res.1)) res.2)  {x1 : Int32} {σ : Hp}   (h : J_V_inCommon_18   x1 σ = some res) : Go wC v p l e R s m args below meth c 0 0 Q 2 18 [(0, .ref 0), (1, .int x1)] [] σ := by
  unfold J_V_inCommon_18 at h
  refine go_aload_n X 0 (dk dt_V_inCommon_0 10 rfl) rfl rfl ?_
  refine go_getr X fo_X11_70 lC_0 sC_0 fC_0_10 (dk dt_V_inCommon_0 11 rfl) ?_
  refine go_aload_n X 0 (dk dt_V_inCommon_0 12 rfl) rfl rfl ?_
  refine go_getr X fo_X11_57 lC_0 sC_0 fC_0_7 (dk dt_V_inCommon_0 13 rfl) ?_
  refine go_aload_n X 0 (dk dt_V_inCommon_0 14 rfl) rfl rfl ?_
  refine go_getr X fo_X11_61 lC_0 sC_0 fC_0_8 (dk dt_V_inCommon_0 15 rfl) ?_
  refine go_Vv (As := [.ref 28, .ref 30]) (rest := []) X vo_X11_298 (fun q hq => ct_X1_compare hi xc nx (by decide : isS 28 = true) (by decide : isS 30 = true) hq) (by decide) rfl lC_34 sC_34 rfl rfl (Nat.le_of_ble_eq_true rfl) (dk dt_V_inCommon_1 0 rfl) h (fun q30 h => ?_)
  refine go_iload_n X 1 (dk dt_V_inCommon_1 1 rfl) rfl rfl ?_
  refine go_bipush X (dk dt_V_inCommon_1 2 rfl) cb_100 ?_
  refine go_icmp_ne (tgt := 49) X (dk dt_V_inCommon_1 3 rfl) (by decide) h (fun h => ?_) (fun h => ?_)
  · refine go_aload_n X 0 (dk dt_V_inCommon_1 8 rfl) rfl rfl ?_
    refine go_getr X fo_X11_70 lC_0 sC_0 fC_0_10 (dk dt_V_inCommon_1 9 rfl) ?_
    refine go_aload_n X 0 (dk dt_V_inCommon_1 10 rfl) rfl rfl ?_
    refine go_getr X fo_X11_57 lC_0 sC_0 fC_0_7 (dk dt_V_inCommon_1 11 rfl) ?_
    refine go_aload_n X 0 (dk dt_V_inCommon_1 12 rfl) rfl rfl ?_
    refine go_getr X fo_X11_61 lC_0 sC_0 fC_0_8 (dk dt_V_inCommon_1 13 rfl) ?_
    refine go_iload_n X 1 (dk dt_V_inCommon_1 14 rfl) rfl rfl ?_
    refine go_Vi (As := [.ref 28, .ref 30, .int x1]) (rest := []) X vo_X11_305 (fun q hq => ct_X1_lampAt hi xc nx (by decide : isS 28 = true) (by decide : isS 30 = true) hq) (by decide) rfl lC_34 sC_34 rfl rfl (Nat.le_of_ble_eq_true rfl) (dk dt_V_inCommon_1 15 rfl) h (fun q62 h => ?_)
    exact go_iret rt (dk dt_V_inCommon_2 0 rfl) h (fun hh => nomatch hh)
  · refine go_aload_n X 0 (dk dt_V_inCommon_1 4 rfl) rfl rfl ?_
    refine go_getr X fo_X11_70 lC_0 sC_0 fC_0_10 (dk dt_V_inCommon_1 5 rfl) ?_
    refine go_Vi (As := []) (rest := []) X vo_X11_302 (fun q hq => ct_X1_length hi xc nx  hq) (by decide) rfl lC_34 sC_34 rfl rfl (Nat.le_of_ble_eq_true rfl) (dk dt_V_inCommon_1 6 rfl) h (fun q43 h => ?_)
    refine go_goto (tgt := 65) X (dk dt_V_inCommon_1 7 rfl) (by decide) ?_
    exact go_iret rt (dk dt_V_inCommon_2 0 rfl) h (fun hh => nomatch hh)
set_option maxRecDepth 20000 in
theorem lkF_V_inCommon (hi : zInj wC v) (xc : XC wC v) (nx : NXC v) (X : Cx wC v p R s m args c 0 0 cX11_inCommon 2 RX11 8) (rt : Rt wC v p l e R s m args below meth c 0 0 Q cX11_inCommon false (some (.int res.1)) res.2) {a1 : Int32} {σ : Hp}  (h : F_V_inCommon  a1 σ = some res) : Go wC v p l e R s m args below meth c 0 0 Q 2 0 [(0, .ref 0), (1, .int a1)] [] σ := by
  unfold F_V_inCommon at h
  refine go_iload_n X 1 (dk dt_V_inCommon_0 0 rfl) rfl rfl ?_
  refine go_bipush X (dk dt_V_inCommon_0 1 rfl) cb_100 ?_
  refine go_icmp_eq (tgt := 18) X (dk dt_V_inCommon_0 2 rfl) (by decide) h (fun h => ?_) (fun h => ?_)
  · exact lkJ_V_inCommon_18 hi xc nx X rt   h
  · refine go_iload_n X 1 (dk dt_V_inCommon_0 3 rfl) rfl rfl ?_
    refine go_iconst X (dk dt_V_inCommon_0 4 rfl) ci_0 ?_
    refine go_bipush X (dk dt_V_inCommon_0 5 rfl) cb_59 ?_
    refine go_Si (As := [.int a1, .int (0 : Int32), .int (59 : Int32)]) (rest := []) X so_X11_119 (fun q hq => ct_V_within hi xc nx  hq) (by decide) rfl rfl (Nat.le_of_ble_eq_true rfl) (dk dt_V_inCommon_0 6 rfl) h (fun q10 h => ?_)
    refine go_if_ne (tgt := 18) X (dk dt_V_inCommon_0 7 rfl) (by decide) h (fun h => ?_) (fun h => ?_)
    · exact lkJ_V_inCommon_18 hi xc nx X rt   h
    · refine go_iconst X (dk dt_V_inCommon_0 8 rfl) ci_m1 ?_
      exact go_iret rt (dk dt_V_inCommon_0 9 rfl) h (fun hh => nomatch hh)
set_option maxRecDepth 20000 in
theorem ct_V_inCommon (hi : zInj wC v) (xc : XC wC v) (nx : NXC v)  {a1 : Int32} {σ : Hp}  {q : (Int32 × Hp)} (h : F_V_inCommon  a1 σ = some q) : Ct wC v l yX11_inCommon cX11_inCommon 2 (some .int) 8 [.ref 0, .int a1] σ (some (.int q.1)) q.2 :=
  Ct.intro false (by decide) hi xc (Nat.le_of_ble_eq_true rfl) rfl (fun p e R s m args below meth c Q X rt => lkF_V_inCommon hi xc nx X rt  h)
end
def T_V_keep_0 : DT := [(0, .aload_n 0, 1), (1, .getfield 16, 3), (4, .aload_n 0, 1), (5, .getfield 10, 3), (8, .invokevirtual 165, 3), (11, .aload_n 0, 1), (12, .iconst 1, 1), (13, .putfield 111, 3), (16, .aload_n 0, 1), (17, .getfield 10, 3), (20, .getfield 341, 3), (23, .ireturn, 1)]
theorem dt_V_keep_0 : dOk cX11_keep T_V_keep_0 := by unfold dOk; decide +kernel
section
variable {v : ZV} {l : Launch} {p : Program} {e : Env} {R : Room} {s : State} {m : MethodId} {args : Array Value} {below : List Frame} {meth : Method} {c : Code} {Q : State → Prop} {res : (Int32 × Hp)} 
set_option maxRecDepth 20000 in
theorem lkF_V_keep (hi : zInj wC v) (xc : XC wC v) (nx : NXC v) (X : Cx wC v p R s m args c 0 0 cX11_keep 1 RX11 4) (rt : Rt wC v p l e R s m args below meth c 0 0 Q cX11_keep false (some (.int res.1)) res.2)  {σ : Hp}  (h : F_V_keep   σ = some res) : Go wC v p l e R s m args below meth c 0 0 Q 1 0 [(0, .ref 0)] [] σ := by
  unfold F_V_keep at h
  refine go_aload_n X 0 (dk dt_V_keep_0 0 rfl) rfl rfl ?_
  refine go_getr X fo_X11_16 lC_0 sC_0 fC_0_1 (dk dt_V_keep_0 1 rfl) ?_
  refine go_aload_n X 0 (dk dt_V_keep_0 2 rfl) rfl rfl ?_
  refine go_getr X fo_X11_10 lC_0 sC_0 fC_0_0 (dk dt_V_keep_0 3 rfl) ?_
  refine go_Vv (As := [.ref 1]) (rest := []) X vo_X11_165 (fun q hq => ct_X10_copy hi xc nx (by decide : isW 7 = true) (by decide : isW 1 = true) hq) (by decide) rfl lC_7 sC_7 rfl rfl (Nat.le_of_ble_eq_true rfl) (dk dt_V_keep_0 4 rfl) h (fun q8 h => ?_)
  refine go_aload_n X 0 (dk dt_V_keep_0 5 rfl) rfl rfl ?_
  refine go_iconst X (dk dt_V_keep_0 6 rfl) ci_1 ?_
  refine go_putz X fo_X11_111 pf_11_17 lC_0 sC_0 fC_0_17 (dk dt_V_keep_0 7 rfl) h (fun h => ?_)
  refine go_aload_n X 0 (dk dt_V_keep_0 8 rfl) rfl rfl ?_
  refine go_getr X fo_X11_10 lC_0 sC_0 fC_0_0 (dk dt_V_keep_0 9 rfl) ?_
  refine go_geti X fo_X11_341 lC_1 sC_1 fC_1_6 (dk dt_V_keep_0 10 rfl) ?_
  exact go_iret rt (dk dt_V_keep_0 11 rfl) h (fun hh => nomatch hh)
set_option maxRecDepth 20000 in
theorem ct_V_keep (hi : zInj wC v) (xc : XC wC v) (nx : NXC v)   {σ : Hp}  {q : (Int32 × Hp)} (h : F_V_keep   σ = some q) : Ct wC v l yX11_keep cX11_keep 1 (some .int) 4 [.ref 0] σ (some (.int q.1)) q.2 :=
  Ct.intro false (by decide) hi xc (Nat.le_of_ble_eq_true rfl) rfl (fun p e R s m args below meth c Q X rt => lkF_V_keep hi xc nx X rt  h)
end
def T_X7_howOften_0 : DT := [(0, .iconst 0, 1), (1, .istore_n 2, 1), (2, .iconst 0, 1), (3, .istore_n 3, 1), (4, .iload_n 3, 1), (5, .aload_n 0, 1), (6, .getfield 15, 3), (9, .if_icmp .ge 27, 3), (12, .iload_n 2, 1), (13, .aload_n 0, 1), (14, .getfield 11, 3), (17, .iload_n 3, 1), (18, .iaload, 1), (19, .iload_n 1, 1), (20, .if_icmp .ne 7, 3), (23, .iconst 1, 1)]
theorem dt_X7_howOften_0 : dOk cX7_howOften T_X7_howOften_0 := by unfold dOk; decide +kernel
def T_X7_howOften_1 : DT := [(24, .goto 4, 3), (27, .iconst 0, 1), (28, .iadd, 1), (29, .istore_n 2, 1), (30, .iinc 3 1, 3), (33, .goto (-29), 3), (36, .iload_n 2, 1), (37, .ireturn, 1)]
theorem dt_X7_howOften_1 : dOk cX7_howOften T_X7_howOften_1 := by unfold dOk; decide +kernel
section
variable {v : ZV} {l : Launch} {p : Program} {e : Env} {R : Room} {s : State} {m : MethodId} {args : Array Value} {below : List Frame} {meth : Method} {c : Code} {Q : State → Prop} {res : (Int32 × Hp)} 
set_option maxRecDepth 20000 in
theorem lkB_X7_howOften_4 (hi : zInj wC v) (xc : XC wC v) (nx : NXC v) (X : Cx wC v p R s m args c 0 0 cX7_howOften 4 RX7 2) (rt : Rt wC v p l e R s m args below meth c 0 0 Q cX7_howOften false (some (.int res.1)) res.2) {k4 : Nat → Int32 → Int32 → Int32 → Hp → Option (Int32 × Hp)} {r0 : Nat} {x1 : Int32} {x2 : Int32} {x3 : Int32} {σ : Hp} (hr0 : isS r0 = true) (hk4 : ∀ (r0 : Nat) (x1 : Int32) (x2 : Int32) (x3 : Int32) (σ : Hp), (hr0 : isS r0 = true) → k4 r0 x1 x2 x3 σ = some res → Go wC v p l e R s m args below meth c 0 0 Q 4 4 [(0, .ref r0), (1, .int x1), (2, .int x2), (3, .int x3)] [] σ) (h : B_X7_howOften_4  k4 r0 x1 x2 x3 σ = some res) : Go wC v p l e R s m args below meth c 0 0 Q 4 4 [(0, .ref r0), (1, .int x1), (2, .int x2), (3, .int x3)] [] σ := by
  unfold B_X7_howOften_4 at h
  refine go_iload_n X 3 (dk dt_X7_howOften_0 4 rfl) rfl rfl ?_
  refine go_aload_n X 0 (dk dt_X7_howOften_0 5 rfl) rfl rfl ?_
  refine go_geti X fo_X7_15 (lS hr0) (sS hr0) (fS_1 hr0) (dk dt_X7_howOften_0 6 rfl) ?_
  refine go_icmp_ge (tgt := 36) X (dk dt_X7_howOften_0 7 rfl) (by decide) h (fun h => ?_) (fun h => ?_)
  · refine go_iload_n X 2 (dk dt_X7_howOften_1 6 rfl) rfl rfl ?_
    exact go_iret rt (dk dt_X7_howOften_1 7 rfl) h (fun hh => nomatch hh)
  · refine go_iload_n X 2 (dk dt_X7_howOften_0 8 rfl) rfl rfl ?_
    refine go_aload_n X 0 (dk dt_X7_howOften_0 9 rfl) rfl rfl ?_
    refine go_getr X fo_X7_11 (lS hr0) (sS hr0) (fS_0 hr0) (dk dt_X7_howOften_0 10 rfl) ?_
    refine go_iload_n X 3 (dk dt_X7_howOften_0 11 rfl) rfl rfl ?_
    refine go_iald X (lSa_1 hr0) (sSa_1 hr0) (dk dt_X7_howOften_0 12 rfl) h (fun h => ?_)
    refine go_iload_n X 1 (dk dt_X7_howOften_0 13 rfl) rfl rfl ?_
    refine go_icmp_ne (tgt := 27) X (dk dt_X7_howOften_0 14 rfl) (by decide) h (fun h => ?_) (fun h => ?_)
    · refine go_iconst X (dk dt_X7_howOften_1 1 rfl) ci_0 ?_
      refine go_iadd X (dk dt_X7_howOften_1 2 rfl) ?_
      refine go_istore_n (lv' := [(2, .int (x2 + (0 : Int32))), (0, .ref r0), (1, .int x1), (3, .int x3)]) X (dk dt_X7_howOften_1 3 rfl) rfl (by decide) rfl ?_
      refine go_iinc (lv' := [(3, .int (x3 + (1 : Int32))), (2, .int (x2 + (0 : Int32))), (0, .ref r0), (1, .int x1)]) X 3 (dk dt_X7_howOften_1 4 rfl) rfl ci_1 (by decide) rfl ?_
      refine go_goto (tgt := 4) X (dk dt_X7_howOften_1 5 rfl) (by decide) ?_
      refine go_sub [2, 3, 1, 0] rfl ?_
      exact hk4 _ _ _ _ _ hr0 h
    · refine go_iconst X (dk dt_X7_howOften_0 15 rfl) ci_1 ?_
      refine go_goto (tgt := 28) X (dk dt_X7_howOften_1 0 rfl) (by decide) ?_
      refine go_iadd X (dk dt_X7_howOften_1 2 rfl) ?_
      refine go_istore_n (lv' := [(2, .int (x2 + (1 : Int32))), (0, .ref r0), (1, .int x1), (3, .int x3)]) X (dk dt_X7_howOften_1 3 rfl) rfl (by decide) rfl ?_
      refine go_iinc (lv' := [(3, .int (x3 + (1 : Int32))), (2, .int (x2 + (1 : Int32))), (0, .ref r0), (1, .int x1)]) X 3 (dk dt_X7_howOften_1 4 rfl) rfl ci_1 (by decide) rfl ?_
      refine go_goto (tgt := 4) X (dk dt_X7_howOften_1 5 rfl) (by decide) ?_
      refine go_sub [2, 3, 1, 0] rfl ?_
      exact hk4 _ _ _ _ _ hr0 h
set_option maxRecDepth 20000 in
theorem lkL_X7_howOften_4 (hi : zInj wC v) (xc : XC wC v) (nx : NXC v) (X : Cx wC v p R s m args c 0 0 cX7_howOften 4 RX7 2) (rt : Rt wC v p l e R s m args below meth c 0 0 Q cX7_howOften false (some (.int res.1)) res.2)   (n : Nat) : ∀ {r0 : Nat} {x1 : Int32} {x2 : Int32} {x3 : Int32} {σ : Hp}, (hr0 : isS r0 = true) → L_X7_howOften_4   n r0 x1 x2 x3 σ = some res → Go wC v p l e R s m args below meth c 0 0 Q 4 4 [(0, .ref r0), (1, .int x1), (2, .int x2), (3, .int x3)] [] σ := by
  induction n with
  | zero => intro r0 x1 x2 x3 σ hr0 h; cases h
  | succ n ih =>
    intro r0 x1 x2 x3 σ hr0 h
    exact lkB_X7_howOften_4 hi xc nx X rt hr0 (fun _ _ _ _ _ hq0 hh => ih hq0 hh) h
set_option maxRecDepth 20000 in
theorem lkF_X7_howOften (hi : zInj wC v) (xc : XC wC v) (nx : NXC v) (X : Cx wC v p R s m args c 0 0 cX7_howOften 4 RX7 2) (rt : Rt wC v p l e R s m args below meth c 0 0 Q cX7_howOften false (some (.int res.1)) res.2) {t : Nat} {a1 : Int32} {σ : Hp} (ht : isS t = true) (h : F_X7_howOften  t a1 σ = some res) : Go wC v p l e R s m args below meth c 0 0 Q 4 0 [(0, .ref t), (1, .int a1)] [] σ := by
  unfold F_X7_howOften at h
  refine go_iconst X (dk dt_X7_howOften_0 0 rfl) ci_0 ?_
  refine go_istore_n (lv' := [(2, .int (0 : Int32)), (0, .ref t), (1, .int a1)]) X (dk dt_X7_howOften_0 1 rfl) rfl (by decide) rfl ?_
  refine go_iconst X (dk dt_X7_howOften_0 2 rfl) ci_0 ?_
  refine go_istore_n (lv' := [(3, .int (0 : Int32)), (2, .int (0 : Int32)), (0, .ref t), (1, .int a1)]) X (dk dt_X7_howOften_0 3 rfl) rfl (by decide) rfl ?_
  refine go_sub [2, 3, 1, 0] rfl ?_
  exact lkL_X7_howOften_4 hi xc nx X rt  FU ht h
set_option maxRecDepth 20000 in
theorem ct_X7_howOften (hi : zInj wC v) (xc : XC wC v) (nx : NXC v)  {t : Nat} {a1 : Int32} {σ : Hp} (ht : isS t = true) {q : (Int32 × Hp)} (h : F_X7_howOften  t a1 σ = some q) : Ct wC v l yX7_howOften cX7_howOften 4 (some .int) 2 [.ref t, .int a1] σ (some (.int q.1)) q.2 :=
  Ct.intro false (by decide) hi xc (Nat.le_of_ble_eq_true rfl) rfl (fun p e R s m args below meth c Q X rt => lkF_X7_howOften hi xc nx X rt ht h)
end
def T_V_lamps_0 : DT := [(0, .iload_n 1, 1), (1, .invokestatic 131, 3), (4, .ifCond .eq 12, 3), (7, .iload_n 2, 1), (8, .iconst 0, 1), (9, .iconst 5, 1), (10, .invokestatic 119, 3), (13, .ifCond .ne 5, 3), (16, .iconst (-1), 1), (17, .ireturn, 1), (18, .aload_n 0, 1), (19, .iload_n 1, 1), (20, .invokevirtual 180, 3), (23, .iload_n 2, 1), (24, .invokevirtual 312, 3), (27, .ireturn, 1)]
theorem dt_V_lamps_0 : dOk cX11_lamps T_V_lamps_0 := by unfold dOk; decide +kernel
section
variable {v : ZV} {l : Launch} {p : Program} {e : Env} {R : Room} {s : State} {m : MethodId} {args : Array Value} {below : List Frame} {meth : Method} {c : Code} {Q : State → Prop} {res : (Int32 × Hp)} 
set_option maxRecDepth 20000 in
theorem lkF_V_lamps (hi : zInj wC v) (xc : XC wC v) (nx : NXC v) (X : Cx wC v p R s m args c 0 0 cX11_lamps 3 RX11 4) (rt : Rt wC v p l e R s m args below meth c 0 0 Q cX11_lamps false (some (.int res.1)) res.2) {a1 : Int32} {a2 : Int32} {σ : Hp}  (h : F_V_lamps  a1 a2 σ = some res) : Go wC v p l e R s m args below meth c 0 0 Q 3 0 [(0, .ref 0), (1, .int a1), (2, .int a2)] [] σ := by
  unfold F_V_lamps at h
  refine go_iload_n X 1 (dk dt_V_lamps_0 0 rfl) rfl rfl ?_
  refine go_Si (As := [.int a1]) (rest := []) X so_X11_131 (fun q hq => ct_V_isSide hi xc nx  hq) (by decide) rfl rfl (Nat.le_of_ble_eq_true rfl) (dk dt_V_lamps_0 1 rfl) h (fun q1 h => ?_)
  refine go_if_eq (tgt := 16) X (dk dt_V_lamps_0 2 rfl) (by decide) h (fun h => ?_) (fun h => ?_)
  · refine go_iconst X (dk dt_V_lamps_0 8 rfl) ci_m1 ?_
    exact go_iret rt (dk dt_V_lamps_0 9 rfl) h (fun hh => nomatch hh)
  · refine go_iload_n X 2 (dk dt_V_lamps_0 3 rfl) rfl rfl ?_
    refine go_iconst X (dk dt_V_lamps_0 4 rfl) ci_0 ?_
    refine go_iconst X (dk dt_V_lamps_0 5 rfl) ci_5 ?_
    refine go_Si (As := [.int a2, .int (0 : Int32), .int (5 : Int32)]) (rest := []) X so_X11_119 (fun q hq => ct_V_within hi xc nx  hq) (by decide) rfl rfl (Nat.le_of_ble_eq_true rfl) (dk dt_V_lamps_0 6 rfl) h (fun q10 h => ?_)
    refine go_if_ne (tgt := 18) X (dk dt_V_lamps_0 7 rfl) (by decide) h (fun h => ?_) (fun h => ?_)
    · refine go_aload_n X 0 (dk dt_V_lamps_0 10 rfl) rfl rfl ?_
      refine go_iload_n X 1 (dk dt_V_lamps_0 11 rfl) rfl rfl ?_
      refine go_Vr (As := [.int a1]) (rest := []) X vo_X11_180 (fun q hq => ct_V_signalsOf hi xc nx  hq) (by decide) rfl lC_0 sC_0 rfl rfl (Nat.le_of_ble_eq_true rfl) (dk dt_V_lamps_0 12 rfl) h (fun q20 h => ?_)
      obtain ⟨g1, h⟩ := gd_some h
      refine go_iload_n X 2 (dk dt_V_lamps_0 13 rfl) rfl rfl ?_
      refine go_Vi (As := [.int a2]) (rest := []) X vo_X11_312 (fun q hq => ct_X7_howOften hi xc nx g1 hq) (by decide) rfl (lS g1) (sS g1) rfl rfl (Nat.le_of_ble_eq_true rfl) (dk dt_V_lamps_0 14 rfl) h (fun q24 h => ?_)
      exact go_iret rt (dk dt_V_lamps_0 15 rfl) h (fun hh => nomatch hh)
    · refine go_iconst X (dk dt_V_lamps_0 8 rfl) ci_m1 ?_
      exact go_iret rt (dk dt_V_lamps_0 9 rfl) h (fun hh => nomatch hh)
set_option maxRecDepth 20000 in
theorem ct_V_lamps (hi : zInj wC v) (xc : XC wC v) (nx : NXC v)  {a1 : Int32} {a2 : Int32} {σ : Hp}  {q : (Int32 × Hp)} (h : F_V_lamps  a1 a2 σ = some q) : Ct wC v l yX11_lamps cX11_lamps 3 (some .int) 4 [.ref 0, .int a1, .int a2] σ (some (.int q.1)) q.2 :=
  Ct.intro false (by decide) hi xc (Nat.le_of_ble_eq_true rfl) rfl (fun p e R s m args below meth c Q X rt => lkF_V_lamps hi xc nx X rt  h)
end
def T_X2_outlasts_0 : DT := [(0, .iconst 0, 1), (1, .istore 5, 2), (3, .iload 5, 2), (5, .iload 4, 2), (7, .if_icmp .ge 31, 3), (10, .aload_n 0, 1), (11, .aload_n 1, 1), (12, .aload_n 2, 1), (13, .iload_n 3, 1), (14, .invokevirtual 64, 3), (17, .aload_n 1, 1), (18, .getfield 83, 3), (21, .iload_n 3, 1), (22, .iaload, 1), (23, .ifCond .gt 5, 3), (26, .iconst 0, 1)]
theorem dt_X2_outlasts_0 : dOk cX2_outlasts T_X2_outlasts_0 := by unfold dOk; decide +kernel
def T_X2_outlasts_1 : DT := [(27, .ireturn, 1), (28, .aload_n 1, 1), (29, .invokevirtual 74, 3), (32, .iinc 5 1, 3), (35, .goto (-32), 3), (38, .iconst 1, 1), (39, .ireturn, 1)]
theorem dt_X2_outlasts_1 : dOk cX2_outlasts T_X2_outlasts_1 := by unfold dOk; decide +kernel
section
variable {v : ZV} {l : Launch} {p : Program} {e : Env} {R : Room} {s : State} {m : MethodId} {args : Array Value} {below : List Frame} {meth : Method} {c : Code} {Q : State → Prop} {res : (Int32 × Hp)} 
set_option maxRecDepth 20000 in
theorem lkB_X2_outlasts_3 (hi : zInj wC v) (xc : XC wC v) (nx : NXC v) (X : Cx wC v p R s m args c 0 0 cX2_outlasts 6 RX2 10) (rt : Rt wC v p l e R s m args below meth c 0 0 Q cX2_outlasts true (some (.int res.1)) res.2) {k3 : Nat → Nat → Int32 → Int32 → Int32 → Hp → Option (Int32 × Hp)} {r1 : Nat} {r2 : Nat} {x3 : Int32} {x4 : Int32} {x5 : Int32} {σ : Hp} (hr1 : isW r1 = true) (hr2 : isL r2 = true) (hk3 : ∀ (r1 : Nat) (r2 : Nat) (x3 : Int32) (x4 : Int32) (x5 : Int32) (σ : Hp), (hr1 : isW r1 = true) → (hr2 : isL r2 = true) → k3 r1 r2 x3 x4 x5 σ = some res → Go wC v p l e R s m args below meth c 0 0 Q 6 3 [(0, .ref 26), (1, .ref r1), (2, .ref r2), (3, .int x3), (4, .int x4), (5, .int x5)] [] σ) (h : B_X2_outlasts_3  k3 r1 r2 x3 x4 x5 σ = some res) : Go wC v p l e R s m args below meth c 0 0 Q 6 3 [(0, .ref 26), (1, .ref r1), (2, .ref r2), (3, .int x3), (4, .int x4), (5, .int x5)] [] σ := by
  unfold B_X2_outlasts_3 at h
  refine go_iload X 5 (dk dt_X2_outlasts_0 2 rfl) rfl ?_
  refine go_iload X 4 (dk dt_X2_outlasts_0 3 rfl) rfl ?_
  refine go_icmp_ge (tgt := 38) X (dk dt_X2_outlasts_0 4 rfl) (by decide) h (fun h => ?_) (fun h => ?_)
  · refine go_iconst X (dk dt_X2_outlasts_1 5 rfl) ci_1 ?_
    exact go_iret rt (dk dt_X2_outlasts_1 6 rfl) h (by decide)
  · refine go_aload_n X 0 (dk dt_X2_outlasts_0 5 rfl) rfl rfl ?_
    refine go_aload_n X 1 (dk dt_X2_outlasts_0 6 rfl) rfl rfl ?_
    refine go_aload_n X 2 (dk dt_X2_outlasts_0 7 rfl) rfl rfl ?_
    refine go_iload_n X 3 (dk dt_X2_outlasts_0 8 rfl) rfl rfl ?_
    refine go_Vv (As := [.ref r1, .ref r2, .int x3]) (rest := []) X vo_X2_64 (fun q hq => ct_X2_drinkAndYawn hi xc nx hr1 hr2 hq) (by decide) rfl lC_26 sC_26 rfl rfl (Nat.le_of_ble_eq_true rfl) (dk dt_X2_outlasts_0 9 rfl) h (fun q14 h => ?_)
    refine go_aload_n X 1 (dk dt_X2_outlasts_0 10 rfl) rfl rfl ?_
    refine go_getr X fo_X2_83 (lW hr1) (sW hr1) (fW_2 hr1) (dk dt_X2_outlasts_0 11 rfl) ?_
    refine go_iload_n X 3 (dk dt_X2_outlasts_0 12 rfl) rfl rfl ?_
    refine go_iald X (lWa_3 hr1) (sWa_3 hr1) (dk dt_X2_outlasts_0 13 rfl) h (fun h => ?_)
    refine go_if_gt (tgt := 28) X (dk dt_X2_outlasts_0 14 rfl) (by decide) h (fun h => ?_) (fun h => ?_)
    · refine go_aload_n X 1 (dk dt_X2_outlasts_1 1 rfl) rfl rfl ?_
      refine go_Vv (As := []) (rest := []) X vo_X2_74 (fun q hq => ct_X10_nextWatch hi xc nx hr1 hq) (by decide) rfl (lW hr1) (sW hr1) rfl rfl (Nat.le_of_ble_eq_true rfl) (dk dt_X2_outlasts_1 2 rfl) h (fun q29 h => ?_)
      refine go_iinc (lv' := [(5, .int (x5 + (1 : Int32))), (0, .ref 26), (1, .ref r1), (2, .ref r2), (3, .int x3), (4, .int x4)]) X 5 (dk dt_X2_outlasts_1 3 rfl) rfl ci_1 (by decide) rfl ?_
      refine go_goto (tgt := 3) X (dk dt_X2_outlasts_1 4 rfl) (by decide) ?_
      refine go_sub [1, 2, 3, 4, 5, 0] rfl ?_
      exact hk3 _ _ _ _ _ _ hr1 hr2 h
    · refine go_iconst X (dk dt_X2_outlasts_0 15 rfl) ci_0 ?_
      exact go_iret rt (dk dt_X2_outlasts_1 0 rfl) h (by decide)
set_option maxRecDepth 20000 in
theorem lkL_X2_outlasts_3 (hi : zInj wC v) (xc : XC wC v) (nx : NXC v) (X : Cx wC v p R s m args c 0 0 cX2_outlasts 6 RX2 10) (rt : Rt wC v p l e R s m args below meth c 0 0 Q cX2_outlasts true (some (.int res.1)) res.2)   (n : Nat) : ∀ {r1 : Nat} {r2 : Nat} {x3 : Int32} {x4 : Int32} {x5 : Int32} {σ : Hp}, (hr1 : isW r1 = true) → (hr2 : isL r2 = true) → L_X2_outlasts_3   n r1 r2 x3 x4 x5 σ = some res → Go wC v p l e R s m args below meth c 0 0 Q 6 3 [(0, .ref 26), (1, .ref r1), (2, .ref r2), (3, .int x3), (4, .int x4), (5, .int x5)] [] σ := by
  induction n with
  | zero => intro r1 r2 x3 x4 x5 σ hr1 hr2 h; cases h
  | succ n ih =>
    intro r1 r2 x3 x4 x5 σ hr1 hr2 h
    exact lkB_X2_outlasts_3 hi xc nx X rt hr1 hr2 (fun _ _ _ _ _ _ hq0 hq1 hh => ih hq0 hq1 hh) h
set_option maxRecDepth 20000 in
theorem lkF_X2_outlasts (hi : zInj wC v) (xc : XC wC v) (nx : NXC v) (X : Cx wC v p R s m args c 0 0 cX2_outlasts 6 RX2 10) (rt : Rt wC v p l e R s m args below meth c 0 0 Q cX2_outlasts true (some (.int res.1)) res.2) {a1 : Nat} {a2 : Nat} {a3 : Int32} {a4 : Int32} {σ : Hp} (ha1 : isW a1 = true) (ha2 : isL a2 = true) (h : F_X2_outlasts  a1 a2 a3 a4 σ = some res) : Go wC v p l e R s m args below meth c 0 0 Q 6 0 [(0, .ref 26), (1, .ref a1), (2, .ref a2), (3, .int a3), (4, .int a4)] [] σ := by
  unfold F_X2_outlasts at h
  refine go_iconst X (dk dt_X2_outlasts_0 0 rfl) ci_0 ?_
  refine go_istore (lv' := [(5, .int (0 : Int32)), (0, .ref 26), (1, .ref a1), (2, .ref a2), (3, .int a3), (4, .int a4)]) X (dk dt_X2_outlasts_0 1 rfl) (by decide) rfl ?_
  refine go_sub [1, 2, 3, 4, 5, 0] rfl ?_
  exact lkL_X2_outlasts_3 hi xc nx X rt  FU ha1 ha2 h
set_option maxRecDepth 20000 in
theorem ct_X2_outlasts (hi : zInj wC v) (xc : XC wC v) (nx : NXC v)  {a1 : Nat} {a2 : Nat} {a3 : Int32} {a4 : Int32} {σ : Hp} (ha1 : isW a1 = true) (ha2 : isL a2 = true) {q : (Int32 × Hp)} (h : F_X2_outlasts  a1 a2 a3 a4 σ = some q) : Ct wC v l yX2_outlasts cX2_outlasts 6 (some .boolean) 10 [.ref 26, .ref a1, .ref a2, .int a3, .int a4] σ (some (.int q.1)) q.2 :=
  Ct.intro true (by decide) hi xc (Nat.le_of_ble_eq_true rfl) rfl (fun p e R s m args below meth c Q X rt => lkF_X2_outlasts hi xc nx X rt ha1 ha2 h)
end
def T_V_lasts_0 : DT := [(0, .aload_n 0, 1), (1, .iload_n 1, 1), (2, .iload_n 2, 1), (3, .invokevirtual 210, 3), (6, .ifCond .eq 13, 3), (9, .iload_n 3, 1), (10, .iconst 1, 1), (11, .bipush 60, 2), (13, .invokestatic 119, 3), (16, .ifCond .ne 5, 3), (19, .iconst (-1), 1), (20, .ireturn, 1), (21, .iload_n 1, 1), (22, .bipush 8, 2), (24, .imul, 1), (25, .iload_n 2, 1)]
theorem dt_V_lasts_0 : dOk cX11_lasts T_V_lasts_0 := by unfold dOk; decide +kernel
def T_V_lasts_1 : DT := [(26, .iadd, 1), (27, .istore 4, 2), (29, .aload_n 0, 1), (30, .getfield 10, 3), (33, .getfield 198, 3), (36, .iload 4, 2), (38, .iaload, 1), (39, .ifCond .eq 5, 3), (42, .iconst (-1), 1), (43, .ireturn, 1), (44, .aload_n 0, 1), (45, .getfield 25, 3), (48, .aload_n 0, 1), (49, .getfield 10, 3), (52, .invokevirtual 222, 3), (55, .iconst 0, 1)]
theorem dt_V_lasts_1 : dOk cX11_lasts T_V_lasts_1 := by unfold dOk; decide +kernel
def T_V_lasts_2 : DT := [(56, .istore 5, 2), (58, .iload 5, 2), (60, .bipush 99, 2), (62, .if_icmp .gt 59, 3), (65, .aload_n 0, 1), (66, .getfield 19, 3), (69, .aload_n 0, 1), (70, .getfield 10, 3), (73, .invokevirtual 165, 3), (76, .aload_n 0, 1), (77, .getfield 19, 3), (80, .getfield 216, 3), (83, .iload 4, 2), (85, .dup2, 1), (86, .iaload, 1), (87, .iload 5, 2)]
theorem dt_V_lasts_2 : dOk cX11_lasts T_V_lasts_2 := by unfold dOk; decide +kernel
def T_V_lasts_3 : DT := [(89, .iadd, 1), (90, .iastore, 1), (91, .aload_n 0, 1), (92, .getfield 50, 3), (95, .aload_n 0, 1), (96, .getfield 19, 3), (99, .aload_n 0, 1), (100, .getfield 95, 3), (103, .iload 4, 2), (105, .iload_n 3, 1), (106, .invokevirtual 267, 3), (109, .ifCond .eq 6, 3), (112, .iload 5, 2), (114, .ireturn, 1), (115, .iinc 5 1, 3), (118, .goto (-60), 3)]
theorem dt_V_lasts_3 : dOk cX11_lasts T_V_lasts_3 := by unfold dOk; decide +kernel
def T_V_lasts_4 : DT := [(121, .bipush (-2), 2), (123, .ireturn, 1)]
theorem dt_V_lasts_4 : dOk cX11_lasts T_V_lasts_4 := by unfold dOk; decide +kernel
section
variable {v : ZV} {l : Launch} {p : Program} {e : Env} {R : Room} {s : State} {m : MethodId} {args : Array Value} {below : List Frame} {meth : Method} {c : Code} {Q : State → Prop} {res : (Int32 × Hp)} 
set_option maxRecDepth 20000 in
theorem lkB_V_lasts_58 (hi : zInj wC v) (xc : XC wC v) (nx : NXC v) (X : Cx wC v p R s m args c 0 0 cX11_lasts 6 RX11 12) (rt : Rt wC v p l e R s m args below meth c 0 0 Q cX11_lasts false (some (.int res.1)) res.2) {k58 : Int32 → Int32 → Int32 → Hp → Option (Int32 × Hp)} {x3 : Int32} {x4 : Int32} {x5 : Int32} {σ : Hp}  (hk58 : ∀ (x3 : Int32) (x4 : Int32) (x5 : Int32) (σ : Hp),  k58 x3 x4 x5 σ = some res → Go wC v p l e R s m args below meth c 0 0 Q 6 58 [(0, .ref 0), (3, .int x3), (4, .int x4), (5, .int x5)] [] σ) (h : B_V_lasts_58  k58 x3 x4 x5 σ = some res) : Go wC v p l e R s m args below meth c 0 0 Q 6 58 [(0, .ref 0), (3, .int x3), (4, .int x4), (5, .int x5)] [] σ := by
  unfold B_V_lasts_58 at h
  refine go_iload X 3 (dk dt_V_lasts_2 1 rfl) rfl ?_
  refine go_bipush X (dk dt_V_lasts_2 2 rfl) cb_99 ?_
  refine go_icmp_gt (tgt := 121) X (dk dt_V_lasts_2 3 rfl) (by decide) h (fun h => ?_) (fun h => ?_)
  · refine go_bipush X (dk dt_V_lasts_4 0 rfl) cb_m2 ?_
    exact go_iret rt (dk dt_V_lasts_4 1 rfl) h (fun hh => nomatch hh)
  · refine go_aload_n X 0 (dk dt_V_lasts_2 4 rfl) rfl rfl ?_
    refine go_getr X fo_X11_19 lC_0 sC_0 fC_0_2 (dk dt_V_lasts_2 5 rfl) ?_
    refine go_aload_n X 0 (dk dt_V_lasts_2 6 rfl) rfl rfl ?_
    refine go_getr X fo_X11_10 lC_0 sC_0 fC_0_0 (dk dt_V_lasts_2 7 rfl) ?_
    refine go_Vv (As := [.ref 1]) (rest := []) X vo_X11_165 (fun q hq => ct_X10_copy hi xc nx (by decide : isW 13 = true) (by decide : isW 1 = true) hq) (by decide) rfl lC_13 sC_13 rfl rfl (Nat.le_of_ble_eq_true rfl) (dk dt_V_lasts_2 8 rfl) h (fun q73 h => ?_)
    refine go_aload_n X 0 (dk dt_V_lasts_2 9 rfl) rfl rfl ?_
    refine go_getr X fo_X11_19 lC_0 sC_0 fC_0_2 (dk dt_V_lasts_2 10 rfl) ?_
    refine go_getr X fo_X11_216 lC_13 sC_13 fC_13_2 (dk dt_V_lasts_2 11 rfl) ?_
    refine go_iload X 2 (dk dt_V_lasts_2 12 rfl) rfl ?_
    refine go_dup2 X (dk dt_V_lasts_2 13 rfl) rfl rfl ?_
    refine go_iald X lC_16 sC_16 (dk dt_V_lasts_2 14 rfl) h (fun h => ?_)
    refine go_iload X 3 (dk dt_V_lasts_2 15 rfl) rfl ?_
    refine go_iadd X (dk dt_V_lasts_3 0 rfl) ?_
    refine go_iast X lC_16 sC_16 (dk dt_V_lasts_3 1 rfl) h (fun h => ?_)
    refine go_aload_n X 0 (dk dt_V_lasts_3 2 rfl) rfl rfl ?_
    refine go_getr X fo_X11_50 lC_0 sC_0 fC_0_6 (dk dt_V_lasts_3 3 rfl) ?_
    refine go_aload_n X 0 (dk dt_V_lasts_3 4 rfl) rfl rfl ?_
    refine go_getr X fo_X11_19 lC_0 sC_0 fC_0_2 (dk dt_V_lasts_3 5 rfl) ?_
    refine go_aload_n X 0 (dk dt_V_lasts_3 6 rfl) rfl rfl ?_
    refine go_getd X fo_X11_95 lC_0 sC_0 fC_0_14 (dk dt_V_lasts_3 7 rfl) ?_
    obtain ⟨g1, h⟩ := gd_some h
    refine go_iload X 2 (dk dt_V_lasts_3 8 rfl) rfl ?_
    refine go_iload_n X 1 (dk dt_V_lasts_3 9 rfl) rfl rfl ?_
    refine go_Vi (As := [.ref 13, .ref (Int32.toNatClampNeg ((zu q73 16 (Int32.toNatClampNeg x4) ((q73 16 (Int32.toNatClampNeg x4)) + x5)) 0 14)), .int x4, .int x3]) (rest := []) X vo_X11_267 (fun q hq => ct_X2_outlasts hi xc nx (by decide : isW 13 = true) g1 hq) (by decide) rfl lC_26 sC_26 rfl rfl (Nat.le_of_ble_eq_true rfl) (dk dt_V_lasts_3 10 rfl) h (fun q106 h => ?_)
    refine go_if_eq (tgt := 115) X (dk dt_V_lasts_3 11 rfl) (by decide) h (fun h => ?_) (fun h => ?_)
    · refine go_iinc (lv' := [(5, .int (x5 + (1 : Int32))), (0, .ref 0), (3, .int x3), (4, .int x4)]) X 3 (dk dt_V_lasts_3 14 rfl) rfl ci_1 (by decide) rfl ?_
      refine go_goto (tgt := 58) X (dk dt_V_lasts_3 15 rfl) (by decide) ?_
      refine go_sub [1, 2, 3, 0] rfl ?_
      exact hk58 _ _ _ _  h
    · refine go_iload X 3 (dk dt_V_lasts_3 12 rfl) rfl ?_
      exact go_iret rt (dk dt_V_lasts_3 13 rfl) h (fun hh => nomatch hh)
set_option maxRecDepth 20000 in
theorem lkL_V_lasts_58 (hi : zInj wC v) (xc : XC wC v) (nx : NXC v) (X : Cx wC v p R s m args c 0 0 cX11_lasts 6 RX11 12) (rt : Rt wC v p l e R s m args below meth c 0 0 Q cX11_lasts false (some (.int res.1)) res.2)   (n : Nat) : ∀ {x3 : Int32} {x4 : Int32} {x5 : Int32} {σ : Hp},  L_V_lasts_58   n x3 x4 x5 σ = some res → Go wC v p l e R s m args below meth c 0 0 Q 6 58 [(0, .ref 0), (3, .int x3), (4, .int x4), (5, .int x5)] [] σ := by
  induction n with
  | zero => intro x3 x4 x5 σ  h; cases h
  | succ n ih =>
    intro x3 x4 x5 σ  h
    exact lkB_V_lasts_58 hi xc nx X rt  (fun _ _ _ _  hh => ih  hh) h
set_option maxRecDepth 20000 in
theorem lkF_V_lasts (hi : zInj wC v) (xc : XC wC v) (nx : NXC v) (X : Cx wC v p R s m args c 0 0 cX11_lasts 6 RX11 12) (rt : Rt wC v p l e R s m args below meth c 0 0 Q cX11_lasts false (some (.int res.1)) res.2) {a1 : Int32} {a2 : Int32} {a3 : Int32} {σ : Hp}  (h : F_V_lasts  a1 a2 a3 σ = some res) : Go wC v p l e R s m args below meth c 0 0 Q 6 0 [(0, .ref 0), (1, .int a1), (2, .int a2), (3, .int a3)] [] σ := by
  unfold F_V_lasts at h
  refine go_aload_n X 0 (dk dt_V_lasts_0 0 rfl) rfl rfl ?_
  refine go_iload_n X 1 (dk dt_V_lasts_0 1 rfl) rfl rfl ?_
  refine go_iload_n X 2 (dk dt_V_lasts_0 2 rfl) rfl rfl ?_
  refine go_Vi (As := [.int a1, .int a2]) (rest := []) X vo_X11_210 (fun q hq => ct_V_isGentleman hi xc nx  hq) (by decide) rfl lC_0 sC_0 rfl rfl (Nat.le_of_ble_eq_true rfl) (dk dt_V_lasts_0 3 rfl) h (fun q3 h => ?_)
  refine go_if_eq (tgt := 19) X (dk dt_V_lasts_0 4 rfl) (by decide) h (fun h => ?_) (fun h => ?_)
  · refine go_iconst X (dk dt_V_lasts_0 10 rfl) ci_m1 ?_
    exact go_iret rt (dk dt_V_lasts_0 11 rfl) h (fun hh => nomatch hh)
  · refine go_iload_n X 3 (dk dt_V_lasts_0 5 rfl) rfl rfl ?_
    refine go_iconst X (dk dt_V_lasts_0 6 rfl) ci_1 ?_
    refine go_bipush X (dk dt_V_lasts_0 7 rfl) cb_60 ?_
    refine go_Si (As := [.int a3, .int (1 : Int32), .int (60 : Int32)]) (rest := []) X so_X11_119 (fun q hq => ct_V_within hi xc nx  hq) (by decide) rfl rfl (Nat.le_of_ble_eq_true rfl) (dk dt_V_lasts_0 8 rfl) h (fun q13 h => ?_)
    refine go_if_ne (tgt := 21) X (dk dt_V_lasts_0 9 rfl) (by decide) h (fun h => ?_) (fun h => ?_)
    · refine go_iload_n X 1 (dk dt_V_lasts_0 12 rfl) rfl rfl ?_
      refine go_bipush X (dk dt_V_lasts_0 13 rfl) cb_8 ?_
      refine go_imul X (dk dt_V_lasts_0 14 rfl) ?_
      refine go_iload_n X 2 (dk dt_V_lasts_0 15 rfl) rfl rfl ?_
      refine go_iadd X (dk dt_V_lasts_1 0 rfl) ?_
      refine go_istore (lv' := [(4, .int ((a1 * (8 : Int32)) + a2)), (0, .ref 0), (1, .int a1), (2, .int a2), (3, .int a3)]) X (dk dt_V_lasts_1 1 rfl) (by decide) rfl ?_
      refine go_aload_n X 1 (dk dt_V_lasts_1 2 rfl) rfl rfl ?_
      refine go_getr X fo_X11_10 lC_0 sC_0 fC_0_0 (dk dt_V_lasts_1 3 rfl) ?_
      refine go_getr X fo_X11_198 lC_1 sC_1 fC_1_4 (dk dt_V_lasts_1 4 rfl) ?_
      refine go_iload X 0 (dk dt_V_lasts_1 5 rfl) rfl ?_
      refine go_iald X lC_6 sC_6 (dk dt_V_lasts_1 6 rfl) h (fun h => ?_)
      refine go_if_eq (tgt := 44) X (dk dt_V_lasts_1 7 rfl) (by decide) h (fun h => ?_) (fun h => ?_)
      · refine go_aload_n X 1 (dk dt_V_lasts_1 10 rfl) rfl rfl ?_
        refine go_getr X fo_X11_25 lC_0 sC_0 fC_0_3 (dk dt_V_lasts_1 11 rfl) ?_
        refine go_aload_n X 1 (dk dt_V_lasts_1 12 rfl) rfl rfl ?_
        refine go_getr X fo_X11_10 lC_0 sC_0 fC_0_0 (dk dt_V_lasts_1 13 rfl) ?_
        refine go_Vv (As := [.ref 1]) (rest := []) X vo_X11_222 (fun q hq => ct_X9_lookAround hi xc nx (by decide : isW 1 = true) hq) (by decide) rfl lC_19 sC_19 rfl rfl (Nat.le_of_ble_eq_true rfl) (dk dt_V_lasts_1 14 rfl) h (fun q52 h => ?_)
        refine go_iconst X (dk dt_V_lasts_1 15 rfl) ci_0 ?_
        refine go_istore (lv' := [(5, .int (0 : Int32)), (4, .int ((a1 * (8 : Int32)) + a2)), (0, .ref 0), (1, .int a1), (2, .int a2), (3, .int a3)]) X (dk dt_V_lasts_2 0 rfl) (by decide) rfl ?_
        refine go_sub [2, 5, 1, 0] rfl ?_
        exact lkL_V_lasts_58 hi xc nx X rt  FU  h
      · refine go_iconst X (dk dt_V_lasts_1 8 rfl) ci_m1 ?_
        exact go_iret rt (dk dt_V_lasts_1 9 rfl) h (fun hh => nomatch hh)
    · refine go_iconst X (dk dt_V_lasts_0 10 rfl) ci_m1 ?_
      exact go_iret rt (dk dt_V_lasts_0 11 rfl) h (fun hh => nomatch hh)
set_option maxRecDepth 20000 in
theorem ct_V_lasts (hi : zInj wC v) (xc : XC wC v) (nx : NXC v)  {a1 : Int32} {a2 : Int32} {a3 : Int32} {σ : Hp}  {q : (Int32 × Hp)} (h : F_V_lasts  a1 a2 a3 σ = some q) : Ct wC v l yX11_lasts cX11_lasts 6 (some .int) 12 [.ref 0, .int a1, .int a2, .int a3] σ (some (.int q.1)) q.2 :=
  Ct.intro false (by decide) hi xc (Nat.le_of_ble_eq_true rfl) rfl (fun p e R s m args below meth c Q X rt => lkF_V_lasts hi xc nx X rt  h)
end
def T_X4_begin_0 : DT := [(0, .aload_n 0, 1), (1, .iconst 0, 1), (2, .putfield 34, 3), (5, .aload_n 0, 1), (6, .iconst 0, 1), (7, .putfield 38, 3), (10, .return_, 1)]
theorem dt_X4_begin_0 : dOk cX4_begin T_X4_begin_0 := by unfold dOk; decide +kernel
section
variable {v : ZV} {l : Launch} {p : Program} {e : Env} {R : Room} {s : State} {m : MethodId} {args : Array Value} {below : List Frame} {meth : Method} {c : Code} {Q : State → Prop} {res : Hp} 
set_option maxRecDepth 20000 in
theorem lkF_X4_begin (hi : zInj wC v) (xc : XC wC v) (nx : NXC v) (X : Cx wC v p R s m args c 0 0 cX4_begin 1 RX4 2) (rt : Rt wC v p l e R s m args below meth c 0 0 Q cX4_begin false none res) {t : Nat} {σ : Hp} (ht : isL t = true) (h : F_X4_begin  t σ = some res) : Go wC v p l e R s m args below meth c 0 0 Q 1 0 [(0, .ref t)] [] σ := by
  unfold F_X4_begin at h
  refine go_aload_n X 0 (dk dt_X4_begin_0 0 rfl) rfl rfl ?_
  refine go_iconst X (dk dt_X4_begin_0 1 rfl) ci_0 ?_
  refine go_puti X fo_X4_34 pf_4_8 (lL ht) (sL ht) (fL_8 ht) (dk dt_X4_begin_0 2 rfl) ?_
  refine go_aload_n X 0 (dk dt_X4_begin_0 3 rfl) rfl rfl ?_
  refine go_iconst X (dk dt_X4_begin_0 4 rfl) ci_0 ?_
  refine go_puti X fo_X4_38 pf_4_9 (lL ht) (sL ht) (fL_9 ht) (dk dt_X4_begin_0 5 rfl) ?_
  exact go_vret rt (dk dt_X4_begin_0 6 rfl) h
set_option maxRecDepth 20000 in
theorem ct_X4_begin (hi : zInj wC v) (xc : XC wC v) (nx : NXC v)  {t : Nat} {σ : Hp} (ht : isL t = true) {q : Hp} (h : F_X4_begin  t σ = some q) : Ct wC v l yX4_begin cX4_begin 1 none 2 [.ref t] σ none q :=
  Ct.intro false (by decide) hi xc (Nat.le_of_ble_eq_true rfl) rfl (fun p e R s m args below meth c Q X rt => lkF_X4_begin hi xc nx X rt ht h)
end
def T_X8_begin_0 : DT := [(0, .aload_n 0, 1), (1, .iload_n 1, 1), (2, .putfield 19, 3), (5, .aload_n 0, 1), (6, .iconst 0, 1), (7, .putfield 22, 3), (10, .aload_n 0, 1), (11, .iconst 0, 1), (12, .putfield 25, 3), (15, .return_, 1)]
theorem dt_X8_begin_0 : dOk cX8_begin T_X8_begin_0 := by unfold dOk; decide +kernel
section
variable {v : ZV} {l : Launch} {p : Program} {e : Env} {R : Room} {s : State} {m : MethodId} {args : Array Value} {below : List Frame} {meth : Method} {c : Code} {Q : State → Prop} {res : Hp} 
set_option maxRecDepth 20000 in
theorem lkF_X8_begin (hi : zInj wC v) (xc : XC wC v) (nx : NXC v) (X : Cx wC v p R s m args c 0 0 cX8_begin 2 RX8 2) (rt : Rt wC v p l e R s m args below meth c 0 0 Q cX8_begin false none res) {a1 : Int32} {σ : Hp}  (h : F_X8_begin  a1 σ = some res) : Go wC v p l e R s m args below meth c 0 0 Q 2 0 [(0, .ref 23), (1, .int a1)] [] σ := by
  unfold F_X8_begin at h
  refine go_aload_n X 0 (dk dt_X8_begin_0 0 rfl) rfl rfl ?_
  refine go_iload_n X 1 (dk dt_X8_begin_0 1 rfl) rfl rfl ?_
  refine go_puti X fo_X8_19 pf_8_2 lC_23 sC_23 fC_23_2 (dk dt_X8_begin_0 2 rfl) ?_
  refine go_aload_n X 0 (dk dt_X8_begin_0 3 rfl) rfl rfl ?_
  refine go_iconst X (dk dt_X8_begin_0 4 rfl) ci_0 ?_
  refine go_puti X fo_X8_22 pf_8_3 lC_23 sC_23 fC_23_3 (dk dt_X8_begin_0 5 rfl) ?_
  refine go_aload_n X 0 (dk dt_X8_begin_0 6 rfl) rfl rfl ?_
  refine go_iconst X (dk dt_X8_begin_0 7 rfl) ci_0 ?_
  refine go_puti X fo_X8_25 pf_8_4 lC_23 sC_23 fC_23_4 (dk dt_X8_begin_0 8 rfl) ?_
  exact go_vret rt (dk dt_X8_begin_0 9 rfl) h
set_option maxRecDepth 20000 in
theorem ct_X8_begin (hi : zInj wC v) (xc : XC wC v) (nx : NXC v)  {a1 : Int32} {σ : Hp}  {q : Hp} (h : F_X8_begin  a1 σ = some q) : Ct wC v l yX8_begin cX8_begin 2 none 2 [.ref 23, .int a1] σ none q :=
  Ct.intro false (by decide) hi xc (Nat.le_of_ble_eq_true rfl) rfl (fun p e R s m args below meth c Q X rt => lkF_X8_begin hi xc nx X rt  h)
end
def T_X8_here_0 : DT := [(0, .aload_n 0, 1), (1, .getfield 22, 3), (4, .aload_n 0, 1), (5, .getfield 19, 3), (8, .if_icmp .ge 27, 3), (11, .aload_n 0, 1), (12, .getfield 22, 3), (15, .aload_n 0, 1), (16, .getfield 9, 3), (19, .arraylength, 1), (20, .if_icmp .ge 15, 3), (23, .aload_n 0, 1), (24, .getfield 9, 3), (27, .aload_n 0, 1), (28, .getfield 22, 3), (31, .iaload, 1)]
theorem dt_X8_here_0 : dOk cX8_here T_X8_here_0 := by unfold dOk; decide +kernel
def T_X8_here_1 : DT := [(32, .goto 4, 3), (35, .iconst (-1), 1), (36, .ireturn, 1)]
theorem dt_X8_here_1 : dOk cX8_here T_X8_here_1 := by unfold dOk; decide +kernel
section
variable {v : ZV} {l : Launch} {p : Program} {e : Env} {R : Room} {s : State} {m : MethodId} {args : Array Value} {below : List Frame} {meth : Method} {c : Code} {Q : State → Prop} {res : (Int32 × Hp)} 
set_option maxRecDepth 20000 in
theorem lkF_X8_here (hi : zInj wC v) (xc : XC wC v) (nx : NXC v) (X : Cx wC v p R s m args c 0 0 cX8_here 1 RX8 2) (rt : Rt wC v p l e R s m args below meth c 0 0 Q cX8_here false (some (.int res.1)) res.2)  {σ : Hp}  (h : F_X8_here   σ = some res) : Go wC v p l e R s m args below meth c 0 0 Q 1 0 [(0, .ref 23)] [] σ := by
  unfold F_X8_here at h
  refine go_aload_n X 0 (dk dt_X8_here_0 0 rfl) rfl rfl ?_
  refine go_geti X fo_X8_22 lC_23 sC_23 fC_23_3 (dk dt_X8_here_0 1 rfl) ?_
  refine go_aload_n X 0 (dk dt_X8_here_0 2 rfl) rfl rfl ?_
  refine go_geti X fo_X8_19 lC_23 sC_23 fC_23_2 (dk dt_X8_here_0 3 rfl) ?_
  refine go_icmp_ge (tgt := 35) X (dk dt_X8_here_0 4 rfl) (by decide) h (fun h => ?_) (fun h => ?_)
  · refine go_iconst X (dk dt_X8_here_1 1 rfl) ci_m1 ?_
    exact go_iret rt (dk dt_X8_here_1 2 rfl) h (fun hh => nomatch hh)
  · refine go_aload_n X 0 (dk dt_X8_here_0 5 rfl) rfl rfl ?_
    refine go_geti X fo_X8_22 lC_23 sC_23 fC_23_3 (dk dt_X8_here_0 6 rfl) ?_
    refine go_aload_n X 0 (dk dt_X8_here_0 7 rfl) rfl rfl ?_
    refine go_getr X fo_X8_9 lC_23 sC_23 fC_23_0 (dk dt_X8_here_0 8 rfl) ?_
    refine go_ialen X lC_24 sC_24 rfl (dk dt_X8_here_0 9 rfl) ?_
    refine go_icmp_ge (tgt := 35) X (dk dt_X8_here_0 10 rfl) (by decide) h (fun h => ?_) (fun h => ?_)
    · refine go_iconst X (dk dt_X8_here_1 1 rfl) ci_m1 ?_
      exact go_iret rt (dk dt_X8_here_1 2 rfl) h (fun hh => nomatch hh)
    · refine go_aload_n X 0 (dk dt_X8_here_0 11 rfl) rfl rfl ?_
      refine go_getr X fo_X8_9 lC_23 sC_23 fC_23_0 (dk dt_X8_here_0 12 rfl) ?_
      refine go_aload_n X 0 (dk dt_X8_here_0 13 rfl) rfl rfl ?_
      refine go_geti X fo_X8_22 lC_23 sC_23 fC_23_3 (dk dt_X8_here_0 14 rfl) ?_
      refine go_iald X lC_24 sC_24 (dk dt_X8_here_0 15 rfl) h (fun h => ?_)
      refine go_goto (tgt := 36) X (dk dt_X8_here_1 0 rfl) (by decide) ?_
      exact go_iret rt (dk dt_X8_here_1 2 rfl) h (fun hh => nomatch hh)
set_option maxRecDepth 20000 in
theorem ct_X8_here (hi : zInj wC v) (xc : XC wC v) (nx : NXC v)   {σ : Hp}  {q : (Int32 × Hp)} (h : F_X8_here   σ = some q) : Ct wC v l yX8_here cX8_here 1 (some .int) 2 [.ref 23] σ (some (.int q.1)) q.2 :=
  Ct.intro false (by decide) hi xc (Nat.le_of_ble_eq_true rfl) rfl (fun p e R s m args below meth c Q X rt => lkF_X8_here hi xc nx X rt  h)
end
def T_X8_refuseAt_0 : DT := [(0, .aload_n 0, 1), (1, .sipush (-1000), 3), (4, .iload_n 1, 1), (5, .imul, 1), (6, .iload_n 2, 1), (7, .isub, 1), (8, .putfield 25, 3), (11, .iconst 0, 1), (12, .ireturn, 1)]
theorem dt_X8_refuseAt_0 : dOk cX8_refuseAt T_X8_refuseAt_0 := by unfold dOk; decide +kernel
section
variable {v : ZV} {l : Launch} {p : Program} {e : Env} {R : Room} {s : State} {m : MethodId} {args : Array Value} {below : List Frame} {meth : Method} {c : Code} {Q : State → Prop} {res : (Int32 × Hp)} 
set_option maxRecDepth 20000 in
theorem lkF_X8_refuseAt (hi : zInj wC v) (xc : XC wC v) (nx : NXC v) (X : Cx wC v p R s m args c 0 0 cX8_refuseAt 3 RX8 2) (rt : Rt wC v p l e R s m args below meth c 0 0 Q cX8_refuseAt true (some (.int res.1)) res.2) {a1 : Int32} {a2 : Int32} {σ : Hp}  (h : F_X8_refuseAt  a1 a2 σ = some res) : Go wC v p l e R s m args below meth c 0 0 Q 3 0 [(0, .ref 23), (1, .int a1), (2, .int a2)] [] σ := by
  unfold F_X8_refuseAt at h
  refine go_aload_n X 0 (dk dt_X8_refuseAt_0 0 rfl) rfl rfl ?_
  refine go_sipush X (dk dt_X8_refuseAt_0 1 rfl) cs_m1000 ?_
  refine go_iload_n X 1 (dk dt_X8_refuseAt_0 2 rfl) rfl rfl ?_
  refine go_imul X (dk dt_X8_refuseAt_0 3 rfl) ?_
  refine go_iload_n X 2 (dk dt_X8_refuseAt_0 4 rfl) rfl rfl ?_
  refine go_isub X (dk dt_X8_refuseAt_0 5 rfl) ?_
  refine go_puti X fo_X8_25 pf_8_4 lC_23 sC_23 fC_23_4 (dk dt_X8_refuseAt_0 6 rfl) ?_
  refine go_iconst X (dk dt_X8_refuseAt_0 7 rfl) ci_0 ?_
  exact go_iret rt (dk dt_X8_refuseAt_0 8 rfl) h (by decide)
set_option maxRecDepth 20000 in
theorem ct_X8_refuseAt (hi : zInj wC v) (xc : XC wC v) (nx : NXC v)  {a1 : Int32} {a2 : Int32} {σ : Hp}  {q : (Int32 × Hp)} (h : F_X8_refuseAt  a1 a2 σ = some q) : Ct wC v l yX8_refuseAt cX8_refuseAt 3 (some .boolean) 2 [.ref 23, .int a1, .int a2] σ (some (.int q.1)) q.2 :=
  Ct.intro true (by decide) hi xc (Nat.le_of_ble_eq_true rfl) rfl (fun p e R s m args below meth c Q X rt => lkF_X8_refuseAt hi xc nx X rt  h)
end
def T_X8_refuse_0 : DT := [(0, .aload_n 0, 1), (1, .iload_n 1, 1), (2, .aload_n 0, 1), (3, .getfield 22, 3), (6, .invokevirtual 39, 3), (9, .ireturn, 1)]
theorem dt_X8_refuse_0 : dOk cX8_refuse T_X8_refuse_0 := by unfold dOk; decide +kernel
section
variable {v : ZV} {l : Launch} {p : Program} {e : Env} {R : Room} {s : State} {m : MethodId} {args : Array Value} {below : List Frame} {meth : Method} {c : Code} {Q : State → Prop} {res : (Int32 × Hp)} 
set_option maxRecDepth 20000 in
theorem lkF_X8_refuse (hi : zInj wC v) (xc : XC wC v) (nx : NXC v) (X : Cx wC v p R s m args c 0 0 cX8_refuse 2 RX8 4) (rt : Rt wC v p l e R s m args below meth c 0 0 Q cX8_refuse true (some (.int res.1)) res.2) {a1 : Int32} {σ : Hp}  (h : F_X8_refuse  a1 σ = some res) : Go wC v p l e R s m args below meth c 0 0 Q 2 0 [(0, .ref 23), (1, .int a1)] [] σ := by
  unfold F_X8_refuse at h
  refine go_aload_n X 0 (dk dt_X8_refuse_0 0 rfl) rfl rfl ?_
  refine go_iload_n X 1 (dk dt_X8_refuse_0 1 rfl) rfl rfl ?_
  refine go_aload_n X 0 (dk dt_X8_refuse_0 2 rfl) rfl rfl ?_
  refine go_geti X fo_X8_22 lC_23 sC_23 fC_23_3 (dk dt_X8_refuse_0 3 rfl) ?_
  refine go_Vi (As := [.int a1, .int (σ 23 3)]) (rest := []) X vo_X8_39 (fun q hq => ct_X8_refuseAt hi xc nx  hq) (by decide) rfl lC_23 sC_23 rfl rfl (Nat.le_of_ble_eq_true rfl) (dk dt_X8_refuse_0 4 rfl) h (fun q6 h => ?_)
  exact go_zret rt (dk dt_X8_refuse_0 5 rfl) h
set_option maxRecDepth 20000 in
theorem ct_X8_refuse (hi : zInj wC v) (xc : XC wC v) (nx : NXC v)  {a1 : Int32} {σ : Hp}  {q : (Int32 × Hp)} (h : F_X8_refuse  a1 σ = some q) : Ct wC v l yX8_refuse cX8_refuse 2 (some .boolean) 4 [.ref 23, .int a1] σ (some (.int q.1)) q.2 :=
  Ct.intro true (by decide) hi xc (Nat.le_of_ble_eq_true rfl) rfl (fun p e R s m args below meth c Q X rt => lkF_X8_refuse hi xc nx X rt  h)
end
def T_X8_takes_0 : DT := [(0, .aload_n 0, 1), (1, .invokevirtual 28, 3), (4, .iload_n 1, 1), (5, .if_icmp .eq 5, 3), (8, .iconst 0, 1), (9, .ireturn, 1), (10, .aload_n 0, 1), (11, .dup, 1), (12, .getfield 22, 3), (15, .iconst 1, 1), (16, .iadd, 1), (17, .putfield 22, 3), (20, .iconst 1, 1), (21, .ireturn, 1)]
theorem dt_X8_takes_0 : dOk cX8_takes T_X8_takes_0 := by unfold dOk; decide +kernel
section
variable {v : ZV} {l : Launch} {p : Program} {e : Env} {R : Room} {s : State} {m : MethodId} {args : Array Value} {below : List Frame} {meth : Method} {c : Code} {Q : State → Prop} {res : (Int32 × Hp)} 
set_option maxRecDepth 20000 in
theorem lkF_X8_takes (hi : zInj wC v) (xc : XC wC v) (nx : NXC v) (X : Cx wC v p R s m args c 0 0 cX8_takes 2 RX8 4) (rt : Rt wC v p l e R s m args below meth c 0 0 Q cX8_takes true (some (.int res.1)) res.2) {a1 : Int32} {σ : Hp}  (h : F_X8_takes  a1 σ = some res) : Go wC v p l e R s m args below meth c 0 0 Q 2 0 [(0, .ref 23), (1, .int a1)] [] σ := by
  unfold F_X8_takes at h
  refine go_aload_n X 0 (dk dt_X8_takes_0 0 rfl) rfl rfl ?_
  refine go_Vi (As := []) (rest := []) X vo_X8_28 (fun q hq => ct_X8_here hi xc nx  hq) (by decide) rfl lC_23 sC_23 rfl rfl (Nat.le_of_ble_eq_true rfl) (dk dt_X8_takes_0 1 rfl) h (fun q1 h => ?_)
  refine go_iload_n X 1 (dk dt_X8_takes_0 2 rfl) rfl rfl ?_
  refine go_icmp_eq (tgt := 10) X (dk dt_X8_takes_0 3 rfl) (by decide) h (fun h => ?_) (fun h => ?_)
  · refine go_aload_n X 0 (dk dt_X8_takes_0 6 rfl) rfl rfl ?_
    refine go_dup X (dk dt_X8_takes_0 7 rfl) rfl ?_
    refine go_geti X fo_X8_22 lC_23 sC_23 fC_23_3 (dk dt_X8_takes_0 8 rfl) ?_
    refine go_iconst X (dk dt_X8_takes_0 9 rfl) ci_1 ?_
    refine go_iadd X (dk dt_X8_takes_0 10 rfl) ?_
    refine go_puti X fo_X8_22 pf_8_3 lC_23 sC_23 fC_23_3 (dk dt_X8_takes_0 11 rfl) ?_
    refine go_iconst X (dk dt_X8_takes_0 12 rfl) ci_1 ?_
    exact go_iret rt (dk dt_X8_takes_0 13 rfl) h (by decide)
  · refine go_iconst X (dk dt_X8_takes_0 4 rfl) ci_0 ?_
    exact go_iret rt (dk dt_X8_takes_0 5 rfl) h (by decide)
set_option maxRecDepth 20000 in
theorem ct_X8_takes (hi : zInj wC v) (xc : XC wC v) (nx : NXC v)  {a1 : Int32} {σ : Hp}  {q : (Int32 × Hp)} (h : F_X8_takes  a1 σ = some q) : Ct wC v l yX8_takes cX8_takes 2 (some .boolean) 4 [.ref 23, .int a1] σ (some (.int q.1)) q.2 :=
  Ct.intro true (by decide) hi xc (Nat.le_of_ble_eq_true rfl) rfl (fun p e R s m args below meth c Q X rt => lkF_X8_takes hi xc nx X rt  h)
end
def T_X5_readClosing_0 : DT := [(0, .aload_n 0, 1), (1, .getfield 9, 3), (4, .iload_n 1, 1), (5, .invokevirtual 41, 3), (8, .ifCond .ne 14, 3), (11, .aload_n 0, 1), (12, .getfield 9, 3), (15, .iconst 1, 1), (16, .invokevirtual 33, 3), (19, .ifCond .eq 7, 3), (22, .iconst 1, 1), (23, .goto 4, 3), (26, .iconst 0, 1), (27, .ireturn, 1)]
theorem dt_X5_readClosing_0 : dOk cX5_readClosing T_X5_readClosing_0 := by unfold dOk; decide +kernel
section
variable {v : ZV} {l : Launch} {p : Program} {e : Env} {R : Room} {s : State} {m : MethodId} {args : Array Value} {below : List Frame} {meth : Method} {c : Code} {Q : State → Prop} {res : (Int32 × Hp)} 
set_option maxRecDepth 20000 in
theorem lkF_X5_readClosing (hi : zInj wC v) (xc : XC wC v) (nx : NXC v) (X : Cx wC v p R s m args c 0 0 cX5_readClosing 2 RX5 6) (rt : Rt wC v p l e R s m args below meth c 0 0 Q cX5_readClosing true (some (.int res.1)) res.2) {a1 : Int32} {σ : Hp}  (h : F_X5_readClosing  a1 σ = some res) : Go wC v p l e R s m args below meth c 0 0 Q 2 0 [(0, .ref 60), (1, .int a1)] [] σ := by
  unfold F_X5_readClosing at h
  refine go_aload_n X 0 (dk dt_X5_readClosing_0 0 rfl) rfl rfl ?_
  refine go_getr X fo_X5_9 lC_60 sC_60 fC_60_0 (dk dt_X5_readClosing_0 1 rfl) ?_
  refine go_iload_n X 1 (dk dt_X5_readClosing_0 2 rfl) rfl rfl ?_
  refine go_Vi (As := [.int a1]) (rest := []) X vo_X5_41 (fun q hq => ct_X8_takes hi xc nx  hq) (by decide) rfl lC_23 sC_23 rfl rfl (Nat.le_of_ble_eq_true rfl) (dk dt_X5_readClosing_0 3 rfl) h (fun q5 h => ?_)
  refine go_if_ne (tgt := 22) X (dk dt_X5_readClosing_0 4 rfl) (by decide) h (fun h => ?_) (fun h => ?_)
  · refine go_iconst X (dk dt_X5_readClosing_0 10 rfl) ci_1 ?_
    refine go_goto (tgt := 27) X (dk dt_X5_readClosing_0 11 rfl) (by decide) ?_
    exact go_iret rt (dk dt_X5_readClosing_0 13 rfl) h (by decide)
  · refine go_aload_n X 0 (dk dt_X5_readClosing_0 5 rfl) rfl rfl ?_
    refine go_getr X fo_X5_9 lC_60 sC_60 fC_60_0 (dk dt_X5_readClosing_0 6 rfl) ?_
    refine go_iconst X (dk dt_X5_readClosing_0 7 rfl) ci_1 ?_
    refine go_Vi (As := [.int (1 : Int32)]) (rest := []) X vo_X5_33 (fun q hq => ct_X8_refuse hi xc nx  hq) (by decide) rfl lC_23 sC_23 rfl rfl (Nat.le_of_ble_eq_true rfl) (dk dt_X5_readClosing_0 8 rfl) h (fun q16 h => ?_)
    refine go_if_eq (tgt := 26) X (dk dt_X5_readClosing_0 9 rfl) (by decide) h (fun h => ?_) (fun h => ?_)
    · refine go_iconst X (dk dt_X5_readClosing_0 12 rfl) ci_0 ?_
      exact go_iret rt (dk dt_X5_readClosing_0 13 rfl) h (by decide)
    · refine go_iconst X (dk dt_X5_readClosing_0 10 rfl) ci_1 ?_
      refine go_goto (tgt := 27) X (dk dt_X5_readClosing_0 11 rfl) (by decide) ?_
      exact go_iret rt (dk dt_X5_readClosing_0 13 rfl) h (by decide)
set_option maxRecDepth 20000 in
theorem ct_X5_readClosing (hi : zInj wC v) (xc : XC wC v) (nx : NXC v)  {a1 : Int32} {σ : Hp}  {q : (Int32 × Hp)} (h : F_X5_readClosing  a1 σ = some q) : Ct wC v l yX5_readClosing cX5_readClosing 2 (some .boolean) 6 [.ref 60, .int a1] σ (some (.int q.1)) q.2 :=
  Ct.intro true (by decide) hi xc (Nat.le_of_ble_eq_true rfl) rfl (fun p e R s m args below meth c Q X rt => lkF_X5_readClosing hi xc nx X rt  h)
end
