def T_V_answered_0 : DT := [(0, .aload_n 0, 1), (1, .getfield 57, 3), (4, .getfield 187, 3), (7, .aload_n 0, 1), (8, .getfield 61, 3), (11, .getfield 187, 3), (14, .invokestatic 290, 3), (17, .istore_n 1, 1), (18, .iconst 0, 1), (19, .istore_n 2, 1), (20, .iload_n 2, 1), (21, .iload_n 1, 1), (22, .if_icmp .ge 32, 3), (25, .aload_n 0, 1), (26, .getfield 57, 3), (29, .getfield 295, 3)]
theorem dt_V_answered_0 : dOk cX11_answered T_V_answered_0 := by unfold dOk; decide +kernel
def T_V_answered_1 : DT := [(32, .iload_n 2, 1), (33, .iaload, 1), (34, .aload_n 0, 1), (35, .getfield 61, 3), (38, .getfield 295, 3), (41, .iload_n 2, 1), (42, .iaload, 1), (43, .if_icmp .eq 5, 3), (46, .iload_n 2, 1), (47, .ireturn, 1), (48, .iinc 2 1, 3), (51, .goto (-31), 3), (54, .aload_n 0, 1), (55, .getfield 57, 3), (58, .getfield 187, 3), (61, .aload_n 0, 1)]
theorem dt_V_answered_1 : dOk cX11_answered T_V_answered_1 := by unfold dOk; decide +kernel
def T_V_answered_2 : DT := [(62, .getfield 61, 3), (65, .getfield 187, 3), (68, .if_icmp .ne 8, 3), (71, .bipush (-2), 2), (73, .goto 4, 3), (76, .iload_n 1, 1), (77, .ireturn, 1)]
theorem dt_V_answered_2 : dOk cX11_answered T_V_answered_2 := by unfold dOk; decide +kernel
section
variable {v : ZV} {l : Launch} {p : Program} {e : Env} {R : Room} {s : State} {m : MethodId} {args : Array Value} {below : List Frame} {meth : Method} {c : Code} {Q : State → Prop} {res : (Int32 × Hp)} 
set_option maxRecDepth 20000 in
theorem lkB_V_answered_20 (hi : zInj wC v) (xc : XC wC v) (nx : NXC v) (X : Cx wC v p R s m args c 0 0 cX11_answered 3 RX11 2) (rt : Rt wC v p l e R s m args below meth c 0 0 Q cX11_answered false (some (.int res.1)) res.2) {k54 : Int32 → Hp → Option (Int32 × Hp)} {k20 : Int32 → Int32 → Hp → Option (Int32 × Hp)} {x1 : Int32} {x2 : Int32} {σ : Hp}  (hk54 : ∀ (x1 : Int32) (σ : Hp),  k54 x1 σ = some res → Go wC v p l e R s m args below meth c 0 0 Q 3 54 [(0, .ref 0), (1, .int x1)] [] σ) (hk20 : ∀ (x1 : Int32) (x2 : Int32) (σ : Hp),  k20 x1 x2 σ = some res → Go wC v p l e R s m args below meth c 0 0 Q 3 20 [(0, .ref 0), (1, .int x1), (2, .int x2)] [] σ) (h : B_V_answered_20  k54 k20 x1 x2 σ = some res) : Go wC v p l e R s m args below meth c 0 0 Q 3 20 [(0, .ref 0), (1, .int x1), (2, .int x2)] [] σ := by
  unfold B_V_answered_20 at h
  refine go_iload_n X 2 (dk dt_V_answered_0 10 rfl) rfl rfl ?_
  refine go_iload_n X 1 (dk dt_V_answered_0 11 rfl) rfl rfl ?_
  refine go_icmp_ge (tgt := 54) X (dk dt_V_answered_0 12 rfl) (by decide) h (fun h => ?_) (fun h => ?_)
  · refine go_sub [0, 1] rfl ?_
    exact hk54 _ _  h
  · refine go_aload_n X 0 (dk dt_V_answered_0 13 rfl) rfl rfl ?_
    refine go_getr X fo_X11_57 lC_0 sC_0 fC_0_7 (dk dt_V_answered_0 14 rfl) ?_
    refine go_getr X fo_X11_295 lC_28 sC_28 fC_28_0 (dk dt_V_answered_0 15 rfl) ?_
    refine go_iload_n X 2 (dk dt_V_answered_1 0 rfl) rfl rfl ?_
    refine go_iald X lC_29 sC_29 (dk dt_V_answered_1 1 rfl) h (fun h => ?_)
    refine go_aload_n X 0 (dk dt_V_answered_1 2 rfl) rfl rfl ?_
    refine go_getr X fo_X11_61 lC_0 sC_0 fC_0_8 (dk dt_V_answered_1 3 rfl) ?_
    refine go_getr X fo_X11_295 lC_30 sC_30 fC_30_0 (dk dt_V_answered_1 4 rfl) ?_
    refine go_iload_n X 2 (dk dt_V_answered_1 5 rfl) rfl rfl ?_
    refine go_iald X lC_31 sC_31 (dk dt_V_answered_1 6 rfl) h (fun h => ?_)
    refine go_icmp_eq (tgt := 48) X (dk dt_V_answered_1 7 rfl) (by decide) h (fun h => ?_) (fun h => ?_)
    · refine go_iinc (lv' := [(2, .int (x2 + (1 : Int32))), (0, .ref 0), (1, .int x1)]) X 2 (dk dt_V_answered_1 10 rfl) rfl ci_1 (by decide) rfl ?_
      refine go_goto (tgt := 20) X (dk dt_V_answered_1 11 rfl) (by decide) ?_
      refine go_sub [1, 2, 0] rfl ?_
      exact hk20 _ _ _  h
    · refine go_iload_n X 2 (dk dt_V_answered_1 8 rfl) rfl rfl ?_
      exact go_iret rt (dk dt_V_answered_1 9 rfl) h (fun hh => nomatch hh)
set_option maxRecDepth 20000 in
theorem lkL_V_answered_20 (hi : zInj wC v) (xc : XC wC v) (nx : NXC v) (X : Cx wC v p R s m args c 0 0 cX11_answered 3 RX11 2) (rt : Rt wC v p l e R s m args below meth c 0 0 Q cX11_answered false (some (.int res.1)) res.2) {k54 : Int32 → Hp → Option (Int32 × Hp)} (hk54 : ∀ (x1 : Int32) (σ : Hp),  k54 x1 σ = some res → Go wC v p l e R s m args below meth c 0 0 Q 3 54 [(0, .ref 0), (1, .int x1)] [] σ) (n : Nat) : ∀ {x1 : Int32} {x2 : Int32} {σ : Hp},  L_V_answered_20  k54 n x1 x2 σ = some res → Go wC v p l e R s m args below meth c 0 0 Q 3 20 [(0, .ref 0), (1, .int x1), (2, .int x2)] [] σ := by
  induction n with
  | zero => intro x1 x2 σ  h; cases h
  | succ n ih =>
    intro x1 x2 σ  h
    exact lkB_V_answered_20 hi xc nx X rt  hk54 (fun _ _ _  hh => ih  hh) h
set_option maxRecDepth 20000 in
theorem lkJ_V_answered_54 (hi : zInj wC v) (xc : XC wC v) (nx : NXC v) (X : Cx wC v p R s m args c 0 0 cX11_answered 3 RX11 2) (rt : Rt wC v p l e R s m args below meth c 0 0 Q cX11_answered false (some (.int res.1)) res.2)  {x1 : Int32} {σ : Hp}   (h : J_V_answered_54   x1 σ = some res) : Go wC v p l e R s m args below meth c 0 0 Q 3 54 [(0, .ref 0), (1, .int x1)] [] σ := by
  unfold J_V_answered_54 at h
  refine go_aload_n X 0 (dk dt_V_answered_1 12 rfl) rfl rfl ?_
  refine go_getr X fo_X11_57 lC_0 sC_0 fC_0_7 (dk dt_V_answered_1 13 rfl) ?_
  refine go_geti X fo_X11_187 lC_28 sC_28 fC_28_1 (dk dt_V_answered_1 14 rfl) ?_
  refine go_aload_n X 0 (dk dt_V_answered_1 15 rfl) rfl rfl ?_
  refine go_getr X fo_X11_61 lC_0 sC_0 fC_0_8 (dk dt_V_answered_2 0 rfl) ?_
  refine go_geti X fo_X11_187 lC_30 sC_30 fC_30_1 (dk dt_V_answered_2 1 rfl) ?_
  refine go_icmp_ne (tgt := 76) X (dk dt_V_answered_2 2 rfl) (by decide) h (fun h => ?_) (fun h => ?_)
  · refine go_iload_n X 1 (dk dt_V_answered_2 5 rfl) rfl rfl ?_
    exact go_iret rt (dk dt_V_answered_2 6 rfl) h (fun hh => nomatch hh)
  · refine go_bipush X (dk dt_V_answered_2 3 rfl) cb_m2 ?_
    refine go_goto (tgt := 77) X (dk dt_V_answered_2 4 rfl) (by decide) ?_
    exact go_iret rt (dk dt_V_answered_2 6 rfl) h (fun hh => nomatch hh)
set_option maxRecDepth 20000 in
theorem lkF_V_answered (hi : zInj wC v) (xc : XC wC v) (nx : NXC v) (X : Cx wC v p R s m args c 0 0 cX11_answered 3 RX11 2) (rt : Rt wC v p l e R s m args below meth c 0 0 Q cX11_answered false (some (.int res.1)) res.2)  {σ : Hp}  (h : F_V_answered   σ = some res) : Go wC v p l e R s m args below meth c 0 0 Q 3 0 [(0, .ref 0)] [] σ := by
  unfold F_V_answered at h
  refine go_aload_n X 0 (dk dt_V_answered_0 0 rfl) rfl rfl ?_
  refine go_getr X fo_X11_57 lC_0 sC_0 fC_0_7 (dk dt_V_answered_0 1 rfl) ?_
  refine go_geti X fo_X11_187 lC_28 sC_28 fC_28_1 (dk dt_V_answered_0 2 rfl) ?_
  refine go_aload_n X 0 (dk dt_V_answered_0 3 rfl) rfl rfl ?_
  refine go_getr X fo_X11_61 lC_0 sC_0 fC_0_8 (dk dt_V_answered_0 4 rfl) ?_
  refine go_geti X fo_X11_187 lC_30 sC_30 fC_30_1 (dk dt_V_answered_0 5 rfl) ?_
  refine go_mmin X mo_X11_290 (by decide) (Nat.le_of_ble_eq_true rfl) (dk dt_V_answered_0 6 rfl) ?_
  refine go_istore_n (lv' := [(1, .int (jmin (σ 28 1) (σ 30 1))), (0, .ref 0)]) X (dk dt_V_answered_0 7 rfl) rfl (by decide) rfl ?_
  refine go_iconst X (dk dt_V_answered_0 8 rfl) ci_0 ?_
  refine go_istore_n (lv' := [(2, .int (0 : Int32)), (1, .int (jmin (σ 28 1) (σ 30 1))), (0, .ref 0)]) X (dk dt_V_answered_0 9 rfl) rfl (by decide) rfl ?_
  refine go_sub [2, 1, 0] rfl ?_
  exact lkL_V_answered_20 hi xc nx X rt (fun _ _  hh => lkJ_V_answered_54 hi xc nx X rt   hh) FU  h
set_option maxRecDepth 20000 in
theorem ct_V_answered (hi : zInj wC v) (xc : XC wC v) (nx : NXC v)   {σ : Hp}  {q : (Int32 × Hp)} (h : F_V_answered   σ = some q) : Ct wC v l yX11_answered cX11_answered 3 (some .int) 2 [.ref 0] σ (some (.int q.1)) q.2 :=
  Ct.intro false (by decide) hi xc (Nat.le_of_ble_eq_true rfl) rfl (fun p e R s m args below meth c Q X rt => lkF_V_answered hi xc nx X rt  h)
end
def T_V_within_0 : DT := [(0, .iload_n 0, 1), (1, .iload_n 1, 1), (2, .if_icmp .lt 12, 3), (5, .iload_n 0, 1), (6, .iload_n 2, 1), (7, .if_icmp .gt 7, 3), (10, .iconst 1, 1), (11, .goto 4, 3), (14, .iconst 0, 1), (15, .ireturn, 1)]
theorem dt_V_within_0 : dOk cX11_within T_V_within_0 := by unfold dOk; decide +kernel
section
variable {v : ZV} {l : Launch} {p : Program} {e : Env} {R : Room} {s : State} {m : MethodId} {args : Array Value} {below : List Frame} {meth : Method} {c : Code} {Q : State → Prop} {res : (Int32 × Hp)} 
set_option maxRecDepth 20000 in
theorem lkF_V_within (hi : zInj wC v) (xc : XC wC v) (nx : NXC v) (X : Cx wC v p R s m args c 0 0 cX11_within 3 RX11 2) (rt : Rt wC v p l e R s m args below meth c 0 0 Q cX11_within true (some (.int res.1)) res.2) {a0 : Int32} {a1 : Int32} {a2 : Int32} {σ : Hp}  (h : F_V_within  a0 a1 a2 σ = some res) : Go wC v p l e R s m args below meth c 0 0 Q 3 0 [(0, .int a0), (1, .int a1), (2, .int a2)] [] σ := by
  unfold F_V_within at h
  refine go_iload_n X 0 (dk dt_V_within_0 0 rfl) rfl rfl ?_
  refine go_iload_n X 1 (dk dt_V_within_0 1 rfl) rfl rfl ?_
  refine go_icmp_lt (tgt := 14) X (dk dt_V_within_0 2 rfl) (by decide) h (fun h => ?_) (fun h => ?_)
  · refine go_iconst X (dk dt_V_within_0 8 rfl) ci_0 ?_
    exact go_iret rt (dk dt_V_within_0 9 rfl) h (by decide)
  · refine go_iload_n X 0 (dk dt_V_within_0 3 rfl) rfl rfl ?_
    refine go_iload_n X 2 (dk dt_V_within_0 4 rfl) rfl rfl ?_
    refine go_icmp_gt (tgt := 14) X (dk dt_V_within_0 5 rfl) (by decide) h (fun h => ?_) (fun h => ?_)
    · refine go_iconst X (dk dt_V_within_0 8 rfl) ci_0 ?_
      exact go_iret rt (dk dt_V_within_0 9 rfl) h (by decide)
    · refine go_iconst X (dk dt_V_within_0 6 rfl) ci_1 ?_
      refine go_goto (tgt := 15) X (dk dt_V_within_0 7 rfl) (by decide) ?_
      exact go_iret rt (dk dt_V_within_0 9 rfl) h (by decide)
set_option maxRecDepth 20000 in
theorem ct_V_within (hi : zInj wC v) (xc : XC wC v) (nx : NXC v)  {a0 : Int32} {a1 : Int32} {a2 : Int32} {σ : Hp}  {q : (Int32 × Hp)} (h : F_V_within  a0 a1 a2 σ = some q) : Ct wC v l yX11_within cX11_within 3 (some .boolean) 2 [.int a0, .int a1, .int a2] σ (some (.int q.1)) q.2 :=
  Ct.intro true (by decide) hi xc (Nat.le_of_ble_eq_true rfl) rfl (fun p e R s m args below meth c Q X rt => lkF_V_within hi xc nx X rt  h)
end
def T_X8_has_0 : DT := [(0, .iload_n 1, 1), (1, .aload_n 0, 1), (2, .getfield 15, 3), (5, .if_icmp .gt 7, 3), (8, .iconst 1, 1), (9, .goto 4, 3), (12, .iconst 0, 1), (13, .ireturn, 1)]
theorem dt_X8_has_0 : dOk cX8_has T_X8_has_0 := by unfold dOk; decide +kernel
section
variable {v : ZV} {l : Launch} {p : Program} {e : Env} {R : Room} {s : State} {m : MethodId} {args : Array Value} {below : List Frame} {meth : Method} {c : Code} {Q : State → Prop} {res : (Int32 × Hp)} 
set_option maxRecDepth 20000 in
theorem lkF_X8_has (hi : zInj wC v) (xc : XC wC v) (nx : NXC v) (X : Cx wC v p R s m args c 0 0 cX8_has 2 RX8 2) (rt : Rt wC v p l e R s m args below meth c 0 0 Q cX8_has true (some (.int res.1)) res.2) {a1 : Int32} {σ : Hp}  (h : F_X8_has  a1 σ = some res) : Go wC v p l e R s m args below meth c 0 0 Q 2 0 [(0, .ref 23), (1, .int a1)] [] σ := by
  unfold F_X8_has at h
  refine go_iload_n X 1 (dk dt_X8_has_0 0 rfl) rfl rfl ?_
  refine go_aload_n X 0 (dk dt_X8_has_0 1 rfl) rfl rfl ?_
  refine go_geti X fo_X8_15 lC_23 sC_23 fC_23_1 (dk dt_X8_has_0 2 rfl) ?_
  refine go_icmp_gt (tgt := 12) X (dk dt_X8_has_0 3 rfl) (by decide) h (fun h => ?_) (fun h => ?_)
  · refine go_iconst X (dk dt_X8_has_0 6 rfl) ci_0 ?_
    exact go_iret rt (dk dt_X8_has_0 7 rfl) h (by decide)
  · refine go_iconst X (dk dt_X8_has_0 4 rfl) ci_1 ?_
    refine go_goto (tgt := 13) X (dk dt_X8_has_0 5 rfl) (by decide) ?_
    exact go_iret rt (dk dt_X8_has_0 7 rfl) h (by decide)
set_option maxRecDepth 20000 in
theorem ct_X8_has (hi : zInj wC v) (xc : XC wC v) (nx : NXC v)  {a1 : Int32} {σ : Hp}  {q : (Int32 × Hp)} (h : F_X8_has  a1 σ = some q) : Ct wC v l yX8_has cX8_has 2 (some .boolean) 2 [.ref 23, .int a1] σ (some (.int q.1)) q.2 :=
  Ct.intro true (by decide) hi xc (Nat.le_of_ble_eq_true rfl) rfl (fun p e R s m args below meth c Q X rt => lkF_X8_has hi xc nx X rt  h)
end
def T_X8_byteAt_0 : DT := [(0, .iload_n 1, 1), (1, .ifCond .lt 21, 3), (4, .iload_n 1, 1), (5, .aload_n 0, 1), (6, .getfield 9, 3), (9, .arraylength, 1), (10, .if_icmp .ge 12, 3), (13, .aload_n 0, 1), (14, .getfield 9, 3), (17, .iload_n 1, 1), (18, .iaload, 1), (19, .goto 4, 3), (22, .iconst (-1), 1), (23, .ireturn, 1)]
theorem dt_X8_byteAt_0 : dOk cX8_byteAt T_X8_byteAt_0 := by unfold dOk; decide +kernel
section
variable {v : ZV} {l : Launch} {p : Program} {e : Env} {R : Room} {s : State} {m : MethodId} {args : Array Value} {below : List Frame} {meth : Method} {c : Code} {Q : State → Prop} {res : (Int32 × Hp)} 
set_option maxRecDepth 20000 in
theorem lkF_X8_byteAt (hi : zInj wC v) (xc : XC wC v) (nx : NXC v) (X : Cx wC v p R s m args c 0 0 cX8_byteAt 2 RX8 2) (rt : Rt wC v p l e R s m args below meth c 0 0 Q cX8_byteAt false (some (.int res.1)) res.2) {a1 : Int32} {σ : Hp}  (h : F_X8_byteAt  a1 σ = some res) : Go wC v p l e R s m args below meth c 0 0 Q 2 0 [(0, .ref 23), (1, .int a1)] [] σ := by
  unfold F_X8_byteAt at h
  refine go_iload_n X 1 (dk dt_X8_byteAt_0 0 rfl) rfl rfl ?_
  refine go_if_lt (tgt := 22) X (dk dt_X8_byteAt_0 1 rfl) (by decide) h (fun h => ?_) (fun h => ?_)
  · refine go_iconst X (dk dt_X8_byteAt_0 12 rfl) ci_m1 ?_
    exact go_iret rt (dk dt_X8_byteAt_0 13 rfl) h (fun hh => nomatch hh)
  · refine go_iload_n X 1 (dk dt_X8_byteAt_0 2 rfl) rfl rfl ?_
    refine go_aload_n X 0 (dk dt_X8_byteAt_0 3 rfl) rfl rfl ?_
    refine go_getr X fo_X8_9 lC_23 sC_23 fC_23_0 (dk dt_X8_byteAt_0 4 rfl) ?_
    refine go_ialen X lC_24 sC_24 rfl (dk dt_X8_byteAt_0 5 rfl) ?_
    refine go_icmp_ge (tgt := 22) X (dk dt_X8_byteAt_0 6 rfl) (by decide) h (fun h => ?_) (fun h => ?_)
    · refine go_iconst X (dk dt_X8_byteAt_0 12 rfl) ci_m1 ?_
      exact go_iret rt (dk dt_X8_byteAt_0 13 rfl) h (fun hh => nomatch hh)
    · refine go_aload_n X 0 (dk dt_X8_byteAt_0 7 rfl) rfl rfl ?_
      refine go_getr X fo_X8_9 lC_23 sC_23 fC_23_0 (dk dt_X8_byteAt_0 8 rfl) ?_
      refine go_iload_n X 1 (dk dt_X8_byteAt_0 9 rfl) rfl rfl ?_
      refine go_iald X lC_24 sC_24 (dk dt_X8_byteAt_0 10 rfl) h (fun h => ?_)
      refine go_goto (tgt := 23) X (dk dt_X8_byteAt_0 11 rfl) (by decide) ?_
      exact go_iret rt (dk dt_X8_byteAt_0 13 rfl) h (fun hh => nomatch hh)
set_option maxRecDepth 20000 in
theorem ct_X8_byteAt (hi : zInj wC v) (xc : XC wC v) (nx : NXC v)  {a1 : Int32} {σ : Hp}  {q : (Int32 × Hp)} (h : F_X8_byteAt  a1 σ = some q) : Ct wC v l yX8_byteAt cX8_byteAt 2 (some .int) 2 [.ref 23, .int a1] σ (some (.int q.1)) q.2 :=
  Ct.intro false (by decide) hi xc (Nat.le_of_ble_eq_true rfl) rfl (fun p e R s m args below meth c Q X rt => lkF_X8_byteAt hi xc nx X rt  h)
end
def T_X8_clear_0 : DT := [(0, .aload_n 0, 1), (1, .iconst 0, 1), (2, .putfield 15, 3), (5, .return_, 1)]
theorem dt_X8_clear_0 : dOk cX8_clear T_X8_clear_0 := by unfold dOk; decide +kernel
section
variable {v : ZV} {l : Launch} {p : Program} {e : Env} {R : Room} {s : State} {m : MethodId} {args : Array Value} {below : List Frame} {meth : Method} {c : Code} {Q : State → Prop} {res : Hp} 
set_option maxRecDepth 20000 in
theorem lkF_X8_clear (hi : zInj wC v) (xc : XC wC v) (nx : NXC v) (X : Cx wC v p R s m args c 0 0 cX8_clear 1 RX8 2) (rt : Rt wC v p l e R s m args below meth c 0 0 Q cX8_clear false none res)  {σ : Hp}  (h : F_X8_clear   σ = some res) : Go wC v p l e R s m args below meth c 0 0 Q 1 0 [(0, .ref 23)] [] σ := by
  unfold F_X8_clear at h
  refine go_aload_n X 0 (dk dt_X8_clear_0 0 rfl) rfl rfl ?_
  refine go_iconst X (dk dt_X8_clear_0 1 rfl) ci_0 ?_
  refine go_puti X fo_X8_15 pf_8_1 lC_23 sC_23 fC_23_1 (dk dt_X8_clear_0 2 rfl) ?_
  exact go_vret rt (dk dt_X8_clear_0 3 rfl) h
set_option maxRecDepth 20000 in
theorem ct_X8_clear (hi : zInj wC v) (xc : XC wC v) (nx : NXC v)   {σ : Hp}  {q : Hp} (h : F_X8_clear   σ = some q) : Ct wC v l yX8_clear cX8_clear 1 none 2 [.ref 23] σ none q :=
  Ct.intro false (by decide) hi xc (Nat.le_of_ble_eq_true rfl) rfl (fun p e R s m args below meth c Q X rt => lkF_X8_clear hi xc nx X rt  h)
end
def T_V_ants_0 : DT := [(0, .iload_n 1, 1), (1, .iconst 0, 1), (2, .bipush 7, 2), (4, .invokestatic 119, 3), (7, .ifCond .eq 25, 3), (10, .iload_n 2, 1), (11, .iconst 0, 1), (12, .bipush 8, 2), (14, .invokestatic 119, 3), (17, .ifCond .eq 15, 3), (20, .aload_n 0, 1), (21, .getfield 32, 3), (24, .bipush 8, 2), (26, .invokevirtual 151, 3), (29, .ifCond .ne 5, 3), (32, .iconst (-1), 1)]
theorem dt_V_ants_0 : dOk cX11_ants T_V_ants_0 := by unfold dOk; decide +kernel
def T_V_ants_1 : DT := [(33, .ireturn, 1), (34, .iconst 1, 1), (35, .istore_n 3, 1), (36, .iconst 0, 1), (37, .istore 4, 2), (39, .iload 4, 2), (41, .bipush 8, 2), (43, .if_icmp .ge 51, 3), (46, .aload_n 0, 1), (47, .getfield 88, 3), (50, .iload 4, 2), (52, .aload_n 0, 1), (53, .getfield 32, 3), (56, .iload 4, 2), (58, .invokevirtual 334, 3), (61, .iastore, 1)]
theorem dt_V_ants_1 : dOk cX11_ants T_V_ants_1 := by unfold dOk; decide +kernel
def T_V_ants_2 : DT := [(62, .iload_n 3, 1), (63, .ifCond .eq 23, 3), (66, .aload_n 0, 1), (67, .getfield 88, 3), (70, .iload 4, 2), (72, .iaload, 1), (73, .iconst 1, 1), (74, .bipush 99, 2), (76, .invokestatic 119, 3), (79, .ifCond .eq 7, 3), (82, .iconst 1, 1), (83, .goto 4, 3), (86, .iconst 0, 1), (87, .istore_n 3, 1), (88, .iinc 4 1, 3), (91, .goto (-52), 3)]
theorem dt_V_ants_2 : dOk cX11_ants T_V_ants_2 := by unfold dOk; decide +kernel
def T_V_ants_3 : DT := [(94, .aload_n 0, 1), (95, .getfield 32, 3), (98, .invokevirtual 158, 3), (101, .iload_n 3, 1), (102, .ifCond .ne 6, 3), (105, .bipush (-2), 2), (107, .ireturn, 1), (108, .iload_n 1, 1), (109, .iconst 1, 1), (110, .iadd, 1), (111, .istore 4, 2), (113, .iload 4, 2), (115, .bipush 8, 2), (117, .if_icmp .ge 28, 3), (120, .aload_n 0, 1), (121, .getfield 88, 3)]
theorem dt_V_ants_3 : dOk cX11_ants T_V_ants_3 := by unfold dOk; decide +kernel
def T_V_ants_4 : DT := [(124, .iload 4, 2), (126, .dup2, 1), (127, .iaload, 1), (128, .aload_n 0, 1), (129, .getfield 88, 3), (132, .iload 4, 2), (134, .iconst 1, 1), (135, .isub, 1), (136, .iaload, 1), (137, .iadd, 1), (138, .iastore, 1), (139, .iinc 4 1, 3), (142, .goto (-29), 3), (145, .iload_n 1, 1), (146, .iconst 1, 1), (147, .isub, 1)]
theorem dt_V_ants_4 : dOk cX11_ants T_V_ants_4 := by unfold dOk; decide +kernel
def T_V_ants_5 : DT := [(148, .istore 4, 2), (150, .iload 4, 2), (152, .ifCond .lt 28, 3), (155, .aload_n 0, 1), (156, .getfield 88, 3), (159, .iload 4, 2), (161, .dup2, 1), (162, .iaload, 1), (163, .aload_n 0, 1), (164, .getfield 88, 3), (167, .iload 4, 2), (169, .iconst 1, 1), (170, .iadd, 1), (171, .iaload, 1), (172, .iadd, 1), (173, .iastore, 1)]
theorem dt_V_ants_5 : dOk cX11_ants T_V_ants_5 := by unfold dOk; decide +kernel
def T_V_ants_6 : DT := [(174, .iinc 4 (-1), 3), (177, .goto (-27), 3), (180, .iload_n 2, 1), (181, .bipush 8, 2), (183, .if_icmp .ge 10, 3), (186, .aload_n 0, 1), (187, .getfield 88, 3), (190, .iload_n 2, 1), (191, .iaload, 1), (192, .ireturn, 1), (193, .iconst 0, 1), (194, .istore 4, 2), (196, .iconst 1, 1), (197, .istore 5, 2), (199, .iload 5, 2), (201, .bipush 8, 2)]
theorem dt_V_ants_6 : dOk cX11_ants T_V_ants_6 := by unfold dOk; decide +kernel
def T_V_ants_7 : DT := [(203, .if_icmp .ge 35, 3), (206, .aload_n 0, 1), (207, .getfield 88, 3), (210, .iload 5, 2), (212, .iaload, 1), (213, .aload_n 0, 1), (214, .getfield 88, 3), (217, .iload 4, 2), (219, .iaload, 1), (220, .if_icmp .le 8, 3), (223, .iload 5, 2), (225, .goto 5, 3), (228, .iload 4, 2), (230, .istore 4, 2), (232, .iinc 5 1, 3), (235, .goto (-36), 3)]
theorem dt_V_ants_7 : dOk cX11_ants T_V_ants_7 := by unfold dOk; decide +kernel
def T_V_ants_8 : DT := [(238, .iload 4, 2), (240, .ireturn, 1)]
theorem dt_V_ants_8 : dOk cX11_ants T_V_ants_8 := by unfold dOk; decide +kernel
section
variable {v : ZV} {l : Launch} {p : Program} {e : Env} {R : Room} {s : State} {m : MethodId} {args : Array Value} {below : List Frame} {meth : Method} {c : Code} {Q : State → Prop} {res : (Int32 × Hp)} 
set_option maxRecDepth 20000 in
theorem lkB_V_ants_39 (hi : zInj wC v) (xc : XC wC v) (nx : NXC v) (X : Cx wC v p R s m args c 0 0 cX11_ants 6 RX11 4) (rt : Rt wC v p l e R s m args below meth c 0 0 Q cX11_ants false (some (.int res.1)) res.2) {k94 : Int32 → Int32 → Int32 → Hp → Option (Int32 × Hp)} {k39 : Int32 → Int32 → Int32 → Int32 → Hp → Option (Int32 × Hp)} {x1 : Int32} {x2 : Int32} {x3 : Int32} {x4 : Int32} {σ : Hp}  (hk94 : ∀ (x1 : Int32) (x2 : Int32) (x3 : Int32) (σ : Hp),  k94 x1 x2 x3 σ = some res → Go wC v p l e R s m args below meth c 0 0 Q 6 94 [(0, .ref 0), (1, .int x1), (2, .int x2), (3, .int x3)] [] σ) (hk39 : ∀ (x1 : Int32) (x2 : Int32) (x3 : Int32) (x4 : Int32) (σ : Hp),  k39 x1 x2 x3 x4 σ = some res → Go wC v p l e R s m args below meth c 0 0 Q 6 39 [(0, .ref 0), (1, .int x1), (2, .int x2), (3, .int x3), (4, .int x4)] [] σ) (h : B_V_ants_39  k94 k39 x1 x2 x3 x4 σ = some res) : Go wC v p l e R s m args below meth c 0 0 Q 6 39 [(0, .ref 0), (1, .int x1), (2, .int x2), (3, .int x3), (4, .int x4)] [] σ := by
  unfold B_V_ants_39 at h
  refine go_iload X 4 (dk dt_V_ants_1 5 rfl) rfl ?_
  refine go_bipush X (dk dt_V_ants_1 6 rfl) cb_8 ?_
  refine go_icmp_ge (tgt := 94) X (dk dt_V_ants_1 7 rfl) (by decide) h (fun h => ?_) (fun h => ?_)
  · refine go_sub [0, 1, 2, 3] rfl ?_
    exact hk94 _ _ _ _  h
  · refine go_aload_n X 0 (dk dt_V_ants_1 8 rfl) rfl rfl ?_
    refine go_getr X fo_X11_88 lC_0 sC_0 fC_0_13 (dk dt_V_ants_1 9 rfl) ?_
    refine go_iload X 4 (dk dt_V_ants_1 10 rfl) rfl ?_
    refine go_aload_n X 0 (dk dt_V_ants_1 11 rfl) rfl rfl ?_
    refine go_getr X fo_X11_32 lC_0 sC_0 fC_0_4 (dk dt_V_ants_1 12 rfl) ?_
    refine go_iload X 4 (dk dt_V_ants_1 13 rfl) rfl ?_
    refine go_Vi (As := [.int x4]) (rest := [.int x4, .ref 41]) X vo_X11_334 (fun q hq => ct_X8_byteAt hi xc nx  hq) (by decide) rfl lC_23 sC_23 rfl rfl (Nat.le_of_ble_eq_true rfl) (dk dt_V_ants_1 14 rfl) h (fun q58 h => ?_)
    refine go_iast X lC_41 sC_41 (dk dt_V_ants_1 15 rfl) h (fun h => ?_)
    refine go_iload_n X 3 (dk dt_V_ants_2 0 rfl) rfl rfl ?_
    refine go_if_eq (tgt := 86) X (dk dt_V_ants_2 1 rfl) (by decide) h (fun h => ?_) (fun h => ?_)
    · refine go_iconst X (dk dt_V_ants_2 12 rfl) ci_0 ?_
      refine go_istore_n (lv' := [(3, .int (0 : Int32)), (0, .ref 0), (1, .int x1), (2, .int x2), (4, .int x4)]) X (dk dt_V_ants_2 13 rfl) rfl (by decide) rfl ?_
      refine go_iinc (lv' := [(4, .int (x4 + (1 : Int32))), (3, .int (0 : Int32)), (0, .ref 0), (1, .int x1), (2, .int x2)]) X 4 (dk dt_V_ants_2 14 rfl) rfl ci_1 (by decide) rfl ?_
      refine go_goto (tgt := 39) X (dk dt_V_ants_2 15 rfl) (by decide) ?_
      refine go_sub [2, 3, 4, 1, 0] rfl ?_
      exact hk39 _ _ _ _ _  h
    · refine go_aload_n X 0 (dk dt_V_ants_2 2 rfl) rfl rfl ?_
      refine go_getr X fo_X11_88 lC_0 sC_0 fC_0_13 (dk dt_V_ants_2 3 rfl) ?_
      refine go_iload X 4 (dk dt_V_ants_2 4 rfl) rfl ?_
      refine go_iald X lC_41 sC_41 (dk dt_V_ants_2 5 rfl) h (fun h => ?_)
      refine go_iconst X (dk dt_V_ants_2 6 rfl) ci_1 ?_
      refine go_bipush X (dk dt_V_ants_2 7 rfl) cb_99 ?_
      refine go_Si (As := [.int ((zu q58.2 41 (Int32.toNatClampNeg x4) q58.1) 41 (Int32.toNatClampNeg x4)), .int (1 : Int32), .int (99 : Int32)]) (rest := []) X so_X11_119 (fun q hq => ct_V_within hi xc nx  hq) (by decide) rfl rfl (Nat.le_of_ble_eq_true rfl) (dk dt_V_ants_2 8 rfl) h (fun q76 h => ?_)
      refine go_if_eq (tgt := 86) X (dk dt_V_ants_2 9 rfl) (by decide) h (fun h => ?_) (fun h => ?_)
      · refine go_iconst X (dk dt_V_ants_2 12 rfl) ci_0 ?_
        refine go_istore_n (lv' := [(3, .int (0 : Int32)), (0, .ref 0), (1, .int x1), (2, .int x2), (4, .int x4)]) X (dk dt_V_ants_2 13 rfl) rfl (by decide) rfl ?_
        refine go_iinc (lv' := [(4, .int (x4 + (1 : Int32))), (3, .int (0 : Int32)), (0, .ref 0), (1, .int x1), (2, .int x2)]) X 4 (dk dt_V_ants_2 14 rfl) rfl ci_1 (by decide) rfl ?_
        refine go_goto (tgt := 39) X (dk dt_V_ants_2 15 rfl) (by decide) ?_
        refine go_sub [2, 3, 4, 1, 0] rfl ?_
        exact hk39 _ _ _ _ _  h
      · refine go_iconst X (dk dt_V_ants_2 10 rfl) ci_1 ?_
        refine go_goto (tgt := 87) X (dk dt_V_ants_2 11 rfl) (by decide) ?_
        refine go_istore_n (lv' := [(3, .int (1 : Int32)), (0, .ref 0), (1, .int x1), (2, .int x2), (4, .int x4)]) X (dk dt_V_ants_2 13 rfl) rfl (by decide) rfl ?_
        refine go_iinc (lv' := [(4, .int (x4 + (1 : Int32))), (3, .int (1 : Int32)), (0, .ref 0), (1, .int x1), (2, .int x2)]) X 4 (dk dt_V_ants_2 14 rfl) rfl ci_1 (by decide) rfl ?_
        refine go_goto (tgt := 39) X (dk dt_V_ants_2 15 rfl) (by decide) ?_
        refine go_sub [2, 3, 4, 1, 0] rfl ?_
        exact hk39 _ _ _ _ _  h
set_option maxRecDepth 20000 in
theorem lkL_V_ants_39 (hi : zInj wC v) (xc : XC wC v) (nx : NXC v) (X : Cx wC v p R s m args c 0 0 cX11_ants 6 RX11 4) (rt : Rt wC v p l e R s m args below meth c 0 0 Q cX11_ants false (some (.int res.1)) res.2) {k94 : Int32 → Int32 → Int32 → Hp → Option (Int32 × Hp)} (hk94 : ∀ (x1 : Int32) (x2 : Int32) (x3 : Int32) (σ : Hp),  k94 x1 x2 x3 σ = some res → Go wC v p l e R s m args below meth c 0 0 Q 6 94 [(0, .ref 0), (1, .int x1), (2, .int x2), (3, .int x3)] [] σ) (n : Nat) : ∀ {x1 : Int32} {x2 : Int32} {x3 : Int32} {x4 : Int32} {σ : Hp},  L_V_ants_39  k94 n x1 x2 x3 x4 σ = some res → Go wC v p l e R s m args below meth c 0 0 Q 6 39 [(0, .ref 0), (1, .int x1), (2, .int x2), (3, .int x3), (4, .int x4)] [] σ := by
  induction n with
  | zero => intro x1 x2 x3 x4 σ  h; cases h
  | succ n ih =>
    intro x1 x2 x3 x4 σ  h
    exact lkB_V_ants_39 hi xc nx X rt  hk94 (fun _ _ _ _ _  hh => ih  hh) h
set_option maxRecDepth 20000 in
theorem lkB_V_ants_113 (hi : zInj wC v) (xc : XC wC v) (nx : NXC v) (X : Cx wC v p R s m args c 0 0 cX11_ants 6 RX11 4) (rt : Rt wC v p l e R s m args below meth c 0 0 Q cX11_ants false (some (.int res.1)) res.2) {k145 : Int32 → Int32 → Hp → Option (Int32 × Hp)} {k113 : Int32 → Int32 → Int32 → Hp → Option (Int32 × Hp)} {x1 : Int32} {x2 : Int32} {x4 : Int32} {σ : Hp}  (hk145 : ∀ (x1 : Int32) (x2 : Int32) (σ : Hp),  k145 x1 x2 σ = some res → Go wC v p l e R s m args below meth c 0 0 Q 6 145 [(0, .ref 0), (1, .int x1), (2, .int x2)] [] σ) (hk113 : ∀ (x1 : Int32) (x2 : Int32) (x4 : Int32) (σ : Hp),  k113 x1 x2 x4 σ = some res → Go wC v p l e R s m args below meth c 0 0 Q 6 113 [(0, .ref 0), (1, .int x1), (2, .int x2), (4, .int x4)] [] σ) (h : B_V_ants_113  k145 k113 x1 x2 x4 σ = some res) : Go wC v p l e R s m args below meth c 0 0 Q 6 113 [(0, .ref 0), (1, .int x1), (2, .int x2), (4, .int x4)] [] σ := by
  unfold B_V_ants_113 at h
  refine go_iload X 3 (dk dt_V_ants_3 11 rfl) rfl ?_
  refine go_bipush X (dk dt_V_ants_3 12 rfl) cb_8 ?_
  refine go_icmp_ge (tgt := 145) X (dk dt_V_ants_3 13 rfl) (by decide) h (fun h => ?_) (fun h => ?_)
  · refine go_sub [0, 1, 2] rfl ?_
    exact hk145 _ _ _  h
  · refine go_aload_n X 0 (dk dt_V_ants_3 14 rfl) rfl rfl ?_
    refine go_getr X fo_X11_88 lC_0 sC_0 fC_0_13 (dk dt_V_ants_3 15 rfl) ?_
    refine go_iload X 3 (dk dt_V_ants_4 0 rfl) rfl ?_
    refine go_dup2 X (dk dt_V_ants_4 1 rfl) rfl rfl ?_
    refine go_iald X lC_41 sC_41 (dk dt_V_ants_4 2 rfl) h (fun h => ?_)
    refine go_aload_n X 0 (dk dt_V_ants_4 3 rfl) rfl rfl ?_
    refine go_getr X fo_X11_88 lC_0 sC_0 fC_0_13 (dk dt_V_ants_4 4 rfl) ?_
    refine go_iload X 3 (dk dt_V_ants_4 5 rfl) rfl ?_
    refine go_iconst X (dk dt_V_ants_4 6 rfl) ci_1 ?_
    refine go_isub X (dk dt_V_ants_4 7 rfl) ?_
    refine go_iald X lC_41 sC_41 (dk dt_V_ants_4 8 rfl) h (fun h => ?_)
    refine go_iadd X (dk dt_V_ants_4 9 rfl) ?_
    refine go_iast X lC_41 sC_41 (dk dt_V_ants_4 10 rfl) h (fun h => ?_)
    refine go_iinc (lv' := [(4, .int (x4 + (1 : Int32))), (0, .ref 0), (1, .int x1), (2, .int x2)]) X 3 (dk dt_V_ants_4 11 rfl) rfl ci_1 (by decide) rfl ?_
    refine go_goto (tgt := 113) X (dk dt_V_ants_4 12 rfl) (by decide) ?_
    refine go_sub [1, 2, 3, 0] rfl ?_
    exact hk113 _ _ _ _  h
set_option maxRecDepth 20000 in
theorem lkL_V_ants_113 (hi : zInj wC v) (xc : XC wC v) (nx : NXC v) (X : Cx wC v p R s m args c 0 0 cX11_ants 6 RX11 4) (rt : Rt wC v p l e R s m args below meth c 0 0 Q cX11_ants false (some (.int res.1)) res.2) {k145 : Int32 → Int32 → Hp → Option (Int32 × Hp)} (hk145 : ∀ (x1 : Int32) (x2 : Int32) (σ : Hp),  k145 x1 x2 σ = some res → Go wC v p l e R s m args below meth c 0 0 Q 6 145 [(0, .ref 0), (1, .int x1), (2, .int x2)] [] σ) (n : Nat) : ∀ {x1 : Int32} {x2 : Int32} {x4 : Int32} {σ : Hp},  L_V_ants_113  k145 n x1 x2 x4 σ = some res → Go wC v p l e R s m args below meth c 0 0 Q 6 113 [(0, .ref 0), (1, .int x1), (2, .int x2), (4, .int x4)] [] σ := by
  induction n with
  | zero => intro x1 x2 x4 σ  h; cases h
  | succ n ih =>
    intro x1 x2 x4 σ  h
    exact lkB_V_ants_113 hi xc nx X rt  hk145 (fun _ _ _ _  hh => ih  hh) h
set_option maxRecDepth 20000 in
theorem lkB_V_ants_150 (hi : zInj wC v) (xc : XC wC v) (nx : NXC v) (X : Cx wC v p R s m args c 0 0 cX11_ants 6 RX11 4) (rt : Rt wC v p l e R s m args below meth c 0 0 Q cX11_ants false (some (.int res.1)) res.2) {k180 : Int32 → Hp → Option (Int32 × Hp)} {k150 : Int32 → Int32 → Hp → Option (Int32 × Hp)} {x2 : Int32} {x4 : Int32} {σ : Hp}  (hk180 : ∀ (x2 : Int32) (σ : Hp),  k180 x2 σ = some res → Go wC v p l e R s m args below meth c 0 0 Q 6 180 [(0, .ref 0), (2, .int x2)] [] σ) (hk150 : ∀ (x2 : Int32) (x4 : Int32) (σ : Hp),  k150 x2 x4 σ = some res → Go wC v p l e R s m args below meth c 0 0 Q 6 150 [(0, .ref 0), (2, .int x2), (4, .int x4)] [] σ) (h : B_V_ants_150  k180 k150 x2 x4 σ = some res) : Go wC v p l e R s m args below meth c 0 0 Q 6 150 [(0, .ref 0), (2, .int x2), (4, .int x4)] [] σ := by
  unfold B_V_ants_150 at h
  refine go_iload X 2 (dk dt_V_ants_5 1 rfl) rfl ?_
  refine go_if_lt (tgt := 180) X (dk dt_V_ants_5 2 rfl) (by decide) h (fun h => ?_) (fun h => ?_)
  · refine go_sub [0, 1] rfl ?_
    exact hk180 _ _  h
  · refine go_aload_n X 0 (dk dt_V_ants_5 3 rfl) rfl rfl ?_
    refine go_getr X fo_X11_88 lC_0 sC_0 fC_0_13 (dk dt_V_ants_5 4 rfl) ?_
    refine go_iload X 2 (dk dt_V_ants_5 5 rfl) rfl ?_
    refine go_dup2 X (dk dt_V_ants_5 6 rfl) rfl rfl ?_
    refine go_iald X lC_41 sC_41 (dk dt_V_ants_5 7 rfl) h (fun h => ?_)
    refine go_aload_n X 0 (dk dt_V_ants_5 8 rfl) rfl rfl ?_
    refine go_getr X fo_X11_88 lC_0 sC_0 fC_0_13 (dk dt_V_ants_5 9 rfl) ?_
    refine go_iload X 2 (dk dt_V_ants_5 10 rfl) rfl ?_
    refine go_iconst X (dk dt_V_ants_5 11 rfl) ci_1 ?_
    refine go_iadd X (dk dt_V_ants_5 12 rfl) ?_
    refine go_iald X lC_41 sC_41 (dk dt_V_ants_5 13 rfl) h (fun h => ?_)
    refine go_iadd X (dk dt_V_ants_5 14 rfl) ?_
    refine go_iast X lC_41 sC_41 (dk dt_V_ants_5 15 rfl) h (fun h => ?_)
    refine go_iinc (lv' := [(4, .int (x4 + (-1 : Int32))), (0, .ref 0), (2, .int x2)]) X 2 (dk dt_V_ants_6 0 rfl) rfl ci_m1 (by decide) rfl ?_
    refine go_goto (tgt := 150) X (dk dt_V_ants_6 1 rfl) (by decide) ?_
    refine go_sub [1, 2, 0] rfl ?_
    exact hk150 _ _ _  h
set_option maxRecDepth 20000 in
theorem lkL_V_ants_150 (hi : zInj wC v) (xc : XC wC v) (nx : NXC v) (X : Cx wC v p R s m args c 0 0 cX11_ants 6 RX11 4) (rt : Rt wC v p l e R s m args below meth c 0 0 Q cX11_ants false (some (.int res.1)) res.2) {k180 : Int32 → Hp → Option (Int32 × Hp)} (hk180 : ∀ (x2 : Int32) (σ : Hp),  k180 x2 σ = some res → Go wC v p l e R s m args below meth c 0 0 Q 6 180 [(0, .ref 0), (2, .int x2)] [] σ) (n : Nat) : ∀ {x2 : Int32} {x4 : Int32} {σ : Hp},  L_V_ants_150  k180 n x2 x4 σ = some res → Go wC v p l e R s m args below meth c 0 0 Q 6 150 [(0, .ref 0), (2, .int x2), (4, .int x4)] [] σ := by
  induction n with
  | zero => intro x2 x4 σ  h; cases h
  | succ n ih =>
    intro x2 x4 σ  h
    exact lkB_V_ants_150 hi xc nx X rt  hk180 (fun _ _ _  hh => ih  hh) h
set_option maxRecDepth 20000 in
theorem lkB_V_ants_199 (hi : zInj wC v) (xc : XC wC v) (nx : NXC v) (X : Cx wC v p R s m args c 0 0 cX11_ants 6 RX11 4) (rt : Rt wC v p l e R s m args below meth c 0 0 Q cX11_ants false (some (.int res.1)) res.2) {k199 : Int32 → Int32 → Hp → Option (Int32 × Hp)} {x4 : Int32} {x5 : Int32} {σ : Hp}  (hk199 : ∀ (x4 : Int32) (x5 : Int32) (σ : Hp),  k199 x4 x5 σ = some res → Go wC v p l e R s m args below meth c 0 0 Q 6 199 [(0, .ref 0), (4, .int x4), (5, .int x5)] [] σ) (h : B_V_ants_199  k199 x4 x5 σ = some res) : Go wC v p l e R s m args below meth c 0 0 Q 6 199 [(0, .ref 0), (4, .int x4), (5, .int x5)] [] σ := by
  unfold B_V_ants_199 at h
  refine go_iload X 2 (dk dt_V_ants_6 14 rfl) rfl ?_
  refine go_bipush X (dk dt_V_ants_6 15 rfl) cb_8 ?_
  refine go_icmp_ge (tgt := 238) X (dk dt_V_ants_7 0 rfl) (by decide) h (fun h => ?_) (fun h => ?_)
  · refine go_iload X 1 (dk dt_V_ants_8 0 rfl) rfl ?_
    exact go_iret rt (dk dt_V_ants_8 1 rfl) h (fun hh => nomatch hh)
  · refine go_aload_n X 0 (dk dt_V_ants_7 1 rfl) rfl rfl ?_
    refine go_getr X fo_X11_88 lC_0 sC_0 fC_0_13 (dk dt_V_ants_7 2 rfl) ?_
    refine go_iload X 2 (dk dt_V_ants_7 3 rfl) rfl ?_
    refine go_iald X lC_41 sC_41 (dk dt_V_ants_7 4 rfl) h (fun h => ?_)
    refine go_aload_n X 0 (dk dt_V_ants_7 5 rfl) rfl rfl ?_
    refine go_getr X fo_X11_88 lC_0 sC_0 fC_0_13 (dk dt_V_ants_7 6 rfl) ?_
    refine go_iload X 1 (dk dt_V_ants_7 7 rfl) rfl ?_
    refine go_iald X lC_41 sC_41 (dk dt_V_ants_7 8 rfl) h (fun h => ?_)
    refine go_icmp_le (tgt := 228) X (dk dt_V_ants_7 9 rfl) (by decide) h (fun h => ?_) (fun h => ?_)
    · refine go_iload X 1 (dk dt_V_ants_7 12 rfl) rfl ?_
      refine go_istore (lv' := [(4, .int x4), (0, .ref 0), (5, .int x5)]) X (dk dt_V_ants_7 13 rfl) (by decide) rfl ?_
      refine go_iinc (lv' := [(5, .int (x5 + (1 : Int32))), (4, .int x4), (0, .ref 0)]) X 2 (dk dt_V_ants_7 14 rfl) rfl ci_1 (by decide) rfl ?_
      refine go_goto (tgt := 199) X (dk dt_V_ants_7 15 rfl) (by decide) ?_
      refine go_sub [2, 1, 0] rfl ?_
      exact hk199 _ _ _  h
    · refine go_iload X 2 (dk dt_V_ants_7 10 rfl) rfl ?_
      refine go_goto (tgt := 230) X (dk dt_V_ants_7 11 rfl) (by decide) ?_
      refine go_istore (lv' := [(4, .int x5), (0, .ref 0), (5, .int x5)]) X (dk dt_V_ants_7 13 rfl) (by decide) rfl ?_
      refine go_iinc (lv' := [(5, .int (x5 + (1 : Int32))), (4, .int x5), (0, .ref 0)]) X 2 (dk dt_V_ants_7 14 rfl) rfl ci_1 (by decide) rfl ?_
      refine go_goto (tgt := 199) X (dk dt_V_ants_7 15 rfl) (by decide) ?_
      refine go_sub [2, 1, 0] rfl ?_
      exact hk199 _ _ _  h
set_option maxRecDepth 20000 in
theorem lkL_V_ants_199 (hi : zInj wC v) (xc : XC wC v) (nx : NXC v) (X : Cx wC v p R s m args c 0 0 cX11_ants 6 RX11 4) (rt : Rt wC v p l e R s m args below meth c 0 0 Q cX11_ants false (some (.int res.1)) res.2)   (n : Nat) : ∀ {x4 : Int32} {x5 : Int32} {σ : Hp},  L_V_ants_199   n x4 x5 σ = some res → Go wC v p l e R s m args below meth c 0 0 Q 6 199 [(0, .ref 0), (4, .int x4), (5, .int x5)] [] σ := by
  induction n with
  | zero => intro x4 x5 σ  h; cases h
  | succ n ih =>
    intro x4 x5 σ  h
    exact lkB_V_ants_199 hi xc nx X rt  (fun _ _ _  hh => ih  hh) h
set_option maxRecDepth 20000 in
theorem lkJ_V_ants_180 (hi : zInj wC v) (xc : XC wC v) (nx : NXC v) (X : Cx wC v p R s m args c 0 0 cX11_ants 6 RX11 4) (rt : Rt wC v p l e R s m args below meth c 0 0 Q cX11_ants false (some (.int res.1)) res.2)  {x2 : Int32} {σ : Hp}   (h : J_V_ants_180   x2 σ = some res) : Go wC v p l e R s m args below meth c 0 0 Q 6 180 [(0, .ref 0), (2, .int x2)] [] σ := by
  unfold J_V_ants_180 at h
  refine go_iload_n X 1 (dk dt_V_ants_6 2 rfl) rfl rfl ?_
  refine go_bipush X (dk dt_V_ants_6 3 rfl) cb_8 ?_
  refine go_icmp_ge (tgt := 193) X (dk dt_V_ants_6 4 rfl) (by decide) h (fun h => ?_) (fun h => ?_)
  · refine go_iconst X (dk dt_V_ants_6 10 rfl) ci_0 ?_
    refine go_istore (lv' := [(4, .int (0 : Int32)), (0, .ref 0), (2, .int x2)]) X (dk dt_V_ants_6 11 rfl) (by decide) rfl ?_
    refine go_iconst X (dk dt_V_ants_6 12 rfl) ci_1 ?_
    refine go_istore (lv' := [(5, .int (1 : Int32)), (4, .int (0 : Int32)), (0, .ref 0), (2, .int x2)]) X (dk dt_V_ants_6 13 rfl) (by decide) rfl ?_
    refine go_sub [2, 1, 0] rfl ?_
    exact lkL_V_ants_199 hi xc nx X rt  FU  h
  · refine go_aload_n X 0 (dk dt_V_ants_6 5 rfl) rfl rfl ?_
    refine go_getr X fo_X11_88 lC_0 sC_0 fC_0_13 (dk dt_V_ants_6 6 rfl) ?_
    refine go_iload_n X 1 (dk dt_V_ants_6 7 rfl) rfl rfl ?_
    refine go_iald X lC_41 sC_41 (dk dt_V_ants_6 8 rfl) h (fun h => ?_)
    exact go_iret rt (dk dt_V_ants_6 9 rfl) h (fun hh => nomatch hh)
set_option maxRecDepth 20000 in
theorem lkJ_V_ants_145 (hi : zInj wC v) (xc : XC wC v) (nx : NXC v) (X : Cx wC v p R s m args c 0 0 cX11_ants 6 RX11 4) (rt : Rt wC v p l e R s m args below meth c 0 0 Q cX11_ants false (some (.int res.1)) res.2)  {x1 : Int32} {x2 : Int32} {σ : Hp}   (h : J_V_ants_145   x1 x2 σ = some res) : Go wC v p l e R s m args below meth c 0 0 Q 6 145 [(0, .ref 0), (1, .int x1), (2, .int x2)] [] σ := by
  unfold J_V_ants_145 at h
  refine go_iload_n X 1 (dk dt_V_ants_4 13 rfl) rfl rfl ?_
  refine go_iconst X (dk dt_V_ants_4 14 rfl) ci_1 ?_
  refine go_isub X (dk dt_V_ants_4 15 rfl) ?_
  refine go_istore (lv' := [(4, .int (x1 - (1 : Int32))), (0, .ref 0), (1, .int x1), (2, .int x2)]) X (dk dt_V_ants_5 0 rfl) (by decide) rfl ?_
  refine go_sub [1, 3, 0] rfl ?_
  exact lkL_V_ants_150 hi xc nx X rt (fun _ _  hh => lkJ_V_ants_180 hi xc nx X rt   hh) FU  h
set_option maxRecDepth 20000 in
theorem lkJ_V_ants_94 (hi : zInj wC v) (xc : XC wC v) (nx : NXC v) (X : Cx wC v p R s m args c 0 0 cX11_ants 6 RX11 4) (rt : Rt wC v p l e R s m args below meth c 0 0 Q cX11_ants false (some (.int res.1)) res.2)  {x1 : Int32} {x2 : Int32} {x3 : Int32} {σ : Hp}   (h : J_V_ants_94   x1 x2 x3 σ = some res) : Go wC v p l e R s m args below meth c 0 0 Q 6 94 [(0, .ref 0), (1, .int x1), (2, .int x2), (3, .int x3)] [] σ := by
  unfold J_V_ants_94 at h
  refine go_aload_n X 0 (dk dt_V_ants_3 0 rfl) rfl rfl ?_
  refine go_getr X fo_X11_32 lC_0 sC_0 fC_0_4 (dk dt_V_ants_3 1 rfl) ?_
  refine go_Vv (As := []) (rest := []) X vo_X11_158 (fun q hq => ct_X8_clear hi xc nx  hq) (by decide) rfl lC_23 sC_23 rfl rfl (Nat.le_of_ble_eq_true rfl) (dk dt_V_ants_3 2 rfl) h (fun q98 h => ?_)
  refine go_iload_n X 3 (dk dt_V_ants_3 3 rfl) rfl rfl ?_
  refine go_if_ne (tgt := 108) X (dk dt_V_ants_3 4 rfl) (by decide) h (fun h => ?_) (fun h => ?_)
  · refine go_iload_n X 1 (dk dt_V_ants_3 7 rfl) rfl rfl ?_
    refine go_iconst X (dk dt_V_ants_3 8 rfl) ci_1 ?_
    refine go_iadd X (dk dt_V_ants_3 9 rfl) ?_
    refine go_istore (lv' := [(4, .int (x1 + (1 : Int32))), (0, .ref 0), (1, .int x1), (2, .int x2), (3, .int x3)]) X (dk dt_V_ants_3 10 rfl) (by decide) rfl ?_
    refine go_sub [1, 2, 3, 0] rfl ?_
    exact lkL_V_ants_113 hi xc nx X rt (fun _ _ _  hh => lkJ_V_ants_145 hi xc nx X rt   hh) FU  h
  · refine go_bipush X (dk dt_V_ants_3 5 rfl) cb_m2 ?_
    exact go_iret rt (dk dt_V_ants_3 6 rfl) h (fun hh => nomatch hh)
set_option maxRecDepth 20000 in
theorem lkF_V_ants (hi : zInj wC v) (xc : XC wC v) (nx : NXC v) (X : Cx wC v p R s m args c 0 0 cX11_ants 6 RX11 4) (rt : Rt wC v p l e R s m args below meth c 0 0 Q cX11_ants false (some (.int res.1)) res.2) {a1 : Int32} {a2 : Int32} {σ : Hp}  (h : F_V_ants  a1 a2 σ = some res) : Go wC v p l e R s m args below meth c 0 0 Q 6 0 [(0, .ref 0), (1, .int a1), (2, .int a2)] [] σ := by
  unfold F_V_ants at h
  refine go_iload_n X 1 (dk dt_V_ants_0 0 rfl) rfl rfl ?_
  refine go_iconst X (dk dt_V_ants_0 1 rfl) ci_0 ?_
  refine go_bipush X (dk dt_V_ants_0 2 rfl) cb_7 ?_
  refine go_Si (As := [.int a1, .int (0 : Int32), .int (7 : Int32)]) (rest := []) X so_X11_119 (fun q hq => ct_V_within hi xc nx  hq) (by decide) rfl rfl (Nat.le_of_ble_eq_true rfl) (dk dt_V_ants_0 3 rfl) h (fun q4 h => ?_)
  refine go_if_eq (tgt := 32) X (dk dt_V_ants_0 4 rfl) (by decide) h (fun h => ?_) (fun h => ?_)
  · refine go_iconst X (dk dt_V_ants_0 15 rfl) ci_m1 ?_
    exact go_iret rt (dk dt_V_ants_1 0 rfl) h (fun hh => nomatch hh)
  · refine go_iload_n X 2 (dk dt_V_ants_0 5 rfl) rfl rfl ?_
    refine go_iconst X (dk dt_V_ants_0 6 rfl) ci_0 ?_
    refine go_bipush X (dk dt_V_ants_0 7 rfl) cb_8 ?_
    refine go_Si (As := [.int a2, .int (0 : Int32), .int (8 : Int32)]) (rest := []) X so_X11_119 (fun q hq => ct_V_within hi xc nx  hq) (by decide) rfl rfl (Nat.le_of_ble_eq_true rfl) (dk dt_V_ants_0 8 rfl) h (fun q14 h => ?_)
    refine go_if_eq (tgt := 32) X (dk dt_V_ants_0 9 rfl) (by decide) h (fun h => ?_) (fun h => ?_)
    · refine go_iconst X (dk dt_V_ants_0 15 rfl) ci_m1 ?_
      exact go_iret rt (dk dt_V_ants_1 0 rfl) h (fun hh => nomatch hh)
    · refine go_aload_n X 0 (dk dt_V_ants_0 10 rfl) rfl rfl ?_
      refine go_getr X fo_X11_32 lC_0 sC_0 fC_0_4 (dk dt_V_ants_0 11 rfl) ?_
      refine go_bipush X (dk dt_V_ants_0 12 rfl) cb_8 ?_
      refine go_Vi (As := [.int (8 : Int32)]) (rest := []) X vo_X11_151 (fun q hq => ct_X8_has hi xc nx  hq) (by decide) rfl lC_23 sC_23 rfl rfl (Nat.le_of_ble_eq_true rfl) (dk dt_V_ants_0 13 rfl) h (fun q26 h => ?_)
      refine go_if_ne (tgt := 34) X (dk dt_V_ants_0 14 rfl) (by decide) h (fun h => ?_) (fun h => ?_)
      · refine go_iconst X (dk dt_V_ants_1 1 rfl) ci_1 ?_
        refine go_istore_n (lv' := [(3, .int (1 : Int32)), (0, .ref 0), (1, .int a1), (2, .int a2)]) X (dk dt_V_ants_1 2 rfl) rfl (by decide) rfl ?_
        refine go_iconst X (dk dt_V_ants_1 3 rfl) ci_0 ?_
        refine go_istore (lv' := [(4, .int (0 : Int32)), (3, .int (1 : Int32)), (0, .ref 0), (1, .int a1), (2, .int a2)]) X (dk dt_V_ants_1 4 rfl) (by decide) rfl ?_
        refine go_sub [2, 3, 4, 1, 0] rfl ?_
        exact lkL_V_ants_39 hi xc nx X rt (fun _ _ _ _  hh => lkJ_V_ants_94 hi xc nx X rt   hh) FU  h
      · refine go_iconst X (dk dt_V_ants_0 15 rfl) ci_m1 ?_
        exact go_iret rt (dk dt_V_ants_1 0 rfl) h (fun hh => nomatch hh)
set_option maxRecDepth 20000 in
theorem ct_V_ants (hi : zInj wC v) (xc : XC wC v) (nx : NXC v)  {a1 : Int32} {a2 : Int32} {σ : Hp}  {q : (Int32 × Hp)} (h : F_V_ants  a1 a2 σ = some q) : Ct wC v l yX11_ants cX11_ants 6 (some .int) 4 [.ref 0, .int a1, .int a2] σ (some (.int q.1)) q.2 :=
  Ct.intro false (by decide) hi xc (Nat.le_of_ble_eq_true rfl) rfl (fun p e R s m args below meth c Q X rt => lkF_V_ants hi xc nx X rt  h)
end
def T_V_isSide_0 : DT := [(0, .iload_n 0, 1), (1, .ifCond .eq 8, 3), (4, .iload_n 0, 1), (5, .iconst 1, 1), (6, .if_icmp .ne 7, 3), (9, .iconst 1, 1), (10, .goto 4, 3), (13, .iconst 0, 1), (14, .ireturn, 1)]
theorem dt_V_isSide_0 : dOk cX11_isSide T_V_isSide_0 := by unfold dOk; decide +kernel
section
variable {v : ZV} {l : Launch} {p : Program} {e : Env} {R : Room} {s : State} {m : MethodId} {args : Array Value} {below : List Frame} {meth : Method} {c : Code} {Q : State → Prop} {res : (Int32 × Hp)} 
set_option maxRecDepth 20000 in
theorem lkF_V_isSide (hi : zInj wC v) (xc : XC wC v) (nx : NXC v) (X : Cx wC v p R s m args c 0 0 cX11_isSide 1 RX11 2) (rt : Rt wC v p l e R s m args below meth c 0 0 Q cX11_isSide true (some (.int res.1)) res.2) {a0 : Int32} {σ : Hp}  (h : F_V_isSide  a0 σ = some res) : Go wC v p l e R s m args below meth c 0 0 Q 1 0 [(0, .int a0)] [] σ := by
  unfold F_V_isSide at h
  refine go_iload_n X 0 (dk dt_V_isSide_0 0 rfl) rfl rfl ?_
  refine go_if_eq (tgt := 9) X (dk dt_V_isSide_0 1 rfl) (by decide) h (fun h => ?_) (fun h => ?_)
  · refine go_iconst X (dk dt_V_isSide_0 5 rfl) ci_1 ?_
    refine go_goto (tgt := 14) X (dk dt_V_isSide_0 6 rfl) (by decide) ?_
    exact go_iret rt (dk dt_V_isSide_0 8 rfl) h (by decide)
  · refine go_iload_n X 0 (dk dt_V_isSide_0 2 rfl) rfl rfl ?_
    refine go_iconst X (dk dt_V_isSide_0 3 rfl) ci_1 ?_
    refine go_icmp_ne (tgt := 13) X (dk dt_V_isSide_0 4 rfl) (by decide) h (fun h => ?_) (fun h => ?_)
    · refine go_iconst X (dk dt_V_isSide_0 7 rfl) ci_0 ?_
      exact go_iret rt (dk dt_V_isSide_0 8 rfl) h (by decide)
    · refine go_iconst X (dk dt_V_isSide_0 5 rfl) ci_1 ?_
      refine go_goto (tgt := 14) X (dk dt_V_isSide_0 6 rfl) (by decide) ?_
      exact go_iret rt (dk dt_V_isSide_0 8 rfl) h (by decide)
set_option maxRecDepth 20000 in
theorem ct_V_isSide (hi : zInj wC v) (xc : XC wC v) (nx : NXC v)  {a0 : Int32} {σ : Hp}  {q : (Int32 × Hp)} (h : F_V_isSide  a0 σ = some q) : Ct wC v l yX11_isSide cX11_isSide 1 (some .boolean) 2 [.int a0] σ (some (.int q.1)) q.2 :=
  Ct.intro true (by decide) hi xc (Nat.le_of_ble_eq_true rfl) rfl (fun p e R s m args below meth c Q X rt => lkF_V_isSide hi xc nx X rt  h)
end
def T_V_signalsOf_0 : DT := [(0, .iload_n 1, 1), (1, .ifCond .ne 10, 3), (4, .aload_n 0, 1), (5, .getfield 57, 3), (8, .goto 7, 3), (11, .aload_n 0, 1), (12, .getfield 61, 3), (15, .areturn, 1)]
theorem dt_V_signalsOf_0 : dOk cX11_signalsOf T_V_signalsOf_0 := by unfold dOk; decide +kernel
section
variable {v : ZV} {l : Launch} {p : Program} {e : Env} {R : Room} {s : State} {m : MethodId} {args : Array Value} {below : List Frame} {meth : Method} {c : Code} {Q : State → Prop} {res : (Nat × Hp)} 
set_option maxRecDepth 20000 in
theorem lkF_V_signalsOf (hi : zInj wC v) (xc : XC wC v) (nx : NXC v) (X : Cx wC v p R s m args c 0 0 cX11_signalsOf 2 RX11 2) (rt : Rt wC v p l e R s m args below meth c 0 0 Q cX11_signalsOf false (some (.ref res.1)) res.2) {a1 : Int32} {σ : Hp}  (h : F_V_signalsOf  a1 σ = some res) : Go wC v p l e R s m args below meth c 0 0 Q 2 0 [(0, .ref 0), (1, .int a1)] [] σ := by
  unfold F_V_signalsOf at h
  refine go_iload_n X 1 (dk dt_V_signalsOf_0 0 rfl) rfl rfl ?_
  refine go_if_ne (tgt := 11) X (dk dt_V_signalsOf_0 1 rfl) (by decide) h (fun h => ?_) (fun h => ?_)
  · refine go_aload_n X 0 (dk dt_V_signalsOf_0 5 rfl) rfl rfl ?_
    refine go_getr X fo_X11_61 lC_0 sC_0 fC_0_8 (dk dt_V_signalsOf_0 6 rfl) ?_
    exact go_aret rt (dk dt_V_signalsOf_0 7 rfl) h
  · refine go_aload_n X 0 (dk dt_V_signalsOf_0 2 rfl) rfl rfl ?_
    refine go_getr X fo_X11_57 lC_0 sC_0 fC_0_7 (dk dt_V_signalsOf_0 3 rfl) ?_
    refine go_goto (tgt := 15) X (dk dt_V_signalsOf_0 4 rfl) (by decide) ?_
    exact go_aret rt (dk dt_V_signalsOf_0 7 rfl) h
set_option maxRecDepth 20000 in
theorem ct_V_signalsOf (hi : zInj wC v) (xc : XC wC v) (nx : NXC v)  {a1 : Int32} {σ : Hp}  {q : (Nat × Hp)} (h : F_V_signalsOf  a1 σ = some q) : Ct wC v l yX11_signalsOf cX11_signalsOf 2 (some (.object "VerandaWar$Signals")) 2 [.ref 0, .int a1] σ (some (.ref q.1)) q.2 :=
  Ct.intro false (by decide) hi xc (Nat.le_of_ble_eq_true rfl) ⟨_, rfl⟩ (fun p e R s m args below meth c Q X rt => lkF_V_signalsOf hi xc nx X rt  h)
end
def T_X7_repeatsAfter_0 : DT := [(0, .iconst 0, 1), (1, .istore_n 2, 1), (2, .iload_n 2, 1), (3, .iload_n 1, 1), (4, .iadd, 1), (5, .aload_n 0, 1), (6, .getfield 15, 3), (9, .if_icmp .ge 28, 3), (12, .aload_n 0, 1), (13, .getfield 11, 3), (16, .iload_n 2, 1), (17, .iaload, 1), (18, .aload_n 0, 1), (19, .getfield 11, 3), (22, .iload_n 2, 1), (23, .iload_n 1, 1)]
theorem dt_X7_repeatsAfter_0 : dOk cX7_repeatsAfter T_X7_repeatsAfter_0 := by unfold dOk; decide +kernel
def T_X7_repeatsAfter_1 : DT := [(24, .iadd, 1), (25, .iaload, 1), (26, .if_icmp .eq 5, 3), (29, .iconst 0, 1), (30, .ireturn, 1), (31, .iinc 2 1, 3), (34, .goto (-32), 3), (37, .iconst 1, 1), (38, .ireturn, 1)]
theorem dt_X7_repeatsAfter_1 : dOk cX7_repeatsAfter T_X7_repeatsAfter_1 := by unfold dOk; decide +kernel
section
variable {v : ZV} {l : Launch} {p : Program} {e : Env} {R : Room} {s : State} {m : MethodId} {args : Array Value} {below : List Frame} {meth : Method} {c : Code} {Q : State → Prop} {res : (Int32 × Hp)} 
set_option maxRecDepth 20000 in
theorem lkB_X7_repeatsAfter_2 (hi : zInj wC v) (xc : XC wC v) (nx : NXC v) (X : Cx wC v p R s m args c 0 0 cX7_repeatsAfter 3 RX7 2) (rt : Rt wC v p l e R s m args below meth c 0 0 Q cX7_repeatsAfter true (some (.int res.1)) res.2) {k2 : Nat → Int32 → Int32 → Hp → Option (Int32 × Hp)} {r0 : Nat} {x1 : Int32} {x2 : Int32} {σ : Hp} (hr0 : isS r0 = true) (hk2 : ∀ (r0 : Nat) (x1 : Int32) (x2 : Int32) (σ : Hp), (hr0 : isS r0 = true) → k2 r0 x1 x2 σ = some res → Go wC v p l e R s m args below meth c 0 0 Q 3 2 [(0, .ref r0), (1, .int x1), (2, .int x2)] [] σ) (h : B_X7_repeatsAfter_2  k2 r0 x1 x2 σ = some res) : Go wC v p l e R s m args below meth c 0 0 Q 3 2 [(0, .ref r0), (1, .int x1), (2, .int x2)] [] σ := by
  unfold B_X7_repeatsAfter_2 at h
  refine go_iload_n X 2 (dk dt_X7_repeatsAfter_0 2 rfl) rfl rfl ?_
  refine go_iload_n X 1 (dk dt_X7_repeatsAfter_0 3 rfl) rfl rfl ?_
  refine go_iadd X (dk dt_X7_repeatsAfter_0 4 rfl) ?_
  refine go_aload_n X 0 (dk dt_X7_repeatsAfter_0 5 rfl) rfl rfl ?_
  refine go_geti X fo_X7_15 (lS hr0) (sS hr0) (fS_1 hr0) (dk dt_X7_repeatsAfter_0 6 rfl) ?_
  refine go_icmp_ge (tgt := 37) X (dk dt_X7_repeatsAfter_0 7 rfl) (by decide) h (fun h => ?_) (fun h => ?_)
  · refine go_iconst X (dk dt_X7_repeatsAfter_1 7 rfl) ci_1 ?_
    exact go_iret rt (dk dt_X7_repeatsAfter_1 8 rfl) h (by decide)
  · refine go_aload_n X 0 (dk dt_X7_repeatsAfter_0 8 rfl) rfl rfl ?_
    refine go_getr X fo_X7_11 (lS hr0) (sS hr0) (fS_0 hr0) (dk dt_X7_repeatsAfter_0 9 rfl) ?_
    refine go_iload_n X 2 (dk dt_X7_repeatsAfter_0 10 rfl) rfl rfl ?_
    refine go_iald X (lSa_1 hr0) (sSa_1 hr0) (dk dt_X7_repeatsAfter_0 11 rfl) h (fun h => ?_)
    refine go_aload_n X 0 (dk dt_X7_repeatsAfter_0 12 rfl) rfl rfl ?_
    refine go_getr X fo_X7_11 (lS hr0) (sS hr0) (fS_0 hr0) (dk dt_X7_repeatsAfter_0 13 rfl) ?_
    refine go_iload_n X 2 (dk dt_X7_repeatsAfter_0 14 rfl) rfl rfl ?_
    refine go_iload_n X 1 (dk dt_X7_repeatsAfter_0 15 rfl) rfl rfl ?_
    refine go_iadd X (dk dt_X7_repeatsAfter_1 0 rfl) ?_
    refine go_iald X (lSa_1 hr0) (sSa_1 hr0) (dk dt_X7_repeatsAfter_1 1 rfl) h (fun h => ?_)
    refine go_icmp_eq (tgt := 31) X (dk dt_X7_repeatsAfter_1 2 rfl) (by decide) h (fun h => ?_) (fun h => ?_)
    · refine go_iinc (lv' := [(2, .int (x2 + (1 : Int32))), (0, .ref r0), (1, .int x1)]) X 2 (dk dt_X7_repeatsAfter_1 5 rfl) rfl ci_1 (by decide) rfl ?_
      refine go_goto (tgt := 2) X (dk dt_X7_repeatsAfter_1 6 rfl) (by decide) ?_
      refine go_sub [1, 2, 0] rfl ?_
      exact hk2 _ _ _ _ hr0 h
    · refine go_iconst X (dk dt_X7_repeatsAfter_1 3 rfl) ci_0 ?_
      exact go_iret rt (dk dt_X7_repeatsAfter_1 4 rfl) h (by decide)
set_option maxRecDepth 20000 in
theorem lkL_X7_repeatsAfter_2 (hi : zInj wC v) (xc : XC wC v) (nx : NXC v) (X : Cx wC v p R s m args c 0 0 cX7_repeatsAfter 3 RX7 2) (rt : Rt wC v p l e R s m args below meth c 0 0 Q cX7_repeatsAfter true (some (.int res.1)) res.2)   (n : Nat) : ∀ {r0 : Nat} {x1 : Int32} {x2 : Int32} {σ : Hp}, (hr0 : isS r0 = true) → L_X7_repeatsAfter_2   n r0 x1 x2 σ = some res → Go wC v p l e R s m args below meth c 0 0 Q 3 2 [(0, .ref r0), (1, .int x1), (2, .int x2)] [] σ := by
  induction n with
  | zero => intro r0 x1 x2 σ hr0 h; cases h
  | succ n ih =>
    intro r0 x1 x2 σ hr0 h
    exact lkB_X7_repeatsAfter_2 hi xc nx X rt hr0 (fun _ _ _ _ hq0 hh => ih hq0 hh) h
set_option maxRecDepth 20000 in
theorem lkF_X7_repeatsAfter (hi : zInj wC v) (xc : XC wC v) (nx : NXC v) (X : Cx wC v p R s m args c 0 0 cX7_repeatsAfter 3 RX7 2) (rt : Rt wC v p l e R s m args below meth c 0 0 Q cX7_repeatsAfter true (some (.int res.1)) res.2) {t : Nat} {a1 : Int32} {σ : Hp} (ht : isS t = true) (h : F_X7_repeatsAfter  t a1 σ = some res) : Go wC v p l e R s m args below meth c 0 0 Q 3 0 [(0, .ref t), (1, .int a1)] [] σ := by
  unfold F_X7_repeatsAfter at h
  refine go_iconst X (dk dt_X7_repeatsAfter_0 0 rfl) ci_0 ?_
  refine go_istore_n (lv' := [(2, .int (0 : Int32)), (0, .ref t), (1, .int a1)]) X (dk dt_X7_repeatsAfter_0 1 rfl) rfl (by decide) rfl ?_
  refine go_sub [1, 2, 0] rfl ?_
  exact lkL_X7_repeatsAfter_2 hi xc nx X rt  FU ht h
set_option maxRecDepth 20000 in
theorem ct_X7_repeatsAfter (hi : zInj wC v) (xc : XC wC v) (nx : NXC v)  {t : Nat} {a1 : Int32} {σ : Hp} (ht : isS t = true) {q : (Int32 × Hp)} (h : F_X7_repeatsAfter  t a1 σ = some q) : Ct wC v l yX7_repeatsAfter cX7_repeatsAfter 3 (some .boolean) 2 [.ref t, .int a1] σ (some (.int q.1)) q.2 :=
  Ct.intro true (by decide) hi xc (Nat.le_of_ble_eq_true rfl) rfl (fun p e R s m args below meth c Q X rt => lkF_X7_repeatsAfter hi xc nx X rt ht h)
end
def T_V_beat_0 : DT := [(0, .iload_n 1, 1), (1, .invokestatic 131, 3), (4, .ifCond .ne 5, 3), (7, .iconst (-1), 1), (8, .ireturn, 1), (9, .aload_n 0, 1), (10, .iload_n 1, 1), (11, .invokevirtual 180, 3), (14, .astore_n 2, 1), (15, .iconst 1, 1), (16, .istore_n 3, 1), (17, .iload_n 3, 1), (18, .aload_n 2, 1), (19, .getfield 187, 3), (22, .if_icmp .gt 19, 3), (25, .aload_n 2, 1)]
theorem dt_V_beat_0 : dOk cX11_beat T_V_beat_0 := by unfold dOk; decide +kernel
def T_V_beat_1 : DT := [(26, .iload_n 3, 1), (27, .invokevirtual 309, 3), (30, .ifCond .eq 5, 3), (33, .iload_n 3, 1), (34, .ireturn, 1), (35, .iinc 3 1, 3), (38, .goto (-21), 3), (41, .bipush (-2), 2), (43, .ireturn, 1)]
theorem dt_V_beat_1 : dOk cX11_beat T_V_beat_1 := by unfold dOk; decide +kernel
section
variable {v : ZV} {l : Launch} {p : Program} {e : Env} {R : Room} {s : State} {m : MethodId} {args : Array Value} {below : List Frame} {meth : Method} {c : Code} {Q : State → Prop} {res : (Int32 × Hp)} 
set_option maxRecDepth 20000 in
theorem lkB_V_beat_17 (hi : zInj wC v) (xc : XC wC v) (nx : NXC v) (X : Cx wC v p R s m args c 0 0 cX11_beat 4 RX11 4) (rt : Rt wC v p l e R s m args below meth c 0 0 Q cX11_beat false (some (.int res.1)) res.2) {k17 : Nat → Int32 → Hp → Option (Int32 × Hp)} {r2 : Nat} {x3 : Int32} {σ : Hp} (hr2 : isS r2 = true) (hk17 : ∀ (r2 : Nat) (x3 : Int32) (σ : Hp), (hr2 : isS r2 = true) → k17 r2 x3 σ = some res → Go wC v p l e R s m args below meth c 0 0 Q 4 17 [(2, .ref r2), (3, .int x3)] [] σ) (h : B_V_beat_17  k17 r2 x3 σ = some res) : Go wC v p l e R s m args below meth c 0 0 Q 4 17 [(2, .ref r2), (3, .int x3)] [] σ := by
  unfold B_V_beat_17 at h
  refine go_iload_n X 1 (dk dt_V_beat_0 11 rfl) rfl rfl ?_
  refine go_aload_n X 0 (dk dt_V_beat_0 12 rfl) rfl rfl ?_
  refine go_geti X fo_X11_187 (lS hr2) (sS hr2) (fS_1 hr2) (dk dt_V_beat_0 13 rfl) ?_
  refine go_icmp_gt (tgt := 41) X (dk dt_V_beat_0 14 rfl) (by decide) h (fun h => ?_) (fun h => ?_)
  · refine go_bipush X (dk dt_V_beat_1 7 rfl) cb_m2 ?_
    exact go_iret rt (dk dt_V_beat_1 8 rfl) h (fun hh => nomatch hh)
  · refine go_aload_n X 0 (dk dt_V_beat_0 15 rfl) rfl rfl ?_
    refine go_iload_n X 1 (dk dt_V_beat_1 0 rfl) rfl rfl ?_
    refine go_Vi (As := [.int x3]) (rest := []) X vo_X11_309 (fun q hq => ct_X7_repeatsAfter hi xc nx hr2 hq) (by decide) rfl (lS hr2) (sS hr2) rfl rfl (Nat.le_of_ble_eq_true rfl) (dk dt_V_beat_1 1 rfl) h (fun q27 h => ?_)
    refine go_if_eq (tgt := 35) X (dk dt_V_beat_1 2 rfl) (by decide) h (fun h => ?_) (fun h => ?_)
    · refine go_iinc (lv' := [(3, .int (x3 + (1 : Int32))), (2, .ref r2)]) X 1 (dk dt_V_beat_1 5 rfl) rfl ci_1 (by decide) rfl ?_
      refine go_goto (tgt := 17) X (dk dt_V_beat_1 6 rfl) (by decide) ?_
      refine go_sub [1, 0] rfl ?_
      exact hk17 _ _ _ hr2 h
    · refine go_iload_n X 1 (dk dt_V_beat_1 3 rfl) rfl rfl ?_
      exact go_iret rt (dk dt_V_beat_1 4 rfl) h (fun hh => nomatch hh)
set_option maxRecDepth 20000 in
theorem lkL_V_beat_17 (hi : zInj wC v) (xc : XC wC v) (nx : NXC v) (X : Cx wC v p R s m args c 0 0 cX11_beat 4 RX11 4) (rt : Rt wC v p l e R s m args below meth c 0 0 Q cX11_beat false (some (.int res.1)) res.2)   (n : Nat) : ∀ {r2 : Nat} {x3 : Int32} {σ : Hp}, (hr2 : isS r2 = true) → L_V_beat_17   n r2 x3 σ = some res → Go wC v p l e R s m args below meth c 0 0 Q 4 17 [(2, .ref r2), (3, .int x3)] [] σ := by
  induction n with
  | zero => intro r2 x3 σ hr2 h; cases h
  | succ n ih =>
    intro r2 x3 σ hr2 h
    exact lkB_V_beat_17 hi xc nx X rt hr2 (fun _ _ _ hq0 hh => ih hq0 hh) h
set_option maxRecDepth 20000 in
theorem lkF_V_beat (hi : zInj wC v) (xc : XC wC v) (nx : NXC v) (X : Cx wC v p R s m args c 0 0 cX11_beat 4 RX11 4) (rt : Rt wC v p l e R s m args below meth c 0 0 Q cX11_beat false (some (.int res.1)) res.2) {a1 : Int32} {σ : Hp}  (h : F_V_beat  a1 σ = some res) : Go wC v p l e R s m args below meth c 0 0 Q 4 0 [(0, .ref 0), (1, .int a1)] [] σ := by
  unfold F_V_beat at h
  refine go_iload_n X 1 (dk dt_V_beat_0 0 rfl) rfl rfl ?_
  refine go_Si (As := [.int a1]) (rest := []) X so_X11_131 (fun q hq => ct_V_isSide hi xc nx  hq) (by decide) rfl rfl (Nat.le_of_ble_eq_true rfl) (dk dt_V_beat_0 1 rfl) h (fun q1 h => ?_)
  refine go_if_ne (tgt := 9) X (dk dt_V_beat_0 2 rfl) (by decide) h (fun h => ?_) (fun h => ?_)
  · refine go_aload_n X 0 (dk dt_V_beat_0 5 rfl) rfl rfl ?_
    refine go_iload_n X 1 (dk dt_V_beat_0 6 rfl) rfl rfl ?_
    refine go_Vr (As := [.int a1]) (rest := []) X vo_X11_180 (fun q hq => ct_V_signalsOf hi xc nx  hq) (by decide) rfl lC_0 sC_0 rfl rfl (Nat.le_of_ble_eq_true rfl) (dk dt_V_beat_0 7 rfl) h (fun q11 h => ?_)
    obtain ⟨g1, h⟩ := gd_some h
    refine go_astore_n (lv' := [(2, .ref q11.1), (0, .ref 0), (1, .int a1)]) X (dk dt_V_beat_0 8 rfl) rfl (by decide) rfl ?_
    refine go_iconst X (dk dt_V_beat_0 9 rfl) ci_1 ?_
    refine go_istore_n (lv' := [(3, .int (1 : Int32)), (2, .ref q11.1), (0, .ref 0), (1, .int a1)]) X (dk dt_V_beat_0 10 rfl) rfl (by decide) rfl ?_
    refine go_sub [1, 0] rfl ?_
    exact lkL_V_beat_17 hi xc nx X rt  FU g1 h
  · refine go_iconst X (dk dt_V_beat_0 3 rfl) ci_m1 ?_
    exact go_iret rt (dk dt_V_beat_0 4 rfl) h (fun hh => nomatch hh)
set_option maxRecDepth 20000 in
theorem ct_V_beat (hi : zInj wC v) (xc : XC wC v) (nx : NXC v)  {a1 : Int32} {σ : Hp}  {q : (Int32 × Hp)} (h : F_V_beat  a1 σ = some q) : Ct wC v l yX11_beat cX11_beat 4 (some .int) 4 [.ref 0, .int a1] σ (some (.int q.1)) q.2 :=
  Ct.intro false (by decide) hi xc (Nat.le_of_ble_eq_true rfl) rfl (fun p e R s m args below meth c Q X rt => lkF_V_beat hi xc nx X rt  h)
end
def T_X0_deal_0 : DT := [(0, .aload_n 0, 1), (1, .iload_n 3, 1), (2, .putfield 15, 3), (5, .aload_n 0, 1), (6, .iconst 0, 1), (7, .putfield 19, 3), (10, .lconst 0, 1), (11, .lstore 4, 2), (13, .iconst 0, 1), (14, .istore 6, 2), (16, .iload 6, 2), (18, .iconst 4, 1), (19, .iload_n 2, 1), (20, .imul, 1), (21, .if_icmp .ge 97, 3), (24, .iload_n 2, 1)]
theorem dt_X0_deal_0 : dOk cX0_deal T_X0_deal_0 := by unfold dOk; decide +kernel
def T_X0_deal_1 : DT := [(25, .iconst 1, 1), (26, .if_icmp .lt 92, 3), (29, .iload_n 2, 1), (30, .iconst 3, 1), (31, .if_icmp .gt 87, 3), (34, .aload_n 1, 1), (35, .iload 6, 2), (37, .invokevirtual 28, 3), (40, .istore 7, 2), (42, .iload 7, 2), (44, .ifCond .lt 22, 3), (47, .iload 7, 2), (49, .bipush 51, 2), (51, .if_icmp .gt 15, 3), (54, .lload 4, 2), (56, .iload 7, 2)]
theorem dt_X0_deal_1 : dOk cX0_deal T_X0_deal_1 := by unfold dOk; decide +kernel
def T_X0_deal_2 : DT := [(58, .lshr, 1), (59, .lconst 1, 1), (60, .land, 1), (61, .lconst 1, 1), (62, .lcmp, 1), (63, .ifCond .ne 5, 3), (66, .iconst 0, 1), (67, .ireturn, 1), (68, .lload 4, 2), (70, .lconst 1, 1), (71, .iload 7, 2), (73, .lshl, 1), (74, .lor, 1), (75, .lstore 4, 2), (77, .iload 6, 2), (79, .iload_n 2, 1)]
theorem dt_X0_deal_2 : dOk cX0_deal T_X0_deal_2 := by unfold dOk; decide +kernel
def T_X0_deal_3 : DT := [(80, .idiv, 1), (81, .iconst 3, 1), (82, .imul, 1), (83, .iload 6, 2), (85, .iload_n 2, 1), (86, .irem, 1), (87, .iadd, 1), (88, .istore 8, 2), (90, .aload_n 0, 1), (91, .getfield 11, 3), (94, .iload 8, 2), (96, .iload 7, 2), (98, .iastore, 1), (99, .aload_n 0, 1), (100, .dup, 1), (101, .getfield 19, 3)]
theorem dt_X0_deal_3 : dOk cX0_deal T_X0_deal_3 := by unfold dOk; decide +kernel
def T_X0_deal_4 : DT := [(104, .iconst 1, 1), (105, .iload 8, 2), (107, .ishl, 1), (108, .ior, 1), (109, .putfield 19, 3), (112, .iinc 6 1, 3), (115, .goto (-99), 3), (118, .iconst 1, 1), (119, .ireturn, 1)]
theorem dt_X0_deal_4 : dOk cX0_deal T_X0_deal_4 := by unfold dOk; decide +kernel
section
variable {v : ZV} {l : Launch} {p : Program} {e : Env} {R : Room} {s : State} {m : MethodId} {args : Array Value} {below : List Frame} {meth : Method} {c : Code} {Q : State → Prop} {res : (Int32 × Hp)} 
set_option maxRecDepth 20000 in
theorem lkB_X0_deal_16 (hi : zInj wC v) (xc : XC wC v) (nx : NXC v) (X : Cx wC v p R s m args c 0 0 cX0_deal 9 RX0 4) (rt : Rt wC v p l e R s m args below meth c 0 0 Q cX0_deal true (some (.int res.1)) res.2) {k16 : Int32 → Int64 → Int32 → Hp → Option (Int32 × Hp)} {x2 : Int32} {y4 : Int64} {x6 : Int32} {σ : Hp}  (hk16 : ∀ (x2 : Int32) (y4 : Int64) (x6 : Int32) (σ : Hp),  k16 x2 y4 x6 σ = some res → Go wC v p l e R s m args below meth c 0 0 Q 9 16 [(0, .ref 39), (1, .ref 23), (2, .int x2), (4, .long y4), (6, .int x6)] [] σ) (h : B_X0_deal_16  k16 x2 y4 x6 σ = some res) : Go wC v p l e R s m args below meth c 0 0 Q 9 16 [(0, .ref 39), (1, .ref 23), (2, .int x2), (4, .long y4), (6, .int x6)] [] σ := by
  unfold B_X0_deal_16 at h
  refine go_iload X 4 (dk dt_X0_deal_0 10 rfl) rfl ?_
  refine go_iconst X (dk dt_X0_deal_0 11 rfl) ci_4 ?_
  refine go_iload_n X 2 (dk dt_X0_deal_0 12 rfl) rfl rfl ?_
  refine go_imul X (dk dt_X0_deal_0 13 rfl) ?_
  refine go_icmp_ge (tgt := 118) X (dk dt_X0_deal_0 14 rfl) (by decide) h (fun h => ?_) (fun h => ?_)
  · refine go_iconst X (dk dt_X0_deal_4 7 rfl) ci_1 ?_
    exact go_iret rt (dk dt_X0_deal_4 8 rfl) h (by decide)
  · refine go_iload_n X 2 (dk dt_X0_deal_0 15 rfl) rfl rfl ?_
    refine go_iconst X (dk dt_X0_deal_1 0 rfl) ci_1 ?_
    refine go_icmp_lt (tgt := 118) X (dk dt_X0_deal_1 1 rfl) (by decide) h (fun h => ?_) (fun h => ?_)
    · refine go_iconst X (dk dt_X0_deal_4 7 rfl) ci_1 ?_
      exact go_iret rt (dk dt_X0_deal_4 8 rfl) h (by decide)
    · refine go_iload_n X 2 (dk dt_X0_deal_1 2 rfl) rfl rfl ?_
      refine go_iconst X (dk dt_X0_deal_1 3 rfl) ci_3 ?_
      refine go_icmp_gt (tgt := 118) X (dk dt_X0_deal_1 4 rfl) (by decide) h (fun h => ?_) (fun h => ?_)
      · refine go_iconst X (dk dt_X0_deal_4 7 rfl) ci_1 ?_
        exact go_iret rt (dk dt_X0_deal_4 8 rfl) h (by decide)
      · refine go_aload_n X 1 (dk dt_X0_deal_1 5 rfl) rfl rfl ?_
        refine go_iload X 4 (dk dt_X0_deal_1 6 rfl) rfl ?_
        refine go_Vi (As := [.int x6]) (rest := []) X vo_X0_28 (fun q hq => ct_X8_byteAt hi xc nx  hq) (by decide) rfl lC_23 sC_23 rfl rfl (Nat.le_of_ble_eq_true rfl) (dk dt_X0_deal_1 7 rfl) h (fun q37 h => ?_)
        refine go_istore (lv' := [(7, .int q37.1), (0, .ref 39), (1, .ref 23), (2, .int x2), (4, .long y4), (6, .int x6)]) X (dk dt_X0_deal_1 8 rfl) (by decide) rfl ?_
        refine go_iload X 0 (dk dt_X0_deal_1 9 rfl) rfl ?_
        refine go_if_lt (tgt := 66) X (dk dt_X0_deal_1 10 rfl) (by decide) h (fun h => ?_) (fun h => ?_)
        · refine go_iconst X (dk dt_X0_deal_2 6 rfl) ci_0 ?_
          exact go_iret rt (dk dt_X0_deal_2 7 rfl) h (by decide)
        · refine go_iload X 0 (dk dt_X0_deal_1 11 rfl) rfl ?_
          refine go_bipush X (dk dt_X0_deal_1 12 rfl) cb_51 ?_
          refine go_icmp_gt (tgt := 66) X (dk dt_X0_deal_1 13 rfl) (by decide) h (fun h => ?_) (fun h => ?_)
          · refine go_iconst X (dk dt_X0_deal_2 6 rfl) ci_0 ?_
            exact go_iret rt (dk dt_X0_deal_2 7 rfl) h (by decide)
          · refine go_lload X 4 (dk dt_X0_deal_1 14 rfl) rfl ?_
            refine go_iload X 0 (dk dt_X0_deal_1 15 rfl) rfl ?_
            refine go_lshr X (dk dt_X0_deal_2 0 rfl) ?_
            refine go_lconst X (dk dt_X0_deal_2 1 rfl) rfl ?_
            refine go_land X (dk dt_X0_deal_2 2 rfl) ?_
            refine go_lconst X (dk dt_X0_deal_2 3 rfl) rfl ?_
            refine go_lcmp X (dk dt_X0_deal_2 4 rfl) ?_
            refine go_if_ne (tgt := 68) X (dk dt_X0_deal_2 5 rfl) (by decide) h (fun h => ?_) (fun h => ?_)
            · refine go_lload X 4 (dk dt_X0_deal_2 8 rfl) rfl ?_
              refine go_lconst X (dk dt_X0_deal_2 9 rfl) rfl ?_
              refine go_iload X 0 (dk dt_X0_deal_2 10 rfl) rfl ?_
              refine go_lshl X (dk dt_X0_deal_2 11 rfl) ?_
              refine go_lor X (dk dt_X0_deal_2 12 rfl) ?_
              refine go_lstore (lv' := [(4, .long (y4 ||| ((Int64.ofNat 1) <<< (Int32.toInt64 q37.1 &&& 63)))), (7, .int q37.1), (0, .ref 39), (1, .ref 23), (2, .int x2), (6, .int x6)]) X (dk dt_X0_deal_2 13 rfl) (by decide) rfl ?_
              refine go_iload X 5 (dk dt_X0_deal_2 14 rfl) rfl ?_
              refine go_iload_n X 4 (dk dt_X0_deal_2 15 rfl) rfl rfl ?_
              refine go_idiv X (dk dt_X0_deal_3 0 rfl) h (fun h => ?_)
              refine go_iconst X (dk dt_X0_deal_3 1 rfl) ci_3 ?_
              refine go_imul X (dk dt_X0_deal_3 2 rfl) ?_
              refine go_iload X 5 (dk dt_X0_deal_3 3 rfl) rfl ?_
              refine go_iload_n X 4 (dk dt_X0_deal_3 4 rfl) rfl rfl ?_
              refine go_irem X (dk dt_X0_deal_3 5 rfl) h (fun h => ?_)
              refine go_iadd X (dk dt_X0_deal_3 6 rfl) ?_
              refine go_istore (lv' := [(8, .int (((x6 / x2) * (3 : Int32)) + (jrem x6 x2))), (4, .long (y4 ||| ((Int64.ofNat 1) <<< (Int32.toInt64 q37.1 &&& 63)))), (7, .int q37.1), (0, .ref 39), (1, .ref 23), (2, .int x2), (6, .int x6)]) X (dk dt_X0_deal_3 7 rfl) (by decide) rfl ?_
              refine go_aload_n X 3 (dk dt_X0_deal_3 8 rfl) rfl rfl ?_
              refine go_getr X fo_X0_11 lC_39 sC_39 fC_39_0 (dk dt_X0_deal_3 9 rfl) ?_
              refine go_iload X 0 (dk dt_X0_deal_3 10 rfl) rfl ?_
              refine go_iload X 2 (dk dt_X0_deal_3 11 rfl) rfl ?_
              refine go_iast X lC_40 sC_40 (dk dt_X0_deal_3 12 rfl) h (fun h => ?_)
              refine go_aload_n X 3 (dk dt_X0_deal_3 13 rfl) rfl rfl ?_
              refine go_dup X (dk dt_X0_deal_3 14 rfl) rfl ?_
              refine go_geti X fo_X0_19 lC_39 sC_39 fC_39_2 (dk dt_X0_deal_3 15 rfl) ?_
              refine go_iconst X (dk dt_X0_deal_4 0 rfl) ci_1 ?_
              refine go_iload X 0 (dk dt_X0_deal_4 1 rfl) rfl ?_
              refine go_ishl X (dk dt_X0_deal_4 2 rfl) ?_
              refine go_ior X (dk dt_X0_deal_4 3 rfl) ?_
              refine go_puti X fo_X0_19 pf_0_2 lC_39 sC_39 fC_39_2 (dk dt_X0_deal_4 4 rfl) ?_
              refine go_iinc (lv' := [(6, .int (x6 + (1 : Int32))), (8, .int (((x6 / x2) * (3 : Int32)) + (jrem x6 x2))), (4, .long (y4 ||| ((Int64.ofNat 1) <<< (Int32.toInt64 q37.1 &&& 63)))), (7, .int q37.1), (0, .ref 39), (1, .ref 23), (2, .int x2)]) X 6 (dk dt_X0_deal_4 5 rfl) rfl ci_1 (by decide) rfl ?_
              refine go_goto (tgt := 16) X (dk dt_X0_deal_4 6 rfl) (by decide) ?_
              refine go_sub [4, 5, 6, 2, 0] rfl ?_
              exact hk16 _ _ _ _  h
            · refine go_iconst X (dk dt_X0_deal_2 6 rfl) ci_0 ?_
              exact go_iret rt (dk dt_X0_deal_2 7 rfl) h (by decide)
set_option maxRecDepth 20000 in
theorem lkL_X0_deal_16 (hi : zInj wC v) (xc : XC wC v) (nx : NXC v) (X : Cx wC v p R s m args c 0 0 cX0_deal 9 RX0 4) (rt : Rt wC v p l e R s m args below meth c 0 0 Q cX0_deal true (some (.int res.1)) res.2)   (n : Nat) : ∀ {x2 : Int32} {y4 : Int64} {x6 : Int32} {σ : Hp},  L_X0_deal_16   n x2 y4 x6 σ = some res → Go wC v p l e R s m args below meth c 0 0 Q 9 16 [(0, .ref 39), (1, .ref 23), (2, .int x2), (4, .long y4), (6, .int x6)] [] σ := by
  induction n with
  | zero => intro x2 y4 x6 σ  h; cases h
  | succ n ih =>
    intro x2 y4 x6 σ  h
    exact lkB_X0_deal_16 hi xc nx X rt  (fun _ _ _ _  hh => ih  hh) h
set_option maxRecDepth 20000 in
theorem lkF_X0_deal (hi : zInj wC v) (xc : XC wC v) (nx : NXC v) (X : Cx wC v p R s m args c 0 0 cX0_deal 9 RX0 4) (rt : Rt wC v p l e R s m args below meth c 0 0 Q cX0_deal true (some (.int res.1)) res.2) {a2 : Int32} {a3 : Int32} {σ : Hp}  (h : F_X0_deal  a2 a3 σ = some res) : Go wC v p l e R s m args below meth c 0 0 Q 9 0 [(0, .ref 39), (1, .ref 23), (2, .int a2), (3, .int a3)] [] σ := by
  unfold F_X0_deal at h
  refine go_aload_n X 0 (dk dt_X0_deal_0 0 rfl) rfl rfl ?_
  refine go_iload_n X 3 (dk dt_X0_deal_0 1 rfl) rfl rfl ?_
  refine go_puti X fo_X0_15 pf_0_1 lC_39 sC_39 fC_39_1 (dk dt_X0_deal_0 2 rfl) ?_
  refine go_aload_n X 0 (dk dt_X0_deal_0 3 rfl) rfl rfl ?_
  refine go_iconst X (dk dt_X0_deal_0 4 rfl) ci_0 ?_
  refine go_puti X fo_X0_19 pf_0_2 lC_39 sC_39 fC_39_2 (dk dt_X0_deal_0 5 rfl) ?_
  refine go_lconst X (dk dt_X0_deal_0 6 rfl) rfl ?_
  refine go_lstore (lv' := [(4, .long (Int64.ofNat 0)), (0, .ref 39), (1, .ref 23), (2, .int a2), (3, .int a3)]) X (dk dt_X0_deal_0 7 rfl) (by decide) rfl ?_
  refine go_iconst X (dk dt_X0_deal_0 8 rfl) ci_0 ?_
  refine go_istore (lv' := [(6, .int (0 : Int32)), (4, .long (Int64.ofNat 0)), (0, .ref 39), (1, .ref 23), (2, .int a2), (3, .int a3)]) X (dk dt_X0_deal_0 9 rfl) (by decide) rfl ?_
  refine go_sub [2, 3, 4, 1, 0] rfl ?_
  exact lkL_X0_deal_16 hi xc nx X rt  FU  h
set_option maxRecDepth 20000 in
theorem ct_X0_deal (hi : zInj wC v) (xc : XC wC v) (nx : NXC v)  {a2 : Int32} {a3 : Int32} {σ : Hp}  {q : (Int32 × Hp)} (h : F_X0_deal  a2 a3 σ = some q) : Ct wC v l yX0_deal cX0_deal 9 (some .boolean) 4 [.ref 39, .ref 23, .int a2, .int a3] σ (some (.int q.1)) q.2 :=
  Ct.intro true (by decide) hi xc (Nat.le_of_ble_eq_true rfl) rfl (fun p e R s m args below meth c Q X rt => lkF_X0_deal hi xc nx X rt  h)
end
def T_X0_isLeft_0 : DT := [(0, .iload_n 0, 1), (1, .iload_n 1, 1), (2, .ishr, 1), (3, .iconst 1, 1), (4, .iand, 1), (5, .iconst 1, 1), (6, .if_icmp .ne 7, 3), (9, .iconst 1, 1), (10, .goto 4, 3), (13, .iconst 0, 1), (14, .ireturn, 1)]
theorem dt_X0_isLeft_0 : dOk cX0_isLeft T_X0_isLeft_0 := by unfold dOk; decide +kernel
section
variable {v : ZV} {l : Launch} {p : Program} {e : Env} {R : Room} {s : State} {m : MethodId} {args : Array Value} {below : List Frame} {meth : Method} {c : Code} {Q : State → Prop} {res : (Int32 × Hp)} 
set_option maxRecDepth 20000 in
theorem lkF_X0_isLeft (hi : zInj wC v) (xc : XC wC v) (nx : NXC v) (X : Cx wC v p R s m args c 0 0 cX0_isLeft 2 RX0 2) (rt : Rt wC v p l e R s m args below meth c 0 0 Q cX0_isLeft true (some (.int res.1)) res.2) {a0 : Int32} {a1 : Int32} {σ : Hp}  (h : F_X0_isLeft  a0 a1 σ = some res) : Go wC v p l e R s m args below meth c 0 0 Q 2 0 [(0, .int a0), (1, .int a1)] [] σ := by
  unfold F_X0_isLeft at h
  refine go_iload_n X 0 (dk dt_X0_isLeft_0 0 rfl) rfl rfl ?_
  refine go_iload_n X 1 (dk dt_X0_isLeft_0 1 rfl) rfl rfl ?_
  refine go_ishr X (dk dt_X0_isLeft_0 2 rfl) ?_
  refine go_iconst X (dk dt_X0_isLeft_0 3 rfl) ci_1 ?_
  refine go_iand X (dk dt_X0_isLeft_0 4 rfl) ?_
  refine go_iconst X (dk dt_X0_isLeft_0 5 rfl) ci_1 ?_
  refine go_icmp_ne (tgt := 13) X (dk dt_X0_isLeft_0 6 rfl) (by decide) h (fun h => ?_) (fun h => ?_)
  · refine go_iconst X (dk dt_X0_isLeft_0 9 rfl) ci_0 ?_
    exact go_iret rt (dk dt_X0_isLeft_0 10 rfl) h (by decide)
  · refine go_iconst X (dk dt_X0_isLeft_0 7 rfl) ci_1 ?_
    refine go_goto (tgt := 14) X (dk dt_X0_isLeft_0 8 rfl) (by decide) ?_
    exact go_iret rt (dk dt_X0_isLeft_0 10 rfl) h (by decide)
set_option maxRecDepth 20000 in
theorem ct_X0_isLeft (hi : zInj wC v) (xc : XC wC v) (nx : NXC v)  {a0 : Int32} {a1 : Int32} {σ : Hp}  {q : (Int32 × Hp)} (h : F_X0_isLeft  a0 a1 σ = some q) : Ct wC v l yX0_isLeft cX0_isLeft 2 (some .boolean) 2 [.int a0, .int a1] σ (some (.int q.1)) q.2 :=
  Ct.intro true (by decide) hi xc (Nat.le_of_ble_eq_true rfl) rfl (fun p e R s m args below meth c Q X rt => lkF_X0_isLeft hi xc nx X rt  h)
end
def T_X0_suit_0 : DT := [(0, .aload_n 0, 1), (1, .getfield 11, 3), (4, .iload_n 1, 1), (5, .iaload, 1), (6, .bipush 13, 2), (8, .idiv, 1), (9, .ireturn, 1)]
theorem dt_X0_suit_0 : dOk cX0_suit T_X0_suit_0 := by unfold dOk; decide +kernel
section
variable {v : ZV} {l : Launch} {p : Program} {e : Env} {R : Room} {s : State} {m : MethodId} {args : Array Value} {below : List Frame} {meth : Method} {c : Code} {Q : State → Prop} {res : (Int32 × Hp)} 
set_option maxRecDepth 20000 in
theorem lkF_X0_suit (hi : zInj wC v) (xc : XC wC v) (nx : NXC v) (X : Cx wC v p R s m args c 0 0 cX0_suit 2 RX0 2) (rt : Rt wC v p l e R s m args below meth c 0 0 Q cX0_suit false (some (.int res.1)) res.2) {a1 : Int32} {σ : Hp}  (h : F_X0_suit  a1 σ = some res) : Go wC v p l e R s m args below meth c 0 0 Q 2 0 [(0, .ref 39), (1, .int a1)] [] σ := by
  unfold F_X0_suit at h
  refine go_aload_n X 0 (dk dt_X0_suit_0 0 rfl) rfl rfl ?_
  refine go_getr X fo_X0_11 lC_39 sC_39 fC_39_0 (dk dt_X0_suit_0 1 rfl) ?_
  refine go_iload_n X 1 (dk dt_X0_suit_0 2 rfl) rfl rfl ?_
  refine go_iald X lC_40 sC_40 (dk dt_X0_suit_0 3 rfl) h (fun h => ?_)
  refine go_bipush X (dk dt_X0_suit_0 4 rfl) cb_13 ?_
  refine go_idivL X (dk dt_X0_suit_0 5 rfl) (by decide) ?_
  exact go_iret rt (dk dt_X0_suit_0 6 rfl) h (fun hh => nomatch hh)
set_option maxRecDepth 20000 in
theorem ct_X0_suit (hi : zInj wC v) (xc : XC wC v) (nx : NXC v)  {a1 : Int32} {σ : Hp}  {q : (Int32 × Hp)} (h : F_X0_suit  a1 σ = some q) : Ct wC v l yX0_suit cX0_suit 2 (some .int) 2 [.ref 39, .int a1] σ (some (.int q.1)) q.2 :=
  Ct.intro false (by decide) hi xc (Nat.le_of_ble_eq_true rfl) rfl (fun p e R s m args below meth c Q X rt => lkF_X0_suit hi xc nx X rt  h)
end
def T_X0_beats_0 : DT := [(0, .aload_n 0, 1), (1, .iload_n 1, 1), (2, .invokevirtual 52, 3), (5, .aload_n 0, 1), (6, .iload_n 2, 1), (7, .invokevirtual 52, 3), (10, .if_icmp .ne 26, 3), (13, .aload_n 0, 1), (14, .getfield 11, 3), (17, .iload_n 1, 1), (18, .iaload, 1), (19, .aload_n 0, 1), (20, .getfield 11, 3), (23, .iload_n 2, 1), (24, .iaload, 1), (25, .if_icmp .le 7, 3)]
theorem dt_X0_beats_0 : dOk cX0_beats T_X0_beats_0 := by unfold dOk; decide +kernel
def T_X0_beats_1 : DT := [(28, .iconst 1, 1), (29, .goto 24, 3), (32, .iconst 0, 1), (33, .goto 20, 3), (36, .aload_n 0, 1), (37, .iload_n 1, 1), (38, .invokevirtual 52, 3), (41, .aload_n 0, 1), (42, .getfield 15, 3), (45, .if_icmp .ne 7, 3), (48, .iconst 1, 1), (49, .goto 4, 3), (52, .iconst 0, 1), (53, .ireturn, 1)]
theorem dt_X0_beats_1 : dOk cX0_beats T_X0_beats_1 := by unfold dOk; decide +kernel
section
variable {v : ZV} {l : Launch} {p : Program} {e : Env} {R : Room} {s : State} {m : MethodId} {args : Array Value} {below : List Frame} {meth : Method} {c : Code} {Q : State → Prop} {res : (Int32 × Hp)} 
set_option maxRecDepth 20000 in
theorem lkF_X0_beats (hi : zInj wC v) (xc : XC wC v) (nx : NXC v) (X : Cx wC v p R s m args c 0 0 cX0_beats 3 RX0 4) (rt : Rt wC v p l e R s m args below meth c 0 0 Q cX0_beats true (some (.int res.1)) res.2) {a1 : Int32} {a2 : Int32} {σ : Hp}  (h : F_X0_beats  a1 a2 σ = some res) : Go wC v p l e R s m args below meth c 0 0 Q 3 0 [(0, .ref 39), (1, .int a1), (2, .int a2)] [] σ := by
  unfold F_X0_beats at h
  refine go_aload_n X 0 (dk dt_X0_beats_0 0 rfl) rfl rfl ?_
  refine go_iload_n X 1 (dk dt_X0_beats_0 1 rfl) rfl rfl ?_
  refine go_Vi (As := [.int a1]) (rest := []) X vo_X0_52 (fun q hq => ct_X0_suit hi xc nx  hq) (by decide) rfl lC_39 sC_39 rfl rfl (Nat.le_of_ble_eq_true rfl) (dk dt_X0_beats_0 2 rfl) h (fun q2 h => ?_)
  refine go_aload_n X 0 (dk dt_X0_beats_0 3 rfl) rfl rfl ?_
  refine go_iload_n X 2 (dk dt_X0_beats_0 4 rfl) rfl rfl ?_
  refine go_Vi (As := [.int a2]) (rest := [.int q2.1]) X vo_X0_52 (fun q hq => ct_X0_suit hi xc nx  hq) (by decide) rfl lC_39 sC_39 rfl rfl (Nat.le_of_ble_eq_true rfl) (dk dt_X0_beats_0 5 rfl) h (fun q7 h => ?_)
  refine go_icmp_ne (tgt := 36) X (dk dt_X0_beats_0 6 rfl) (by decide) h (fun h => ?_) (fun h => ?_)
  · refine go_aload_n X 0 (dk dt_X0_beats_1 4 rfl) rfl rfl ?_
    refine go_iload_n X 1 (dk dt_X0_beats_1 5 rfl) rfl rfl ?_
    refine go_Vi (As := [.int a1]) (rest := []) X vo_X0_52 (fun q hq => ct_X0_suit hi xc nx  hq) (by decide) rfl lC_39 sC_39 rfl rfl (Nat.le_of_ble_eq_true rfl) (dk dt_X0_beats_1 6 rfl) h (fun q38 h => ?_)
    refine go_aload_n X 0 (dk dt_X0_beats_1 7 rfl) rfl rfl ?_
    refine go_geti X fo_X0_15 lC_39 sC_39 fC_39_1 (dk dt_X0_beats_1 8 rfl) ?_
    refine go_icmp_ne (tgt := 52) X (dk dt_X0_beats_1 9 rfl) (by decide) h (fun h => ?_) (fun h => ?_)
    · refine go_iconst X (dk dt_X0_beats_1 12 rfl) ci_0 ?_
      exact go_iret rt (dk dt_X0_beats_1 13 rfl) h (by decide)
    · refine go_iconst X (dk dt_X0_beats_1 10 rfl) ci_1 ?_
      refine go_goto (tgt := 53) X (dk dt_X0_beats_1 11 rfl) (by decide) ?_
      exact go_iret rt (dk dt_X0_beats_1 13 rfl) h (by decide)
  · refine go_aload_n X 0 (dk dt_X0_beats_0 7 rfl) rfl rfl ?_
    refine go_getr X fo_X0_11 lC_39 sC_39 fC_39_0 (dk dt_X0_beats_0 8 rfl) ?_
    refine go_iload_n X 1 (dk dt_X0_beats_0 9 rfl) rfl rfl ?_
    refine go_iald X lC_40 sC_40 (dk dt_X0_beats_0 10 rfl) h (fun h => ?_)
    refine go_aload_n X 0 (dk dt_X0_beats_0 11 rfl) rfl rfl ?_
    refine go_getr X fo_X0_11 lC_39 sC_39 fC_39_0 (dk dt_X0_beats_0 12 rfl) ?_
    refine go_iload_n X 2 (dk dt_X0_beats_0 13 rfl) rfl rfl ?_
    refine go_iald X lC_40 sC_40 (dk dt_X0_beats_0 14 rfl) h (fun h => ?_)
    refine go_icmp_le (tgt := 32) X (dk dt_X0_beats_0 15 rfl) (by decide) h (fun h => ?_) (fun h => ?_)
    · refine go_iconst X (dk dt_X0_beats_1 2 rfl) ci_0 ?_
      refine go_goto (tgt := 53) X (dk dt_X0_beats_1 3 rfl) (by decide) ?_
      exact go_iret rt (dk dt_X0_beats_1 13 rfl) h (by decide)
    · refine go_iconst X (dk dt_X0_beats_1 0 rfl) ci_1 ?_
      refine go_goto (tgt := 53) X (dk dt_X0_beats_1 1 rfl) (by decide) ?_
      exact go_iret rt (dk dt_X0_beats_1 13 rfl) h (by decide)
set_option maxRecDepth 20000 in
theorem ct_X0_beats (hi : zInj wC v) (xc : XC wC v) (nx : NXC v)  {a1 : Int32} {a2 : Int32} {σ : Hp}  {q : (Int32 × Hp)} (h : F_X0_beats  a1 a2 σ = some q) : Ct wC v l yX0_beats cX0_beats 3 (some .boolean) 4 [.ref 39, .int a1, .int a2] σ (some (.int q.1)) q.2 :=
  Ct.intro true (by decide) hi xc (Nat.le_of_ble_eq_true rfl) rfl (fun p e R s m args below meth c Q X rt => lkF_X0_beats hi xc nx X rt  h)
end
def T_X0_hasSuit_0 : DT := [(0, .iload_n 2, 1), (1, .iconst 3, 1), (2, .imul, 1), (3, .istore 4, 2), (5, .iload 4, 2), (7, .iload_n 2, 1), (8, .iconst 3, 1), (9, .imul, 1), (10, .iconst 3, 1), (11, .iadd, 1), (12, .if_icmp .ge 40, 3), (15, .iload 4, 2), (17, .aload_n 0, 1), (18, .getfield 11, 3), (21, .arraylength, 1), (22, .if_icmp .ge 30, 3)]
theorem dt_X0_hasSuit_0 : dOk cX0_hasSuit T_X0_hasSuit_0 := by unfold dOk; decide +kernel
def T_X0_hasSuit_1 : DT := [(25, .iload_n 1, 1), (26, .iload 4, 2), (28, .invokestatic 34, 3), (31, .ifCond .eq 15, 3), (34, .aload_n 0, 1), (35, .iload 4, 2), (37, .invokevirtual 52, 3), (40, .iload_n 3, 1), (41, .if_icmp .ne 5, 3), (44, .iconst 1, 1), (45, .ireturn, 1), (46, .iinc 4 1, 3), (49, .goto (-44), 3), (52, .iconst 0, 1), (53, .ireturn, 1)]
theorem dt_X0_hasSuit_1 : dOk cX0_hasSuit T_X0_hasSuit_1 := by unfold dOk; decide +kernel
section
variable {v : ZV} {l : Launch} {p : Program} {e : Env} {R : Room} {s : State} {m : MethodId} {args : Array Value} {below : List Frame} {meth : Method} {c : Code} {Q : State → Prop} {res : (Int32 × Hp)} 
set_option maxRecDepth 20000 in
theorem lkB_X0_hasSuit_5 (hi : zInj wC v) (xc : XC wC v) (nx : NXC v) (X : Cx wC v p R s m args c 0 0 cX0_hasSuit 5 RX0 4) (rt : Rt wC v p l e R s m args below meth c 0 0 Q cX0_hasSuit true (some (.int res.1)) res.2) {k5 : Int32 → Int32 → Int32 → Int32 → Hp → Option (Int32 × Hp)} {x1 : Int32} {x2 : Int32} {x3 : Int32} {x4 : Int32} {σ : Hp}  (hk5 : ∀ (x1 : Int32) (x2 : Int32) (x3 : Int32) (x4 : Int32) (σ : Hp),  k5 x1 x2 x3 x4 σ = some res → Go wC v p l e R s m args below meth c 0 0 Q 5 5 [(0, .ref 39), (1, .int x1), (2, .int x2), (3, .int x3), (4, .int x4)] [] σ) (h : B_X0_hasSuit_5  k5 x1 x2 x3 x4 σ = some res) : Go wC v p l e R s m args below meth c 0 0 Q 5 5 [(0, .ref 39), (1, .int x1), (2, .int x2), (3, .int x3), (4, .int x4)] [] σ := by
  unfold B_X0_hasSuit_5 at h
  refine go_iload X 4 (dk dt_X0_hasSuit_0 4 rfl) rfl ?_
  refine go_iload_n X 2 (dk dt_X0_hasSuit_0 5 rfl) rfl rfl ?_
  refine go_iconst X (dk dt_X0_hasSuit_0 6 rfl) ci_3 ?_
  refine go_imul X (dk dt_X0_hasSuit_0 7 rfl) ?_
  refine go_iconst X (dk dt_X0_hasSuit_0 8 rfl) ci_3 ?_
  refine go_iadd X (dk dt_X0_hasSuit_0 9 rfl) ?_
  refine go_icmp_ge (tgt := 52) X (dk dt_X0_hasSuit_0 10 rfl) (by decide) h (fun h => ?_) (fun h => ?_)
  · refine go_iconst X (dk dt_X0_hasSuit_1 13 rfl) ci_0 ?_
    exact go_iret rt (dk dt_X0_hasSuit_1 14 rfl) h (by decide)
  · refine go_iload X 4 (dk dt_X0_hasSuit_0 11 rfl) rfl ?_
    refine go_aload_n X 0 (dk dt_X0_hasSuit_0 12 rfl) rfl rfl ?_
    refine go_getr X fo_X0_11 lC_39 sC_39 fC_39_0 (dk dt_X0_hasSuit_0 13 rfl) ?_
    refine go_ialen X lC_40 sC_40 rfl (dk dt_X0_hasSuit_0 14 rfl) ?_
    refine go_icmp_ge (tgt := 52) X (dk dt_X0_hasSuit_0 15 rfl) (by decide) h (fun h => ?_) (fun h => ?_)
    · refine go_iconst X (dk dt_X0_hasSuit_1 13 rfl) ci_0 ?_
      exact go_iret rt (dk dt_X0_hasSuit_1 14 rfl) h (by decide)
    · refine go_iload_n X 1 (dk dt_X0_hasSuit_1 0 rfl) rfl rfl ?_
      refine go_iload X 4 (dk dt_X0_hasSuit_1 1 rfl) rfl ?_
      refine go_Si (As := [.int x1, .int x4]) (rest := []) X so_X0_34 (fun q hq => ct_X0_isLeft hi xc nx  hq) (by decide) rfl rfl (Nat.le_of_ble_eq_true rfl) (dk dt_X0_hasSuit_1 2 rfl) h (fun q28 h => ?_)
      refine go_if_eq (tgt := 46) X (dk dt_X0_hasSuit_1 3 rfl) (by decide) h (fun h => ?_) (fun h => ?_)
      · refine go_iinc (lv' := [(4, .int (x4 + (1 : Int32))), (0, .ref 39), (1, .int x1), (2, .int x2), (3, .int x3)]) X 4 (dk dt_X0_hasSuit_1 11 rfl) rfl ci_1 (by decide) rfl ?_
        refine go_goto (tgt := 5) X (dk dt_X0_hasSuit_1 12 rfl) (by decide) ?_
        refine go_sub [1, 2, 3, 4, 0] rfl ?_
        exact hk5 _ _ _ _ _  h
      · refine go_aload_n X 0 (dk dt_X0_hasSuit_1 4 rfl) rfl rfl ?_
        refine go_iload X 4 (dk dt_X0_hasSuit_1 5 rfl) rfl ?_
        refine go_Vi (As := [.int x4]) (rest := []) X vo_X0_52 (fun q hq => ct_X0_suit hi xc nx  hq) (by decide) rfl lC_39 sC_39 rfl rfl (Nat.le_of_ble_eq_true rfl) (dk dt_X0_hasSuit_1 6 rfl) h (fun q37 h => ?_)
        refine go_iload_n X 3 (dk dt_X0_hasSuit_1 7 rfl) rfl rfl ?_
        refine go_icmp_ne (tgt := 46) X (dk dt_X0_hasSuit_1 8 rfl) (by decide) h (fun h => ?_) (fun h => ?_)
        · refine go_iinc (lv' := [(4, .int (x4 + (1 : Int32))), (0, .ref 39), (1, .int x1), (2, .int x2), (3, .int x3)]) X 4 (dk dt_X0_hasSuit_1 11 rfl) rfl ci_1 (by decide) rfl ?_
          refine go_goto (tgt := 5) X (dk dt_X0_hasSuit_1 12 rfl) (by decide) ?_
          refine go_sub [1, 2, 3, 4, 0] rfl ?_
          exact hk5 _ _ _ _ _  h
        · refine go_iconst X (dk dt_X0_hasSuit_1 9 rfl) ci_1 ?_
          exact go_iret rt (dk dt_X0_hasSuit_1 10 rfl) h (by decide)
set_option maxRecDepth 20000 in
theorem lkL_X0_hasSuit_5 (hi : zInj wC v) (xc : XC wC v) (nx : NXC v) (X : Cx wC v p R s m args c 0 0 cX0_hasSuit 5 RX0 4) (rt : Rt wC v p l e R s m args below meth c 0 0 Q cX0_hasSuit true (some (.int res.1)) res.2)   (n : Nat) : ∀ {x1 : Int32} {x2 : Int32} {x3 : Int32} {x4 : Int32} {σ : Hp},  L_X0_hasSuit_5   n x1 x2 x3 x4 σ = some res → Go wC v p l e R s m args below meth c 0 0 Q 5 5 [(0, .ref 39), (1, .int x1), (2, .int x2), (3, .int x3), (4, .int x4)] [] σ := by
  induction n with
  | zero => intro x1 x2 x3 x4 σ  h; cases h
  | succ n ih =>
    intro x1 x2 x3 x4 σ  h
    exact lkB_X0_hasSuit_5 hi xc nx X rt  (fun _ _ _ _ _  hh => ih  hh) h
set_option maxRecDepth 20000 in
theorem lkF_X0_hasSuit (hi : zInj wC v) (xc : XC wC v) (nx : NXC v) (X : Cx wC v p R s m args c 0 0 cX0_hasSuit 5 RX0 4) (rt : Rt wC v p l e R s m args below meth c 0 0 Q cX0_hasSuit true (some (.int res.1)) res.2) {a1 : Int32} {a2 : Int32} {a3 : Int32} {σ : Hp}  (h : F_X0_hasSuit  a1 a2 a3 σ = some res) : Go wC v p l e R s m args below meth c 0 0 Q 5 0 [(0, .ref 39), (1, .int a1), (2, .int a2), (3, .int a3)] [] σ := by
  unfold F_X0_hasSuit at h
  refine go_iload_n X 2 (dk dt_X0_hasSuit_0 0 rfl) rfl rfl ?_
  refine go_iconst X (dk dt_X0_hasSuit_0 1 rfl) ci_3 ?_
  refine go_imul X (dk dt_X0_hasSuit_0 2 rfl) ?_
  refine go_istore (lv' := [(4, .int (a2 * (3 : Int32))), (0, .ref 39), (1, .int a1), (2, .int a2), (3, .int a3)]) X (dk dt_X0_hasSuit_0 3 rfl) (by decide) rfl ?_
  refine go_sub [1, 2, 3, 4, 0] rfl ?_
  exact lkL_X0_hasSuit_5 hi xc nx X rt  FU  h
set_option maxRecDepth 20000 in
theorem ct_X0_hasSuit (hi : zInj wC v) (xc : XC wC v) (nx : NXC v)  {a1 : Int32} {a2 : Int32} {a3 : Int32} {σ : Hp}  {q : (Int32 × Hp)} (h : F_X0_hasSuit  a1 a2 a3 σ = some q) : Ct wC v l yX0_hasSuit cX0_hasSuit 5 (some .boolean) 4 [.ref 39, .int a1, .int a2, .int a3] σ (some (.int q.1)) q.2 :=
  Ct.intro true (by decide) hi xc (Nat.le_of_ble_eq_true rfl) rfl (fun p e R s m args below meth c Q X rt => lkF_X0_hasSuit hi xc nx X rt  h)
end
def T_X0_isBetter_0 : DT := [(0, .iload_n 0, 1), (1, .iconst 2, 1), (2, .irem, 1), (3, .ifCond .ne 16, 3), (6, .iload_n 1, 1), (7, .iload_n 2, 1), (8, .if_icmp .le 7, 3), (11, .iconst 1, 1), (12, .goto 17, 3), (15, .iconst 0, 1), (16, .goto 13, 3), (19, .iload_n 1, 1), (20, .iload_n 2, 1), (21, .if_icmp .ge 7, 3), (24, .iconst 1, 1), (25, .goto 4, 3)]
theorem dt_X0_isBetter_0 : dOk cX0_isBetter T_X0_isBetter_0 := by unfold dOk; decide +kernel
def T_X0_isBetter_1 : DT := [(28, .iconst 0, 1), (29, .ireturn, 1)]
theorem dt_X0_isBetter_1 : dOk cX0_isBetter T_X0_isBetter_1 := by unfold dOk; decide +kernel
section
variable {v : ZV} {l : Launch} {p : Program} {e : Env} {R : Room} {s : State} {m : MethodId} {args : Array Value} {below : List Frame} {meth : Method} {c : Code} {Q : State → Prop} {res : (Int32 × Hp)} 
set_option maxRecDepth 20000 in
theorem lkF_X0_isBetter (hi : zInj wC v) (xc : XC wC v) (nx : NXC v) (X : Cx wC v p R s m args c 0 0 cX0_isBetter 3 RX0 2) (rt : Rt wC v p l e R s m args below meth c 0 0 Q cX0_isBetter true (some (.int res.1)) res.2) {a0 : Int32} {a1 : Int32} {a2 : Int32} {σ : Hp}  (h : F_X0_isBetter  a0 a1 a2 σ = some res) : Go wC v p l e R s m args below meth c 0 0 Q 3 0 [(0, .int a0), (1, .int a1), (2, .int a2)] [] σ := by
  unfold F_X0_isBetter at h
  refine go_iload_n X 0 (dk dt_X0_isBetter_0 0 rfl) rfl rfl ?_
  refine go_iconst X (dk dt_X0_isBetter_0 1 rfl) ci_2 ?_
  refine go_iremL X (dk dt_X0_isBetter_0 2 rfl) (by decide) ?_
  refine go_if_ne (tgt := 19) X (dk dt_X0_isBetter_0 3 rfl) (by decide) h (fun h => ?_) (fun h => ?_)
  · refine go_iload_n X 1 (dk dt_X0_isBetter_0 11 rfl) rfl rfl ?_
    refine go_iload_n X 2 (dk dt_X0_isBetter_0 12 rfl) rfl rfl ?_
    refine go_icmp_ge (tgt := 28) X (dk dt_X0_isBetter_0 13 rfl) (by decide) h (fun h => ?_) (fun h => ?_)
    · refine go_iconst X (dk dt_X0_isBetter_1 0 rfl) ci_0 ?_
      exact go_iret rt (dk dt_X0_isBetter_1 1 rfl) h (by decide)
    · refine go_iconst X (dk dt_X0_isBetter_0 14 rfl) ci_1 ?_
      refine go_goto (tgt := 29) X (dk dt_X0_isBetter_0 15 rfl) (by decide) ?_
      exact go_iret rt (dk dt_X0_isBetter_1 1 rfl) h (by decide)
  · refine go_iload_n X 1 (dk dt_X0_isBetter_0 4 rfl) rfl rfl ?_
    refine go_iload_n X 2 (dk dt_X0_isBetter_0 5 rfl) rfl rfl ?_
    refine go_icmp_le (tgt := 15) X (dk dt_X0_isBetter_0 6 rfl) (by decide) h (fun h => ?_) (fun h => ?_)
    · refine go_iconst X (dk dt_X0_isBetter_0 9 rfl) ci_0 ?_
      refine go_goto (tgt := 29) X (dk dt_X0_isBetter_0 10 rfl) (by decide) ?_
      exact go_iret rt (dk dt_X0_isBetter_1 1 rfl) h (by decide)
    · refine go_iconst X (dk dt_X0_isBetter_0 7 rfl) ci_1 ?_
      refine go_goto (tgt := 29) X (dk dt_X0_isBetter_0 8 rfl) (by decide) ?_
      exact go_iret rt (dk dt_X0_isBetter_1 1 rfl) h (by decide)
set_option maxRecDepth 20000 in
theorem ct_X0_isBetter (hi : zInj wC v) (xc : XC wC v) (nx : NXC v)  {a0 : Int32} {a1 : Int32} {a2 : Int32} {σ : Hp}  {q : (Int32 × Hp)} (h : F_X0_isBetter  a0 a1 a2 σ = some q) : Ct wC v l yX0_isBetter cX0_isBetter 3 (some .boolean) 2 [.int a0, .int a1, .int a2] σ (some (.int q.1)) q.2 :=
  Ct.intro true (by decide) hi xc (Nat.le_of_ble_eq_true rfl) rfl (fun p e R s m args below meth c Q X rt => lkF_X0_isBetter hi xc nx X rt  h)
end
def T_X0_lay_0 : DT := [(0, .iload_n 3, 1), (1, .ifCond .ne 7, 3), (4, .iload_n 2, 1), (5, .goto 5, 3), (8, .iload 4, 2), (10, .istore 6, 2), (12, .iload_n 3, 1), (13, .ifCond .eq 13, 3), (16, .aload_n 0, 1), (17, .iload_n 2, 1), (18, .iload 5, 2), (20, .invokevirtual 46, 3), (23, .ifCond .eq 7, 3), (26, .iload_n 2, 1), (27, .goto 5, 3), (30, .iload 5, 2)]
theorem dt_X0_lay_0 : dOk cX0_lay T_X0_lay_0 := by unfold dOk; decide +kernel
def T_X0_lay_1 : DT := [(32, .istore 7, 2), (34, .iload_n 1, 1), (35, .iconst 1, 1), (36, .iload_n 2, 1), (37, .ishl, 1), (38, .iconst (-1), 1), (39, .ixor, 1), (40, .iand, 1), (41, .istore 8, 2), (43, .iload_n 3, 1), (44, .iconst 3, 1), (45, .if_icmp .ge 24, 3), (48, .aload_n 0, 1), (49, .iload 8, 2), (51, .iload_n 2, 1), (52, .iconst 3, 1)]
theorem dt_X0_lay_1 : dOk cX0_lay T_X0_lay_1 := by unfold dOk; decide +kernel
def T_X0_lay_2 : DT := [(53, .idiv, 1), (54, .iconst 1, 1), (55, .iadd, 1), (56, .iconst 4, 1), (57, .irem, 1), (58, .iload_n 3, 1), (59, .iconst 1, 1), (60, .iadd, 1), (61, .iload 6, 2), (63, .iload 7, 2), (65, .invokevirtual 49, 3), (68, .ireturn, 1), (69, .iload 7, 2), (71, .iconst 3, 1), (72, .idiv, 1), (73, .istore 9, 2)]
theorem dt_X0_lay_2 : dOk cX0_lay T_X0_lay_2 := by unfold dOk; decide +kernel
def T_X0_lay_3 : DT := [(75, .iload 9, 2), (77, .iconst 2, 1), (78, .irem, 1), (79, .ifCond .ne 7, 3), (82, .iconst 1, 1), (83, .goto 4, 3), (86, .iconst 0, 1), (87, .istore 10, 2), (89, .iload 8, 2), (91, .ifCond .ne 8, 3), (94, .iload 10, 2), (96, .goto 17, 3), (99, .iload 10, 2), (101, .aload_n 0, 1), (102, .iload 8, 2), (104, .iload 9, 2)]
theorem dt_X0_lay_3 : dOk cX0_lay T_X0_lay_3 := by unfold dOk; decide +kernel
def T_X0_lay_4 : DT := [(106, .iconst 0, 1), (107, .iconst 0, 1), (108, .iconst 0, 1), (109, .invokevirtual 49, 3), (112, .iadd, 1), (113, .ireturn, 1)]
theorem dt_X0_lay_4 : dOk cX0_lay T_X0_lay_4 := by unfold dOk; decide +kernel
section
variable {v : ZV} {l : Launch} {p : Program} {e : Env} {R : Room} {s : State} {m : MethodId} {args : Array Value} {below : List Frame} {meth : Method} {c : Code} {Q : State → Prop} {res : (Int32 × Hp)} {d d' : Nat} {o_X0_playBest : Int32 → Int32 → Int32 → Int32 → Int32 → Hp → Option (Int32 × Hp)}
set_option maxRecDepth 20000 in
theorem lkJ_X0_lay_87 (hi : zInj wC v) (xc : XC wC v) (nx : NXC v) (X : Cx wC v p R s m args c 0 0 cX0_lay 11 RX0 d) (rt : Rt wC v p l e R s m args below meth c 0 0 Q cX0_lay false (some (.int res.1)) res.2) (hdb : 6 ≤ d) (ho_X0_playBest : ∀ {b0 : Int32} {b1 : Int32} {b2 : Int32} {b3 : Int32} {b4 : Int32} {σ : Hp} {q : (Int32 × Hp)},  o_X0_playBest b0 b1 b2 b3 b4 σ = some q → Ct wC v l yX0_playBest cX0_playBest 10 (some .int) d' [.ref 39, .int b0, .int b1, .int b2, .int b3, .int b4] σ (some (.int q.1)) q.2) (hdd : d' < d)  {x8 : Int32} {x9 : Int32} {s0 : Int32} {σ : Hp}   (h : J_X0_lay_87 o_X0_playBest  x8 x9 s0 σ = some res) : Go wC v p l e R s m args below meth c 0 0 Q 11 87 [(0, .ref 39), (8, .int x8), (9, .int x9)] [.int s0] σ := by
  unfold J_X0_lay_87 at h
  refine go_istore (lv' := [(10, .int s0), (0, .ref 39), (8, .int x8), (9, .int x9)]) X (dk dt_X0_lay_3 7 rfl) (by decide) rfl ?_
  refine go_iload X 2 (dk dt_X0_lay_3 8 rfl) rfl ?_
  refine go_if_ne (tgt := 99) X (dk dt_X0_lay_3 9 rfl) (by decide) h (fun h => ?_) (fun h => ?_)
  · refine go_iload X 0 (dk dt_X0_lay_3 12 rfl) rfl ?_
    refine go_aload_n X 1 (dk dt_X0_lay_3 13 rfl) rfl rfl ?_
    refine go_iload X 2 (dk dt_X0_lay_3 14 rfl) rfl ?_
    refine go_iload X 3 (dk dt_X0_lay_3 15 rfl) rfl ?_
    refine go_iconst X (dk dt_X0_lay_4 0 rfl) ci_0 ?_
    refine go_iconst X (dk dt_X0_lay_4 1 rfl) ci_0 ?_
    refine go_iconst X (dk dt_X0_lay_4 2 rfl) ci_0 ?_
    refine go_Vi (As := [.int x8, .int x9, .int (0 : Int32), .int (0 : Int32), .int (0 : Int32)]) (rest := [.int s0]) X vo_X0_49 (fun q hq => ho_X0_playBest  hq) hdd rfl lC_39 sC_39 rfl rfl (Nat.le_of_ble_eq_true rfl) (dk dt_X0_lay_4 3 rfl) h (fun q109 h => ?_)
    refine go_iadd X (dk dt_X0_lay_4 4 rfl) ?_
    exact go_iret rt (dk dt_X0_lay_4 5 rfl) h (fun hh => nomatch hh)
  · refine go_iload X 0 (dk dt_X0_lay_3 10 rfl) rfl ?_
    refine go_goto (tgt := 113) X (dk dt_X0_lay_3 11 rfl) (by decide) ?_
    exact go_iret rt (dk dt_X0_lay_4 5 rfl) h (fun hh => nomatch hh)
set_option maxRecDepth 20000 in
theorem lkJ_X0_lay_32 (hi : zInj wC v) (xc : XC wC v) (nx : NXC v) (X : Cx wC v p R s m args c 0 0 cX0_lay 11 RX0 d) (rt : Rt wC v p l e R s m args below meth c 0 0 Q cX0_lay false (some (.int res.1)) res.2) (hdb : 6 ≤ d) (ho_X0_playBest : ∀ {b0 : Int32} {b1 : Int32} {b2 : Int32} {b3 : Int32} {b4 : Int32} {σ : Hp} {q : (Int32 × Hp)},  o_X0_playBest b0 b1 b2 b3 b4 σ = some q → Ct wC v l yX0_playBest cX0_playBest 10 (some .int) d' [.ref 39, .int b0, .int b1, .int b2, .int b3, .int b4] σ (some (.int q.1)) q.2) (hdd : d' < d)  {x1 : Int32} {x2 : Int32} {x3 : Int32} {x6 : Int32} {s0 : Int32} {σ : Hp}   (h : J_X0_lay_32 o_X0_playBest  x1 x2 x3 x6 s0 σ = some res) : Go wC v p l e R s m args below meth c 0 0 Q 11 32 [(0, .ref 39), (1, .int x1), (2, .int x2), (3, .int x3), (6, .int x6)] [.int s0] σ := by
  unfold J_X0_lay_32 at h
  refine go_istore (lv' := [(7, .int s0), (0, .ref 39), (1, .int x1), (2, .int x2), (3, .int x3), (6, .int x6)]) X (dk dt_X0_lay_1 0 rfl) (by decide) rfl ?_
  refine go_iload_n X 2 (dk dt_X0_lay_1 1 rfl) rfl rfl ?_
  refine go_iconst X (dk dt_X0_lay_1 2 rfl) ci_1 ?_
  refine go_iload_n X 3 (dk dt_X0_lay_1 3 rfl) rfl rfl ?_
  refine go_ishl X (dk dt_X0_lay_1 4 rfl) ?_
  refine go_iconst X (dk dt_X0_lay_1 5 rfl) ci_m1 ?_
  refine go_ixor X (dk dt_X0_lay_1 6 rfl) ?_
  refine go_iand X (dk dt_X0_lay_1 7 rfl) ?_
  refine go_istore (lv' := [(8, .int (x1 &&& (((1 : Int32) <<< (x2 &&& 31)) ^^^ (-1 : Int32)))), (7, .int s0), (0, .ref 39), (1, .int x1), (2, .int x2), (3, .int x3), (6, .int x6)]) X (dk dt_X0_lay_1 8 rfl) (by decide) rfl ?_
  refine go_iload_n X 5 (dk dt_X0_lay_1 9 rfl) rfl rfl ?_
  refine go_iconst X (dk dt_X0_lay_1 10 rfl) ci_3 ?_
  refine go_icmp_ge (tgt := 69) X (dk dt_X0_lay_1 11 rfl) (by decide) h (fun h => ?_) (fun h => ?_)
  · refine go_iload X 1 (dk dt_X0_lay_2 12 rfl) rfl ?_
    refine go_iconst X (dk dt_X0_lay_2 13 rfl) ci_3 ?_
    refine go_idivL X (dk dt_X0_lay_2 14 rfl) (by decide) ?_
    refine go_istore (lv' := [(9, .int (s0 / (3 : Int32))), (8, .int (x1 &&& (((1 : Int32) <<< (x2 &&& 31)) ^^^ (-1 : Int32)))), (7, .int s0), (0, .ref 39), (1, .int x1), (2, .int x2), (3, .int x3), (6, .int x6)]) X (dk dt_X0_lay_2 15 rfl) (by decide) rfl ?_
    refine go_iload X 0 (dk dt_X0_lay_3 0 rfl) rfl ?_
    refine go_iconst X (dk dt_X0_lay_3 1 rfl) ci_2 ?_
    refine go_iremL X (dk dt_X0_lay_3 2 rfl) (by decide) ?_
    refine go_if_ne (tgt := 86) X (dk dt_X0_lay_3 3 rfl) (by decide) h (fun h => ?_) (fun h => ?_)
    · refine go_iconst X (dk dt_X0_lay_3 6 rfl) ci_0 ?_
      refine go_sub [3, 1, 0] rfl ?_
      exact lkJ_X0_lay_87 hi xc nx X rt hdb ho_X0_playBest hdd   h
    · refine go_iconst X (dk dt_X0_lay_3 4 rfl) ci_1 ?_
      refine go_goto (tgt := 87) X (dk dt_X0_lay_3 5 rfl) (by decide) ?_
      refine go_sub [3, 1, 0] rfl ?_
      exact lkJ_X0_lay_87 hi xc nx X rt hdb ho_X0_playBest hdd   h
  · refine go_aload_n X 2 (dk dt_X0_lay_1 12 rfl) rfl rfl ?_
    refine go_iload X 0 (dk dt_X0_lay_1 13 rfl) rfl ?_
    refine go_iload_n X 4 (dk dt_X0_lay_1 14 rfl) rfl rfl ?_
    refine go_iconst X (dk dt_X0_lay_1 15 rfl) ci_3 ?_
    refine go_idivL X (dk dt_X0_lay_2 0 rfl) (by decide) ?_
    refine go_iconst X (dk dt_X0_lay_2 1 rfl) ci_1 ?_
    refine go_iadd X (dk dt_X0_lay_2 2 rfl) ?_
    refine go_iconst X (dk dt_X0_lay_2 3 rfl) ci_4 ?_
    refine go_iremL X (dk dt_X0_lay_2 4 rfl) (by decide) ?_
    refine go_iload_n X 5 (dk dt_X0_lay_2 5 rfl) rfl rfl ?_
    refine go_iconst X (dk dt_X0_lay_2 6 rfl) ci_1 ?_
    refine go_iadd X (dk dt_X0_lay_2 7 rfl) ?_
    refine go_iload X 6 (dk dt_X0_lay_2 8 rfl) rfl ?_
    refine go_iload X 1 (dk dt_X0_lay_2 9 rfl) rfl ?_
    refine go_Vi (As := [.int (x1 &&& (((1 : Int32) <<< (x2 &&& 31)) ^^^ (-1 : Int32))), .int (jrem ((x2 / (3 : Int32)) + (1 : Int32)) (4 : Int32)), .int (x3 + (1 : Int32)), .int x6, .int s0]) (rest := []) X vo_X0_49 (fun q hq => ho_X0_playBest  hq) hdd rfl lC_39 sC_39 rfl rfl (Nat.le_of_ble_eq_true rfl) (dk dt_X0_lay_2 10 rfl) h (fun q65 h => ?_)
    exact go_iret rt (dk dt_X0_lay_2 11 rfl) h (fun hh => nomatch hh)
set_option maxRecDepth 20000 in
theorem lkJ_X0_lay_26 (hi : zInj wC v) (xc : XC wC v) (nx : NXC v) (X : Cx wC v p R s m args c 0 0 cX0_lay 11 RX0 d) (rt : Rt wC v p l e R s m args below meth c 0 0 Q cX0_lay false (some (.int res.1)) res.2) (hdb : 6 ≤ d) (ho_X0_playBest : ∀ {b0 : Int32} {b1 : Int32} {b2 : Int32} {b3 : Int32} {b4 : Int32} {σ : Hp} {q : (Int32 × Hp)},  o_X0_playBest b0 b1 b2 b3 b4 σ = some q → Ct wC v l yX0_playBest cX0_playBest 10 (some .int) d' [.ref 39, .int b0, .int b1, .int b2, .int b3, .int b4] σ (some (.int q.1)) q.2) (hdd : d' < d)  {x1 : Int32} {x2 : Int32} {x3 : Int32} {x6 : Int32} {σ : Hp}   (h : J_X0_lay_26 o_X0_playBest  x1 x2 x3 x6 σ = some res) : Go wC v p l e R s m args below meth c 0 0 Q 11 26 [(0, .ref 39), (1, .int x1), (2, .int x2), (3, .int x3), (6, .int x6)] [] σ := by
  unfold J_X0_lay_26 at h
  refine go_iload_n X 2 (dk dt_X0_lay_0 13 rfl) rfl rfl ?_
  refine go_goto (tgt := 32) X (dk dt_X0_lay_0 14 rfl) (by decide) ?_
  exact lkJ_X0_lay_32 hi xc nx X rt hdb ho_X0_playBest hdd   h
set_option maxRecDepth 20000 in
theorem lkJ_X0_lay_10 (hi : zInj wC v) (xc : XC wC v) (nx : NXC v) (X : Cx wC v p R s m args c 0 0 cX0_lay 11 RX0 d) (rt : Rt wC v p l e R s m args below meth c 0 0 Q cX0_lay false (some (.int res.1)) res.2) (hdb : 6 ≤ d) (ho_X0_playBest : ∀ {b0 : Int32} {b1 : Int32} {b2 : Int32} {b3 : Int32} {b4 : Int32} {σ : Hp} {q : (Int32 × Hp)},  o_X0_playBest b0 b1 b2 b3 b4 σ = some q → Ct wC v l yX0_playBest cX0_playBest 10 (some .int) d' [.ref 39, .int b0, .int b1, .int b2, .int b3, .int b4] σ (some (.int q.1)) q.2) (hdd : d' < d)  {x1 : Int32} {x2 : Int32} {x3 : Int32} {x5 : Int32} {s0 : Int32} {σ : Hp}   (h : J_X0_lay_10 o_X0_playBest  x1 x2 x3 x5 s0 σ = some res) : Go wC v p l e R s m args below meth c 0 0 Q 11 10 [(0, .ref 39), (1, .int x1), (2, .int x2), (3, .int x3), (5, .int x5)] [.int s0] σ := by
  unfold J_X0_lay_10 at h
  refine go_istore (lv' := [(6, .int s0), (0, .ref 39), (1, .int x1), (2, .int x2), (3, .int x3), (5, .int x5)]) X (dk dt_X0_lay_0 5 rfl) (by decide) rfl ?_
  refine go_iload_n X 4 (dk dt_X0_lay_0 6 rfl) rfl rfl ?_
  refine go_if_eq (tgt := 26) X (dk dt_X0_lay_0 7 rfl) (by decide) h (fun h => ?_) (fun h => ?_)
  · refine go_sub [1, 2, 3, 4, 0] rfl ?_
    exact lkJ_X0_lay_26 hi xc nx X rt hdb ho_X0_playBest hdd   h
  · refine go_aload_n X 1 (dk dt_X0_lay_0 8 rfl) rfl rfl ?_
    refine go_iload_n X 3 (dk dt_X0_lay_0 9 rfl) rfl rfl ?_
    refine go_iload X 5 (dk dt_X0_lay_0 10 rfl) rfl ?_
    refine go_Vi (As := [.int x2, .int x5]) (rest := []) X vo_X0_46 (fun q hq => ct_X0_beats hi xc nx  hq) (by omega) rfl lC_39 sC_39 rfl rfl (Nat.le_of_ble_eq_true rfl) (dk dt_X0_lay_0 11 rfl) h (fun q20 h => ?_)
    refine go_if_eq (tgt := 30) X (dk dt_X0_lay_0 12 rfl) (by decide) h (fun h => ?_) (fun h => ?_)
    · refine go_iload X 5 (dk dt_X0_lay_0 15 rfl) rfl ?_
      refine go_sub [1, 2, 3, 4, 0] rfl ?_
      exact lkJ_X0_lay_32 hi xc nx X rt hdb ho_X0_playBest hdd   h
    · refine go_sub [1, 2, 3, 4, 0] rfl ?_
      exact lkJ_X0_lay_26 hi xc nx X rt hdb ho_X0_playBest hdd   h
set_option maxRecDepth 20000 in
theorem lkF_X0_lay (hi : zInj wC v) (xc : XC wC v) (nx : NXC v) (X : Cx wC v p R s m args c 0 0 cX0_lay 11 RX0 d) (rt : Rt wC v p l e R s m args below meth c 0 0 Q cX0_lay false (some (.int res.1)) res.2) (hdb : 6 ≤ d) (ho_X0_playBest : ∀ {b0 : Int32} {b1 : Int32} {b2 : Int32} {b3 : Int32} {b4 : Int32} {σ : Hp} {q : (Int32 × Hp)},  o_X0_playBest b0 b1 b2 b3 b4 σ = some q → Ct wC v l yX0_playBest cX0_playBest 10 (some .int) d' [.ref 39, .int b0, .int b1, .int b2, .int b3, .int b4] σ (some (.int q.1)) q.2) (hdd : d' < d) {a1 : Int32} {a2 : Int32} {a3 : Int32} {a4 : Int32} {a5 : Int32} {σ : Hp}  (h : F_X0_lay o_X0_playBest a1 a2 a3 a4 a5 σ = some res) : Go wC v p l e R s m args below meth c 0 0 Q 11 0 [(0, .ref 39), (1, .int a1), (2, .int a2), (3, .int a3), (4, .int a4), (5, .int a5)] [] σ := by
  unfold F_X0_lay at h
  refine go_iload_n X 3 (dk dt_X0_lay_0 0 rfl) rfl rfl ?_
  refine go_if_ne (tgt := 8) X (dk dt_X0_lay_0 1 rfl) (by decide) h (fun h => ?_) (fun h => ?_)
  · refine go_iload X 4 (dk dt_X0_lay_0 4 rfl) rfl ?_
    refine go_sub [0, 1, 2, 3, 5] rfl ?_
    exact lkJ_X0_lay_10 hi xc nx X rt hdb ho_X0_playBest hdd   h
  · refine go_iload_n X 2 (dk dt_X0_lay_0 2 rfl) rfl rfl ?_
    refine go_goto (tgt := 10) X (dk dt_X0_lay_0 3 rfl) (by decide) ?_
    refine go_sub [0, 1, 2, 3, 5] rfl ?_
    exact lkJ_X0_lay_10 hi xc nx X rt hdb ho_X0_playBest hdd   h
set_option maxRecDepth 20000 in
theorem ct_X0_lay (hi : zInj wC v) (xc : XC wC v) (nx : NXC v)  (hdb : 6 ≤ d) (ho_X0_playBest : ∀ {b0 : Int32} {b1 : Int32} {b2 : Int32} {b3 : Int32} {b4 : Int32} {σ : Hp} {q : (Int32 × Hp)},  o_X0_playBest b0 b1 b2 b3 b4 σ = some q → Ct wC v l yX0_playBest cX0_playBest 10 (some .int) d' [.ref 39, .int b0, .int b1, .int b2, .int b3, .int b4] σ (some (.int q.1)) q.2) (hdd : d' < d) {a1 : Int32} {a2 : Int32} {a3 : Int32} {a4 : Int32} {a5 : Int32} {σ : Hp}  {q : (Int32 × Hp)} (h : F_X0_lay o_X0_playBest a1 a2 a3 a4 a5 σ = some q) : Ct wC v l yX0_lay cX0_lay 11 (some .int) d [.ref 39, .int a1, .int a2, .int a3, .int a4, .int a5] σ (some (.int q.1)) q.2 :=
  Ct.intro false (by decide) hi xc (Nat.le_of_ble_eq_true rfl) rfl (fun p e R s m args below meth c Q X rt => lkF_X0_lay hi xc nx X rt hdb ho_X0_playBest hdd  h)
end
def T_X0_playBest_0 : DT := [(0, .iload_n 3, 1), (1, .ifCond .le 22, 3), (4, .aload_n 0, 1), (5, .iload_n 1, 1), (6, .iload_n 2, 1), (7, .aload_n 0, 1), (8, .iload 4, 2), (10, .invokevirtual 52, 3), (13, .invokevirtual 55, 3), (16, .ifCond .eq 7, 3), (19, .iconst 1, 1), (20, .goto 4, 3), (23, .iconst 0, 1), (24, .istore 6, 2), (26, .iconst (-1), 1), (27, .istore 7, 2)]
theorem dt_X0_playBest_0 : dOk cX0_playBest T_X0_playBest_0 := by unfold dOk; decide +kernel
def T_X0_playBest_1 : DT := [(29, .iload_n 2, 1), (30, .iconst 3, 1), (31, .imul, 1), (32, .istore 8, 2), (34, .iload 8, 2), (36, .iload_n 2, 1), (37, .iconst 3, 1), (38, .imul, 1), (39, .iconst 3, 1), (40, .iadd, 1), (41, .if_icmp .ge 88, 3), (44, .iload 8, 2), (46, .aload_n 0, 1), (47, .getfield 11, 3), (50, .arraylength, 1), (51, .if_icmp .ge 78, 3)]
theorem dt_X0_playBest_1 : dOk cX0_playBest T_X0_playBest_1 := by unfold dOk; decide +kernel
def T_X0_playBest_2 : DT := [(54, .iload_n 1, 1), (55, .iload 8, 2), (57, .invokestatic 34, 3), (60, .ifCond .eq 63, 3), (63, .iload 6, 2), (65, .ifCond .eq 18, 3), (68, .aload_n 0, 1), (69, .iload 8, 2), (71, .invokevirtual 52, 3), (74, .aload_n 0, 1), (75, .iload 4, 2), (77, .invokevirtual 52, 3), (80, .if_icmp .ne 43, 3), (83, .aload_n 0, 1), (84, .iload_n 1, 1), (85, .iload 8, 2)]
theorem dt_X0_playBest_2 : dOk cX0_playBest T_X0_playBest_2 := by unfold dOk; decide +kernel
def T_X0_playBest_3 : DT := [(87, .iload_n 3, 1), (88, .iload 4, 2), (90, .iload 5, 2), (92, .invokevirtual 38, 3), (95, .istore 9, 2), (97, .iload 7, 2), (99, .iconst (-1), 1), (100, .if_icmp .eq 14, 3), (103, .iload_n 2, 1), (104, .iload 9, 2), (106, .iload 7, 2), (108, .invokestatic 42, 3), (111, .ifCond .eq 8, 3), (114, .iload 9, 2), (116, .goto 5, 3), (119, .iload 7, 2)]
theorem dt_X0_playBest_3 : dOk cX0_playBest T_X0_playBest_3 := by unfold dOk; decide +kernel
def T_X0_playBest_4 : DT := [(121, .istore 7, 2), (123, .iinc 8 1, 3), (126, .goto (-92), 3), (129, .iconst 0, 1), (130, .iload 7, 2), (132, .invokestatic 58, 3), (135, .ireturn, 1)]
theorem dt_X0_playBest_4 : dOk cX0_playBest T_X0_playBest_4 := by unfold dOk; decide +kernel
section
variable {v : ZV} {l : Launch} {p : Program} {e : Env} {R : Room} {s : State} {m : MethodId} {args : Array Value} {below : List Frame} {meth : Method} {c : Code} {Q : State → Prop} {res : (Int32 × Hp)} {d d' : Nat} {o_X0_lay : Int32 → Int32 → Int32 → Int32 → Int32 → Hp → Option (Int32 × Hp)}
set_option maxRecDepth 20000 in
theorem lkJ_X0_playBest_83 (hi : zInj wC v) (xc : XC wC v) (nx : NXC v) (X : Cx wC v p R s m args c 0 0 cX0_playBest 10 RX0 d) (rt : Rt wC v p l e R s m args below meth c 0 0 Q cX0_playBest false (some (.int res.1)) res.2) (hdb : 6 ≤ d) (ho_X0_lay : ∀ {b0 : Int32} {b1 : Int32} {b2 : Int32} {b3 : Int32} {b4 : Int32} {σ : Hp} {q : (Int32 × Hp)},  o_X0_lay b0 b1 b2 b3 b4 σ = some q → Ct wC v l yX0_lay cX0_lay 11 (some .int) d' [.ref 39, .int b0, .int b1, .int b2, .int b3, .int b4] σ (some (.int q.1)) q.2) (hdd : d' < d) {k34 : Int32 → Int32 → Int32 → Int32 → Int32 → Int32 → Int32 → Int32 → Hp → Option (Int32 × Hp)} {x1 : Int32} {x2 : Int32} {x3 : Int32} {x4 : Int32} {x5 : Int32} {x6 : Int32} {x7 : Int32} {x8 : Int32} {σ : Hp}  (hk34 : ∀ (x1 : Int32) (x2 : Int32) (x3 : Int32) (x4 : Int32) (x5 : Int32) (x6 : Int32) (x7 : Int32) (x8 : Int32) (σ : Hp),  k34 x1 x2 x3 x4 x5 x6 x7 x8 σ = some res → Go wC v p l e R s m args below meth c 0 0 Q 10 34 [(0, .ref 39), (1, .int x1), (2, .int x2), (3, .int x3), (4, .int x4), (5, .int x5), (6, .int x6), (7, .int x7), (8, .int x8)] [] σ) (h : J_X0_playBest_83 o_X0_lay k34 x1 x2 x3 x4 x5 x6 x7 x8 σ = some res) : Go wC v p l e R s m args below meth c 0 0 Q 10 83 [(0, .ref 39), (1, .int x1), (2, .int x2), (3, .int x3), (4, .int x4), (5, .int x5), (6, .int x6), (7, .int x7), (8, .int x8)] [] σ := by
  unfold J_X0_playBest_83 at h
  refine go_aload_n X 0 (dk dt_X0_playBest_2 13 rfl) rfl rfl ?_
  refine go_iload_n X 1 (dk dt_X0_playBest_2 14 rfl) rfl rfl ?_
  refine go_iload X 8 (dk dt_X0_playBest_2 15 rfl) rfl ?_
  refine go_iload_n X 3 (dk dt_X0_playBest_3 0 rfl) rfl rfl ?_
  refine go_iload X 4 (dk dt_X0_playBest_3 1 rfl) rfl ?_
  refine go_iload X 5 (dk dt_X0_playBest_3 2 rfl) rfl ?_
  refine go_Vi (As := [.int x1, .int x8, .int x3, .int x4, .int x5]) (rest := []) X vo_X0_38 (fun q hq => ho_X0_lay  hq) hdd rfl lC_39 sC_39 rfl rfl (Nat.le_of_ble_eq_true rfl) (dk dt_X0_playBest_3 3 rfl) h (fun q92 h => ?_)
  refine go_istore (lv' := [(9, .int q92.1), (0, .ref 39), (1, .int x1), (2, .int x2), (3, .int x3), (4, .int x4), (5, .int x5), (6, .int x6), (7, .int x7), (8, .int x8)]) X (dk dt_X0_playBest_3 4 rfl) (by decide) rfl ?_
  refine go_iload X 8 (dk dt_X0_playBest_3 5 rfl) rfl ?_
  refine go_iconst X (dk dt_X0_playBest_3 6 rfl) ci_m1 ?_
  refine go_icmp_eq (tgt := 114) X (dk dt_X0_playBest_3 7 rfl) (by decide) h (fun h => ?_) (fun h => ?_)
  · refine go_iload X 0 (dk dt_X0_playBest_3 13 rfl) rfl ?_
    refine go_goto (tgt := 121) X (dk dt_X0_playBest_3 14 rfl) (by decide) ?_
    refine go_istore (lv' := [(7, .int q92.1), (9, .int q92.1), (0, .ref 39), (1, .int x1), (2, .int x2), (3, .int x3), (4, .int x4), (5, .int x5), (6, .int x6), (8, .int x8)]) X (dk dt_X0_playBest_4 0 rfl) (by decide) rfl ?_
    refine go_iinc (lv' := [(8, .int (x8 + (1 : Int32))), (7, .int q92.1), (9, .int q92.1), (0, .ref 39), (1, .int x1), (2, .int x2), (3, .int x3), (4, .int x4), (5, .int x5), (6, .int x6)]) X 9 (dk dt_X0_playBest_4 1 rfl) rfl ci_1 (by decide) rfl ?_
    refine go_goto (tgt := 34) X (dk dt_X0_playBest_4 2 rfl) (by decide) ?_
    refine go_sub [3, 4, 5, 6, 7, 8, 9, 1, 0] rfl ?_
    exact hk34 _ _ _ _ _ _ _ _ _  h
  · refine go_iload_n X 3 (dk dt_X0_playBest_3 8 rfl) rfl rfl ?_
    refine go_iload X 0 (dk dt_X0_playBest_3 9 rfl) rfl ?_
    refine go_iload X 8 (dk dt_X0_playBest_3 10 rfl) rfl ?_
    refine go_Si (As := [.int x2, .int q92.1, .int x7]) (rest := []) X so_X0_42 (fun q hq => ct_X0_isBetter hi xc nx  hq) (by omega) rfl rfl (Nat.le_of_ble_eq_true rfl) (dk dt_X0_playBest_3 11 rfl) h (fun q108 h => ?_)
    refine go_if_eq (tgt := 119) X (dk dt_X0_playBest_3 12 rfl) (by decide) h (fun h => ?_) (fun h => ?_)
    · refine go_iload X 8 (dk dt_X0_playBest_3 15 rfl) rfl ?_
      refine go_istore (lv' := [(7, .int x7), (9, .int q92.1), (0, .ref 39), (1, .int x1), (2, .int x2), (3, .int x3), (4, .int x4), (5, .int x5), (6, .int x6), (8, .int x8)]) X (dk dt_X0_playBest_4 0 rfl) (by decide) rfl ?_
      refine go_iinc (lv' := [(8, .int (x8 + (1 : Int32))), (7, .int x7), (9, .int q92.1), (0, .ref 39), (1, .int x1), (2, .int x2), (3, .int x3), (4, .int x4), (5, .int x5), (6, .int x6)]) X 9 (dk dt_X0_playBest_4 1 rfl) rfl ci_1 (by decide) rfl ?_
      refine go_goto (tgt := 34) X (dk dt_X0_playBest_4 2 rfl) (by decide) ?_
      refine go_sub [3, 4, 5, 6, 7, 8, 9, 1, 0] rfl ?_
      exact hk34 _ _ _ _ _ _ _ _ _  h
    · refine go_iload X 0 (dk dt_X0_playBest_3 13 rfl) rfl ?_
      refine go_goto (tgt := 121) X (dk dt_X0_playBest_3 14 rfl) (by decide) ?_
      refine go_istore (lv' := [(7, .int q92.1), (9, .int q92.1), (0, .ref 39), (1, .int x1), (2, .int x2), (3, .int x3), (4, .int x4), (5, .int x5), (6, .int x6), (8, .int x8)]) X (dk dt_X0_playBest_4 0 rfl) (by decide) rfl ?_
      refine go_iinc (lv' := [(8, .int (x8 + (1 : Int32))), (7, .int q92.1), (9, .int q92.1), (0, .ref 39), (1, .int x1), (2, .int x2), (3, .int x3), (4, .int x4), (5, .int x5), (6, .int x6)]) X 9 (dk dt_X0_playBest_4 1 rfl) rfl ci_1 (by decide) rfl ?_
      refine go_goto (tgt := 34) X (dk dt_X0_playBest_4 2 rfl) (by decide) ?_
      refine go_sub [3, 4, 5, 6, 7, 8, 9, 1, 0] rfl ?_
      exact hk34 _ _ _ _ _ _ _ _ _  h
set_option maxRecDepth 20000 in
theorem lkB_X0_playBest_34 (hi : zInj wC v) (xc : XC wC v) (nx : NXC v) (X : Cx wC v p R s m args c 0 0 cX0_playBest 10 RX0 d) (rt : Rt wC v p l e R s m args below meth c 0 0 Q cX0_playBest false (some (.int res.1)) res.2) (hdb : 6 ≤ d) (ho_X0_lay : ∀ {b0 : Int32} {b1 : Int32} {b2 : Int32} {b3 : Int32} {b4 : Int32} {σ : Hp} {q : (Int32 × Hp)},  o_X0_lay b0 b1 b2 b3 b4 σ = some q → Ct wC v l yX0_lay cX0_lay 11 (some .int) d' [.ref 39, .int b0, .int b1, .int b2, .int b3, .int b4] σ (some (.int q.1)) q.2) (hdd : d' < d) {k129 : Int32 → Hp → Option (Int32 × Hp)} {k34 : Int32 → Int32 → Int32 → Int32 → Int32 → Int32 → Int32 → Int32 → Hp → Option (Int32 × Hp)} {x1 : Int32} {x2 : Int32} {x3 : Int32} {x4 : Int32} {x5 : Int32} {x6 : Int32} {x7 : Int32} {x8 : Int32} {σ : Hp}  (hk129 : ∀ (x7 : Int32) (σ : Hp),  k129 x7 σ = some res → Go wC v p l e R s m args below meth c 0 0 Q 10 129 [(7, .int x7)] [] σ) (hk34 : ∀ (x1 : Int32) (x2 : Int32) (x3 : Int32) (x4 : Int32) (x5 : Int32) (x6 : Int32) (x7 : Int32) (x8 : Int32) (σ : Hp),  k34 x1 x2 x3 x4 x5 x6 x7 x8 σ = some res → Go wC v p l e R s m args below meth c 0 0 Q 10 34 [(0, .ref 39), (1, .int x1), (2, .int x2), (3, .int x3), (4, .int x4), (5, .int x5), (6, .int x6), (7, .int x7), (8, .int x8)] [] σ) (h : B_X0_playBest_34 o_X0_lay k129 k34 x1 x2 x3 x4 x5 x6 x7 x8 σ = some res) : Go wC v p l e R s m args below meth c 0 0 Q 10 34 [(0, .ref 39), (1, .int x1), (2, .int x2), (3, .int x3), (4, .int x4), (5, .int x5), (6, .int x6), (7, .int x7), (8, .int x8)] [] σ := by
  unfold B_X0_playBest_34 at h
  refine go_iload X 8 (dk dt_X0_playBest_1 4 rfl) rfl ?_
  refine go_iload_n X 2 (dk dt_X0_playBest_1 5 rfl) rfl rfl ?_
  refine go_iconst X (dk dt_X0_playBest_1 6 rfl) ci_3 ?_
  refine go_imul X (dk dt_X0_playBest_1 7 rfl) ?_
  refine go_iconst X (dk dt_X0_playBest_1 8 rfl) ci_3 ?_
  refine go_iadd X (dk dt_X0_playBest_1 9 rfl) ?_
  refine go_icmp_ge (tgt := 129) X (dk dt_X0_playBest_1 10 rfl) (by decide) h (fun h => ?_) (fun h => ?_)
  · refine go_sub [7] rfl ?_
    exact hk129 _ _  h
  · refine go_iload X 8 (dk dt_X0_playBest_1 11 rfl) rfl ?_
    refine go_aload_n X 0 (dk dt_X0_playBest_1 12 rfl) rfl rfl ?_
    refine go_getr X fo_X0_11 lC_39 sC_39 fC_39_0 (dk dt_X0_playBest_1 13 rfl) ?_
    refine go_ialen X lC_40 sC_40 rfl (dk dt_X0_playBest_1 14 rfl) ?_
    refine go_icmp_ge (tgt := 129) X (dk dt_X0_playBest_1 15 rfl) (by decide) h (fun h => ?_) (fun h => ?_)
    · refine go_sub [7] rfl ?_
      exact hk129 _ _  h
    · refine go_iload_n X 1 (dk dt_X0_playBest_2 0 rfl) rfl rfl ?_
      refine go_iload X 8 (dk dt_X0_playBest_2 1 rfl) rfl ?_
      refine go_Si (As := [.int x1, .int x8]) (rest := []) X so_X0_34 (fun q hq => ct_X0_isLeft hi xc nx  hq) (by omega) rfl rfl (Nat.le_of_ble_eq_true rfl) (dk dt_X0_playBest_2 2 rfl) h (fun q57 h => ?_)
      refine go_if_eq (tgt := 123) X (dk dt_X0_playBest_2 3 rfl) (by decide) h (fun h => ?_) (fun h => ?_)
      · refine go_iinc (lv' := [(8, .int (x8 + (1 : Int32))), (0, .ref 39), (1, .int x1), (2, .int x2), (3, .int x3), (4, .int x4), (5, .int x5), (6, .int x6), (7, .int x7)]) X 8 (dk dt_X0_playBest_4 1 rfl) rfl ci_1 (by decide) rfl ?_
        refine go_goto (tgt := 34) X (dk dt_X0_playBest_4 2 rfl) (by decide) ?_
        refine go_sub [1, 2, 3, 4, 5, 6, 7, 8, 0] rfl ?_
        exact hk34 _ _ _ _ _ _ _ _ _  h
      · refine go_iload X 6 (dk dt_X0_playBest_2 4 rfl) rfl ?_
        refine go_if_eq (tgt := 83) X (dk dt_X0_playBest_2 5 rfl) (by decide) h (fun h => ?_) (fun h => ?_)
        · exact lkJ_X0_playBest_83 hi xc nx X rt hdb ho_X0_lay hdd  hk34 h
        · refine go_aload_n X 0 (dk dt_X0_playBest_2 6 rfl) rfl rfl ?_
          refine go_iload X 8 (dk dt_X0_playBest_2 7 rfl) rfl ?_
          refine go_Vi (As := [.int x8]) (rest := []) X vo_X0_52 (fun q hq => ct_X0_suit hi xc nx  hq) (by omega) rfl lC_39 sC_39 rfl rfl (Nat.le_of_ble_eq_true rfl) (dk dt_X0_playBest_2 8 rfl) h (fun q71 h => ?_)
          refine go_aload_n X 0 (dk dt_X0_playBest_2 9 rfl) rfl rfl ?_
          refine go_iload X 4 (dk dt_X0_playBest_2 10 rfl) rfl ?_
          refine go_Vi (As := [.int x4]) (rest := [.int q71.1]) X vo_X0_52 (fun q hq => ct_X0_suit hi xc nx  hq) (by omega) rfl lC_39 sC_39 rfl rfl (Nat.le_of_ble_eq_true rfl) (dk dt_X0_playBest_2 11 rfl) h (fun q77 h => ?_)
          refine go_icmp_ne (tgt := 123) X (dk dt_X0_playBest_2 12 rfl) (by decide) h (fun h => ?_) (fun h => ?_)
          · refine go_iinc (lv' := [(8, .int (x8 + (1 : Int32))), (0, .ref 39), (1, .int x1), (2, .int x2), (3, .int x3), (4, .int x4), (5, .int x5), (6, .int x6), (7, .int x7)]) X 8 (dk dt_X0_playBest_4 1 rfl) rfl ci_1 (by decide) rfl ?_
            refine go_goto (tgt := 34) X (dk dt_X0_playBest_4 2 rfl) (by decide) ?_
            refine go_sub [1, 2, 3, 4, 5, 6, 7, 8, 0] rfl ?_
            exact hk34 _ _ _ _ _ _ _ _ _  h
          · exact lkJ_X0_playBest_83 hi xc nx X rt hdb ho_X0_lay hdd  hk34 h
set_option maxRecDepth 20000 in
theorem lkL_X0_playBest_34 (hi : zInj wC v) (xc : XC wC v) (nx : NXC v) (X : Cx wC v p R s m args c 0 0 cX0_playBest 10 RX0 d) (rt : Rt wC v p l e R s m args below meth c 0 0 Q cX0_playBest false (some (.int res.1)) res.2) (hdb : 6 ≤ d) (ho_X0_lay : ∀ {b0 : Int32} {b1 : Int32} {b2 : Int32} {b3 : Int32} {b4 : Int32} {σ : Hp} {q : (Int32 × Hp)},  o_X0_lay b0 b1 b2 b3 b4 σ = some q → Ct wC v l yX0_lay cX0_lay 11 (some .int) d' [.ref 39, .int b0, .int b1, .int b2, .int b3, .int b4] σ (some (.int q.1)) q.2) (hdd : d' < d) {k129 : Int32 → Hp → Option (Int32 × Hp)} (hk129 : ∀ (x7 : Int32) (σ : Hp),  k129 x7 σ = some res → Go wC v p l e R s m args below meth c 0 0 Q 10 129 [(7, .int x7)] [] σ) (n : Nat) : ∀ {x1 : Int32} {x2 : Int32} {x3 : Int32} {x4 : Int32} {x5 : Int32} {x6 : Int32} {x7 : Int32} {x8 : Int32} {σ : Hp},  L_X0_playBest_34 o_X0_lay k129 n x1 x2 x3 x4 x5 x6 x7 x8 σ = some res → Go wC v p l e R s m args below meth c 0 0 Q 10 34 [(0, .ref 39), (1, .int x1), (2, .int x2), (3, .int x3), (4, .int x4), (5, .int x5), (6, .int x6), (7, .int x7), (8, .int x8)] [] σ := by
  induction n with
  | zero => intro x1 x2 x3 x4 x5 x6 x7 x8 σ  h; cases h
  | succ n ih =>
    intro x1 x2 x3 x4 x5 x6 x7 x8 σ  h
    exact lkB_X0_playBest_34 hi xc nx X rt hdb ho_X0_lay hdd  hk129 (fun _ _ _ _ _ _ _ _ _  hh => ih  hh) h
set_option maxRecDepth 20000 in
theorem lkJ_X0_playBest_129 (hi : zInj wC v) (xc : XC wC v) (nx : NXC v) (X : Cx wC v p R s m args c 0 0 cX0_playBest 10 RX0 d) (rt : Rt wC v p l e R s m args below meth c 0 0 Q cX0_playBest false (some (.int res.1)) res.2) (hdb : 6 ≤ d) (ho_X0_lay : ∀ {b0 : Int32} {b1 : Int32} {b2 : Int32} {b3 : Int32} {b4 : Int32} {σ : Hp} {q : (Int32 × Hp)},  o_X0_lay b0 b1 b2 b3 b4 σ = some q → Ct wC v l yX0_lay cX0_lay 11 (some .int) d' [.ref 39, .int b0, .int b1, .int b2, .int b3, .int b4] σ (some (.int q.1)) q.2) (hdd : d' < d)  {x7 : Int32} {σ : Hp}   (h : J_X0_playBest_129 o_X0_lay  x7 σ = some res) : Go wC v p l e R s m args below meth c 0 0 Q 10 129 [(7, .int x7)] [] σ := by
  unfold J_X0_playBest_129 at h
  refine go_iconst X (dk dt_X0_playBest_4 3 rfl) ci_0 ?_
  refine go_iload X 0 (dk dt_X0_playBest_4 4 rfl) rfl ?_
  refine go_mmax X mo_X0_58 (by omega) (Nat.le_of_ble_eq_true rfl) (dk dt_X0_playBest_4 5 rfl) ?_
  exact go_iret rt (dk dt_X0_playBest_4 6 rfl) h (fun hh => nomatch hh)
set_option maxRecDepth 20000 in
theorem lkJ_X0_playBest_24 (hi : zInj wC v) (xc : XC wC v) (nx : NXC v) (X : Cx wC v p R s m args c 0 0 cX0_playBest 10 RX0 d) (rt : Rt wC v p l e R s m args below meth c 0 0 Q cX0_playBest false (some (.int res.1)) res.2) (hdb : 6 ≤ d) (ho_X0_lay : ∀ {b0 : Int32} {b1 : Int32} {b2 : Int32} {b3 : Int32} {b4 : Int32} {σ : Hp} {q : (Int32 × Hp)},  o_X0_lay b0 b1 b2 b3 b4 σ = some q → Ct wC v l yX0_lay cX0_lay 11 (some .int) d' [.ref 39, .int b0, .int b1, .int b2, .int b3, .int b4] σ (some (.int q.1)) q.2) (hdd : d' < d)  {x1 : Int32} {x2 : Int32} {x3 : Int32} {x4 : Int32} {x5 : Int32} {s0 : Int32} {σ : Hp}   (h : J_X0_playBest_24 o_X0_lay  x1 x2 x3 x4 x5 s0 σ = some res) : Go wC v p l e R s m args below meth c 0 0 Q 10 24 [(0, .ref 39), (1, .int x1), (2, .int x2), (3, .int x3), (4, .int x4), (5, .int x5)] [.int s0] σ := by
  unfold J_X0_playBest_24 at h
  refine go_istore (lv' := [(6, .int s0), (0, .ref 39), (1, .int x1), (2, .int x2), (3, .int x3), (4, .int x4), (5, .int x5)]) X (dk dt_X0_playBest_0 13 rfl) (by decide) rfl ?_
  refine go_iconst X (dk dt_X0_playBest_0 14 rfl) ci_m1 ?_
  refine go_istore (lv' := [(7, .int (-1 : Int32)), (6, .int s0), (0, .ref 39), (1, .int x1), (2, .int x2), (3, .int x3), (4, .int x4), (5, .int x5)]) X (dk dt_X0_playBest_0 15 rfl) (by decide) rfl ?_
  refine go_iload_n X 4 (dk dt_X0_playBest_1 0 rfl) rfl rfl ?_
  refine go_iconst X (dk dt_X0_playBest_1 1 rfl) ci_3 ?_
  refine go_imul X (dk dt_X0_playBest_1 2 rfl) ?_
  refine go_istore (lv' := [(8, .int (x2 * (3 : Int32))), (7, .int (-1 : Int32)), (6, .int s0), (0, .ref 39), (1, .int x1), (2, .int x2), (3, .int x3), (4, .int x4), (5, .int x5)]) X (dk dt_X0_playBest_1 3 rfl) (by decide) rfl ?_
  refine go_sub [3, 4, 5, 6, 7, 8, 2, 1, 0] rfl ?_
  exact lkL_X0_playBest_34 hi xc nx X rt hdb ho_X0_lay hdd (fun _ _  hh => lkJ_X0_playBest_129 hi xc nx X rt hdb ho_X0_lay hdd   hh) FU  h
set_option maxRecDepth 20000 in
theorem lkJ_X0_playBest_23 (hi : zInj wC v) (xc : XC wC v) (nx : NXC v) (X : Cx wC v p R s m args c 0 0 cX0_playBest 10 RX0 d) (rt : Rt wC v p l e R s m args below meth c 0 0 Q cX0_playBest false (some (.int res.1)) res.2) (hdb : 6 ≤ d) (ho_X0_lay : ∀ {b0 : Int32} {b1 : Int32} {b2 : Int32} {b3 : Int32} {b4 : Int32} {σ : Hp} {q : (Int32 × Hp)},  o_X0_lay b0 b1 b2 b3 b4 σ = some q → Ct wC v l yX0_lay cX0_lay 11 (some .int) d' [.ref 39, .int b0, .int b1, .int b2, .int b3, .int b4] σ (some (.int q.1)) q.2) (hdd : d' < d)  {x1 : Int32} {x2 : Int32} {x3 : Int32} {x4 : Int32} {x5 : Int32} {σ : Hp}   (h : J_X0_playBest_23 o_X0_lay  x1 x2 x3 x4 x5 σ = some res) : Go wC v p l e R s m args below meth c 0 0 Q 10 23 [(0, .ref 39), (1, .int x1), (2, .int x2), (3, .int x3), (4, .int x4), (5, .int x5)] [] σ := by
  unfold J_X0_playBest_23 at h
  refine go_iconst X (dk dt_X0_playBest_0 12 rfl) ci_0 ?_
  exact lkJ_X0_playBest_24 hi xc nx X rt hdb ho_X0_lay hdd   h
set_option maxRecDepth 20000 in
theorem lkF_X0_playBest (hi : zInj wC v) (xc : XC wC v) (nx : NXC v) (X : Cx wC v p R s m args c 0 0 cX0_playBest 10 RX0 d) (rt : Rt wC v p l e R s m args below meth c 0 0 Q cX0_playBest false (some (.int res.1)) res.2) (hdb : 6 ≤ d) (ho_X0_lay : ∀ {b0 : Int32} {b1 : Int32} {b2 : Int32} {b3 : Int32} {b4 : Int32} {σ : Hp} {q : (Int32 × Hp)},  o_X0_lay b0 b1 b2 b3 b4 σ = some q → Ct wC v l yX0_lay cX0_lay 11 (some .int) d' [.ref 39, .int b0, .int b1, .int b2, .int b3, .int b4] σ (some (.int q.1)) q.2) (hdd : d' < d) {a1 : Int32} {a2 : Int32} {a3 : Int32} {a4 : Int32} {a5 : Int32} {σ : Hp}  (h : F_X0_playBest o_X0_lay a1 a2 a3 a4 a5 σ = some res) : Go wC v p l e R s m args below meth c 0 0 Q 10 0 [(0, .ref 39), (1, .int a1), (2, .int a2), (3, .int a3), (4, .int a4), (5, .int a5)] [] σ := by
  unfold F_X0_playBest at h
  refine go_iload_n X 3 (dk dt_X0_playBest_0 0 rfl) rfl rfl ?_
  refine go_if_le (tgt := 23) X (dk dt_X0_playBest_0 1 rfl) (by decide) h (fun h => ?_) (fun h => ?_)
  · exact lkJ_X0_playBest_23 hi xc nx X rt hdb ho_X0_lay hdd   h
  · refine go_aload_n X 0 (dk dt_X0_playBest_0 2 rfl) rfl rfl ?_
    refine go_iload_n X 1 (dk dt_X0_playBest_0 3 rfl) rfl rfl ?_
    refine go_iload_n X 2 (dk dt_X0_playBest_0 4 rfl) rfl rfl ?_
    refine go_aload_n X 0 (dk dt_X0_playBest_0 5 rfl) rfl rfl ?_
    refine go_iload X 4 (dk dt_X0_playBest_0 6 rfl) rfl ?_
    refine go_Vi (As := [.int a4]) (rest := [.int a2, .int a1, .ref 39]) X vo_X0_52 (fun q hq => ct_X0_suit hi xc nx  hq) (by omega) rfl lC_39 sC_39 rfl rfl (Nat.le_of_ble_eq_true rfl) (dk dt_X0_playBest_0 7 rfl) h (fun q10 h => ?_)
    refine go_Vi (As := [.int a1, .int a2, .int q10.1]) (rest := []) X vo_X0_55 (fun q hq => ct_X0_hasSuit hi xc nx  hq) (by omega) rfl lC_39 sC_39 rfl rfl (Nat.le_of_ble_eq_true rfl) (dk dt_X0_playBest_0 8 rfl) h (fun q13 h => ?_)
    refine go_if_eq (tgt := 23) X (dk dt_X0_playBest_0 9 rfl) (by decide) h (fun h => ?_) (fun h => ?_)
    · exact lkJ_X0_playBest_23 hi xc nx X rt hdb ho_X0_lay hdd   h
    · refine go_iconst X (dk dt_X0_playBest_0 10 rfl) ci_1 ?_
      refine go_goto (tgt := 24) X (dk dt_X0_playBest_0 11 rfl) (by decide) ?_
      exact lkJ_X0_playBest_24 hi xc nx X rt hdb ho_X0_lay hdd   h
set_option maxRecDepth 20000 in
theorem ct_X0_playBest (hi : zInj wC v) (xc : XC wC v) (nx : NXC v)  (hdb : 6 ≤ d) (ho_X0_lay : ∀ {b0 : Int32} {b1 : Int32} {b2 : Int32} {b3 : Int32} {b4 : Int32} {σ : Hp} {q : (Int32 × Hp)},  o_X0_lay b0 b1 b2 b3 b4 σ = some q → Ct wC v l yX0_lay cX0_lay 11 (some .int) d' [.ref 39, .int b0, .int b1, .int b2, .int b3, .int b4] σ (some (.int q.1)) q.2) (hdd : d' < d) {a1 : Int32} {a2 : Int32} {a3 : Int32} {a4 : Int32} {a5 : Int32} {σ : Hp}  {q : (Int32 × Hp)} (h : F_X0_playBest o_X0_lay a1 a2 a3 a4 a5 σ = some q) : Ct wC v l yX0_playBest cX0_playBest 10 (some .int) d [.ref 39, .int a1, .int a2, .int a3, .int a4, .int a5] σ (some (.int q.1)) q.2 :=
  Ct.intro false (by decide) hi xc (Nat.le_of_ble_eq_true rfl) rfl (fun p e R s m args below meth c Q X rt => lkF_X0_playBest hi xc nx X rt hdb ho_X0_lay hdd  h)
end
section
variable {v : ZV} {l : Launch}
set_option maxRecDepth 100000 in
theorem ct_G_X0_lay (hi : zInj wC v) (xc : XC wC v) (nx : NXC v) (n : Nat) : (∀ {b0 : Int32} {b1 : Int32} {b2 : Int32} {b3 : Int32} {b4 : Int32} {σ : Hp} {q : (Int32 × Hp)},  G_X0_lay n 0 b0 b1 b2 b3 b4 σ = some q → Ct wC v l yX0_lay cX0_lay 11 (some .int) (6 + n) [.ref 39, .int b0, .int b1, .int b2, .int b3, .int b4] σ (some (.int q.1)) q.2) ∧ (∀ {b0 : Int32} {b1 : Int32} {b2 : Int32} {b3 : Int32} {b4 : Int32} {σ : Hp} {q : (Int32 × Hp)},  G_X0_lay n 1 b0 b1 b2 b3 b4 σ = some q → Ct wC v l yX0_playBest cX0_playBest 10 (some .int) (6 + n) [.ref 39, .int b0, .int b1, .int b2, .int b3, .int b4] σ (some (.int q.1)) q.2) := by
  induction n with
  | zero => refine ⟨?_, ?_⟩ <;> (intros; rename_i h; rw [G_X0_lay_z] at h; cases h)
  | succ n ih =>
    obtain ⟨i0, i1⟩ := ih
    refine ⟨?_, ?_⟩
    · intro a1 a2 a3 a4 a5 σ q  h
      rw [G_X0_lay_0] at h
      exact ct_X0_lay (d := 6 + (n + 1)) (d' := 6 + n) hi xc nx (by omega) i1 (by omega)  h
    · intro a1 a2 a3 a4 a5 σ q  h
      rw [G_X0_lay_1] at h
      exact ct_X0_playBest (d := 6 + (n + 1)) (d' := 6 + n) hi xc nx (by omega) i0 (by omega)  h
theorem ctD_X0_lay (hi : zInj wC v) (xc : XC wC v) (nx : NXC v) {a1 : Int32} {a2 : Int32} {a3 : Int32} {a4 : Int32} {a5 : Int32} {σ : Hp}  {q : (Int32 × Hp)} (h : D_X0_lay a1 a2 a3 a4 a5 σ = some q) : Ct wC v l yX0_lay cX0_lay 11 (some .int) 36 [.ref 39, .int a1, .int a2, .int a3, .int a4, .int a5] σ (some (.int q.1)) q.2 := (ct_G_X0_lay hi xc nx 30).1  h
theorem ctD_X0_playBest (hi : zInj wC v) (xc : XC wC v) (nx : NXC v) {a1 : Int32} {a2 : Int32} {a3 : Int32} {a4 : Int32} {a5 : Int32} {σ : Hp}  {q : (Int32 × Hp)} (h : D_X0_playBest a1 a2 a3 a4 a5 σ = some q) : Ct wC v l yX0_playBest cX0_playBest 10 (some .int) 36 [.ref 39, .int a1, .int a2, .int a3, .int a4, .int a5] σ (some (.int q.1)) q.2 := (ct_G_X0_lay hi xc nx 30).2  h
end
def T_X0_playFrom_0 : DT := [(0, .aload_n 0, 1), (1, .iconst (-1), 1), (2, .putfield 25, 3), (5, .iload_n 1, 1), (6, .iconst 3, 1), (7, .imul, 1), (8, .istore_n 2, 1), (9, .iload_n 2, 1), (10, .iload_n 1, 1), (11, .iconst 3, 1), (12, .imul, 1), (13, .iconst 3, 1), (14, .iadd, 1), (15, .if_icmp .ge 110, 3), (18, .iload_n 2, 1), (19, .aload_n 0, 1)]
theorem dt_X0_playFrom_0 : dOk cX0_playFrom T_X0_playFrom_0 := by unfold dOk; decide +kernel
def T_X0_playFrom_1 : DT := [(20, .getfield 11, 3), (23, .arraylength, 1), (24, .if_icmp .ge 101, 3), (27, .aload_n 0, 1), (28, .getfield 19, 3), (31, .iload_n 2, 1), (32, .invokestatic 34, 3), (35, .ifCond .eq 84, 3), (38, .aload_n 0, 1), (39, .aload_n 0, 1), (40, .getfield 19, 3), (43, .iload_n 2, 1), (44, .iconst 0, 1), (45, .iconst 0, 1), (46, .iconst 0, 1), (47, .invokevirtual 38, 3)]
theorem dt_X0_playFrom_1 : dOk cX0_playFrom T_X0_playFrom_1 := by unfold dOk; decide +kernel
def T_X0_playFrom_2 : DT := [(50, .istore_n 3, 1), (51, .aload_n 0, 1), (52, .getfield 25, 3), (55, .iconst (-1), 1), (56, .if_icmp .eq 15, 3), (59, .iload_n 1, 1), (60, .iload_n 3, 1), (61, .aload_n 0, 1), (62, .getfield 22, 3), (65, .invokestatic 42, 3), (68, .ifCond .eq 7, 3), (71, .iconst 1, 1), (72, .goto 4, 3), (75, .iconst 0, 1), (76, .istore 4, 2), (78, .iload 4, 2)]
theorem dt_X0_playFrom_2 : dOk cX0_playFrom T_X0_playFrom_2 := by unfold dOk; decide +kernel
def T_X0_playFrom_3 : DT := [(80, .ifCond .ne 24, 3), (83, .iload_n 3, 1), (84, .aload_n 0, 1), (85, .getfield 22, 3), (88, .if_icmp .ne 31, 3), (91, .aload_n 0, 1), (92, .getfield 11, 3), (95, .iload_n 2, 1), (96, .iaload, 1), (97, .aload_n 0, 1), (98, .getfield 25, 3), (101, .if_icmp .ge 18, 3), (104, .aload_n 0, 1), (105, .iload_n 3, 1), (106, .putfield 22, 3), (109, .aload_n 0, 1)]
theorem dt_X0_playFrom_3 : dOk cX0_playFrom T_X0_playFrom_3 := by unfold dOk; decide +kernel
def T_X0_playFrom_4 : DT := [(110, .aload_n 0, 1), (111, .getfield 11, 3), (114, .iload_n 2, 1), (115, .iaload, 1), (116, .putfield 25, 3), (119, .iinc 2 1, 3), (122, .goto (-113), 3), (125, .return_, 1)]
theorem dt_X0_playFrom_4 : dOk cX0_playFrom T_X0_playFrom_4 := by unfold dOk; decide +kernel
section
variable {v : ZV} {l : Launch} {p : Program} {e : Env} {R : Room} {s : State} {m : MethodId} {args : Array Value} {below : List Frame} {meth : Method} {c : Code} {Q : State → Prop} {res : Hp} 
set_option maxRecDepth 20000 in
theorem lkJ_X0_playFrom_104 (hi : zInj wC v) (xc : XC wC v) (nx : NXC v) (X : Cx wC v p R s m args c 0 0 cX0_playFrom 5 RX0 38) (rt : Rt wC v p l e R s m args below meth c 0 0 Q cX0_playFrom false none res) {k9 : Int32 → Int32 → Hp → Option Hp} {x1 : Int32} {x2 : Int32} {x3 : Int32} {σ : Hp}  (hk9 : ∀ (x1 : Int32) (x2 : Int32) (σ : Hp),  k9 x1 x2 σ = some res → Go wC v p l e R s m args below meth c 0 0 Q 5 9 [(0, .ref 39), (1, .int x1), (2, .int x2)] [] σ) (h : J_X0_playFrom_104  k9 x1 x2 x3 σ = some res) : Go wC v p l e R s m args below meth c 0 0 Q 5 104 [(0, .ref 39), (1, .int x1), (2, .int x2), (3, .int x3)] [] σ := by
  unfold J_X0_playFrom_104 at h
  refine go_aload_n X 0 (dk dt_X0_playFrom_3 12 rfl) rfl rfl ?_
  refine go_iload_n X 3 (dk dt_X0_playFrom_3 13 rfl) rfl rfl ?_
  refine go_puti X fo_X0_22 pf_0_3 lC_39 sC_39 fC_39_3 (dk dt_X0_playFrom_3 14 rfl) ?_
  refine go_aload_n X 0 (dk dt_X0_playFrom_3 15 rfl) rfl rfl ?_
  refine go_aload_n X 0 (dk dt_X0_playFrom_4 0 rfl) rfl rfl ?_
  refine go_getr X fo_X0_11 lC_39 sC_39 fC_39_0 (dk dt_X0_playFrom_4 1 rfl) ?_
  refine go_iload_n X 2 (dk dt_X0_playFrom_4 2 rfl) rfl rfl ?_
  refine go_iald X lC_40 sC_40 (dk dt_X0_playFrom_4 3 rfl) h (fun h => ?_)
  refine go_puti X fo_X0_25 pf_0_4 lC_39 sC_39 fC_39_4 (dk dt_X0_playFrom_4 4 rfl) ?_
  refine go_iinc (lv' := [(2, .int (x2 + (1 : Int32))), (0, .ref 39), (1, .int x1), (3, .int x3)]) X 2 (dk dt_X0_playFrom_4 5 rfl) rfl ci_1 (by decide) rfl ?_
  refine go_goto (tgt := 9) X (dk dt_X0_playFrom_4 6 rfl) (by decide) ?_
  refine go_sub [1, 2, 0] rfl ?_
  exact hk9 _ _ _  h
set_option maxRecDepth 20000 in
theorem lkJ_X0_playFrom_76 (hi : zInj wC v) (xc : XC wC v) (nx : NXC v) (X : Cx wC v p R s m args c 0 0 cX0_playFrom 5 RX0 38) (rt : Rt wC v p l e R s m args below meth c 0 0 Q cX0_playFrom false none res) {k9 : Int32 → Int32 → Hp → Option Hp} {x1 : Int32} {x2 : Int32} {x3 : Int32} {s0 : Int32} {σ : Hp}  (hk9 : ∀ (x1 : Int32) (x2 : Int32) (σ : Hp),  k9 x1 x2 σ = some res → Go wC v p l e R s m args below meth c 0 0 Q 5 9 [(0, .ref 39), (1, .int x1), (2, .int x2)] [] σ) (h : J_X0_playFrom_76  k9 x1 x2 x3 s0 σ = some res) : Go wC v p l e R s m args below meth c 0 0 Q 5 76 [(0, .ref 39), (1, .int x1), (2, .int x2), (3, .int x3)] [.int s0] σ := by
  unfold J_X0_playFrom_76 at h
  refine go_istore (lv' := [(4, .int s0), (0, .ref 39), (1, .int x1), (2, .int x2), (3, .int x3)]) X (dk dt_X0_playFrom_2 14 rfl) (by decide) rfl ?_
  refine go_iload X 0 (dk dt_X0_playFrom_2 15 rfl) rfl ?_
  refine go_if_ne (tgt := 104) X (dk dt_X0_playFrom_3 0 rfl) (by decide) h (fun h => ?_) (fun h => ?_)
  · refine go_sub [1, 2, 3, 4] rfl ?_
    exact lkJ_X0_playFrom_104 hi xc nx X rt  hk9 h
  · refine go_iload_n X 4 (dk dt_X0_playFrom_3 1 rfl) rfl rfl ?_
    refine go_aload_n X 1 (dk dt_X0_playFrom_3 2 rfl) rfl rfl ?_
    refine go_geti X fo_X0_22 lC_39 sC_39 fC_39_3 (dk dt_X0_playFrom_3 3 rfl) ?_
    refine go_icmp_ne (tgt := 119) X (dk dt_X0_playFrom_3 4 rfl) (by decide) h (fun h => ?_) (fun h => ?_)
    · refine go_iinc (lv' := [(2, .int (x2 + (1 : Int32))), (4, .int s0), (0, .ref 39), (1, .int x1), (3, .int x3)]) X 3 (dk dt_X0_playFrom_4 5 rfl) rfl ci_1 (by decide) rfl ?_
      refine go_goto (tgt := 9) X (dk dt_X0_playFrom_4 6 rfl) (by decide) ?_
      refine go_sub [2, 3, 0] rfl ?_
      exact hk9 _ _ _  h
    · refine go_aload_n X 1 (dk dt_X0_playFrom_3 5 rfl) rfl rfl ?_
      refine go_getr X fo_X0_11 lC_39 sC_39 fC_39_0 (dk dt_X0_playFrom_3 6 rfl) ?_
      refine go_iload_n X 3 (dk dt_X0_playFrom_3 7 rfl) rfl rfl ?_
      refine go_iald X lC_40 sC_40 (dk dt_X0_playFrom_3 8 rfl) h (fun h => ?_)
      refine go_aload_n X 1 (dk dt_X0_playFrom_3 9 rfl) rfl rfl ?_
      refine go_geti X fo_X0_25 lC_39 sC_39 fC_39_4 (dk dt_X0_playFrom_3 10 rfl) ?_
      refine go_icmp_ge (tgt := 119) X (dk dt_X0_playFrom_3 11 rfl) (by decide) h (fun h => ?_) (fun h => ?_)
      · refine go_iinc (lv' := [(2, .int (x2 + (1 : Int32))), (4, .int s0), (0, .ref 39), (1, .int x1), (3, .int x3)]) X 3 (dk dt_X0_playFrom_4 5 rfl) rfl ci_1 (by decide) rfl ?_
        refine go_goto (tgt := 9) X (dk dt_X0_playFrom_4 6 rfl) (by decide) ?_
        refine go_sub [2, 3, 0] rfl ?_
        exact hk9 _ _ _  h
      · refine go_sub [1, 2, 3, 4] rfl ?_
        exact lkJ_X0_playFrom_104 hi xc nx X rt  hk9 h
set_option maxRecDepth 20000 in
theorem lkJ_X0_playFrom_71 (hi : zInj wC v) (xc : XC wC v) (nx : NXC v) (X : Cx wC v p R s m args c 0 0 cX0_playFrom 5 RX0 38) (rt : Rt wC v p l e R s m args below meth c 0 0 Q cX0_playFrom false none res) {k9 : Int32 → Int32 → Hp → Option Hp} {x1 : Int32} {x2 : Int32} {x3 : Int32} {σ : Hp}  (hk9 : ∀ (x1 : Int32) (x2 : Int32) (σ : Hp),  k9 x1 x2 σ = some res → Go wC v p l e R s m args below meth c 0 0 Q 5 9 [(0, .ref 39), (1, .int x1), (2, .int x2)] [] σ) (h : J_X0_playFrom_71  k9 x1 x2 x3 σ = some res) : Go wC v p l e R s m args below meth c 0 0 Q 5 71 [(0, .ref 39), (1, .int x1), (2, .int x2), (3, .int x3)] [] σ := by
  unfold J_X0_playFrom_71 at h
  refine go_iconst X (dk dt_X0_playFrom_2 11 rfl) ci_1 ?_
  refine go_goto (tgt := 76) X (dk dt_X0_playFrom_2 12 rfl) (by decide) ?_
  exact lkJ_X0_playFrom_76 hi xc nx X rt  hk9 h
set_option maxRecDepth 20000 in
theorem lkB_X0_playFrom_9 (hi : zInj wC v) (xc : XC wC v) (nx : NXC v) (X : Cx wC v p R s m args c 0 0 cX0_playFrom 5 RX0 38) (rt : Rt wC v p l e R s m args below meth c 0 0 Q cX0_playFrom false none res) {k9 : Int32 → Int32 → Hp → Option Hp} {x1 : Int32} {x2 : Int32} {σ : Hp}  (hk9 : ∀ (x1 : Int32) (x2 : Int32) (σ : Hp),  k9 x1 x2 σ = some res → Go wC v p l e R s m args below meth c 0 0 Q 5 9 [(0, .ref 39), (1, .int x1), (2, .int x2)] [] σ) (h : B_X0_playFrom_9  k9 x1 x2 σ = some res) : Go wC v p l e R s m args below meth c 0 0 Q 5 9 [(0, .ref 39), (1, .int x1), (2, .int x2)] [] σ := by
  unfold B_X0_playFrom_9 at h
  refine go_iload_n X 2 (dk dt_X0_playFrom_0 7 rfl) rfl rfl ?_
  refine go_iload_n X 1 (dk dt_X0_playFrom_0 8 rfl) rfl rfl ?_
  refine go_iconst X (dk dt_X0_playFrom_0 9 rfl) ci_3 ?_
  refine go_imul X (dk dt_X0_playFrom_0 10 rfl) ?_
  refine go_iconst X (dk dt_X0_playFrom_0 11 rfl) ci_3 ?_
  refine go_iadd X (dk dt_X0_playFrom_0 12 rfl) ?_
  refine go_icmp_ge (tgt := 125) X (dk dt_X0_playFrom_0 13 rfl) (by decide) h (fun h => ?_) (fun h => ?_)
  · exact go_vret rt (dk dt_X0_playFrom_4 7 rfl) h
  · refine go_iload_n X 2 (dk dt_X0_playFrom_0 14 rfl) rfl rfl ?_
    refine go_aload_n X 0 (dk dt_X0_playFrom_0 15 rfl) rfl rfl ?_
    refine go_getr X fo_X0_11 lC_39 sC_39 fC_39_0 (dk dt_X0_playFrom_1 0 rfl) ?_
    refine go_ialen X lC_40 sC_40 rfl (dk dt_X0_playFrom_1 1 rfl) ?_
    refine go_icmp_ge (tgt := 125) X (dk dt_X0_playFrom_1 2 rfl) (by decide) h (fun h => ?_) (fun h => ?_)
    · exact go_vret rt (dk dt_X0_playFrom_4 7 rfl) h
    · refine go_aload_n X 0 (dk dt_X0_playFrom_1 3 rfl) rfl rfl ?_
      refine go_geti X fo_X0_19 lC_39 sC_39 fC_39_2 (dk dt_X0_playFrom_1 4 rfl) ?_
      refine go_iload_n X 2 (dk dt_X0_playFrom_1 5 rfl) rfl rfl ?_
      refine go_Si (As := [.int (σ 39 2), .int x2]) (rest := []) X so_X0_34 (fun q hq => ct_X0_isLeft hi xc nx  hq) (by decide) rfl rfl (Nat.le_of_ble_eq_true rfl) (dk dt_X0_playFrom_1 6 rfl) h (fun q32 h => ?_)
      refine go_if_eq (tgt := 119) X (dk dt_X0_playFrom_1 7 rfl) (by decide) h (fun h => ?_) (fun h => ?_)
      · refine go_iinc (lv' := [(2, .int (x2 + (1 : Int32))), (0, .ref 39), (1, .int x1)]) X 2 (dk dt_X0_playFrom_4 5 rfl) rfl ci_1 (by decide) rfl ?_
        refine go_goto (tgt := 9) X (dk dt_X0_playFrom_4 6 rfl) (by decide) ?_
        refine go_sub [1, 2, 0] rfl ?_
        exact hk9 _ _ _  h
      · refine go_aload_n X 0 (dk dt_X0_playFrom_1 8 rfl) rfl rfl ?_
        refine go_aload_n X 0 (dk dt_X0_playFrom_1 9 rfl) rfl rfl ?_
        refine go_geti X fo_X0_19 lC_39 sC_39 fC_39_2 (dk dt_X0_playFrom_1 10 rfl) ?_
        refine go_iload_n X 2 (dk dt_X0_playFrom_1 11 rfl) rfl rfl ?_
        refine go_iconst X (dk dt_X0_playFrom_1 12 rfl) ci_0 ?_
        refine go_iconst X (dk dt_X0_playFrom_1 13 rfl) ci_0 ?_
        refine go_iconst X (dk dt_X0_playFrom_1 14 rfl) ci_0 ?_
        refine go_Vi (As := [.int (q32.2 39 2), .int x2, .int (0 : Int32), .int (0 : Int32), .int (0 : Int32)]) (rest := []) X vo_X0_38 (fun q hq => ctD_X0_lay hi xc nx  hq) (by decide) rfl lC_39 sC_39 rfl rfl (Nat.le_of_ble_eq_true rfl) (dk dt_X0_playFrom_1 15 rfl) h (fun q47 h => ?_)
        refine go_istore_n (lv' := [(3, .int q47.1), (0, .ref 39), (1, .int x1), (2, .int x2)]) X (dk dt_X0_playFrom_2 0 rfl) rfl (by decide) rfl ?_
        refine go_aload_n X 1 (dk dt_X0_playFrom_2 1 rfl) rfl rfl ?_
        refine go_geti X fo_X0_25 lC_39 sC_39 fC_39_4 (dk dt_X0_playFrom_2 2 rfl) ?_
        refine go_iconst X (dk dt_X0_playFrom_2 3 rfl) ci_m1 ?_
        refine go_icmp_eq (tgt := 71) X (dk dt_X0_playFrom_2 4 rfl) (by decide) h (fun h => ?_) (fun h => ?_)
        · refine go_sub [1, 2, 3, 0] rfl ?_
          exact lkJ_X0_playFrom_71 hi xc nx X rt  hk9 h
        · refine go_iload_n X 2 (dk dt_X0_playFrom_2 5 rfl) rfl rfl ?_
          refine go_iload_n X 0 (dk dt_X0_playFrom_2 6 rfl) rfl rfl ?_
          refine go_aload_n X 1 (dk dt_X0_playFrom_2 7 rfl) rfl rfl ?_
          refine go_geti X fo_X0_22 lC_39 sC_39 fC_39_3 (dk dt_X0_playFrom_2 8 rfl) ?_
          refine go_Si (As := [.int x1, .int q47.1, .int (q47.2 39 3)]) (rest := []) X so_X0_42 (fun q hq => ct_X0_isBetter hi xc nx  hq) (by decide) rfl rfl (Nat.le_of_ble_eq_true rfl) (dk dt_X0_playFrom_2 9 rfl) h (fun q65 h => ?_)
          refine go_if_eq (tgt := 75) X (dk dt_X0_playFrom_2 10 rfl) (by decide) h (fun h => ?_) (fun h => ?_)
          · refine go_iconst X (dk dt_X0_playFrom_2 13 rfl) ci_0 ?_
            refine go_sub [1, 2, 3, 0] rfl ?_
            exact lkJ_X0_playFrom_76 hi xc nx X rt  hk9 h
          · refine go_sub [1, 2, 3, 0] rfl ?_
            exact lkJ_X0_playFrom_71 hi xc nx X rt  hk9 h
set_option maxRecDepth 20000 in
theorem lkL_X0_playFrom_9 (hi : zInj wC v) (xc : XC wC v) (nx : NXC v) (X : Cx wC v p R s m args c 0 0 cX0_playFrom 5 RX0 38) (rt : Rt wC v p l e R s m args below meth c 0 0 Q cX0_playFrom false none res)   (n : Nat) : ∀ {x1 : Int32} {x2 : Int32} {σ : Hp},  L_X0_playFrom_9   n x1 x2 σ = some res → Go wC v p l e R s m args below meth c 0 0 Q 5 9 [(0, .ref 39), (1, .int x1), (2, .int x2)] [] σ := by
  induction n with
  | zero => intro x1 x2 σ  h; cases h
  | succ n ih =>
    intro x1 x2 σ  h
    exact lkB_X0_playFrom_9 hi xc nx X rt  (fun _ _ _  hh => ih  hh) h
set_option maxRecDepth 20000 in
theorem lkF_X0_playFrom (hi : zInj wC v) (xc : XC wC v) (nx : NXC v) (X : Cx wC v p R s m args c 0 0 cX0_playFrom 5 RX0 38) (rt : Rt wC v p l e R s m args below meth c 0 0 Q cX0_playFrom false none res) {a1 : Int32} {σ : Hp}  (h : F_X0_playFrom  a1 σ = some res) : Go wC v p l e R s m args below meth c 0 0 Q 5 0 [(0, .ref 39), (1, .int a1)] [] σ := by
  unfold F_X0_playFrom at h
  refine go_aload_n X 0 (dk dt_X0_playFrom_0 0 rfl) rfl rfl ?_
  refine go_iconst X (dk dt_X0_playFrom_0 1 rfl) ci_m1 ?_
  refine go_puti X fo_X0_25 pf_0_4 lC_39 sC_39 fC_39_4 (dk dt_X0_playFrom_0 2 rfl) ?_
  refine go_iload_n X 1 (dk dt_X0_playFrom_0 3 rfl) rfl rfl ?_
  refine go_iconst X (dk dt_X0_playFrom_0 4 rfl) ci_3 ?_
  refine go_imul X (dk dt_X0_playFrom_0 5 rfl) ?_
  refine go_istore_n (lv' := [(2, .int (a1 * (3 : Int32))), (0, .ref 39), (1, .int a1)]) X (dk dt_X0_playFrom_0 6 rfl) rfl (by decide) rfl ?_
  refine go_sub [1, 2, 0] rfl ?_
  exact lkL_X0_playFrom_9 hi xc nx X rt  FU  h
set_option maxRecDepth 20000 in
theorem ct_X0_playFrom (hi : zInj wC v) (xc : XC wC v) (nx : NXC v)  {a1 : Int32} {σ : Hp}  {q : Hp} (h : F_X0_playFrom  a1 σ = some q) : Ct wC v l yX0_playFrom cX0_playFrom 5 none 38 [.ref 39, .int a1] σ none q :=
  Ct.intro false (by decide) hi xc (Nat.le_of_ble_eq_true rfl) rfl (fun p e R s m args below meth c Q X rt => lkF_X0_playFrom hi xc nx X rt  h)
end
def T_V_bridge_0 : DT := [(0, .iload_n 1, 1), (1, .iconst 1, 1), (2, .iconst 3, 1), (3, .invokestatic 119, 3), (6, .ifCond .eq 44, 3), (9, .iload_n 2, 1), (10, .iconst 0, 1), (11, .iconst 4, 1), (12, .invokestatic 119, 3), (15, .ifCond .eq 35, 3), (18, .iload_n 3, 1), (19, .iconst 0, 1), (20, .iconst 3, 1), (21, .invokestatic 119, 3), (24, .ifCond .eq 26, 3), (27, .iload 4, 2)]
theorem dt_V_bridge_0 : dOk cX11_bridge T_V_bridge_0 := by unfold dOk; decide +kernel
def T_V_bridge_1 : DT := [(29, .iconst 0, 1), (30, .iconst 1, 1), (31, .invokestatic 119, 3), (34, .ifCond .eq 16, 3), (37, .aload_n 0, 1), (38, .getfield 32, 3), (41, .iconst 4, 1), (42, .iload_n 1, 1), (43, .imul, 1), (44, .invokevirtual 151, 3), (47, .ifCond .ne 5, 3), (50, .iconst (-1), 1), (51, .ireturn, 1), (52, .aload_n 0, 1), (53, .getfield 84, 3), (56, .aload_n 0, 1)]
theorem dt_V_bridge_1 : dOk cX11_bridge T_V_bridge_1 := by unfold dOk; decide +kernel
def T_V_bridge_2 : DT := [(57, .getfield 32, 3), (60, .iload_n 1, 1), (61, .iload_n 2, 1), (62, .invokevirtual 315, 3), (65, .istore 5, 2), (67, .aload_n 0, 1), (68, .getfield 32, 3), (71, .invokevirtual 158, 3), (74, .iload 5, 2), (76, .ifCond .ne 6, 3), (79, .bipush (-2), 2), (81, .ireturn, 1), (82, .aload_n 0, 1), (83, .getfield 84, 3), (86, .iload_n 3, 1), (87, .invokevirtual 319, 3)]
theorem dt_V_bridge_2 : dOk cX11_bridge T_V_bridge_2 := by unfold dOk; decide +kernel
def T_V_bridge_3 : DT := [(90, .iload 4, 2), (92, .ifCond .ne 13, 3), (95, .aload_n 0, 1), (96, .getfield 84, 3), (99, .getfield 322, 3), (102, .goto 10, 3), (105, .aload_n 0, 1), (106, .getfield 84, 3), (109, .getfield 325, 3), (112, .ireturn, 1)]
theorem dt_V_bridge_3 : dOk cX11_bridge T_V_bridge_3 := by unfold dOk; decide +kernel
section
variable {v : ZV} {l : Launch} {p : Program} {e : Env} {R : Room} {s : State} {m : MethodId} {args : Array Value} {below : List Frame} {meth : Method} {c : Code} {Q : State → Prop} {res : (Int32 × Hp)} 
set_option maxRecDepth 20000 in
theorem lkF_V_bridge (hi : zInj wC v) (xc : XC wC v) (nx : NXC v) (X : Cx wC v p R s m args c 0 0 cX11_bridge 6 RX11 40) (rt : Rt wC v p l e R s m args below meth c 0 0 Q cX11_bridge false (some (.int res.1)) res.2) {a1 : Int32} {a2 : Int32} {a3 : Int32} {a4 : Int32} {σ : Hp}  (h : F_V_bridge  a1 a2 a3 a4 σ = some res) : Go wC v p l e R s m args below meth c 0 0 Q 6 0 [(0, .ref 0), (1, .int a1), (2, .int a2), (3, .int a3), (4, .int a4)] [] σ := by
  unfold F_V_bridge at h
  refine go_iload_n X 1 (dk dt_V_bridge_0 0 rfl) rfl rfl ?_
  refine go_iconst X (dk dt_V_bridge_0 1 rfl) ci_1 ?_
  refine go_iconst X (dk dt_V_bridge_0 2 rfl) ci_3 ?_
  refine go_Si (As := [.int a1, .int (1 : Int32), .int (3 : Int32)]) (rest := []) X so_X11_119 (fun q hq => ct_V_within hi xc nx  hq) (by decide) rfl rfl (Nat.le_of_ble_eq_true rfl) (dk dt_V_bridge_0 3 rfl) h (fun q3 h => ?_)
  refine go_if_eq (tgt := 50) X (dk dt_V_bridge_0 4 rfl) (by decide) h (fun h => ?_) (fun h => ?_)
  · refine go_iconst X (dk dt_V_bridge_1 11 rfl) ci_m1 ?_
    exact go_iret rt (dk dt_V_bridge_1 12 rfl) h (fun hh => nomatch hh)
  · refine go_iload_n X 2 (dk dt_V_bridge_0 5 rfl) rfl rfl ?_
    refine go_iconst X (dk dt_V_bridge_0 6 rfl) ci_0 ?_
    refine go_iconst X (dk dt_V_bridge_0 7 rfl) ci_4 ?_
    refine go_Si (As := [.int a2, .int (0 : Int32), .int (4 : Int32)]) (rest := []) X so_X11_119 (fun q hq => ct_V_within hi xc nx  hq) (by decide) rfl rfl (Nat.le_of_ble_eq_true rfl) (dk dt_V_bridge_0 8 rfl) h (fun q12 h => ?_)
    refine go_if_eq (tgt := 50) X (dk dt_V_bridge_0 9 rfl) (by decide) h (fun h => ?_) (fun h => ?_)
    · refine go_iconst X (dk dt_V_bridge_1 11 rfl) ci_m1 ?_
      exact go_iret rt (dk dt_V_bridge_1 12 rfl) h (fun hh => nomatch hh)
    · refine go_iload_n X 3 (dk dt_V_bridge_0 10 rfl) rfl rfl ?_
      refine go_iconst X (dk dt_V_bridge_0 11 rfl) ci_0 ?_
      refine go_iconst X (dk dt_V_bridge_0 12 rfl) ci_3 ?_
      refine go_Si (As := [.int a3, .int (0 : Int32), .int (3 : Int32)]) (rest := []) X so_X11_119 (fun q hq => ct_V_within hi xc nx  hq) (by decide) rfl rfl (Nat.le_of_ble_eq_true rfl) (dk dt_V_bridge_0 13 rfl) h (fun q21 h => ?_)
      refine go_if_eq (tgt := 50) X (dk dt_V_bridge_0 14 rfl) (by decide) h (fun h => ?_) (fun h => ?_)
      · refine go_iconst X (dk dt_V_bridge_1 11 rfl) ci_m1 ?_
        exact go_iret rt (dk dt_V_bridge_1 12 rfl) h (fun hh => nomatch hh)
      · refine go_iload X 4 (dk dt_V_bridge_0 15 rfl) rfl ?_
        refine go_iconst X (dk dt_V_bridge_1 0 rfl) ci_0 ?_
        refine go_iconst X (dk dt_V_bridge_1 1 rfl) ci_1 ?_
        refine go_Si (As := [.int a4, .int (0 : Int32), .int (1 : Int32)]) (rest := []) X so_X11_119 (fun q hq => ct_V_within hi xc nx  hq) (by decide) rfl rfl (Nat.le_of_ble_eq_true rfl) (dk dt_V_bridge_1 2 rfl) h (fun q31 h => ?_)
        refine go_if_eq (tgt := 50) X (dk dt_V_bridge_1 3 rfl) (by decide) h (fun h => ?_) (fun h => ?_)
        · refine go_iconst X (dk dt_V_bridge_1 11 rfl) ci_m1 ?_
          exact go_iret rt (dk dt_V_bridge_1 12 rfl) h (fun hh => nomatch hh)
        · refine go_aload_n X 0 (dk dt_V_bridge_1 4 rfl) rfl rfl ?_
          refine go_getr X fo_X11_32 lC_0 sC_0 fC_0_4 (dk dt_V_bridge_1 5 rfl) ?_
          refine go_iconst X (dk dt_V_bridge_1 6 rfl) ci_4 ?_
          refine go_iload_n X 1 (dk dt_V_bridge_1 7 rfl) rfl rfl ?_
          refine go_imul X (dk dt_V_bridge_1 8 rfl) ?_
          refine go_Vi (As := [.int ((4 : Int32) * a1)]) (rest := []) X vo_X11_151 (fun q hq => ct_X8_has hi xc nx  hq) (by decide) rfl lC_23 sC_23 rfl rfl (Nat.le_of_ble_eq_true rfl) (dk dt_V_bridge_1 9 rfl) h (fun q44 h => ?_)
          refine go_if_ne (tgt := 52) X (dk dt_V_bridge_1 10 rfl) (by decide) h (fun h => ?_) (fun h => ?_)
          · refine go_aload_n X 0 (dk dt_V_bridge_1 13 rfl) rfl rfl ?_
            refine go_getr X fo_X11_84 lC_0 sC_0 fC_0_12 (dk dt_V_bridge_1 14 rfl) ?_
            refine go_aload_n X 0 (dk dt_V_bridge_1 15 rfl) rfl rfl ?_
            refine go_getr X fo_X11_32 lC_0 sC_0 fC_0_4 (dk dt_V_bridge_2 0 rfl) ?_
            refine go_iload_n X 1 (dk dt_V_bridge_2 1 rfl) rfl rfl ?_
            refine go_iload_n X 2 (dk dt_V_bridge_2 2 rfl) rfl rfl ?_
            refine go_Vi (As := [.ref 23, .int a1, .int a2]) (rest := []) X vo_X11_315 (fun q hq => ct_X0_deal hi xc nx  hq) (by decide) rfl lC_39 sC_39 rfl rfl (Nat.le_of_ble_eq_true rfl) (dk dt_V_bridge_2 3 rfl) h (fun q62 h => ?_)
            refine go_istore (lv' := [(5, .int q62.1), (0, .ref 0), (1, .int a1), (2, .int a2), (3, .int a3), (4, .int a4)]) X (dk dt_V_bridge_2 4 rfl) (by decide) rfl ?_
            refine go_aload_n X 1 (dk dt_V_bridge_2 5 rfl) rfl rfl ?_
            refine go_getr X fo_X11_32 lC_0 sC_0 fC_0_4 (dk dt_V_bridge_2 6 rfl) ?_
            refine go_Vv (As := []) (rest := []) X vo_X11_158 (fun q hq => ct_X8_clear hi xc nx  hq) (by decide) rfl lC_23 sC_23 rfl rfl (Nat.le_of_ble_eq_true rfl) (dk dt_V_bridge_2 7 rfl) h (fun q71 h => ?_)
            refine go_iload X 0 (dk dt_V_bridge_2 8 rfl) rfl ?_
            refine go_if_ne (tgt := 82) X (dk dt_V_bridge_2 9 rfl) (by decide) h (fun h => ?_) (fun h => ?_)
            · refine go_aload_n X 1 (dk dt_V_bridge_2 12 rfl) rfl rfl ?_
              refine go_getr X fo_X11_84 lC_0 sC_0 fC_0_12 (dk dt_V_bridge_2 13 rfl) ?_
              refine go_iload_n X 4 (dk dt_V_bridge_2 14 rfl) rfl rfl ?_
              refine go_Vv (As := [.int a3]) (rest := []) X vo_X11_319 (fun q hq => ct_X0_playFrom hi xc nx  hq) (by decide) rfl lC_39 sC_39 rfl rfl (Nat.le_of_ble_eq_true rfl) (dk dt_V_bridge_2 15 rfl) h (fun q87 h => ?_)
              refine go_iload X 5 (dk dt_V_bridge_3 0 rfl) rfl ?_
              refine go_if_ne (tgt := 105) X (dk dt_V_bridge_3 1 rfl) (by decide) h (fun h => ?_) (fun h => ?_)
              · refine go_aload_n X 1 (dk dt_V_bridge_3 6 rfl) rfl rfl ?_
                refine go_getr X fo_X11_84 lC_0 sC_0 fC_0_12 (dk dt_V_bridge_3 7 rfl) ?_
                refine go_geti X fo_X11_325 lC_39 sC_39 fC_39_4 (dk dt_V_bridge_3 8 rfl) ?_
                exact go_iret rt (dk dt_V_bridge_3 9 rfl) h (fun hh => nomatch hh)
              · refine go_aload_n X 1 (dk dt_V_bridge_3 2 rfl) rfl rfl ?_
                refine go_getr X fo_X11_84 lC_0 sC_0 fC_0_12 (dk dt_V_bridge_3 3 rfl) ?_
                refine go_geti X fo_X11_322 lC_39 sC_39 fC_39_3 (dk dt_V_bridge_3 4 rfl) ?_
                refine go_goto (tgt := 112) X (dk dt_V_bridge_3 5 rfl) (by decide) ?_
                exact go_iret rt (dk dt_V_bridge_3 9 rfl) h (fun hh => nomatch hh)
            · refine go_bipush X (dk dt_V_bridge_2 10 rfl) cb_m2 ?_
              exact go_iret rt (dk dt_V_bridge_2 11 rfl) h (fun hh => nomatch hh)
          · refine go_iconst X (dk dt_V_bridge_1 11 rfl) ci_m1 ?_
            exact go_iret rt (dk dt_V_bridge_1 12 rfl) h (fun hh => nomatch hh)
set_option maxRecDepth 20000 in
theorem ct_V_bridge (hi : zInj wC v) (xc : XC wC v) (nx : NXC v)  {a1 : Int32} {a2 : Int32} {a3 : Int32} {a4 : Int32} {σ : Hp}  {q : (Int32 × Hp)} (h : F_V_bridge  a1 a2 a3 a4 σ = some q) : Ct wC v l yX11_bridge cX11_bridge 6 (some .int) 40 [.ref 0, .int a1, .int a2, .int a3, .int a4] σ (some (.int q.1)) q.2 :=
  Ct.intro false (by decide) hi xc (Nat.le_of_ble_eq_true rfl) rfl (fun p e R s m args below meth c Q X rt => lkF_V_bridge hi xc nx X rt  h)
end
def T_V_isChair_0 : DT := [(0, .iload_n 0, 1), (1, .invokestatic 131, 3), (4, .ifCond .eq 17, 3), (7, .iload_n 1, 1), (8, .iconst 0, 1), (9, .bipush 7, 2), (11, .invokestatic 119, 3), (14, .ifCond .eq 7, 3), (17, .iconst 1, 1), (18, .goto 4, 3), (21, .iconst 0, 1), (22, .ireturn, 1)]
theorem dt_V_isChair_0 : dOk cX11_isChair T_V_isChair_0 := by unfold dOk; decide +kernel
section
variable {v : ZV} {l : Launch} {p : Program} {e : Env} {R : Room} {s : State} {m : MethodId} {args : Array Value} {below : List Frame} {meth : Method} {c : Code} {Q : State → Prop} {res : (Int32 × Hp)} 
set_option maxRecDepth 20000 in
theorem lkF_V_isChair (hi : zInj wC v) (xc : XC wC v) (nx : NXC v) (X : Cx wC v p R s m args c 0 0 cX11_isChair 2 RX11 4) (rt : Rt wC v p l e R s m args below meth c 0 0 Q cX11_isChair true (some (.int res.1)) res.2) {a0 : Int32} {a1 : Int32} {σ : Hp}  (h : F_V_isChair  a0 a1 σ = some res) : Go wC v p l e R s m args below meth c 0 0 Q 2 0 [(0, .int a0), (1, .int a1)] [] σ := by
  unfold F_V_isChair at h
  refine go_iload_n X 0 (dk dt_V_isChair_0 0 rfl) rfl rfl ?_
  refine go_Si (As := [.int a0]) (rest := []) X so_X11_131 (fun q hq => ct_V_isSide hi xc nx  hq) (by decide) rfl rfl (Nat.le_of_ble_eq_true rfl) (dk dt_V_isChair_0 1 rfl) h (fun q1 h => ?_)
  refine go_if_eq (tgt := 21) X (dk dt_V_isChair_0 2 rfl) (by decide) h (fun h => ?_) (fun h => ?_)
  · refine go_iconst X (dk dt_V_isChair_0 10 rfl) ci_0 ?_
    exact go_iret rt (dk dt_V_isChair_0 11 rfl) h (by decide)
  · refine go_iload_n X 1 (dk dt_V_isChair_0 3 rfl) rfl rfl ?_
    refine go_iconst X (dk dt_V_isChair_0 4 rfl) ci_0 ?_
    refine go_bipush X (dk dt_V_isChair_0 5 rfl) cb_7 ?_
    refine go_Si (As := [.int a1, .int (0 : Int32), .int (7 : Int32)]) (rest := []) X so_X11_119 (fun q hq => ct_V_within hi xc nx  hq) (by decide) rfl rfl (Nat.le_of_ble_eq_true rfl) (dk dt_V_isChair_0 6 rfl) h (fun q11 h => ?_)
    refine go_if_eq (tgt := 21) X (dk dt_V_isChair_0 7 rfl) (by decide) h (fun h => ?_) (fun h => ?_)
    · refine go_iconst X (dk dt_V_isChair_0 10 rfl) ci_0 ?_
      exact go_iret rt (dk dt_V_isChair_0 11 rfl) h (by decide)
    · refine go_iconst X (dk dt_V_isChair_0 8 rfl) ci_1 ?_
      refine go_goto (tgt := 22) X (dk dt_V_isChair_0 9 rfl) (by decide) ?_
      exact go_iret rt (dk dt_V_isChair_0 11 rfl) h (by decide)
set_option maxRecDepth 20000 in
theorem ct_V_isChair (hi : zInj wC v) (xc : XC wC v) (nx : NXC v)  {a0 : Int32} {a1 : Int32} {σ : Hp}  {q : (Int32 × Hp)} (h : F_V_isChair  a0 a1 σ = some q) : Ct wC v l yX11_isChair cX11_isChair 2 (some .boolean) 4 [.int a0, .int a1] σ (some (.int q.1)) q.2 :=
  Ct.intro true (by decide) hi xc (Nat.le_of_ble_eq_true rfl) rfl (fun p e R s m args below meth c Q X rt => lkF_V_isChair hi xc nx X rt  h)
end
