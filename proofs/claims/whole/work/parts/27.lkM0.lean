def T_M_min_0 : DT := [(0, .iload_n 0, 1), (1, .iload_n 1, 1), (2, .if_icmp .ge 7, 3), (5, .iload_n 0, 1), (6, .goto 4, 3), (9, .iload_n 1, 1), (10, .ireturn, 1)]
theorem dt_M_min_0 : dOk cX12_min T_M_min_0 := by unfold dOk; decide +kernel
section
variable {v : ZV} {l : Launch} {p : Program} {e : Env} {R : Room} {s : State} {m : MethodId} {args : Array Value} {below : List Frame} {meth : Method} {c : Code} {Q : State → Prop} {res : (Int32 × Hp)} 
set_option maxRecDepth 20000 in
theorem lkF_M_min (hi : zInj wM v) (xc : XC wM v) (nx : NXM v) (X : Cx wM v p R s m args c 0 0 cX12_min 2 RX12 2) (rt : Rt wM v p l e R s m args below meth c 0 0 Q cX12_min false (some (.int res.1)) res.2) {a0 : Int32} {a1 : Int32} {σ : Hp}  (h : F_M_min  a0 a1 σ = some res) : Go wM v p l e R s m args below meth c 0 0 Q 2 0 [(0, .int a0), (1, .int a1)] [] σ := by
  unfold F_M_min at h
  refine go_iload_n X 0 (dk dt_M_min_0 0 rfl) rfl rfl ?_
  refine go_iload_n X 1 (dk dt_M_min_0 1 rfl) rfl rfl ?_
  refine go_icmp_ge (tgt := 9) X (dk dt_M_min_0 2 rfl) (by decide) h (fun h => ?_) (fun h => ?_)
  · refine go_iload_n X 1 (dk dt_M_min_0 5 rfl) rfl rfl ?_
    exact go_iret rt (dk dt_M_min_0 6 rfl) h (fun hh => nomatch hh)
  · refine go_iload_n X 0 (dk dt_M_min_0 3 rfl) rfl rfl ?_
    refine go_goto (tgt := 10) X (dk dt_M_min_0 4 rfl) (by decide) ?_
    exact go_iret rt (dk dt_M_min_0 6 rfl) h (fun hh => nomatch hh)
set_option maxRecDepth 20000 in
theorem ct_M_min (hi : zInj wM v) (xc : XC wM v) (nx : NXM v)  {a0 : Int32} {a1 : Int32} {σ : Hp}  {q : (Int32 × Hp)} (h : F_M_min  a0 a1 σ = some q) : Ct wM v l yX12_min cX12_min 2 (some .int) 2 [.int a0, .int a1] σ (some (.int q.1)) q.2 :=
  Ct.intro false (by decide) hi xc (Nat.le_of_ble_eq_true rfl) rfl (fun p e R s m args below meth c Q X rt => lkF_M_min hi xc nx X rt  h)
end
def T_M_answered_0 : DT := [(0, .aload_n 0, 1), (1, .getfield 71, 3), (4, .iconst 0, 1), (5, .iaload, 1), (6, .aload_n 0, 1), (7, .getfield 71, 3), (10, .iconst 1, 1), (11, .iaload, 1), (12, .invokestatic 270, 3), (15, .istore_n 1, 1), (16, .iconst 0, 1), (17, .istore_n 2, 1), (18, .iload_n 2, 1), (19, .iload_n 1, 1), (20, .if_icmp .ge 29, 3), (23, .aload_n 0, 1)]
theorem dt_M_answered_0 : dOk cX12_answered T_M_answered_0 := by unfold dOk; decide +kernel
def T_M_answered_1 : DT := [(24, .getfield 68, 3), (27, .iload_n 2, 1), (28, .baload, 1), (29, .aload_n 0, 1), (30, .getfield 68, 3), (33, .bipush 60, 2), (35, .iload_n 2, 1), (36, .iadd, 1), (37, .baload, 1), (38, .if_icmp .eq 5, 3), (41, .iload_n 2, 1), (42, .ireturn, 1), (43, .iinc 2 1, 3), (46, .goto (-28), 3), (49, .aload_n 0, 1), (50, .getfield 71, 3)]
theorem dt_M_answered_1 : dOk cX12_answered T_M_answered_1 := by unfold dOk; decide +kernel
def T_M_answered_2 : DT := [(53, .iconst 0, 1), (54, .iaload, 1), (55, .aload_n 0, 1), (56, .getfield 71, 3), (59, .iconst 1, 1), (60, .iaload, 1), (61, .if_icmp .ne 8, 3), (64, .bipush (-2), 2), (66, .goto 4, 3), (69, .iload_n 1, 1), (70, .ireturn, 1)]
theorem dt_M_answered_2 : dOk cX12_answered T_M_answered_2 := by unfold dOk; decide +kernel
section
variable {v : ZV} {l : Launch} {p : Program} {e : Env} {R : Room} {s : State} {m : MethodId} {args : Array Value} {below : List Frame} {meth : Method} {c : Code} {Q : State → Prop} {res : (Int32 × Hp)} 
set_option maxRecDepth 20000 in
theorem lkB_M_answered_18 (hi : zInj wM v) (xc : XC wM v) (nx : NXM v) (X : Cx wM v p R s m args c 0 0 cX12_answered 3 RX12 4) (rt : Rt wM v p l e R s m args below meth c 0 0 Q cX12_answered false (some (.int res.1)) res.2) {k49 : Int32 → Hp → Option (Int32 × Hp)} {k18 : Int32 → Int32 → Hp → Option (Int32 × Hp)} {x1 : Int32} {x2 : Int32} {σ : Hp}  (hk49 : ∀ (x1 : Int32) (σ : Hp),  k49 x1 σ = some res → Go wM v p l e R s m args below meth c 0 0 Q 3 49 [(0, .ref 0), (1, .int x1)] [] σ) (hk18 : ∀ (x1 : Int32) (x2 : Int32) (σ : Hp),  k18 x1 x2 σ = some res → Go wM v p l e R s m args below meth c 0 0 Q 3 18 [(0, .ref 0), (1, .int x1), (2, .int x2)] [] σ) (h : B_M_answered_18  k49 k18 x1 x2 σ = some res) : Go wM v p l e R s m args below meth c 0 0 Q 3 18 [(0, .ref 0), (1, .int x1), (2, .int x2)] [] σ := by
  unfold B_M_answered_18 at h
  refine go_iload_n X 2 (dk dt_M_answered_0 12 rfl) rfl rfl ?_
  refine go_iload_n X 1 (dk dt_M_answered_0 13 rfl) rfl rfl ?_
  refine go_icmp_ge (tgt := 49) X (dk dt_M_answered_0 14 rfl) (by decide) h (fun h => ?_) (fun h => ?_)
  · refine go_sub [0, 1] rfl ?_
    exact hk49 _ _  h
  · refine go_aload_n X 0 (dk dt_M_answered_0 15 rfl) rfl rfl ?_
    refine go_getr X fo_X12_68 lM_0 sM_0 fM_0_30 (dk dt_M_answered_1 0 rfl) ?_
    refine go_iload_n X 2 (dk dt_M_answered_1 1 rfl) rfl rfl ?_
    refine go_bald X lM_20 sM_20 (dk dt_M_answered_1 2 rfl) h (fun h => ?_)
    refine go_aload_n X 0 (dk dt_M_answered_1 3 rfl) rfl rfl ?_
    refine go_getr X fo_X12_68 lM_0 sM_0 fM_0_30 (dk dt_M_answered_1 4 rfl) ?_
    refine go_bipush X (dk dt_M_answered_1 5 rfl) cb_60 ?_
    refine go_iload_n X 2 (dk dt_M_answered_1 6 rfl) rfl rfl ?_
    refine go_iadd X (dk dt_M_answered_1 7 rfl) ?_
    refine go_bald X lM_20 sM_20 (dk dt_M_answered_1 8 rfl) h (fun h => ?_)
    refine go_icmp_eq (tgt := 43) X (dk dt_M_answered_1 9 rfl) (by decide) h (fun h => ?_) (fun h => ?_)
    · refine go_iinc (lv' := [(2, .int (x2 + (1 : Int32))), (0, .ref 0), (1, .int x1)]) X 2 (dk dt_M_answered_1 12 rfl) rfl ci_1 (by decide) rfl ?_
      refine go_goto (tgt := 18) X (dk dt_M_answered_1 13 rfl) (by decide) ?_
      refine go_sub [1, 2, 0] rfl ?_
      exact hk18 _ _ _  h
    · refine go_iload_n X 2 (dk dt_M_answered_1 10 rfl) rfl rfl ?_
      exact go_iret rt (dk dt_M_answered_1 11 rfl) h (fun hh => nomatch hh)
set_option maxRecDepth 20000 in
theorem lkL_M_answered_18 (hi : zInj wM v) (xc : XC wM v) (nx : NXM v) (X : Cx wM v p R s m args c 0 0 cX12_answered 3 RX12 4) (rt : Rt wM v p l e R s m args below meth c 0 0 Q cX12_answered false (some (.int res.1)) res.2) {k49 : Int32 → Hp → Option (Int32 × Hp)} (hk49 : ∀ (x1 : Int32) (σ : Hp),  k49 x1 σ = some res → Go wM v p l e R s m args below meth c 0 0 Q 3 49 [(0, .ref 0), (1, .int x1)] [] σ) (n : Nat) : ∀ {x1 : Int32} {x2 : Int32} {σ : Hp},  L_M_answered_18  k49 n x1 x2 σ = some res → Go wM v p l e R s m args below meth c 0 0 Q 3 18 [(0, .ref 0), (1, .int x1), (2, .int x2)] [] σ := by
  induction n with
  | zero => intro x1 x2 σ  h; cases h
  | succ n ih =>
    intro x1 x2 σ  h
    exact lkB_M_answered_18 hi xc nx X rt  hk49 (fun _ _ _  hh => ih  hh) h
set_option maxRecDepth 20000 in
theorem lkJ_M_answered_49 (hi : zInj wM v) (xc : XC wM v) (nx : NXM v) (X : Cx wM v p R s m args c 0 0 cX12_answered 3 RX12 4) (rt : Rt wM v p l e R s m args below meth c 0 0 Q cX12_answered false (some (.int res.1)) res.2)  {x1 : Int32} {σ : Hp}   (h : J_M_answered_49   x1 σ = some res) : Go wM v p l e R s m args below meth c 0 0 Q 3 49 [(0, .ref 0), (1, .int x1)] [] σ := by
  unfold J_M_answered_49 at h
  refine go_aload_n X 0 (dk dt_M_answered_1 14 rfl) rfl rfl ?_
  refine go_getr X fo_X12_71 lM_0 sM_0 fM_0_31 (dk dt_M_answered_1 15 rfl) ?_
  refine go_iconst X (dk dt_M_answered_2 0 rfl) ci_0 ?_
  refine go_iald X lM_21 sM_21 (dk dt_M_answered_2 1 rfl) h (fun h => ?_)
  refine go_aload_n X 0 (dk dt_M_answered_2 2 rfl) rfl rfl ?_
  refine go_getr X fo_X12_71 lM_0 sM_0 fM_0_31 (dk dt_M_answered_2 3 rfl) ?_
  refine go_iconst X (dk dt_M_answered_2 4 rfl) ci_1 ?_
  refine go_iald X lM_21 sM_21 (dk dt_M_answered_2 5 rfl) h (fun h => ?_)
  refine go_icmp_ne (tgt := 69) X (dk dt_M_answered_2 6 rfl) (by decide) h (fun h => ?_) (fun h => ?_)
  · refine go_iload_n X 1 (dk dt_M_answered_2 9 rfl) rfl rfl ?_
    exact go_iret rt (dk dt_M_answered_2 10 rfl) h (fun hh => nomatch hh)
  · refine go_bipush X (dk dt_M_answered_2 7 rfl) cb_m2 ?_
    refine go_goto (tgt := 70) X (dk dt_M_answered_2 8 rfl) (by decide) ?_
    exact go_iret rt (dk dt_M_answered_2 10 rfl) h (fun hh => nomatch hh)
set_option maxRecDepth 20000 in
theorem lkF_M_answered (hi : zInj wM v) (xc : XC wM v) (nx : NXM v) (X : Cx wM v p R s m args c 0 0 cX12_answered 3 RX12 4) (rt : Rt wM v p l e R s m args below meth c 0 0 Q cX12_answered false (some (.int res.1)) res.2)  {σ : Hp}  (h : F_M_answered   σ = some res) : Go wM v p l e R s m args below meth c 0 0 Q 3 0 [(0, .ref 0)] [] σ := by
  unfold F_M_answered at h
  refine go_aload_n X 0 (dk dt_M_answered_0 0 rfl) rfl rfl ?_
  refine go_getr X fo_X12_71 lM_0 sM_0 fM_0_31 (dk dt_M_answered_0 1 rfl) ?_
  refine go_iconst X (dk dt_M_answered_0 2 rfl) ci_0 ?_
  refine go_iald X lM_21 sM_21 (dk dt_M_answered_0 3 rfl) h (fun h => ?_)
  refine go_aload_n X 0 (dk dt_M_answered_0 4 rfl) rfl rfl ?_
  refine go_getr X fo_X12_71 lM_0 sM_0 fM_0_31 (dk dt_M_answered_0 5 rfl) ?_
  refine go_iconst X (dk dt_M_answered_0 6 rfl) ci_1 ?_
  refine go_iald X lM_21 sM_21 (dk dt_M_answered_0 7 rfl) h (fun h => ?_)
  refine go_Si (As := [.int (σ 21 (Int32.toNatClampNeg (0 : Int32))), .int (σ 21 (Int32.toNatClampNeg (1 : Int32)))]) (rest := []) X so_X12_270 (fun q hq => ct_M_min hi xc nx  hq) (by decide) rfl rfl (Nat.le_of_ble_eq_true rfl) (dk dt_M_answered_0 8 rfl) h (fun q12 h => ?_)
  refine go_istore_n (lv' := [(1, .int q12.1), (0, .ref 0)]) X (dk dt_M_answered_0 9 rfl) rfl (by decide) rfl ?_
  refine go_iconst X (dk dt_M_answered_0 10 rfl) ci_0 ?_
  refine go_istore_n (lv' := [(2, .int (0 : Int32)), (1, .int q12.1), (0, .ref 0)]) X (dk dt_M_answered_0 11 rfl) rfl (by decide) rfl ?_
  refine go_sub [2, 1, 0] rfl ?_
  exact lkL_M_answered_18 hi xc nx X rt (fun _ _  hh => lkJ_M_answered_49 hi xc nx X rt   hh) FU  h
set_option maxRecDepth 20000 in
theorem ct_M_answered (hi : zInj wM v) (xc : XC wM v) (nx : NXM v)   {σ : Hp}  {q : (Int32 × Hp)} (h : F_M_answered   σ = some q) : Ct wM v l yX12_answered cX12_answered 3 (some .int) 4 [.ref 0] σ (some (.int q.1)) q.2 :=
  Ct.intro false (by decide) hi xc (Nat.le_of_ble_eq_true rfl) rfl (fun p e R s m args below meth c Q X rt => lkF_M_answered hi xc nx X rt  h)
end
def T_M_in_0 : DT := [(0, .iload_n 0, 1), (1, .iload_n 1, 1), (2, .if_icmp .lt 12, 3), (5, .iload_n 0, 1), (6, .iload_n 2, 1), (7, .if_icmp .gt 7, 3), (10, .iconst 1, 1), (11, .goto 4, 3), (14, .iconst 0, 1), (15, .ireturn, 1)]
theorem dt_M_in_0 : dOk cX12_in T_M_in_0 := by unfold dOk; decide +kernel
section
variable {v : ZV} {l : Launch} {p : Program} {e : Env} {R : Room} {s : State} {m : MethodId} {args : Array Value} {below : List Frame} {meth : Method} {c : Code} {Q : State → Prop} {res : (Int32 × Hp)} 
set_option maxRecDepth 20000 in
theorem lkF_M_in (hi : zInj wM v) (xc : XC wM v) (nx : NXM v) (X : Cx wM v p R s m args c 0 0 cX12_in 3 RX12 2) (rt : Rt wM v p l e R s m args below meth c 0 0 Q cX12_in true (some (.int res.1)) res.2) {a0 : Int32} {a1 : Int32} {a2 : Int32} {σ : Hp}  (h : F_M_in  a0 a1 a2 σ = some res) : Go wM v p l e R s m args below meth c 0 0 Q 3 0 [(0, .int a0), (1, .int a1), (2, .int a2)] [] σ := by
  unfold F_M_in at h
  refine go_iload_n X 0 (dk dt_M_in_0 0 rfl) rfl rfl ?_
  refine go_iload_n X 1 (dk dt_M_in_0 1 rfl) rfl rfl ?_
  refine go_icmp_lt (tgt := 14) X (dk dt_M_in_0 2 rfl) (by decide) h (fun h => ?_) (fun h => ?_)
  · refine go_iconst X (dk dt_M_in_0 8 rfl) ci_0 ?_
    exact go_iret rt (dk dt_M_in_0 9 rfl) h (by decide)
  · refine go_iload_n X 0 (dk dt_M_in_0 3 rfl) rfl rfl ?_
    refine go_iload_n X 2 (dk dt_M_in_0 4 rfl) rfl rfl ?_
    refine go_icmp_gt (tgt := 14) X (dk dt_M_in_0 5 rfl) (by decide) h (fun h => ?_) (fun h => ?_)
    · refine go_iconst X (dk dt_M_in_0 8 rfl) ci_0 ?_
      exact go_iret rt (dk dt_M_in_0 9 rfl) h (by decide)
    · refine go_iconst X (dk dt_M_in_0 6 rfl) ci_1 ?_
      refine go_goto (tgt := 15) X (dk dt_M_in_0 7 rfl) (by decide) ?_
      exact go_iret rt (dk dt_M_in_0 9 rfl) h (by decide)
set_option maxRecDepth 20000 in
theorem ct_M_in (hi : zInj wM v) (xc : XC wM v) (nx : NXM v)  {a0 : Int32} {a1 : Int32} {a2 : Int32} {σ : Hp}  {q : (Int32 × Hp)} (h : F_M_in  a0 a1 a2 σ = some q) : Ct wM v l yX12_in cX12_in 3 (some .boolean) 2 [.int a0, .int a1, .int a2] σ (some (.int q.1)) q.2 :=
  Ct.intro true (by decide) hi xc (Nat.le_of_ble_eq_true rfl) rfl (fun p e R s m args below meth c Q X rt => lkF_M_in hi xc nx X rt  h)
end
def T_M_octet_0 : DT := [(0, .aload_n 0, 1), (1, .getfield 25, 3), (4, .iload_n 1, 1), (5, .baload, 1), (6, .sipush 255, 3), (9, .iand, 1), (10, .ireturn, 1)]
theorem dt_M_octet_0 : dOk cX12_octet T_M_octet_0 := by unfold dOk; decide +kernel
section
variable {v : ZV} {l : Launch} {p : Program} {e : Env} {R : Room} {s : State} {m : MethodId} {args : Array Value} {below : List Frame} {meth : Method} {c : Code} {Q : State → Prop} {res : (Int32 × Hp)} 
set_option maxRecDepth 20000 in
theorem lkF_M_octet (hi : zInj wM v) (xc : XC wM v) (nx : NXM v) (X : Cx wM v p R s m args c 0 0 cX12_octet 2 RX12 2) (rt : Rt wM v p l e R s m args below meth c 0 0 Q cX12_octet false (some (.int res.1)) res.2) {a1 : Int32} {σ : Hp}  (h : F_M_octet  a1 σ = some res) : Go wM v p l e R s m args below meth c 0 0 Q 2 0 [(0, .ref 0), (1, .int a1)] [] σ := by
  unfold F_M_octet at h
  refine go_aload_n X 0 (dk dt_M_octet_0 0 rfl) rfl rfl ?_
  refine go_getr X fo_X12_25 lM_0 sM_0 fM_0_5 (dk dt_M_octet_0 1 rfl) ?_
  refine go_iload_n X 1 (dk dt_M_octet_0 2 rfl) rfl rfl ?_
  refine go_bald X lM_6 sM_6 (dk dt_M_octet_0 3 rfl) h (fun h => ?_)
  refine go_sipush X (dk dt_M_octet_0 4 rfl) cs_255 ?_
  refine go_iand X (dk dt_M_octet_0 5 rfl) ?_
  exact go_iret rt (dk dt_M_octet_0 6 rfl) h (fun hh => nomatch hh)
set_option maxRecDepth 20000 in
theorem ct_M_octet (hi : zInj wM v) (xc : XC wM v) (nx : NXM v)  {a1 : Int32} {σ : Hp}  {q : (Int32 × Hp)} (h : F_M_octet  a1 σ = some q) : Ct wM v l yX12_octet cX12_octet 2 (some .int) 2 [.ref 0, .int a1] σ (some (.int q.1)) q.2 :=
  Ct.intro false (by decide) hi xc (Nat.le_of_ble_eq_true rfl) rfl (fun p e R s m args below meth c Q X rt => lkF_M_octet hi xc nx X rt  h)
end
def T_M_ants_0 : DT := [(0, .iload_n 1, 1), (1, .iconst 0, 1), (2, .bipush 7, 2), (4, .invokestatic 122, 3), (7, .ifCond .eq 22, 3), (10, .iload_n 2, 1), (11, .iconst 0, 1), (12, .bipush 8, 2), (14, .invokestatic 122, 3), (17, .ifCond .eq 12, 3), (20, .aload_n 0, 1), (21, .getfield 147, 3), (24, .bipush 8, 2), (26, .if_icmp .ge 5, 3), (29, .iconst (-1), 1), (30, .ireturn, 1)]
theorem dt_M_ants_0 : dOk cX12_ants T_M_ants_0 := by unfold dOk; decide +kernel
def T_M_ants_1 : DT := [(31, .aload_n 0, 1), (32, .iconst 0, 1), (33, .putfield 147, 3), (36, .iconst 0, 1), (37, .istore_n 3, 1), (38, .iload_n 3, 1), (39, .bipush 8, 2), (41, .if_icmp .ge 26, 3), (44, .aload_n 0, 1), (45, .iload_n 3, 1), (46, .invokevirtual 402, 3), (49, .iconst 1, 1), (50, .bipush 99, 2), (52, .invokestatic 122, 3), (55, .ifCond .ne 6, 3), (58, .bipush (-2), 2)]
theorem dt_M_ants_1 : dOk cX12_ants T_M_ants_1 := by unfold dOk; decide +kernel
def T_M_ants_2 : DT := [(60, .ireturn, 1), (61, .iinc 3 1, 3), (64, .goto (-26), 3), (67, .aload_n 0, 1), (68, .getfield 119, 3), (71, .iload_n 1, 1), (72, .aload_n 0, 1), (73, .iload_n 1, 1), (74, .invokevirtual 402, 3), (77, .iastore, 1), (78, .iload_n 1, 1), (79, .iconst 1, 1), (80, .iadd, 1), (81, .istore_n 3, 1), (82, .iload_n 3, 1), (83, .bipush 8, 2)]
theorem dt_M_ants_2 : dOk cX12_ants T_M_ants_2 := by unfold dOk; decide +kernel
def T_M_ants_3 : DT := [(85, .if_icmp .ge 29, 3), (88, .aload_n 0, 1), (89, .getfield 119, 3), (92, .iload_n 3, 1), (93, .aload_n 0, 1), (94, .getfield 119, 3), (97, .iload_n 3, 1), (98, .iconst 1, 1), (99, .isub, 1), (100, .iaload, 1), (101, .aload_n 0, 1), (102, .iload_n 3, 1), (103, .invokevirtual 402, 3), (106, .iadd, 1), (107, .iastore, 1), (108, .iinc 3 1, 3)]
theorem dt_M_ants_3 : dOk cX12_ants T_M_ants_3 := by unfold dOk; decide +kernel
def T_M_ants_4 : DT := [(111, .goto (-29), 3), (114, .iload_n 1, 1), (115, .iconst 1, 1), (116, .isub, 1), (117, .istore_n 3, 1), (118, .iload_n 3, 1), (119, .ifCond .lt 29, 3), (122, .aload_n 0, 1), (123, .getfield 119, 3), (126, .iload_n 3, 1), (127, .aload_n 0, 1), (128, .getfield 119, 3), (131, .iload_n 3, 1), (132, .iconst 1, 1), (133, .iadd, 1), (134, .iaload, 1)]
theorem dt_M_ants_4 : dOk cX12_ants T_M_ants_4 := by unfold dOk; decide +kernel
def T_M_ants_5 : DT := [(135, .aload_n 0, 1), (136, .iload_n 3, 1), (137, .invokevirtual 402, 3), (140, .iadd, 1), (141, .iastore, 1), (142, .iinc 3 (-1), 3), (145, .goto (-27), 3), (148, .iload_n 2, 1), (149, .bipush 8, 2), (151, .if_icmp .ge 10, 3), (154, .aload_n 0, 1), (155, .getfield 119, 3), (158, .iload_n 2, 1), (159, .iaload, 1), (160, .ireturn, 1), (161, .aload_n 0, 1)]
theorem dt_M_ants_5 : dOk cX12_ants T_M_ants_5 := by unfold dOk; decide +kernel
def T_M_ants_6 : DT := [(162, .getfield 119, 3), (165, .bipush 7, 2), (167, .iaload, 1), (168, .aload_n 0, 1), (169, .getfield 119, 3), (172, .iconst 0, 1), (173, .iaload, 1), (174, .if_icmp .le 8, 3), (177, .bipush 7, 2), (179, .goto 4, 3), (182, .iconst 0, 1), (183, .ireturn, 1)]
theorem dt_M_ants_6 : dOk cX12_ants T_M_ants_6 := by unfold dOk; decide +kernel
section
variable {v : ZV} {l : Launch} {p : Program} {e : Env} {R : Room} {s : State} {m : MethodId} {args : Array Value} {below : List Frame} {meth : Method} {c : Code} {Q : State → Prop} {res : (Int32 × Hp)} 
set_option maxRecDepth 20000 in
theorem lkB_M_ants_38 (hi : zInj wM v) (xc : XC wM v) (nx : NXM v) (X : Cx wM v p R s m args c 0 0 cX12_ants 4 RX12 4) (rt : Rt wM v p l e R s m args below meth c 0 0 Q cX12_ants false (some (.int res.1)) res.2) {k67 : Int32 → Int32 → Hp → Option (Int32 × Hp)} {k38 : Int32 → Int32 → Int32 → Hp → Option (Int32 × Hp)} {x1 : Int32} {x2 : Int32} {x3 : Int32} {σ : Hp}  (hk67 : ∀ (x1 : Int32) (x2 : Int32) (σ : Hp),  k67 x1 x2 σ = some res → Go wM v p l e R s m args below meth c 0 0 Q 4 67 [(0, .ref 0), (1, .int x1), (2, .int x2)] [] σ) (hk38 : ∀ (x1 : Int32) (x2 : Int32) (x3 : Int32) (σ : Hp),  k38 x1 x2 x3 σ = some res → Go wM v p l e R s m args below meth c 0 0 Q 4 38 [(0, .ref 0), (1, .int x1), (2, .int x2), (3, .int x3)] [] σ) (h : B_M_ants_38  k67 k38 x1 x2 x3 σ = some res) : Go wM v p l e R s m args below meth c 0 0 Q 4 38 [(0, .ref 0), (1, .int x1), (2, .int x2), (3, .int x3)] [] σ := by
  unfold B_M_ants_38 at h
  refine go_iload_n X 3 (dk dt_M_ants_1 5 rfl) rfl rfl ?_
  refine go_bipush X (dk dt_M_ants_1 6 rfl) cb_8 ?_
  refine go_icmp_ge (tgt := 67) X (dk dt_M_ants_1 7 rfl) (by decide) h (fun h => ?_) (fun h => ?_)
  · refine go_sub [0, 1, 2] rfl ?_
    exact hk67 _ _ _  h
  · refine go_aload_n X 0 (dk dt_M_ants_1 8 rfl) rfl rfl ?_
    refine go_iload_n X 3 (dk dt_M_ants_1 9 rfl) rfl rfl ?_
    refine go_Vi (As := [.int x3]) (rest := []) X vo_X12_402 (fun q hq => ct_M_octet hi xc nx  hq) (by decide) rfl lM_0 sM_0 rfl rfl (Nat.le_of_ble_eq_true rfl) (dk dt_M_ants_1 10 rfl) h (fun q46 h => ?_)
    refine go_iconst X (dk dt_M_ants_1 11 rfl) ci_1 ?_
    refine go_bipush X (dk dt_M_ants_1 12 rfl) cb_99 ?_
    refine go_Si (As := [.int q46.1, .int (1 : Int32), .int (99 : Int32)]) (rest := []) X so_X12_122 (fun q hq => ct_M_in hi xc nx  hq) (by decide) rfl rfl (Nat.le_of_ble_eq_true rfl) (dk dt_M_ants_1 13 rfl) h (fun q52 h => ?_)
    refine go_if_ne (tgt := 61) X (dk dt_M_ants_1 14 rfl) (by decide) h (fun h => ?_) (fun h => ?_)
    · refine go_iinc (lv' := [(3, .int (x3 + (1 : Int32))), (0, .ref 0), (1, .int x1), (2, .int x2)]) X 3 (dk dt_M_ants_2 1 rfl) rfl ci_1 (by decide) rfl ?_
      refine go_goto (tgt := 38) X (dk dt_M_ants_2 2 rfl) (by decide) ?_
      refine go_sub [1, 2, 3, 0] rfl ?_
      exact hk38 _ _ _ _  h
    · refine go_bipush X (dk dt_M_ants_1 15 rfl) cb_m2 ?_
      exact go_iret rt (dk dt_M_ants_2 0 rfl) h (fun hh => nomatch hh)
set_option maxRecDepth 20000 in
theorem lkL_M_ants_38 (hi : zInj wM v) (xc : XC wM v) (nx : NXM v) (X : Cx wM v p R s m args c 0 0 cX12_ants 4 RX12 4) (rt : Rt wM v p l e R s m args below meth c 0 0 Q cX12_ants false (some (.int res.1)) res.2) {k67 : Int32 → Int32 → Hp → Option (Int32 × Hp)} (hk67 : ∀ (x1 : Int32) (x2 : Int32) (σ : Hp),  k67 x1 x2 σ = some res → Go wM v p l e R s m args below meth c 0 0 Q 4 67 [(0, .ref 0), (1, .int x1), (2, .int x2)] [] σ) (n : Nat) : ∀ {x1 : Int32} {x2 : Int32} {x3 : Int32} {σ : Hp},  L_M_ants_38  k67 n x1 x2 x3 σ = some res → Go wM v p l e R s m args below meth c 0 0 Q 4 38 [(0, .ref 0), (1, .int x1), (2, .int x2), (3, .int x3)] [] σ := by
  induction n with
  | zero => intro x1 x2 x3 σ  h; cases h
  | succ n ih =>
    intro x1 x2 x3 σ  h
    exact lkB_M_ants_38 hi xc nx X rt  hk67 (fun _ _ _ _  hh => ih  hh) h
set_option maxRecDepth 20000 in
theorem lkB_M_ants_82 (hi : zInj wM v) (xc : XC wM v) (nx : NXM v) (X : Cx wM v p R s m args c 0 0 cX12_ants 4 RX12 4) (rt : Rt wM v p l e R s m args below meth c 0 0 Q cX12_ants false (some (.int res.1)) res.2) {k114 : Int32 → Int32 → Hp → Option (Int32 × Hp)} {k82 : Int32 → Int32 → Int32 → Hp → Option (Int32 × Hp)} {x1 : Int32} {x2 : Int32} {x3 : Int32} {σ : Hp}  (hk114 : ∀ (x1 : Int32) (x2 : Int32) (σ : Hp),  k114 x1 x2 σ = some res → Go wM v p l e R s m args below meth c 0 0 Q 4 114 [(0, .ref 0), (1, .int x1), (2, .int x2)] [] σ) (hk82 : ∀ (x1 : Int32) (x2 : Int32) (x3 : Int32) (σ : Hp),  k82 x1 x2 x3 σ = some res → Go wM v p l e R s m args below meth c 0 0 Q 4 82 [(0, .ref 0), (1, .int x1), (2, .int x2), (3, .int x3)] [] σ) (h : B_M_ants_82  k114 k82 x1 x2 x3 σ = some res) : Go wM v p l e R s m args below meth c 0 0 Q 4 82 [(0, .ref 0), (1, .int x1), (2, .int x2), (3, .int x3)] [] σ := by
  unfold B_M_ants_82 at h
  refine go_iload_n X 3 (dk dt_M_ants_2 14 rfl) rfl rfl ?_
  refine go_bipush X (dk dt_M_ants_2 15 rfl) cb_8 ?_
  refine go_icmp_ge (tgt := 114) X (dk dt_M_ants_3 0 rfl) (by decide) h (fun h => ?_) (fun h => ?_)
  · refine go_sub [0, 1, 2] rfl ?_
    exact hk114 _ _ _  h
  · refine go_aload_n X 0 (dk dt_M_ants_3 1 rfl) rfl rfl ?_
    refine go_getr X fo_X12_119 lM_0 sM_0 fM_0_60 (dk dt_M_ants_3 2 rfl) ?_
    refine go_iload_n X 3 (dk dt_M_ants_3 3 rfl) rfl rfl ?_
    refine go_aload_n X 0 (dk dt_M_ants_3 4 rfl) rfl rfl ?_
    refine go_getr X fo_X12_119 lM_0 sM_0 fM_0_60 (dk dt_M_ants_3 5 rfl) ?_
    refine go_iload_n X 3 (dk dt_M_ants_3 6 rfl) rfl rfl ?_
    refine go_iconst X (dk dt_M_ants_3 7 rfl) ci_1 ?_
    refine go_isub X (dk dt_M_ants_3 8 rfl) ?_
    refine go_iald X lM_37 sM_37 (dk dt_M_ants_3 9 rfl) h (fun h => ?_)
    refine go_aload_n X 0 (dk dt_M_ants_3 10 rfl) rfl rfl ?_
    refine go_iload_n X 3 (dk dt_M_ants_3 11 rfl) rfl rfl ?_
    refine go_Vi (As := [.int x3]) (rest := [.int (σ 37 (Int32.toNatClampNeg (x3 - (1 : Int32)))), .int x3, .ref 37]) X vo_X12_402 (fun q hq => ct_M_octet hi xc nx  hq) (by decide) rfl lM_0 sM_0 rfl rfl (Nat.le_of_ble_eq_true rfl) (dk dt_M_ants_3 12 rfl) h (fun q103 h => ?_)
    refine go_iadd X (dk dt_M_ants_3 13 rfl) ?_
    refine go_iast X lM_37 sM_37 (dk dt_M_ants_3 14 rfl) h (fun h => ?_)
    refine go_iinc (lv' := [(3, .int (x3 + (1 : Int32))), (0, .ref 0), (1, .int x1), (2, .int x2)]) X 3 (dk dt_M_ants_3 15 rfl) rfl ci_1 (by decide) rfl ?_
    refine go_goto (tgt := 82) X (dk dt_M_ants_4 0 rfl) (by decide) ?_
    refine go_sub [1, 2, 3, 0] rfl ?_
    exact hk82 _ _ _ _  h
set_option maxRecDepth 20000 in
theorem lkL_M_ants_82 (hi : zInj wM v) (xc : XC wM v) (nx : NXM v) (X : Cx wM v p R s m args c 0 0 cX12_ants 4 RX12 4) (rt : Rt wM v p l e R s m args below meth c 0 0 Q cX12_ants false (some (.int res.1)) res.2) {k114 : Int32 → Int32 → Hp → Option (Int32 × Hp)} (hk114 : ∀ (x1 : Int32) (x2 : Int32) (σ : Hp),  k114 x1 x2 σ = some res → Go wM v p l e R s m args below meth c 0 0 Q 4 114 [(0, .ref 0), (1, .int x1), (2, .int x2)] [] σ) (n : Nat) : ∀ {x1 : Int32} {x2 : Int32} {x3 : Int32} {σ : Hp},  L_M_ants_82  k114 n x1 x2 x3 σ = some res → Go wM v p l e R s m args below meth c 0 0 Q 4 82 [(0, .ref 0), (1, .int x1), (2, .int x2), (3, .int x3)] [] σ := by
  induction n with
  | zero => intro x1 x2 x3 σ  h; cases h
  | succ n ih =>
    intro x1 x2 x3 σ  h
    exact lkB_M_ants_82 hi xc nx X rt  hk114 (fun _ _ _ _  hh => ih  hh) h
set_option maxRecDepth 20000 in
theorem lkB_M_ants_118 (hi : zInj wM v) (xc : XC wM v) (nx : NXM v) (X : Cx wM v p R s m args c 0 0 cX12_ants 4 RX12 4) (rt : Rt wM v p l e R s m args below meth c 0 0 Q cX12_ants false (some (.int res.1)) res.2) {k148 : Int32 → Hp → Option (Int32 × Hp)} {k118 : Int32 → Int32 → Hp → Option (Int32 × Hp)} {x2 : Int32} {x3 : Int32} {σ : Hp}  (hk148 : ∀ (x2 : Int32) (σ : Hp),  k148 x2 σ = some res → Go wM v p l e R s m args below meth c 0 0 Q 4 148 [(0, .ref 0), (2, .int x2)] [] σ) (hk118 : ∀ (x2 : Int32) (x3 : Int32) (σ : Hp),  k118 x2 x3 σ = some res → Go wM v p l e R s m args below meth c 0 0 Q 4 118 [(0, .ref 0), (2, .int x2), (3, .int x3)] [] σ) (h : B_M_ants_118  k148 k118 x2 x3 σ = some res) : Go wM v p l e R s m args below meth c 0 0 Q 4 118 [(0, .ref 0), (2, .int x2), (3, .int x3)] [] σ := by
  unfold B_M_ants_118 at h
  refine go_iload_n X 2 (dk dt_M_ants_4 5 rfl) rfl rfl ?_
  refine go_if_lt (tgt := 148) X (dk dt_M_ants_4 6 rfl) (by decide) h (fun h => ?_) (fun h => ?_)
  · refine go_sub [0, 1] rfl ?_
    exact hk148 _ _  h
  · refine go_aload_n X 0 (dk dt_M_ants_4 7 rfl) rfl rfl ?_
    refine go_getr X fo_X12_119 lM_0 sM_0 fM_0_60 (dk dt_M_ants_4 8 rfl) ?_
    refine go_iload_n X 2 (dk dt_M_ants_4 9 rfl) rfl rfl ?_
    refine go_aload_n X 0 (dk dt_M_ants_4 10 rfl) rfl rfl ?_
    refine go_getr X fo_X12_119 lM_0 sM_0 fM_0_60 (dk dt_M_ants_4 11 rfl) ?_
    refine go_iload_n X 2 (dk dt_M_ants_4 12 rfl) rfl rfl ?_
    refine go_iconst X (dk dt_M_ants_4 13 rfl) ci_1 ?_
    refine go_iadd X (dk dt_M_ants_4 14 rfl) ?_
    refine go_iald X lM_37 sM_37 (dk dt_M_ants_4 15 rfl) h (fun h => ?_)
    refine go_aload_n X 0 (dk dt_M_ants_5 0 rfl) rfl rfl ?_
    refine go_iload_n X 2 (dk dt_M_ants_5 1 rfl) rfl rfl ?_
    refine go_Vi (As := [.int x3]) (rest := [.int (σ 37 (Int32.toNatClampNeg (x3 + (1 : Int32)))), .int x3, .ref 37]) X vo_X12_402 (fun q hq => ct_M_octet hi xc nx  hq) (by decide) rfl lM_0 sM_0 rfl rfl (Nat.le_of_ble_eq_true rfl) (dk dt_M_ants_5 2 rfl) h (fun q137 h => ?_)
    refine go_iadd X (dk dt_M_ants_5 3 rfl) ?_
    refine go_iast X lM_37 sM_37 (dk dt_M_ants_5 4 rfl) h (fun h => ?_)
    refine go_iinc (lv' := [(3, .int (x3 + (-1 : Int32))), (0, .ref 0), (2, .int x2)]) X 2 (dk dt_M_ants_5 5 rfl) rfl ci_m1 (by decide) rfl ?_
    refine go_goto (tgt := 118) X (dk dt_M_ants_5 6 rfl) (by decide) ?_
    refine go_sub [1, 2, 0] rfl ?_
    exact hk118 _ _ _  h
set_option maxRecDepth 20000 in
theorem lkL_M_ants_118 (hi : zInj wM v) (xc : XC wM v) (nx : NXM v) (X : Cx wM v p R s m args c 0 0 cX12_ants 4 RX12 4) (rt : Rt wM v p l e R s m args below meth c 0 0 Q cX12_ants false (some (.int res.1)) res.2) {k148 : Int32 → Hp → Option (Int32 × Hp)} (hk148 : ∀ (x2 : Int32) (σ : Hp),  k148 x2 σ = some res → Go wM v p l e R s m args below meth c 0 0 Q 4 148 [(0, .ref 0), (2, .int x2)] [] σ) (n : Nat) : ∀ {x2 : Int32} {x3 : Int32} {σ : Hp},  L_M_ants_118  k148 n x2 x3 σ = some res → Go wM v p l e R s m args below meth c 0 0 Q 4 118 [(0, .ref 0), (2, .int x2), (3, .int x3)] [] σ := by
  induction n with
  | zero => intro x2 x3 σ  h; cases h
  | succ n ih =>
    intro x2 x3 σ  h
    exact lkB_M_ants_118 hi xc nx X rt  hk148 (fun _ _ _  hh => ih  hh) h
set_option maxRecDepth 20000 in
theorem lkJ_M_ants_148 (hi : zInj wM v) (xc : XC wM v) (nx : NXM v) (X : Cx wM v p R s m args c 0 0 cX12_ants 4 RX12 4) (rt : Rt wM v p l e R s m args below meth c 0 0 Q cX12_ants false (some (.int res.1)) res.2)  {x2 : Int32} {σ : Hp}   (h : J_M_ants_148   x2 σ = some res) : Go wM v p l e R s m args below meth c 0 0 Q 4 148 [(0, .ref 0), (2, .int x2)] [] σ := by
  unfold J_M_ants_148 at h
  refine go_iload_n X 1 (dk dt_M_ants_5 7 rfl) rfl rfl ?_
  refine go_bipush X (dk dt_M_ants_5 8 rfl) cb_8 ?_
  refine go_icmp_ge (tgt := 161) X (dk dt_M_ants_5 9 rfl) (by decide) h (fun h => ?_) (fun h => ?_)
  · refine go_aload_n X 0 (dk dt_M_ants_5 15 rfl) rfl rfl ?_
    refine go_getr X fo_X12_119 lM_0 sM_0 fM_0_60 (dk dt_M_ants_6 0 rfl) ?_
    refine go_bipush X (dk dt_M_ants_6 1 rfl) cb_7 ?_
    refine go_iald X lM_37 sM_37 (dk dt_M_ants_6 2 rfl) h (fun h => ?_)
    refine go_aload_n X 0 (dk dt_M_ants_6 3 rfl) rfl rfl ?_
    refine go_getr X fo_X12_119 lM_0 sM_0 fM_0_60 (dk dt_M_ants_6 4 rfl) ?_
    refine go_iconst X (dk dt_M_ants_6 5 rfl) ci_0 ?_
    refine go_iald X lM_37 sM_37 (dk dt_M_ants_6 6 rfl) h (fun h => ?_)
    refine go_icmp_le (tgt := 182) X (dk dt_M_ants_6 7 rfl) (by decide) h (fun h => ?_) (fun h => ?_)
    · refine go_iconst X (dk dt_M_ants_6 10 rfl) ci_0 ?_
      exact go_iret rt (dk dt_M_ants_6 11 rfl) h (fun hh => nomatch hh)
    · refine go_bipush X (dk dt_M_ants_6 8 rfl) cb_7 ?_
      refine go_goto (tgt := 183) X (dk dt_M_ants_6 9 rfl) (by decide) ?_
      exact go_iret rt (dk dt_M_ants_6 11 rfl) h (fun hh => nomatch hh)
  · refine go_aload_n X 0 (dk dt_M_ants_5 10 rfl) rfl rfl ?_
    refine go_getr X fo_X12_119 lM_0 sM_0 fM_0_60 (dk dt_M_ants_5 11 rfl) ?_
    refine go_iload_n X 1 (dk dt_M_ants_5 12 rfl) rfl rfl ?_
    refine go_iald X lM_37 sM_37 (dk dt_M_ants_5 13 rfl) h (fun h => ?_)
    exact go_iret rt (dk dt_M_ants_5 14 rfl) h (fun hh => nomatch hh)
set_option maxRecDepth 20000 in
theorem lkJ_M_ants_114 (hi : zInj wM v) (xc : XC wM v) (nx : NXM v) (X : Cx wM v p R s m args c 0 0 cX12_ants 4 RX12 4) (rt : Rt wM v p l e R s m args below meth c 0 0 Q cX12_ants false (some (.int res.1)) res.2)  {x1 : Int32} {x2 : Int32} {σ : Hp}   (h : J_M_ants_114   x1 x2 σ = some res) : Go wM v p l e R s m args below meth c 0 0 Q 4 114 [(0, .ref 0), (1, .int x1), (2, .int x2)] [] σ := by
  unfold J_M_ants_114 at h
  refine go_iload_n X 1 (dk dt_M_ants_4 1 rfl) rfl rfl ?_
  refine go_iconst X (dk dt_M_ants_4 2 rfl) ci_1 ?_
  refine go_isub X (dk dt_M_ants_4 3 rfl) ?_
  refine go_istore_n (lv' := [(3, .int (x1 - (1 : Int32))), (0, .ref 0), (1, .int x1), (2, .int x2)]) X (dk dt_M_ants_4 4 rfl) rfl (by decide) rfl ?_
  refine go_sub [1, 3, 0] rfl ?_
  exact lkL_M_ants_118 hi xc nx X rt (fun _ _  hh => lkJ_M_ants_148 hi xc nx X rt   hh) FU  h
set_option maxRecDepth 20000 in
theorem lkJ_M_ants_67 (hi : zInj wM v) (xc : XC wM v) (nx : NXM v) (X : Cx wM v p R s m args c 0 0 cX12_ants 4 RX12 4) (rt : Rt wM v p l e R s m args below meth c 0 0 Q cX12_ants false (some (.int res.1)) res.2)  {x1 : Int32} {x2 : Int32} {σ : Hp}   (h : J_M_ants_67   x1 x2 σ = some res) : Go wM v p l e R s m args below meth c 0 0 Q 4 67 [(0, .ref 0), (1, .int x1), (2, .int x2)] [] σ := by
  unfold J_M_ants_67 at h
  refine go_aload_n X 0 (dk dt_M_ants_2 3 rfl) rfl rfl ?_
  refine go_getr X fo_X12_119 lM_0 sM_0 fM_0_60 (dk dt_M_ants_2 4 rfl) ?_
  refine go_iload_n X 1 (dk dt_M_ants_2 5 rfl) rfl rfl ?_
  refine go_aload_n X 0 (dk dt_M_ants_2 6 rfl) rfl rfl ?_
  refine go_iload_n X 1 (dk dt_M_ants_2 7 rfl) rfl rfl ?_
  refine go_Vi (As := [.int x1]) (rest := [.int x1, .ref 37]) X vo_X12_402 (fun q hq => ct_M_octet hi xc nx  hq) (by decide) rfl lM_0 sM_0 rfl rfl (Nat.le_of_ble_eq_true rfl) (dk dt_M_ants_2 8 rfl) h (fun q74 h => ?_)
  refine go_iast X lM_37 sM_37 (dk dt_M_ants_2 9 rfl) h (fun h => ?_)
  refine go_iload_n X 1 (dk dt_M_ants_2 10 rfl) rfl rfl ?_
  refine go_iconst X (dk dt_M_ants_2 11 rfl) ci_1 ?_
  refine go_iadd X (dk dt_M_ants_2 12 rfl) ?_
  refine go_istore_n (lv' := [(3, .int (x1 + (1 : Int32))), (0, .ref 0), (1, .int x1), (2, .int x2)]) X (dk dt_M_ants_2 13 rfl) rfl (by decide) rfl ?_
  refine go_sub [1, 2, 3, 0] rfl ?_
  exact lkL_M_ants_82 hi xc nx X rt (fun _ _ _  hh => lkJ_M_ants_114 hi xc nx X rt   hh) FU  h
set_option maxRecDepth 20000 in
theorem lkF_M_ants (hi : zInj wM v) (xc : XC wM v) (nx : NXM v) (X : Cx wM v p R s m args c 0 0 cX12_ants 4 RX12 4) (rt : Rt wM v p l e R s m args below meth c 0 0 Q cX12_ants false (some (.int res.1)) res.2) {a1 : Int32} {a2 : Int32} {σ : Hp}  (h : F_M_ants  a1 a2 σ = some res) : Go wM v p l e R s m args below meth c 0 0 Q 4 0 [(0, .ref 0), (1, .int a1), (2, .int a2)] [] σ := by
  unfold F_M_ants at h
  refine go_iload_n X 1 (dk dt_M_ants_0 0 rfl) rfl rfl ?_
  refine go_iconst X (dk dt_M_ants_0 1 rfl) ci_0 ?_
  refine go_bipush X (dk dt_M_ants_0 2 rfl) cb_7 ?_
  refine go_Si (As := [.int a1, .int (0 : Int32), .int (7 : Int32)]) (rest := []) X so_X12_122 (fun q hq => ct_M_in hi xc nx  hq) (by decide) rfl rfl (Nat.le_of_ble_eq_true rfl) (dk dt_M_ants_0 3 rfl) h (fun q4 h => ?_)
  refine go_if_eq (tgt := 29) X (dk dt_M_ants_0 4 rfl) (by decide) h (fun h => ?_) (fun h => ?_)
  · refine go_iconst X (dk dt_M_ants_0 14 rfl) ci_m1 ?_
    exact go_iret rt (dk dt_M_ants_0 15 rfl) h (fun hh => nomatch hh)
  · refine go_iload_n X 2 (dk dt_M_ants_0 5 rfl) rfl rfl ?_
    refine go_iconst X (dk dt_M_ants_0 6 rfl) ci_0 ?_
    refine go_bipush X (dk dt_M_ants_0 7 rfl) cb_8 ?_
    refine go_Si (As := [.int a2, .int (0 : Int32), .int (8 : Int32)]) (rest := []) X so_X12_122 (fun q hq => ct_M_in hi xc nx  hq) (by decide) rfl rfl (Nat.le_of_ble_eq_true rfl) (dk dt_M_ants_0 8 rfl) h (fun q14 h => ?_)
    refine go_if_eq (tgt := 29) X (dk dt_M_ants_0 9 rfl) (by decide) h (fun h => ?_) (fun h => ?_)
    · refine go_iconst X (dk dt_M_ants_0 14 rfl) ci_m1 ?_
      exact go_iret rt (dk dt_M_ants_0 15 rfl) h (fun hh => nomatch hh)
    · refine go_aload_n X 0 (dk dt_M_ants_0 10 rfl) rfl rfl ?_
      refine go_geti X fo_X12_147 lM_0 sM_0 fM_0_6 (dk dt_M_ants_0 11 rfl) ?_
      refine go_bipush X (dk dt_M_ants_0 12 rfl) cb_8 ?_
      refine go_icmp_ge (tgt := 31) X (dk dt_M_ants_0 13 rfl) (by decide) h (fun h => ?_) (fun h => ?_)
      · refine go_aload_n X 0 (dk dt_M_ants_1 0 rfl) rfl rfl ?_
        refine go_iconst X (dk dt_M_ants_1 1 rfl) ci_0 ?_
        refine go_puti X fo_X12_147 pf_12_6 lM_0 sM_0 fM_0_6 (dk dt_M_ants_1 2 rfl) ?_
        refine go_iconst X (dk dt_M_ants_1 3 rfl) ci_0 ?_
        refine go_istore_n (lv' := [(3, .int (0 : Int32)), (0, .ref 0), (1, .int a1), (2, .int a2)]) X (dk dt_M_ants_1 4 rfl) rfl (by decide) rfl ?_
        refine go_sub [1, 2, 3, 0] rfl ?_
        exact lkL_M_ants_38 hi xc nx X rt (fun _ _ _  hh => lkJ_M_ants_67 hi xc nx X rt   hh) FU  h
      · refine go_iconst X (dk dt_M_ants_0 14 rfl) ci_m1 ?_
        exact go_iret rt (dk dt_M_ants_0 15 rfl) h (fun hh => nomatch hh)
set_option maxRecDepth 20000 in
theorem ct_M_ants (hi : zInj wM v) (xc : XC wM v) (nx : NXM v)  {a1 : Int32} {a2 : Int32} {σ : Hp}  {q : (Int32 × Hp)} (h : F_M_ants  a1 a2 σ = some q) : Ct wM v l yX12_ants cX12_ants 4 (some .int) 4 [.ref 0, .int a1, .int a2] σ (some (.int q.1)) q.2 :=
  Ct.intro false (by decide) hi xc (Nat.le_of_ble_eq_true rfl) rfl (fun p e R s m args below meth c Q X rt => lkF_M_ants hi xc nx X rt  h)
end
def T_M_isBeat_0 : DT := [(0, .iload_n 2, 1), (1, .istore_n 3, 1), (2, .iload_n 3, 1), (3, .aload_n 0, 1), (4, .getfield 71, 3), (7, .iload_n 1, 1), (8, .iaload, 1), (9, .if_icmp .ge 38, 3), (12, .aload_n 0, 1), (13, .getfield 68, 3), (16, .bipush 60, 2), (18, .iload_n 1, 1), (19, .imul, 1), (20, .iload_n 3, 1), (21, .iadd, 1), (22, .baload, 1)]
theorem dt_M_isBeat_0 : dOk cX12_isBeat T_M_isBeat_0 := by unfold dOk; decide +kernel
def T_M_isBeat_1 : DT := [(23, .aload_n 0, 1), (24, .getfield 68, 3), (27, .bipush 60, 2), (29, .iload_n 1, 1), (30, .imul, 1), (31, .iload_n 3, 1), (32, .iadd, 1), (33, .iload_n 2, 1), (34, .isub, 1), (35, .baload, 1), (36, .if_icmp .eq 5, 3), (39, .iconst 0, 1), (40, .ireturn, 1), (41, .iinc 3 1, 3), (44, .goto (-42), 3), (47, .iconst 1, 1)]
theorem dt_M_isBeat_1 : dOk cX12_isBeat T_M_isBeat_1 := by unfold dOk; decide +kernel
def T_M_isBeat_2 : DT := [(48, .ireturn, 1)]
theorem dt_M_isBeat_2 : dOk cX12_isBeat T_M_isBeat_2 := by unfold dOk; decide +kernel
section
variable {v : ZV} {l : Launch} {p : Program} {e : Env} {R : Room} {s : State} {m : MethodId} {args : Array Value} {below : List Frame} {meth : Method} {c : Code} {Q : State → Prop} {res : (Int32 × Hp)} 
set_option maxRecDepth 20000 in
theorem lkB_M_isBeat_2 (hi : zInj wM v) (xc : XC wM v) (nx : NXM v) (X : Cx wM v p R s m args c 0 0 cX12_isBeat 4 RX12 2) (rt : Rt wM v p l e R s m args below meth c 0 0 Q cX12_isBeat true (some (.int res.1)) res.2) {k2 : Int32 → Int32 → Int32 → Hp → Option (Int32 × Hp)} {x1 : Int32} {x2 : Int32} {x3 : Int32} {σ : Hp}  (hk2 : ∀ (x1 : Int32) (x2 : Int32) (x3 : Int32) (σ : Hp),  k2 x1 x2 x3 σ = some res → Go wM v p l e R s m args below meth c 0 0 Q 4 2 [(0, .ref 0), (1, .int x1), (2, .int x2), (3, .int x3)] [] σ) (h : B_M_isBeat_2  k2 x1 x2 x3 σ = some res) : Go wM v p l e R s m args below meth c 0 0 Q 4 2 [(0, .ref 0), (1, .int x1), (2, .int x2), (3, .int x3)] [] σ := by
  unfold B_M_isBeat_2 at h
  refine go_iload_n X 3 (dk dt_M_isBeat_0 2 rfl) rfl rfl ?_
  refine go_aload_n X 0 (dk dt_M_isBeat_0 3 rfl) rfl rfl ?_
  refine go_getr X fo_X12_71 lM_0 sM_0 fM_0_31 (dk dt_M_isBeat_0 4 rfl) ?_
  refine go_iload_n X 1 (dk dt_M_isBeat_0 5 rfl) rfl rfl ?_
  refine go_iald X lM_21 sM_21 (dk dt_M_isBeat_0 6 rfl) h (fun h => ?_)
  refine go_icmp_ge (tgt := 47) X (dk dt_M_isBeat_0 7 rfl) (by decide) h (fun h => ?_) (fun h => ?_)
  · refine go_iconst X (dk dt_M_isBeat_1 15 rfl) ci_1 ?_
    exact go_iret rt (dk dt_M_isBeat_2 0 rfl) h (by decide)
  · refine go_aload_n X 0 (dk dt_M_isBeat_0 8 rfl) rfl rfl ?_
    refine go_getr X fo_X12_68 lM_0 sM_0 fM_0_30 (dk dt_M_isBeat_0 9 rfl) ?_
    refine go_bipush X (dk dt_M_isBeat_0 10 rfl) cb_60 ?_
    refine go_iload_n X 1 (dk dt_M_isBeat_0 11 rfl) rfl rfl ?_
    refine go_imul X (dk dt_M_isBeat_0 12 rfl) ?_
    refine go_iload_n X 3 (dk dt_M_isBeat_0 13 rfl) rfl rfl ?_
    refine go_iadd X (dk dt_M_isBeat_0 14 rfl) ?_
    refine go_bald X lM_20 sM_20 (dk dt_M_isBeat_0 15 rfl) h (fun h => ?_)
    refine go_aload_n X 0 (dk dt_M_isBeat_1 0 rfl) rfl rfl ?_
    refine go_getr X fo_X12_68 lM_0 sM_0 fM_0_30 (dk dt_M_isBeat_1 1 rfl) ?_
    refine go_bipush X (dk dt_M_isBeat_1 2 rfl) cb_60 ?_
    refine go_iload_n X 1 (dk dt_M_isBeat_1 3 rfl) rfl rfl ?_
    refine go_imul X (dk dt_M_isBeat_1 4 rfl) ?_
    refine go_iload_n X 3 (dk dt_M_isBeat_1 5 rfl) rfl rfl ?_
    refine go_iadd X (dk dt_M_isBeat_1 6 rfl) ?_
    refine go_iload_n X 2 (dk dt_M_isBeat_1 7 rfl) rfl rfl ?_
    refine go_isub X (dk dt_M_isBeat_1 8 rfl) ?_
    refine go_bald X lM_20 sM_20 (dk dt_M_isBeat_1 9 rfl) h (fun h => ?_)
    refine go_icmp_eq (tgt := 41) X (dk dt_M_isBeat_1 10 rfl) (by decide) h (fun h => ?_) (fun h => ?_)
    · refine go_iinc (lv' := [(3, .int (x3 + (1 : Int32))), (0, .ref 0), (1, .int x1), (2, .int x2)]) X 3 (dk dt_M_isBeat_1 13 rfl) rfl ci_1 (by decide) rfl ?_
      refine go_goto (tgt := 2) X (dk dt_M_isBeat_1 14 rfl) (by decide) ?_
      refine go_sub [1, 2, 3, 0] rfl ?_
      exact hk2 _ _ _ _  h
    · refine go_iconst X (dk dt_M_isBeat_1 11 rfl) ci_0 ?_
      exact go_iret rt (dk dt_M_isBeat_1 12 rfl) h (by decide)
set_option maxRecDepth 20000 in
theorem lkL_M_isBeat_2 (hi : zInj wM v) (xc : XC wM v) (nx : NXM v) (X : Cx wM v p R s m args c 0 0 cX12_isBeat 4 RX12 2) (rt : Rt wM v p l e R s m args below meth c 0 0 Q cX12_isBeat true (some (.int res.1)) res.2)   (n : Nat) : ∀ {x1 : Int32} {x2 : Int32} {x3 : Int32} {σ : Hp},  L_M_isBeat_2   n x1 x2 x3 σ = some res → Go wM v p l e R s m args below meth c 0 0 Q 4 2 [(0, .ref 0), (1, .int x1), (2, .int x2), (3, .int x3)] [] σ := by
  induction n with
  | zero => intro x1 x2 x3 σ  h; cases h
  | succ n ih =>
    intro x1 x2 x3 σ  h
    exact lkB_M_isBeat_2 hi xc nx X rt  (fun _ _ _ _  hh => ih  hh) h
set_option maxRecDepth 20000 in
theorem lkF_M_isBeat (hi : zInj wM v) (xc : XC wM v) (nx : NXM v) (X : Cx wM v p R s m args c 0 0 cX12_isBeat 4 RX12 2) (rt : Rt wM v p l e R s m args below meth c 0 0 Q cX12_isBeat true (some (.int res.1)) res.2) {a1 : Int32} {a2 : Int32} {σ : Hp}  (h : F_M_isBeat  a1 a2 σ = some res) : Go wM v p l e R s m args below meth c 0 0 Q 4 0 [(0, .ref 0), (1, .int a1), (2, .int a2)] [] σ := by
  unfold F_M_isBeat at h
  refine go_iload_n X 2 (dk dt_M_isBeat_0 0 rfl) rfl rfl ?_
  refine go_istore_n (lv' := [(3, .int a2), (0, .ref 0), (1, .int a1), (2, .int a2)]) X (dk dt_M_isBeat_0 1 rfl) rfl (by decide) rfl ?_
  refine go_sub [1, 2, 3, 0] rfl ?_
  exact lkL_M_isBeat_2 hi xc nx X rt  FU  h
set_option maxRecDepth 20000 in
theorem ct_M_isBeat (hi : zInj wM v) (xc : XC wM v) (nx : NXM v)  {a1 : Int32} {a2 : Int32} {σ : Hp}  {q : (Int32 × Hp)} (h : F_M_isBeat  a1 a2 σ = some q) : Ct wM v l yX12_isBeat cX12_isBeat 4 (some .boolean) 2 [.ref 0, .int a1, .int a2] σ (some (.int q.1)) q.2 :=
  Ct.intro true (by decide) hi xc (Nat.le_of_ble_eq_true rfl) rfl (fun p e R s m args below meth c Q X rt => lkF_M_isBeat hi xc nx X rt  h)
end
def T_M_beat_0 : DT := [(0, .iload_n 1, 1), (1, .iconst 0, 1), (2, .iconst 1, 1), (3, .invokestatic 122, 3), (6, .ifCond .ne 5, 3), (9, .iconst (-1), 1), (10, .ireturn, 1), (11, .iconst 1, 1), (12, .istore_n 2, 1), (13, .iload_n 2, 1), (14, .aload_n 0, 1), (15, .getfield 71, 3), (18, .iload_n 1, 1), (19, .iaload, 1), (20, .if_icmp .gt 20, 3), (23, .aload_n 0, 1)]
theorem dt_M_beat_0 : dOk cX12_beat T_M_beat_0 := by unfold dOk; decide +kernel
def T_M_beat_1 : DT := [(24, .iload_n 1, 1), (25, .iload_n 2, 1), (26, .invokevirtual 396, 3), (29, .ifCond .eq 5, 3), (32, .iload_n 2, 1), (33, .ireturn, 1), (34, .iinc 2 1, 3), (37, .goto (-24), 3), (40, .bipush (-2), 2), (42, .ireturn, 1)]
theorem dt_M_beat_1 : dOk cX12_beat T_M_beat_1 := by unfold dOk; decide +kernel
section
variable {v : ZV} {l : Launch} {p : Program} {e : Env} {R : Room} {s : State} {m : MethodId} {args : Array Value} {below : List Frame} {meth : Method} {c : Code} {Q : State → Prop} {res : (Int32 × Hp)} 
set_option maxRecDepth 20000 in
theorem lkB_M_beat_13 (hi : zInj wM v) (xc : XC wM v) (nx : NXM v) (X : Cx wM v p R s m args c 0 0 cX12_beat 3 RX12 4) (rt : Rt wM v p l e R s m args below meth c 0 0 Q cX12_beat false (some (.int res.1)) res.2) {k13 : Int32 → Int32 → Hp → Option (Int32 × Hp)} {x1 : Int32} {x2 : Int32} {σ : Hp}  (hk13 : ∀ (x1 : Int32) (x2 : Int32) (σ : Hp),  k13 x1 x2 σ = some res → Go wM v p l e R s m args below meth c 0 0 Q 3 13 [(0, .ref 0), (1, .int x1), (2, .int x2)] [] σ) (h : B_M_beat_13  k13 x1 x2 σ = some res) : Go wM v p l e R s m args below meth c 0 0 Q 3 13 [(0, .ref 0), (1, .int x1), (2, .int x2)] [] σ := by
  unfold B_M_beat_13 at h
  refine go_iload_n X 2 (dk dt_M_beat_0 9 rfl) rfl rfl ?_
  refine go_aload_n X 0 (dk dt_M_beat_0 10 rfl) rfl rfl ?_
  refine go_getr X fo_X12_71 lM_0 sM_0 fM_0_31 (dk dt_M_beat_0 11 rfl) ?_
  refine go_iload_n X 1 (dk dt_M_beat_0 12 rfl) rfl rfl ?_
  refine go_iald X lM_21 sM_21 (dk dt_M_beat_0 13 rfl) h (fun h => ?_)
  refine go_icmp_gt (tgt := 40) X (dk dt_M_beat_0 14 rfl) (by decide) h (fun h => ?_) (fun h => ?_)
  · refine go_bipush X (dk dt_M_beat_1 8 rfl) cb_m2 ?_
    exact go_iret rt (dk dt_M_beat_1 9 rfl) h (fun hh => nomatch hh)
  · refine go_aload_n X 0 (dk dt_M_beat_0 15 rfl) rfl rfl ?_
    refine go_iload_n X 1 (dk dt_M_beat_1 0 rfl) rfl rfl ?_
    refine go_iload_n X 2 (dk dt_M_beat_1 1 rfl) rfl rfl ?_
    refine go_Vi (As := [.int x1, .int x2]) (rest := []) X vo_X12_396 (fun q hq => ct_M_isBeat hi xc nx  hq) (by decide) rfl lM_0 sM_0 rfl rfl (Nat.le_of_ble_eq_true rfl) (dk dt_M_beat_1 2 rfl) h (fun q26 h => ?_)
    refine go_if_eq (tgt := 34) X (dk dt_M_beat_1 3 rfl) (by decide) h (fun h => ?_) (fun h => ?_)
    · refine go_iinc (lv' := [(2, .int (x2 + (1 : Int32))), (0, .ref 0), (1, .int x1)]) X 2 (dk dt_M_beat_1 6 rfl) rfl ci_1 (by decide) rfl ?_
      refine go_goto (tgt := 13) X (dk dt_M_beat_1 7 rfl) (by decide) ?_
      refine go_sub [1, 2, 0] rfl ?_
      exact hk13 _ _ _  h
    · refine go_iload_n X 2 (dk dt_M_beat_1 4 rfl) rfl rfl ?_
      exact go_iret rt (dk dt_M_beat_1 5 rfl) h (fun hh => nomatch hh)
set_option maxRecDepth 20000 in
theorem lkL_M_beat_13 (hi : zInj wM v) (xc : XC wM v) (nx : NXM v) (X : Cx wM v p R s m args c 0 0 cX12_beat 3 RX12 4) (rt : Rt wM v p l e R s m args below meth c 0 0 Q cX12_beat false (some (.int res.1)) res.2)   (n : Nat) : ∀ {x1 : Int32} {x2 : Int32} {σ : Hp},  L_M_beat_13   n x1 x2 σ = some res → Go wM v p l e R s m args below meth c 0 0 Q 3 13 [(0, .ref 0), (1, .int x1), (2, .int x2)] [] σ := by
  induction n with
  | zero => intro x1 x2 σ  h; cases h
  | succ n ih =>
    intro x1 x2 σ  h
    exact lkB_M_beat_13 hi xc nx X rt  (fun _ _ _  hh => ih  hh) h
set_option maxRecDepth 20000 in
theorem lkF_M_beat (hi : zInj wM v) (xc : XC wM v) (nx : NXM v) (X : Cx wM v p R s m args c 0 0 cX12_beat 3 RX12 4) (rt : Rt wM v p l e R s m args below meth c 0 0 Q cX12_beat false (some (.int res.1)) res.2) {a1 : Int32} {σ : Hp}  (h : F_M_beat  a1 σ = some res) : Go wM v p l e R s m args below meth c 0 0 Q 3 0 [(0, .ref 0), (1, .int a1)] [] σ := by
  unfold F_M_beat at h
  refine go_iload_n X 1 (dk dt_M_beat_0 0 rfl) rfl rfl ?_
  refine go_iconst X (dk dt_M_beat_0 1 rfl) ci_0 ?_
  refine go_iconst X (dk dt_M_beat_0 2 rfl) ci_1 ?_
  refine go_Si (As := [.int a1, .int (0 : Int32), .int (1 : Int32)]) (rest := []) X so_X12_122 (fun q hq => ct_M_in hi xc nx  hq) (by decide) rfl rfl (Nat.le_of_ble_eq_true rfl) (dk dt_M_beat_0 3 rfl) h (fun q3 h => ?_)
  refine go_if_ne (tgt := 11) X (dk dt_M_beat_0 4 rfl) (by decide) h (fun h => ?_) (fun h => ?_)
  · refine go_iconst X (dk dt_M_beat_0 7 rfl) ci_1 ?_
    refine go_istore_n (lv' := [(2, .int (1 : Int32)), (0, .ref 0), (1, .int a1)]) X (dk dt_M_beat_0 8 rfl) rfl (by decide) rfl ?_
    refine go_sub [1, 2, 0] rfl ?_
    exact lkL_M_beat_13 hi xc nx X rt  FU  h
  · refine go_iconst X (dk dt_M_beat_0 5 rfl) ci_m1 ?_
    exact go_iret rt (dk dt_M_beat_0 6 rfl) h (fun hh => nomatch hh)
set_option maxRecDepth 20000 in
theorem ct_M_beat (hi : zInj wM v) (xc : XC wM v) (nx : NXM v)  {a1 : Int32} {σ : Hp}  {q : (Int32 × Hp)} (h : F_M_beat  a1 σ = some q) : Ct wM v l yX12_beat cX12_beat 3 (some .int) 4 [.ref 0, .int a1] σ (some (.int q.1)) q.2 :=
  Ct.intro false (by decide) hi xc (Nat.le_of_ble_eq_true rfl) rfl (fun p e R s m args below meth c Q X rt => lkF_M_beat hi xc nx X rt  h)
end
def T_M_begins_0 : DT := [(0, .aload_n 0, 1), (1, .getfield 107, 3), (4, .iload_n 1, 1), (5, .iload_n 2, 1), (6, .iastore, 1), (7, .aload_n 0, 1), (8, .getfield 113, 3), (11, .iload_n 1, 1), (12, .iload_n 3, 1), (13, .iastore, 1), (14, .aload_n 0, 1), (15, .getfield 101, 3), (18, .iload_n 1, 1), (19, .iconst (-1), 1), (20, .iastore, 1), (21, .aload_n 0, 1)]
theorem dt_M_begins_0 : dOk cX12_begins T_M_begins_0 := by unfold dOk; decide +kernel
def T_M_begins_1 : DT := [(22, .getfield 104, 3), (25, .iload_n 1, 1), (26, .iconst (-1), 1), (27, .iastore, 1), (28, .aload_n 0, 1), (29, .getfield 110, 3), (32, .iload_n 1, 1), (33, .iconst (-1), 1), (34, .iastore, 1), (35, .return_, 1)]
theorem dt_M_begins_1 : dOk cX12_begins T_M_begins_1 := by unfold dOk; decide +kernel
section
variable {v : ZV} {l : Launch} {p : Program} {e : Env} {R : Room} {s : State} {m : MethodId} {args : Array Value} {below : List Frame} {meth : Method} {c : Code} {Q : State → Prop} {res : Hp} 
set_option maxRecDepth 20000 in
theorem lkF_M_begins (hi : zInj wM v) (xc : XC wM v) (nx : NXM v) (X : Cx wM v p R s m args c 0 0 cX12_begins 4 RX12 2) (rt : Rt wM v p l e R s m args below meth c 0 0 Q cX12_begins false none res) {a1 : Int32} {a2 : Int32} {a3 : Int32} {σ : Hp}  (h : F_M_begins  a1 a2 a3 σ = some res) : Go wM v p l e R s m args below meth c 0 0 Q 4 0 [(0, .ref 0), (1, .int a1), (2, .int a2), (3, .int a3)] [] σ := by
  unfold F_M_begins at h
  refine go_aload_n X 0 (dk dt_M_begins_0 0 rfl) rfl rfl ?_
  refine go_getr X fo_X12_107 lM_0 sM_0 fM_0_53 (dk dt_M_begins_0 1 rfl) ?_
  refine go_iload_n X 1 (dk dt_M_begins_0 2 rfl) rfl rfl ?_
  refine go_iload_n X 2 (dk dt_M_begins_0 3 rfl) rfl rfl ?_
  refine go_iast X lM_33 sM_33 (dk dt_M_begins_0 4 rfl) h (fun h => ?_)
  refine go_aload_n X 0 (dk dt_M_begins_0 5 rfl) rfl rfl ?_
  refine go_getr X fo_X12_113 lM_0 sM_0 fM_0_55 (dk dt_M_begins_0 6 rfl) ?_
  refine go_iload_n X 1 (dk dt_M_begins_0 7 rfl) rfl rfl ?_
  refine go_iload_n X 3 (dk dt_M_begins_0 8 rfl) rfl rfl ?_
  refine go_iast X lM_35 sM_35 (dk dt_M_begins_0 9 rfl) h (fun h => ?_)
  refine go_aload_n X 0 (dk dt_M_begins_0 10 rfl) rfl rfl ?_
  refine go_getr X fo_X12_101 lM_0 sM_0 fM_0_51 (dk dt_M_begins_0 11 rfl) ?_
  refine go_iload_n X 1 (dk dt_M_begins_0 12 rfl) rfl rfl ?_
  refine go_iconst X (dk dt_M_begins_0 13 rfl) ci_m1 ?_
  refine go_iast X lM_31 sM_31 (dk dt_M_begins_0 14 rfl) h (fun h => ?_)
  refine go_aload_n X 0 (dk dt_M_begins_0 15 rfl) rfl rfl ?_
  refine go_getr X fo_X12_104 lM_0 sM_0 fM_0_52 (dk dt_M_begins_1 0 rfl) ?_
  refine go_iload_n X 1 (dk dt_M_begins_1 1 rfl) rfl rfl ?_
  refine go_iconst X (dk dt_M_begins_1 2 rfl) ci_m1 ?_
  refine go_iast X lM_32 sM_32 (dk dt_M_begins_1 3 rfl) h (fun h => ?_)
  refine go_aload_n X 0 (dk dt_M_begins_1 4 rfl) rfl rfl ?_
  refine go_getr X fo_X12_110 lM_0 sM_0 fM_0_54 (dk dt_M_begins_1 5 rfl) ?_
  refine go_iload_n X 1 (dk dt_M_begins_1 6 rfl) rfl rfl ?_
  refine go_iconst X (dk dt_M_begins_1 7 rfl) ci_m1 ?_
  refine go_iast X lM_34 sM_34 (dk dt_M_begins_1 8 rfl) h (fun h => ?_)
  exact go_vret rt (dk dt_M_begins_1 9 rfl) h
set_option maxRecDepth 20000 in
theorem ct_M_begins (hi : zInj wM v) (xc : XC wM v) (nx : NXM v)  {a1 : Int32} {a2 : Int32} {a3 : Int32} {σ : Hp}  {q : Hp} (h : F_M_begins  a1 a2 a3 σ = some q) : Ct wM v l yX12_begins cX12_begins 4 none 2 [.ref 0, .int a1, .int a2, .int a3] σ none q :=
  Ct.intro false (by decide) hi xc (Nat.le_of_ble_eq_true rfl) rfl (fun p e R s m args below meth c Q X rt => lkF_M_begins hi xc nx X rt  h)
end
def T_M_beginsText_0 : DT := [(0, .aload_n 0, 1), (1, .iconst 0, 1), (2, .putfield 155, 3), (5, .aload_n 0, 1), (6, .iload_n 1, 1), (7, .putfield 158, 3), (10, .aload_n 0, 1), (11, .iconst 0, 1), (12, .putfield 178, 3), (15, .aload_n 0, 1), (16, .iconst 0, 1), (17, .putfield 233, 3), (20, .return_, 1)]
theorem dt_M_beginsText_0 : dOk cX12_beginsText T_M_beginsText_0 := by unfold dOk; decide +kernel
section
variable {v : ZV} {l : Launch} {p : Program} {e : Env} {R : Room} {s : State} {m : MethodId} {args : Array Value} {below : List Frame} {meth : Method} {c : Code} {Q : State → Prop} {res : Hp} 
set_option maxRecDepth 20000 in
theorem lkF_M_beginsText (hi : zInj wM v) (xc : XC wM v) (nx : NXM v) (X : Cx wM v p R s m args c 0 0 cX12_beginsText 2 RX12 2) (rt : Rt wM v p l e R s m args below meth c 0 0 Q cX12_beginsText false none res) {a1 : Int32} {σ : Hp}  (h : F_M_beginsText  a1 σ = some res) : Go wM v p l e R s m args below meth c 0 0 Q 2 0 [(0, .ref 0), (1, .int a1)] [] σ := by
  unfold F_M_beginsText at h
  refine go_aload_n X 0 (dk dt_M_beginsText_0 0 rfl) rfl rfl ?_
  refine go_iconst X (dk dt_M_beginsText_0 1 rfl) ci_0 ?_
  refine go_puti X fo_X12_155 pf_12_7 lM_0 sM_0 fM_0_7 (dk dt_M_beginsText_0 2 rfl) ?_
  refine go_aload_n X 0 (dk dt_M_beginsText_0 3 rfl) rfl rfl ?_
  refine go_iload_n X 1 (dk dt_M_beginsText_0 4 rfl) rfl rfl ?_
  refine go_puti X fo_X12_158 pf_12_8 lM_0 sM_0 fM_0_8 (dk dt_M_beginsText_0 5 rfl) ?_
  refine go_aload_n X 0 (dk dt_M_beginsText_0 6 rfl) rfl rfl ?_
  refine go_iconst X (dk dt_M_beginsText_0 7 rfl) ci_0 ?_
  refine go_puti X fo_X12_178 pf_12_12 lM_0 sM_0 fM_0_12 (dk dt_M_beginsText_0 8 rfl) ?_
  refine go_aload_n X 0 (dk dt_M_beginsText_0 9 rfl) rfl rfl ?_
  refine go_iconst X (dk dt_M_beginsText_0 10 rfl) ci_0 ?_
  refine go_puti X fo_X12_233 pf_12_14 lM_0 sM_0 fM_0_14 (dk dt_M_beginsText_0 11 rfl) ?_
  exact go_vret rt (dk dt_M_beginsText_0 12 rfl) h
set_option maxRecDepth 20000 in
theorem ct_M_beginsText (hi : zInj wM v) (xc : XC wM v) (nx : NXM v)  {a1 : Int32} {σ : Hp}  {q : Hp} (h : F_M_beginsText  a1 σ = some q) : Ct wM v l yX12_beginsText cX12_beginsText 2 none 2 [.ref 0, .int a1] σ none q :=
  Ct.intro false (by decide) hi xc (Nat.le_of_ble_eq_true rfl) rfl (fun p e R s m args below meth c Q X rt => lkF_M_beginsText hi xc nx X rt  h)
end
def T_M_bits_0 : DT := [(0, .iconst 0, 1), (1, .istore_n 1, 1), (2, .iconst 0, 1), (3, .istore_n 2, 1), (4, .iload_n 2, 1), (5, .bipush 8, 2), (7, .if_icmp .ge 17, 3), (10, .iload_n 1, 1), (11, .iload_n 0, 1), (12, .iload_n 2, 1), (13, .ishr, 1), (14, .iconst 1, 1), (15, .iand, 1), (16, .iadd, 1), (17, .istore_n 1, 1), (18, .iinc 2 1, 3)]
theorem dt_M_bits_0 : dOk cX12_bits T_M_bits_0 := by unfold dOk; decide +kernel
def T_M_bits_1 : DT := [(21, .goto (-17), 3), (24, .iload_n 1, 1), (25, .ireturn, 1)]
theorem dt_M_bits_1 : dOk cX12_bits T_M_bits_1 := by unfold dOk; decide +kernel
section
variable {v : ZV} {l : Launch} {p : Program} {e : Env} {R : Room} {s : State} {m : MethodId} {args : Array Value} {below : List Frame} {meth : Method} {c : Code} {Q : State → Prop} {res : (Int32 × Hp)} 
set_option maxRecDepth 20000 in
theorem lkB_M_bits_4 (hi : zInj wM v) (xc : XC wM v) (nx : NXM v) (X : Cx wM v p R s m args c 0 0 cX12_bits 3 RX12 2) (rt : Rt wM v p l e R s m args below meth c 0 0 Q cX12_bits false (some (.int res.1)) res.2) {k4 : Int32 → Int32 → Int32 → Hp → Option (Int32 × Hp)} {x0 : Int32} {x1 : Int32} {x2 : Int32} {σ : Hp}  (hk4 : ∀ (x0 : Int32) (x1 : Int32) (x2 : Int32) (σ : Hp),  k4 x0 x1 x2 σ = some res → Go wM v p l e R s m args below meth c 0 0 Q 3 4 [(0, .int x0), (1, .int x1), (2, .int x2)] [] σ) (h : B_M_bits_4  k4 x0 x1 x2 σ = some res) : Go wM v p l e R s m args below meth c 0 0 Q 3 4 [(0, .int x0), (1, .int x1), (2, .int x2)] [] σ := by
  unfold B_M_bits_4 at h
  refine go_iload_n X 2 (dk dt_M_bits_0 4 rfl) rfl rfl ?_
  refine go_bipush X (dk dt_M_bits_0 5 rfl) cb_8 ?_
  refine go_icmp_ge (tgt := 24) X (dk dt_M_bits_0 6 rfl) (by decide) h (fun h => ?_) (fun h => ?_)
  · refine go_iload_n X 1 (dk dt_M_bits_1 1 rfl) rfl rfl ?_
    exact go_iret rt (dk dt_M_bits_1 2 rfl) h (fun hh => nomatch hh)
  · refine go_iload_n X 1 (dk dt_M_bits_0 7 rfl) rfl rfl ?_
    refine go_iload_n X 0 (dk dt_M_bits_0 8 rfl) rfl rfl ?_
    refine go_iload_n X 2 (dk dt_M_bits_0 9 rfl) rfl rfl ?_
    refine go_ishr X (dk dt_M_bits_0 10 rfl) ?_
    refine go_iconst X (dk dt_M_bits_0 11 rfl) ci_1 ?_
    refine go_iand X (dk dt_M_bits_0 12 rfl) ?_
    refine go_iadd X (dk dt_M_bits_0 13 rfl) ?_
    refine go_istore_n (lv' := [(1, .int (x1 + ((x0 >>> (x2 &&& 31)) &&& (1 : Int32)))), (0, .int x0), (2, .int x2)]) X (dk dt_M_bits_0 14 rfl) rfl (by decide) rfl ?_
    refine go_iinc (lv' := [(2, .int (x2 + (1 : Int32))), (1, .int (x1 + ((x0 >>> (x2 &&& 31)) &&& (1 : Int32)))), (0, .int x0)]) X 2 (dk dt_M_bits_0 15 rfl) rfl ci_1 (by decide) rfl ?_
    refine go_goto (tgt := 4) X (dk dt_M_bits_1 0 rfl) (by decide) ?_
    refine go_sub [2, 1, 0] rfl ?_
    exact hk4 _ _ _ _  h
set_option maxRecDepth 20000 in
theorem lkL_M_bits_4 (hi : zInj wM v) (xc : XC wM v) (nx : NXM v) (X : Cx wM v p R s m args c 0 0 cX12_bits 3 RX12 2) (rt : Rt wM v p l e R s m args below meth c 0 0 Q cX12_bits false (some (.int res.1)) res.2)   (n : Nat) : ∀ {x0 : Int32} {x1 : Int32} {x2 : Int32} {σ : Hp},  L_M_bits_4   n x0 x1 x2 σ = some res → Go wM v p l e R s m args below meth c 0 0 Q 3 4 [(0, .int x0), (1, .int x1), (2, .int x2)] [] σ := by
  induction n with
  | zero => intro x0 x1 x2 σ  h; cases h
  | succ n ih =>
    intro x0 x1 x2 σ  h
    exact lkB_M_bits_4 hi xc nx X rt  (fun _ _ _ _  hh => ih  hh) h
set_option maxRecDepth 20000 in
theorem lkF_M_bits (hi : zInj wM v) (xc : XC wM v) (nx : NXM v) (X : Cx wM v p R s m args c 0 0 cX12_bits 3 RX12 2) (rt : Rt wM v p l e R s m args below meth c 0 0 Q cX12_bits false (some (.int res.1)) res.2) {a0 : Int32} {σ : Hp}  (h : F_M_bits  a0 σ = some res) : Go wM v p l e R s m args below meth c 0 0 Q 3 0 [(0, .int a0)] [] σ := by
  unfold F_M_bits at h
  refine go_iconst X (dk dt_M_bits_0 0 rfl) ci_0 ?_
  refine go_istore_n (lv' := [(1, .int (0 : Int32)), (0, .int a0)]) X (dk dt_M_bits_0 1 rfl) rfl (by decide) rfl ?_
  refine go_iconst X (dk dt_M_bits_0 2 rfl) ci_0 ?_
  refine go_istore_n (lv' := [(2, .int (0 : Int32)), (1, .int (0 : Int32)), (0, .int a0)]) X (dk dt_M_bits_0 3 rfl) rfl (by decide) rfl ?_
  refine go_sub [2, 1, 0] rfl ?_
  exact lkL_M_bits_4 hi xc nx X rt  FU  h
set_option maxRecDepth 20000 in
theorem ct_M_bits (hi : zInj wM v) (xc : XC wM v) (nx : NXM v)  {a0 : Int32} {σ : Hp}  {q : (Int32 × Hp)} (h : F_M_bits  a0 σ = some q) : Ct wM v l yX12_bits cX12_bits 3 (some .int) 2 [.int a0] σ (some (.int q.1)) q.2 :=
  Ct.intro false (by decide) hi xc (Nat.le_of_ble_eq_true rfl) rfl (fun p e R s m args below meth c Q X rt => lkF_M_bits hi xc nx X rt  h)
end
def T_M_has_0 : DT := [(0, .iload_n 0, 1), (1, .iload_n 1, 1), (2, .ishr, 1), (3, .iconst 1, 1), (4, .iand, 1), (5, .iconst 1, 1), (6, .if_icmp .ne 7, 3), (9, .iconst 1, 1), (10, .goto 4, 3), (13, .iconst 0, 1), (14, .ireturn, 1)]
theorem dt_M_has_0 : dOk cX12_has T_M_has_0 := by unfold dOk; decide +kernel
section
variable {v : ZV} {l : Launch} {p : Program} {e : Env} {R : Room} {s : State} {m : MethodId} {args : Array Value} {below : List Frame} {meth : Method} {c : Code} {Q : State → Prop} {res : (Int32 × Hp)} 
set_option maxRecDepth 20000 in
theorem lkF_M_has (hi : zInj wM v) (xc : XC wM v) (nx : NXM v) (X : Cx wM v p R s m args c 0 0 cX12_has 2 RX12 2) (rt : Rt wM v p l e R s m args below meth c 0 0 Q cX12_has true (some (.int res.1)) res.2) {a0 : Int32} {a1 : Int32} {σ : Hp}  (h : F_M_has  a0 a1 σ = some res) : Go wM v p l e R s m args below meth c 0 0 Q 2 0 [(0, .int a0), (1, .int a1)] [] σ := by
  unfold F_M_has at h
  refine go_iload_n X 0 (dk dt_M_has_0 0 rfl) rfl rfl ?_
  refine go_iload_n X 1 (dk dt_M_has_0 1 rfl) rfl rfl ?_
  refine go_ishr X (dk dt_M_has_0 2 rfl) ?_
  refine go_iconst X (dk dt_M_has_0 3 rfl) ci_1 ?_
  refine go_iand X (dk dt_M_has_0 4 rfl) ?_
  refine go_iconst X (dk dt_M_has_0 5 rfl) ci_1 ?_
  refine go_icmp_ne (tgt := 13) X (dk dt_M_has_0 6 rfl) (by decide) h (fun h => ?_) (fun h => ?_)
  · refine go_iconst X (dk dt_M_has_0 9 rfl) ci_0 ?_
    exact go_iret rt (dk dt_M_has_0 10 rfl) h (by decide)
  · refine go_iconst X (dk dt_M_has_0 7 rfl) ci_1 ?_
    refine go_goto (tgt := 14) X (dk dt_M_has_0 8 rfl) (by decide) ?_
    exact go_iret rt (dk dt_M_has_0 10 rfl) h (by decide)
set_option maxRecDepth 20000 in
theorem ct_M_has (hi : zInj wM v) (xc : XC wM v) (nx : NXM v)  {a0 : Int32} {a1 : Int32} {σ : Hp}  {q : (Int32 × Hp)} (h : F_M_has  a0 a1 σ = some q) : Ct wM v l yX12_has cX12_has 2 (some .boolean) 2 [.int a0, .int a1] σ (some (.int q.1)) q.2 :=
  Ct.intro true (by decide) hi xc (Nat.le_of_ble_eq_true rfl) rfl (fun p e R s m args below meth c Q X rt => lkF_M_has hi xc nx X rt  h)
end
def T_M_isAway_0 : DT := [(0, .aload_n 0, 1), (1, .getfield 405, 3), (4, .aload_n 0, 1), (5, .getfield 399, 3), (8, .iload_n 1, 1), (9, .imul, 1), (10, .iload_n 2, 1), (11, .iadd, 1), (12, .invokestatic 141, 3), (15, .ireturn, 1)]
theorem dt_M_isAway_0 : dOk cX12_isAway T_M_isAway_0 := by unfold dOk; decide +kernel
section
variable {v : ZV} {l : Launch} {p : Program} {e : Env} {R : Room} {s : State} {m : MethodId} {args : Array Value} {below : List Frame} {meth : Method} {c : Code} {Q : State → Prop} {res : (Int32 × Hp)} 
set_option maxRecDepth 20000 in
theorem lkF_M_isAway (hi : zInj wM v) (xc : XC wM v) (nx : NXM v) (X : Cx wM v p R s m args c 0 0 cX12_isAway 3 RX12 4) (rt : Rt wM v p l e R s m args below meth c 0 0 Q cX12_isAway true (some (.int res.1)) res.2) {a1 : Int32} {a2 : Int32} {σ : Hp}  (h : F_M_isAway  a1 a2 σ = some res) : Go wM v p l e R s m args below meth c 0 0 Q 3 0 [(0, .ref 0), (1, .int a1), (2, .int a2)] [] σ := by
  unfold F_M_isAway at h
  refine go_aload_n X 0 (dk dt_M_isAway_0 0 rfl) rfl rfl ?_
  refine go_geti X fo_X12_405 lM_0 sM_0 fM_0_58 (dk dt_M_isAway_0 1 rfl) ?_
  refine go_aload_n X 0 (dk dt_M_isAway_0 2 rfl) rfl rfl ?_
  refine go_geti X fo_X12_399 lM_0 sM_0 fM_0_56 (dk dt_M_isAway_0 3 rfl) ?_
  refine go_iload_n X 1 (dk dt_M_isAway_0 4 rfl) rfl rfl ?_
  refine go_imul X (dk dt_M_isAway_0 5 rfl) ?_
  refine go_iload_n X 2 (dk dt_M_isAway_0 6 rfl) rfl rfl ?_
  refine go_iadd X (dk dt_M_isAway_0 7 rfl) ?_
  refine go_Si (As := [.int (σ 0 58), .int (((σ 0 56) * a1) + a2)]) (rest := []) X so_X12_141 (fun q hq => ct_M_has hi xc nx  hq) (by decide) rfl rfl (Nat.le_of_ble_eq_true rfl) (dk dt_M_isAway_0 8 rfl) h (fun q12 h => ?_)
  exact go_zret rt (dk dt_M_isAway_0 9 rfl) h
set_option maxRecDepth 20000 in
theorem ct_M_isAway (hi : zInj wM v) (xc : XC wM v) (nx : NXM v)  {a1 : Int32} {a2 : Int32} {σ : Hp}  {q : (Int32 × Hp)} (h : F_M_isAway  a1 a2 σ = some q) : Ct wM v l yX12_isAway cX12_isAway 3 (some .boolean) 4 [.ref 0, .int a1, .int a2] σ (some (.int q.1)) q.2 :=
  Ct.intro true (by decide) hi xc (Nat.le_of_ble_eq_true rfl) rfl (fun p e R s m args below meth c Q X rt => lkF_M_isAway hi xc nx X rt  h)
end
def T_M_cardOf_0 : DT := [(0, .aload_n 0, 1), (1, .aload_n 0, 1), (2, .getfield 399, 3), (5, .iload_n 1, 1), (6, .imul, 1), (7, .iload_n 2, 1), (8, .iadd, 1), (9, .invokevirtual 402, 3), (12, .ireturn, 1)]
theorem dt_M_cardOf_0 : dOk cX12_cardOf T_M_cardOf_0 := by unfold dOk; decide +kernel
section
variable {v : ZV} {l : Launch} {p : Program} {e : Env} {R : Room} {s : State} {m : MethodId} {args : Array Value} {below : List Frame} {meth : Method} {c : Code} {Q : State → Prop} {res : (Int32 × Hp)} 
set_option maxRecDepth 20000 in
theorem lkF_M_cardOf (hi : zInj wM v) (xc : XC wM v) (nx : NXM v) (X : Cx wM v p R s m args c 0 0 cX12_cardOf 3 RX12 4) (rt : Rt wM v p l e R s m args below meth c 0 0 Q cX12_cardOf false (some (.int res.1)) res.2) {a1 : Int32} {a2 : Int32} {σ : Hp}  (h : F_M_cardOf  a1 a2 σ = some res) : Go wM v p l e R s m args below meth c 0 0 Q 3 0 [(0, .ref 0), (1, .int a1), (2, .int a2)] [] σ := by
  unfold F_M_cardOf at h
  refine go_aload_n X 0 (dk dt_M_cardOf_0 0 rfl) rfl rfl ?_
  refine go_aload_n X 0 (dk dt_M_cardOf_0 1 rfl) rfl rfl ?_
  refine go_geti X fo_X12_399 lM_0 sM_0 fM_0_56 (dk dt_M_cardOf_0 2 rfl) ?_
  refine go_iload_n X 1 (dk dt_M_cardOf_0 3 rfl) rfl rfl ?_
  refine go_imul X (dk dt_M_cardOf_0 4 rfl) ?_
  refine go_iload_n X 2 (dk dt_M_cardOf_0 5 rfl) rfl rfl ?_
  refine go_iadd X (dk dt_M_cardOf_0 6 rfl) ?_
  refine go_Vi (As := [.int (((σ 0 56) * a1) + a2)]) (rest := []) X vo_X12_402 (fun q hq => ct_M_octet hi xc nx  hq) (by decide) rfl lM_0 sM_0 rfl rfl (Nat.le_of_ble_eq_true rfl) (dk dt_M_cardOf_0 7 rfl) h (fun q9 h => ?_)
  exact go_iret rt (dk dt_M_cardOf_0 8 rfl) h (fun hh => nomatch hh)
set_option maxRecDepth 20000 in
theorem ct_M_cardOf (hi : zInj wM v) (xc : XC wM v) (nx : NXM v)  {a1 : Int32} {a2 : Int32} {σ : Hp}  {q : (Int32 × Hp)} (h : F_M_cardOf  a1 a2 σ = some q) : Ct wM v l yX12_cardOf cX12_cardOf 3 (some .int) 4 [.ref 0, .int a1, .int a2] σ (some (.int q.1)) q.2 :=
  Ct.intro false (by decide) hi xc (Nat.le_of_ble_eq_true rfl) rfl (fun p e R s m args below meth c Q X rt => lkF_M_cardOf hi xc nx X rt  h)
end
def T_M_mayPlay_0 : DT := [(0, .aload_n 0, 1), (1, .iload_n 2, 1), (2, .iload_n 3, 1), (3, .invokevirtual 408, 3), (6, .ifCond .eq 5, 3), (9, .iconst 0, 1), (10, .ireturn, 1), (11, .iload_n 1, 1), (12, .iconst 4, 1), (13, .irem, 1), (14, .ifCond .ne 5, 3), (17, .iconst 1, 1), (18, .ireturn, 1), (19, .aload_n 0, 1), (20, .getfield 98, 3), (23, .iload_n 1, 1)]
theorem dt_M_mayPlay_0 : dOk cX12_mayPlay T_M_mayPlay_0 := by unfold dOk; decide +kernel
def T_M_mayPlay_1 : DT := [(24, .iload_n 1, 1), (25, .iconst 4, 1), (26, .irem, 1), (27, .isub, 1), (28, .iaload, 1), (29, .bipush 13, 2), (31, .idiv, 1), (32, .istore 4, 2), (34, .aload_n 0, 1), (35, .iload_n 2, 1), (36, .iload_n 3, 1), (37, .invokevirtual 411, 3), (40, .bipush 13, 2), (42, .idiv, 1), (43, .iload 4, 2), (45, .if_icmp .ne 5, 3)]
theorem dt_M_mayPlay_1 : dOk cX12_mayPlay T_M_mayPlay_1 := by unfold dOk; decide +kernel
def T_M_mayPlay_2 : DT := [(48, .iconst 1, 1), (49, .ireturn, 1), (50, .iconst 0, 1), (51, .istore 5, 2), (53, .iload 5, 2), (55, .aload_n 0, 1), (56, .getfield 399, 3), (59, .if_icmp .ge 36, 3), (62, .aload_n 0, 1), (63, .iload_n 2, 1), (64, .iload 5, 2), (66, .invokevirtual 408, 3), (69, .ifCond .ne 20, 3), (72, .aload_n 0, 1), (73, .iload_n 2, 1), (74, .iload 5, 2)]
theorem dt_M_mayPlay_2 : dOk cX12_mayPlay T_M_mayPlay_2 := by unfold dOk; decide +kernel
def T_M_mayPlay_3 : DT := [(76, .invokevirtual 411, 3), (79, .bipush 13, 2), (81, .idiv, 1), (82, .iload 4, 2), (84, .if_icmp .ne 5, 3), (87, .iconst 0, 1), (88, .ireturn, 1), (89, .iinc 5 1, 3), (92, .goto (-39), 3), (95, .iconst 1, 1), (96, .ireturn, 1)]
theorem dt_M_mayPlay_3 : dOk cX12_mayPlay T_M_mayPlay_3 := by unfold dOk; decide +kernel
section
variable {v : ZV} {l : Launch} {p : Program} {e : Env} {R : Room} {s : State} {m : MethodId} {args : Array Value} {below : List Frame} {meth : Method} {c : Code} {Q : State → Prop} {res : (Int32 × Hp)} 
set_option maxRecDepth 20000 in
theorem lkB_M_mayPlay_53 (hi : zInj wM v) (xc : XC wM v) (nx : NXM v) (X : Cx wM v p R s m args c 0 0 cX12_mayPlay 6 RX12 6) (rt : Rt wM v p l e R s m args below meth c 0 0 Q cX12_mayPlay true (some (.int res.1)) res.2) {k53 : Int32 → Int32 → Int32 → Hp → Option (Int32 × Hp)} {x2 : Int32} {x4 : Int32} {x5 : Int32} {σ : Hp}  (hk53 : ∀ (x2 : Int32) (x4 : Int32) (x5 : Int32) (σ : Hp),  k53 x2 x4 x5 σ = some res → Go wM v p l e R s m args below meth c 0 0 Q 6 53 [(0, .ref 0), (2, .int x2), (4, .int x4), (5, .int x5)] [] σ) (h : B_M_mayPlay_53  k53 x2 x4 x5 σ = some res) : Go wM v p l e R s m args below meth c 0 0 Q 6 53 [(0, .ref 0), (2, .int x2), (4, .int x4), (5, .int x5)] [] σ := by
  unfold B_M_mayPlay_53 at h
  refine go_iload X 3 (dk dt_M_mayPlay_2 4 rfl) rfl ?_
  refine go_aload_n X 0 (dk dt_M_mayPlay_2 5 rfl) rfl rfl ?_
  refine go_geti X fo_X12_399 lM_0 sM_0 fM_0_56 (dk dt_M_mayPlay_2 6 rfl) ?_
  refine go_icmp_ge (tgt := 95) X (dk dt_M_mayPlay_2 7 rfl) (by decide) h (fun h => ?_) (fun h => ?_)
  · refine go_iconst X (dk dt_M_mayPlay_3 9 rfl) ci_1 ?_
    exact go_iret rt (dk dt_M_mayPlay_3 10 rfl) h (by decide)
  · refine go_aload_n X 0 (dk dt_M_mayPlay_2 8 rfl) rfl rfl ?_
    refine go_iload_n X 1 (dk dt_M_mayPlay_2 9 rfl) rfl rfl ?_
    refine go_iload X 3 (dk dt_M_mayPlay_2 10 rfl) rfl ?_
    refine go_Vi (As := [.int x2, .int x5]) (rest := []) X vo_X12_408 (fun q hq => ct_M_isAway hi xc nx  hq) (by decide) rfl lM_0 sM_0 rfl rfl (Nat.le_of_ble_eq_true rfl) (dk dt_M_mayPlay_2 11 rfl) h (fun q66 h => ?_)
    refine go_if_ne (tgt := 89) X (dk dt_M_mayPlay_2 12 rfl) (by decide) h (fun h => ?_) (fun h => ?_)
    · refine go_iinc (lv' := [(5, .int (x5 + (1 : Int32))), (0, .ref 0), (2, .int x2), (4, .int x4)]) X 3 (dk dt_M_mayPlay_3 7 rfl) rfl ci_1 (by decide) rfl ?_
      refine go_goto (tgt := 53) X (dk dt_M_mayPlay_3 8 rfl) (by decide) ?_
      refine go_sub [1, 2, 3, 0] rfl ?_
      exact hk53 _ _ _ _  h
    · refine go_aload_n X 0 (dk dt_M_mayPlay_2 13 rfl) rfl rfl ?_
      refine go_iload_n X 1 (dk dt_M_mayPlay_2 14 rfl) rfl rfl ?_
      refine go_iload X 3 (dk dt_M_mayPlay_2 15 rfl) rfl ?_
      refine go_Vi (As := [.int x2, .int x5]) (rest := []) X vo_X12_411 (fun q hq => ct_M_cardOf hi xc nx  hq) (by decide) rfl lM_0 sM_0 rfl rfl (Nat.le_of_ble_eq_true rfl) (dk dt_M_mayPlay_3 0 rfl) h (fun q76 h => ?_)
      refine go_bipush X (dk dt_M_mayPlay_3 1 rfl) cb_13 ?_
      refine go_idivL X (dk dt_M_mayPlay_3 2 rfl) (by decide) ?_
      refine go_iload X 2 (dk dt_M_mayPlay_3 3 rfl) rfl ?_
      refine go_icmp_ne (tgt := 89) X (dk dt_M_mayPlay_3 4 rfl) (by decide) h (fun h => ?_) (fun h => ?_)
      · refine go_iinc (lv' := [(5, .int (x5 + (1 : Int32))), (0, .ref 0), (2, .int x2), (4, .int x4)]) X 3 (dk dt_M_mayPlay_3 7 rfl) rfl ci_1 (by decide) rfl ?_
        refine go_goto (tgt := 53) X (dk dt_M_mayPlay_3 8 rfl) (by decide) ?_
        refine go_sub [1, 2, 3, 0] rfl ?_
        exact hk53 _ _ _ _  h
      · refine go_iconst X (dk dt_M_mayPlay_3 5 rfl) ci_0 ?_
        exact go_iret rt (dk dt_M_mayPlay_3 6 rfl) h (by decide)
set_option maxRecDepth 20000 in
theorem lkL_M_mayPlay_53 (hi : zInj wM v) (xc : XC wM v) (nx : NXM v) (X : Cx wM v p R s m args c 0 0 cX12_mayPlay 6 RX12 6) (rt : Rt wM v p l e R s m args below meth c 0 0 Q cX12_mayPlay true (some (.int res.1)) res.2)   (n : Nat) : ∀ {x2 : Int32} {x4 : Int32} {x5 : Int32} {σ : Hp},  L_M_mayPlay_53   n x2 x4 x5 σ = some res → Go wM v p l e R s m args below meth c 0 0 Q 6 53 [(0, .ref 0), (2, .int x2), (4, .int x4), (5, .int x5)] [] σ := by
  induction n with
  | zero => intro x2 x4 x5 σ  h; cases h
  | succ n ih =>
    intro x2 x4 x5 σ  h
    exact lkB_M_mayPlay_53 hi xc nx X rt  (fun _ _ _ _  hh => ih  hh) h
set_option maxRecDepth 20000 in
theorem lkF_M_mayPlay (hi : zInj wM v) (xc : XC wM v) (nx : NXM v) (X : Cx wM v p R s m args c 0 0 cX12_mayPlay 6 RX12 6) (rt : Rt wM v p l e R s m args below meth c 0 0 Q cX12_mayPlay true (some (.int res.1)) res.2) {a1 : Int32} {a2 : Int32} {a3 : Int32} {σ : Hp}  (h : F_M_mayPlay  a1 a2 a3 σ = some res) : Go wM v p l e R s m args below meth c 0 0 Q 6 0 [(0, .ref 0), (1, .int a1), (2, .int a2), (3, .int a3)] [] σ := by
  unfold F_M_mayPlay at h
  refine go_aload_n X 0 (dk dt_M_mayPlay_0 0 rfl) rfl rfl ?_
  refine go_iload_n X 2 (dk dt_M_mayPlay_0 1 rfl) rfl rfl ?_
  refine go_iload_n X 3 (dk dt_M_mayPlay_0 2 rfl) rfl rfl ?_
  refine go_Vi (As := [.int a2, .int a3]) (rest := []) X vo_X12_408 (fun q hq => ct_M_isAway hi xc nx  hq) (by decide) rfl lM_0 sM_0 rfl rfl (Nat.le_of_ble_eq_true rfl) (dk dt_M_mayPlay_0 3 rfl) h (fun q3 h => ?_)
  refine go_if_eq (tgt := 11) X (dk dt_M_mayPlay_0 4 rfl) (by decide) h (fun h => ?_) (fun h => ?_)
  · refine go_iload_n X 1 (dk dt_M_mayPlay_0 7 rfl) rfl rfl ?_
    refine go_iconst X (dk dt_M_mayPlay_0 8 rfl) ci_4 ?_
    refine go_iremL X (dk dt_M_mayPlay_0 9 rfl) (by decide) ?_
    refine go_if_ne (tgt := 19) X (dk dt_M_mayPlay_0 10 rfl) (by decide) h (fun h => ?_) (fun h => ?_)
    · refine go_aload_n X 0 (dk dt_M_mayPlay_0 13 rfl) rfl rfl ?_
      refine go_getr X fo_X12_98 lM_0 sM_0 fM_0_50 (dk dt_M_mayPlay_0 14 rfl) ?_
      refine go_iload_n X 1 (dk dt_M_mayPlay_0 15 rfl) rfl rfl ?_
      refine go_iload_n X 1 (dk dt_M_mayPlay_1 0 rfl) rfl rfl ?_
      refine go_iconst X (dk dt_M_mayPlay_1 1 rfl) ci_4 ?_
      refine go_iremL X (dk dt_M_mayPlay_1 2 rfl) (by decide) ?_
      refine go_isub X (dk dt_M_mayPlay_1 3 rfl) ?_
      refine go_iald X lM_30 sM_30 (dk dt_M_mayPlay_1 4 rfl) h (fun h => ?_)
      refine go_bipush X (dk dt_M_mayPlay_1 5 rfl) cb_13 ?_
      refine go_idivL X (dk dt_M_mayPlay_1 6 rfl) (by decide) ?_
      refine go_istore (lv' := [(4, .int ((q3.2 30 (Int32.toNatClampNeg (a1 - (jrem a1 (4 : Int32))))) / (13 : Int32))), (0, .ref 0), (1, .int a1), (2, .int a2), (3, .int a3)]) X (dk dt_M_mayPlay_1 7 rfl) (by decide) rfl ?_
      refine go_aload_n X 1 (dk dt_M_mayPlay_1 8 rfl) rfl rfl ?_
      refine go_iload_n X 3 (dk dt_M_mayPlay_1 9 rfl) rfl rfl ?_
      refine go_iload_n X 4 (dk dt_M_mayPlay_1 10 rfl) rfl rfl ?_
      refine go_Vi (As := [.int a2, .int a3]) (rest := []) X vo_X12_411 (fun q hq => ct_M_cardOf hi xc nx  hq) (by decide) rfl lM_0 sM_0 rfl rfl (Nat.le_of_ble_eq_true rfl) (dk dt_M_mayPlay_1 11 rfl) h (fun q37 h => ?_)
      refine go_bipush X (dk dt_M_mayPlay_1 12 rfl) cb_13 ?_
      refine go_idivL X (dk dt_M_mayPlay_1 13 rfl) (by decide) ?_
      refine go_iload X 0 (dk dt_M_mayPlay_1 14 rfl) rfl ?_
      refine go_icmp_ne (tgt := 50) X (dk dt_M_mayPlay_1 15 rfl) (by decide) h (fun h => ?_) (fun h => ?_)
      · refine go_iconst X (dk dt_M_mayPlay_2 2 rfl) ci_0 ?_
        refine go_istore (lv' := [(5, .int (0 : Int32)), (4, .int ((q3.2 30 (Int32.toNatClampNeg (a1 - (jrem a1 (4 : Int32))))) / (13 : Int32))), (0, .ref 0), (1, .int a1), (2, .int a2), (3, .int a3)]) X (dk dt_M_mayPlay_2 3 rfl) (by decide) rfl ?_
        refine go_sub [2, 4, 1, 0] rfl ?_
        exact lkL_M_mayPlay_53 hi xc nx X rt  FU  h
      · refine go_iconst X (dk dt_M_mayPlay_2 0 rfl) ci_1 ?_
        exact go_iret rt (dk dt_M_mayPlay_2 1 rfl) h (by decide)
    · refine go_iconst X (dk dt_M_mayPlay_0 11 rfl) ci_1 ?_
      exact go_iret rt (dk dt_M_mayPlay_0 12 rfl) h (by decide)
  · refine go_iconst X (dk dt_M_mayPlay_0 5 rfl) ci_0 ?_
    exact go_iret rt (dk dt_M_mayPlay_0 6 rfl) h (by decide)
set_option maxRecDepth 20000 in
theorem ct_M_mayPlay (hi : zInj wM v) (xc : XC wM v) (nx : NXM v)  {a1 : Int32} {a2 : Int32} {a3 : Int32} {σ : Hp}  {q : (Int32 × Hp)} (h : F_M_mayPlay  a1 a2 a3 σ = some q) : Ct wM v l yX12_mayPlay cX12_mayPlay 6 (some .boolean) 6 [.ref 0, .int a1, .int a2, .int a3] σ (some (.int q.1)) q.2 :=
  Ct.intro true (by decide) hi xc (Nat.le_of_ble_eq_true rfl) rfl (fun p e R s m args below meth c Q X rt => lkF_M_mayPlay hi xc nx X rt  h)
end
def T_M_mayBeBest_0 : DT := [(0, .aload_n 0, 1), (1, .getfield 107, 3), (4, .iload_n 1, 1), (5, .iaload, 1), (6, .iconst 2, 1), (7, .irem, 1), (8, .ifCond .ne 7, 3), (11, .iconst 1, 1), (12, .goto 4, 3), (15, .iconst 0, 1), (16, .istore 4, 2), (18, .aload_n 0, 1), (19, .getfield 104, 3), (22, .iload_n 1, 1), (23, .iaload, 1), (24, .iconst (-1), 1)]
theorem dt_M_mayBeBest_0 : dOk cX12_mayBeBest T_M_mayBeBest_0 := by unfold dOk; decide +kernel
def T_M_mayBeBest_1 : DT := [(25, .if_icmp .eq 51, 3), (28, .iload 4, 2), (30, .ifCond .eq 16, 3), (33, .iload_n 3, 1), (34, .aload_n 0, 1), (35, .getfield 104, 3), (38, .iload_n 1, 1), (39, .iaload, 1), (40, .if_icmp .le 16, 3), (43, .goto 33, 3), (46, .iload_n 3, 1), (47, .aload_n 0, 1), (48, .getfield 104, 3), (51, .iload_n 1, 1), (52, .iaload, 1), (53, .if_icmp .lt 23, 3)]
theorem dt_M_mayBeBest_1 : dOk cX12_mayBeBest T_M_mayBeBest_1 := by unfold dOk; decide +kernel
def T_M_mayBeBest_2 : DT := [(56, .iload_n 3, 1), (57, .aload_n 0, 1), (58, .getfield 104, 3), (61, .iload_n 1, 1), (62, .iaload, 1), (63, .if_icmp .ne 17, 3), (66, .iload_n 2, 1), (67, .aload_n 0, 1), (68, .getfield 110, 3), (71, .iload_n 1, 1), (72, .iaload, 1), (73, .if_icmp .ge 7, 3), (76, .iconst 1, 1), (77, .goto 4, 3), (80, .iconst 0, 1), (81, .istore 5, 2)]
theorem dt_M_mayBeBest_2 : dOk cX12_mayBeBest T_M_mayBeBest_2 := by unfold dOk; decide +kernel
def T_M_mayBeBest_3 : DT := [(83, .iload 5, 2), (85, .ifCond .ne 4, 3), (88, .return_, 1), (89, .aload_n 0, 1), (90, .getfield 104, 3), (93, .iload_n 1, 1), (94, .iload_n 3, 1), (95, .iastore, 1), (96, .aload_n 0, 1), (97, .getfield 110, 3), (100, .iload_n 1, 1), (101, .iload_n 2, 1), (102, .iastore, 1), (103, .return_, 1)]
theorem dt_M_mayBeBest_3 : dOk cX12_mayBeBest T_M_mayBeBest_3 := by unfold dOk; decide +kernel
section
variable {v : ZV} {l : Launch} {p : Program} {e : Env} {R : Room} {s : State} {m : MethodId} {args : Array Value} {below : List Frame} {meth : Method} {c : Code} {Q : State → Prop} {res : Hp} 
set_option maxRecDepth 20000 in
theorem lkJ_M_mayBeBest_81 (hi : zInj wM v) (xc : XC wM v) (nx : NXM v) (X : Cx wM v p R s m args c 0 0 cX12_mayBeBest 6 RX12 2) (rt : Rt wM v p l e R s m args below meth c 0 0 Q cX12_mayBeBest false none res)  {x1 : Int32} {x2 : Int32} {x3 : Int32} {s0 : Int32} {σ : Hp}   (h : J_M_mayBeBest_81   x1 x2 x3 s0 σ = some res) : Go wM v p l e R s m args below meth c 0 0 Q 6 81 [(0, .ref 0), (1, .int x1), (2, .int x2), (3, .int x3)] [.int s0] σ := by
  unfold J_M_mayBeBest_81 at h
  refine go_istore (lv' := [(5, .int s0), (0, .ref 0), (1, .int x1), (2, .int x2), (3, .int x3)]) X (dk dt_M_mayBeBest_2 15 rfl) (by decide) rfl ?_
  refine go_iload X 0 (dk dt_M_mayBeBest_3 0 rfl) rfl ?_
  refine go_if_ne (tgt := 89) X (dk dt_M_mayBeBest_3 1 rfl) (by decide) h (fun h => ?_) (fun h => ?_)
  · refine go_aload_n X 1 (dk dt_M_mayBeBest_3 3 rfl) rfl rfl ?_
    refine go_getr X fo_X12_104 lM_0 sM_0 fM_0_52 (dk dt_M_mayBeBest_3 4 rfl) ?_
    refine go_iload_n X 2 (dk dt_M_mayBeBest_3 5 rfl) rfl rfl ?_
    refine go_iload_n X 4 (dk dt_M_mayBeBest_3 6 rfl) rfl rfl ?_
    refine go_iast X lM_32 sM_32 (dk dt_M_mayBeBest_3 7 rfl) h (fun h => ?_)
    refine go_aload_n X 1 (dk dt_M_mayBeBest_3 8 rfl) rfl rfl ?_
    refine go_getr X fo_X12_110 lM_0 sM_0 fM_0_54 (dk dt_M_mayBeBest_3 9 rfl) ?_
    refine go_iload_n X 2 (dk dt_M_mayBeBest_3 10 rfl) rfl rfl ?_
    refine go_iload_n X 3 (dk dt_M_mayBeBest_3 11 rfl) rfl rfl ?_
    refine go_iast X lM_34 sM_34 (dk dt_M_mayBeBest_3 12 rfl) h (fun h => ?_)
    exact go_vret rt (dk dt_M_mayBeBest_3 13 rfl) h
  · exact go_vret rt (dk dt_M_mayBeBest_3 2 rfl) h
set_option maxRecDepth 20000 in
theorem lkJ_M_mayBeBest_76 (hi : zInj wM v) (xc : XC wM v) (nx : NXM v) (X : Cx wM v p R s m args c 0 0 cX12_mayBeBest 6 RX12 2) (rt : Rt wM v p l e R s m args below meth c 0 0 Q cX12_mayBeBest false none res)  {x1 : Int32} {x2 : Int32} {x3 : Int32} {σ : Hp}   (h : J_M_mayBeBest_76   x1 x2 x3 σ = some res) : Go wM v p l e R s m args below meth c 0 0 Q 6 76 [(0, .ref 0), (1, .int x1), (2, .int x2), (3, .int x3)] [] σ := by
  unfold J_M_mayBeBest_76 at h
  refine go_iconst X (dk dt_M_mayBeBest_2 12 rfl) ci_1 ?_
  refine go_goto (tgt := 81) X (dk dt_M_mayBeBest_2 13 rfl) (by decide) ?_
  exact lkJ_M_mayBeBest_81 hi xc nx X rt   h
set_option maxRecDepth 20000 in
theorem lkJ_M_mayBeBest_80 (hi : zInj wM v) (xc : XC wM v) (nx : NXM v) (X : Cx wM v p R s m args c 0 0 cX12_mayBeBest 6 RX12 2) (rt : Rt wM v p l e R s m args below meth c 0 0 Q cX12_mayBeBest false none res)  {x1 : Int32} {x2 : Int32} {x3 : Int32} {σ : Hp}   (h : J_M_mayBeBest_80   x1 x2 x3 σ = some res) : Go wM v p l e R s m args below meth c 0 0 Q 6 80 [(0, .ref 0), (1, .int x1), (2, .int x2), (3, .int x3)] [] σ := by
  unfold J_M_mayBeBest_80 at h
  refine go_iconst X (dk dt_M_mayBeBest_2 14 rfl) ci_0 ?_
  exact lkJ_M_mayBeBest_81 hi xc nx X rt   h
set_option maxRecDepth 20000 in
theorem lkJ_M_mayBeBest_56 (hi : zInj wM v) (xc : XC wM v) (nx : NXM v) (X : Cx wM v p R s m args c 0 0 cX12_mayBeBest 6 RX12 2) (rt : Rt wM v p l e R s m args below meth c 0 0 Q cX12_mayBeBest false none res)  {x1 : Int32} {x2 : Int32} {x3 : Int32} {σ : Hp}   (h : J_M_mayBeBest_56   x1 x2 x3 σ = some res) : Go wM v p l e R s m args below meth c 0 0 Q 6 56 [(0, .ref 0), (1, .int x1), (2, .int x2), (3, .int x3)] [] σ := by
  unfold J_M_mayBeBest_56 at h
  refine go_iload_n X 3 (dk dt_M_mayBeBest_2 0 rfl) rfl rfl ?_
  refine go_aload_n X 0 (dk dt_M_mayBeBest_2 1 rfl) rfl rfl ?_
  refine go_getr X fo_X12_104 lM_0 sM_0 fM_0_52 (dk dt_M_mayBeBest_2 2 rfl) ?_
  refine go_iload_n X 1 (dk dt_M_mayBeBest_2 3 rfl) rfl rfl ?_
  refine go_iald X lM_32 sM_32 (dk dt_M_mayBeBest_2 4 rfl) h (fun h => ?_)
  refine go_icmp_ne (tgt := 80) X (dk dt_M_mayBeBest_2 5 rfl) (by decide) h (fun h => ?_) (fun h => ?_)
  · exact lkJ_M_mayBeBest_80 hi xc nx X rt   h
  · refine go_iload_n X 2 (dk dt_M_mayBeBest_2 6 rfl) rfl rfl ?_
    refine go_aload_n X 0 (dk dt_M_mayBeBest_2 7 rfl) rfl rfl ?_
    refine go_getr X fo_X12_110 lM_0 sM_0 fM_0_54 (dk dt_M_mayBeBest_2 8 rfl) ?_
    refine go_iload_n X 1 (dk dt_M_mayBeBest_2 9 rfl) rfl rfl ?_
    refine go_iald X lM_34 sM_34 (dk dt_M_mayBeBest_2 10 rfl) h (fun h => ?_)
    refine go_icmp_ge (tgt := 80) X (dk dt_M_mayBeBest_2 11 rfl) (by decide) h (fun h => ?_) (fun h => ?_)
    · exact lkJ_M_mayBeBest_80 hi xc nx X rt   h
    · exact lkJ_M_mayBeBest_76 hi xc nx X rt   h
set_option maxRecDepth 20000 in
theorem lkJ_M_mayBeBest_16 (hi : zInj wM v) (xc : XC wM v) (nx : NXM v) (X : Cx wM v p R s m args c 0 0 cX12_mayBeBest 6 RX12 2) (rt : Rt wM v p l e R s m args below meth c 0 0 Q cX12_mayBeBest false none res)  {x1 : Int32} {x2 : Int32} {x3 : Int32} {s0 : Int32} {σ : Hp}   (h : J_M_mayBeBest_16   x1 x2 x3 s0 σ = some res) : Go wM v p l e R s m args below meth c 0 0 Q 6 16 [(0, .ref 0), (1, .int x1), (2, .int x2), (3, .int x3)] [.int s0] σ := by
  unfold J_M_mayBeBest_16 at h
  refine go_istore (lv' := [(4, .int s0), (0, .ref 0), (1, .int x1), (2, .int x2), (3, .int x3)]) X (dk dt_M_mayBeBest_0 10 rfl) (by decide) rfl ?_
  refine go_aload_n X 1 (dk dt_M_mayBeBest_0 11 rfl) rfl rfl ?_
  refine go_getr X fo_X12_104 lM_0 sM_0 fM_0_52 (dk dt_M_mayBeBest_0 12 rfl) ?_
  refine go_iload_n X 2 (dk dt_M_mayBeBest_0 13 rfl) rfl rfl ?_
  refine go_iald X lM_32 sM_32 (dk dt_M_mayBeBest_0 14 rfl) h (fun h => ?_)
  refine go_iconst X (dk dt_M_mayBeBest_0 15 rfl) ci_m1 ?_
  refine go_icmp_eq (tgt := 76) X (dk dt_M_mayBeBest_1 0 rfl) (by decide) h (fun h => ?_) (fun h => ?_)
  · refine go_sub [1, 2, 3, 4] rfl ?_
    exact lkJ_M_mayBeBest_76 hi xc nx X rt   h
  · refine go_iload X 0 (dk dt_M_mayBeBest_1 1 rfl) rfl ?_
    refine go_if_eq (tgt := 46) X (dk dt_M_mayBeBest_1 2 rfl) (by decide) h (fun h => ?_) (fun h => ?_)
    · refine go_iload_n X 4 (dk dt_M_mayBeBest_1 10 rfl) rfl rfl ?_
      refine go_aload_n X 1 (dk dt_M_mayBeBest_1 11 rfl) rfl rfl ?_
      refine go_getr X fo_X12_104 lM_0 sM_0 fM_0_52 (dk dt_M_mayBeBest_1 12 rfl) ?_
      refine go_iload_n X 2 (dk dt_M_mayBeBest_1 13 rfl) rfl rfl ?_
      refine go_iald X lM_32 sM_32 (dk dt_M_mayBeBest_1 14 rfl) h (fun h => ?_)
      refine go_icmp_lt (tgt := 76) X (dk dt_M_mayBeBest_1 15 rfl) (by decide) h (fun h => ?_) (fun h => ?_)
      · refine go_sub [1, 2, 3, 4] rfl ?_
        exact lkJ_M_mayBeBest_76 hi xc nx X rt   h
      · refine go_sub [1, 2, 3, 4] rfl ?_
        exact lkJ_M_mayBeBest_56 hi xc nx X rt   h
    · refine go_iload_n X 4 (dk dt_M_mayBeBest_1 3 rfl) rfl rfl ?_
      refine go_aload_n X 1 (dk dt_M_mayBeBest_1 4 rfl) rfl rfl ?_
      refine go_getr X fo_X12_104 lM_0 sM_0 fM_0_52 (dk dt_M_mayBeBest_1 5 rfl) ?_
      refine go_iload_n X 2 (dk dt_M_mayBeBest_1 6 rfl) rfl rfl ?_
      refine go_iald X lM_32 sM_32 (dk dt_M_mayBeBest_1 7 rfl) h (fun h => ?_)
      refine go_icmp_le (tgt := 56) X (dk dt_M_mayBeBest_1 8 rfl) (by decide) h (fun h => ?_) (fun h => ?_)
      · refine go_sub [1, 2, 3, 4] rfl ?_
        exact lkJ_M_mayBeBest_56 hi xc nx X rt   h
      · refine go_goto (tgt := 76) X (dk dt_M_mayBeBest_1 9 rfl) (by decide) ?_
        refine go_sub [1, 2, 3, 4] rfl ?_
        exact lkJ_M_mayBeBest_76 hi xc nx X rt   h
set_option maxRecDepth 20000 in
theorem lkF_M_mayBeBest (hi : zInj wM v) (xc : XC wM v) (nx : NXM v) (X : Cx wM v p R s m args c 0 0 cX12_mayBeBest 6 RX12 2) (rt : Rt wM v p l e R s m args below meth c 0 0 Q cX12_mayBeBest false none res) {a1 : Int32} {a2 : Int32} {a3 : Int32} {σ : Hp}  (h : F_M_mayBeBest  a1 a2 a3 σ = some res) : Go wM v p l e R s m args below meth c 0 0 Q 6 0 [(0, .ref 0), (1, .int a1), (2, .int a2), (3, .int a3)] [] σ := by
  unfold F_M_mayBeBest at h
  refine go_aload_n X 0 (dk dt_M_mayBeBest_0 0 rfl) rfl rfl ?_
  refine go_getr X fo_X12_107 lM_0 sM_0 fM_0_53 (dk dt_M_mayBeBest_0 1 rfl) ?_
  refine go_iload_n X 1 (dk dt_M_mayBeBest_0 2 rfl) rfl rfl ?_
  refine go_iald X lM_33 sM_33 (dk dt_M_mayBeBest_0 3 rfl) h (fun h => ?_)
  refine go_iconst X (dk dt_M_mayBeBest_0 4 rfl) ci_2 ?_
  refine go_iremL X (dk dt_M_mayBeBest_0 5 rfl) (by decide) ?_
  refine go_if_ne (tgt := 15) X (dk dt_M_mayBeBest_0 6 rfl) (by decide) h (fun h => ?_) (fun h => ?_)
  · refine go_iconst X (dk dt_M_mayBeBest_0 9 rfl) ci_0 ?_
    exact lkJ_M_mayBeBest_16 hi xc nx X rt   h
  · refine go_iconst X (dk dt_M_mayBeBest_0 7 rfl) ci_1 ?_
    refine go_goto (tgt := 16) X (dk dt_M_mayBeBest_0 8 rfl) (by decide) ?_
    exact lkJ_M_mayBeBest_16 hi xc nx X rt   h
set_option maxRecDepth 20000 in
theorem ct_M_mayBeBest (hi : zInj wM v) (xc : XC wM v) (nx : NXM v)  {a1 : Int32} {a2 : Int32} {a3 : Int32} {σ : Hp}  {q : Hp} (h : F_M_mayBeBest  a1 a2 a3 σ = some q) : Ct wM v l yX12_mayBeBest cX12_mayBeBest 6 none 2 [.ref 0, .int a1, .int a2, .int a3] σ none q :=
  Ct.intro false (by decide) hi xc (Nat.le_of_ble_eq_true rfl) rfl (fun p e R s m args below meth c Q X rt => lkF_M_mayBeBest hi xc nx X rt  h)
end
def T_M_isHigher_0 : DT := [(0, .iload_n 1, 1), (1, .bipush 13, 2), (3, .idiv, 1), (4, .iload_n 2, 1), (5, .bipush 13, 2), (7, .idiv, 1), (8, .if_icmp .ne 14, 3), (11, .iload_n 1, 1), (12, .iload_n 2, 1), (13, .if_icmp .le 7, 3), (16, .iconst 1, 1), (17, .goto 4, 3), (20, .iconst 0, 1), (21, .ireturn, 1), (22, .iload_n 1, 1), (23, .bipush 13, 2)]
theorem dt_M_isHigher_0 : dOk cX12_isHigher T_M_isHigher_0 := by unfold dOk; decide +kernel
def T_M_isHigher_1 : DT := [(25, .idiv, 1), (26, .aload_n 0, 1), (27, .getfield 414, 3), (30, .if_icmp .ne 7, 3), (33, .iconst 1, 1), (34, .goto 4, 3), (37, .iconst 0, 1), (38, .ireturn, 1)]
theorem dt_M_isHigher_1 : dOk cX12_isHigher T_M_isHigher_1 := by unfold dOk; decide +kernel
section
variable {v : ZV} {l : Launch} {p : Program} {e : Env} {R : Room} {s : State} {m : MethodId} {args : Array Value} {below : List Frame} {meth : Method} {c : Code} {Q : State → Prop} {res : (Int32 × Hp)} 
set_option maxRecDepth 20000 in
theorem lkF_M_isHigher (hi : zInj wM v) (xc : XC wM v) (nx : NXM v) (X : Cx wM v p R s m args c 0 0 cX12_isHigher 3 RX12 2) (rt : Rt wM v p l e R s m args below meth c 0 0 Q cX12_isHigher true (some (.int res.1)) res.2) {a1 : Int32} {a2 : Int32} {σ : Hp}  (h : F_M_isHigher  a1 a2 σ = some res) : Go wM v p l e R s m args below meth c 0 0 Q 3 0 [(0, .ref 0), (1, .int a1), (2, .int a2)] [] σ := by
  unfold F_M_isHigher at h
  refine go_iload_n X 1 (dk dt_M_isHigher_0 0 rfl) rfl rfl ?_
  refine go_bipush X (dk dt_M_isHigher_0 1 rfl) cb_13 ?_
  refine go_idivL X (dk dt_M_isHigher_0 2 rfl) (by decide) ?_
  refine go_iload_n X 2 (dk dt_M_isHigher_0 3 rfl) rfl rfl ?_
  refine go_bipush X (dk dt_M_isHigher_0 4 rfl) cb_13 ?_
  refine go_idivL X (dk dt_M_isHigher_0 5 rfl) (by decide) ?_
  refine go_icmp_ne (tgt := 22) X (dk dt_M_isHigher_0 6 rfl) (by decide) h (fun h => ?_) (fun h => ?_)
  · refine go_iload_n X 1 (dk dt_M_isHigher_0 14 rfl) rfl rfl ?_
    refine go_bipush X (dk dt_M_isHigher_0 15 rfl) cb_13 ?_
    refine go_idivL X (dk dt_M_isHigher_1 0 rfl) (by decide) ?_
    refine go_aload_n X 0 (dk dt_M_isHigher_1 1 rfl) rfl rfl ?_
    refine go_geti X fo_X12_414 lM_0 sM_0 fM_0_57 (dk dt_M_isHigher_1 2 rfl) ?_
    refine go_icmp_ne (tgt := 37) X (dk dt_M_isHigher_1 3 rfl) (by decide) h (fun h => ?_) (fun h => ?_)
    · refine go_iconst X (dk dt_M_isHigher_1 6 rfl) ci_0 ?_
      exact go_iret rt (dk dt_M_isHigher_1 7 rfl) h (by decide)
    · refine go_iconst X (dk dt_M_isHigher_1 4 rfl) ci_1 ?_
      refine go_goto (tgt := 38) X (dk dt_M_isHigher_1 5 rfl) (by decide) ?_
      exact go_iret rt (dk dt_M_isHigher_1 7 rfl) h (by decide)
  · refine go_iload_n X 1 (dk dt_M_isHigher_0 7 rfl) rfl rfl ?_
    refine go_iload_n X 2 (dk dt_M_isHigher_0 8 rfl) rfl rfl ?_
    refine go_icmp_le (tgt := 20) X (dk dt_M_isHigher_0 9 rfl) (by decide) h (fun h => ?_) (fun h => ?_)
    · refine go_iconst X (dk dt_M_isHigher_0 12 rfl) ci_0 ?_
      exact go_iret rt (dk dt_M_isHigher_0 13 rfl) h (by decide)
    · refine go_iconst X (dk dt_M_isHigher_0 10 rfl) ci_1 ?_
      refine go_goto (tgt := 21) X (dk dt_M_isHigher_0 11 rfl) (by decide) ?_
      exact go_iret rt (dk dt_M_isHigher_0 13 rfl) h (by decide)
set_option maxRecDepth 20000 in
theorem ct_M_isHigher (hi : zInj wM v) (xc : XC wM v) (nx : NXM v)  {a1 : Int32} {a2 : Int32} {σ : Hp}  {q : (Int32 × Hp)} (h : F_M_isHigher  a1 a2 σ = some q) : Ct wM v l yX12_isHigher cX12_isHigher 3 (some .boolean) 2 [.ref 0, .int a1, .int a2] σ (some (.int q.1)) q.2 :=
  Ct.intro true (by decide) hi xc (Nat.le_of_ble_eq_true rfl) rfl (fun p e R s m args below meth c Q X rt => lkF_M_isHigher hi xc nx X rt  h)
end
def T_M_takerOf_0 : DT := [(0, .iload_n 1, 1), (1, .iconst 4, 1), (2, .isub, 1), (3, .istore_n 2, 1), (4, .iload_n 2, 1), (5, .istore_n 3, 1), (6, .iload_n 2, 1), (7, .iconst 1, 1), (8, .iadd, 1), (9, .istore 4, 2), (11, .iload 4, 2), (13, .iload_n 1, 1), (14, .if_icmp .ge 32, 3), (17, .aload_n 0, 1), (18, .aload_n 0, 1), (19, .getfield 98, 3)]
theorem dt_M_takerOf_0 : dOk cX12_takerOf T_M_takerOf_0 := by unfold dOk; decide +kernel
def T_M_takerOf_1 : DT := [(22, .iload 4, 2), (24, .iaload, 1), (25, .aload_n 0, 1), (26, .getfield 98, 3), (29, .iload_n 3, 1), (30, .iaload, 1), (31, .invokevirtual 417, 3), (34, .ifCond .eq 6, 3), (37, .iload 4, 2), (39, .istore_n 3, 1), (40, .iinc 4 1, 3), (43, .goto (-32), 3), (46, .aload_n 0, 1), (47, .getfield 107, 3), (50, .iload_n 2, 1), (51, .iaload, 1)]
theorem dt_M_takerOf_1 : dOk cX12_takerOf T_M_takerOf_1 := by unfold dOk; decide +kernel
def T_M_takerOf_2 : DT := [(52, .iload_n 3, 1), (53, .iadd, 1), (54, .iload_n 2, 1), (55, .isub, 1), (56, .iconst 4, 1), (57, .irem, 1), (58, .ireturn, 1)]
theorem dt_M_takerOf_2 : dOk cX12_takerOf T_M_takerOf_2 := by unfold dOk; decide +kernel
section
variable {v : ZV} {l : Launch} {p : Program} {e : Env} {R : Room} {s : State} {m : MethodId} {args : Array Value} {below : List Frame} {meth : Method} {c : Code} {Q : State → Prop} {res : (Int32 × Hp)} 
set_option maxRecDepth 20000 in
theorem lkB_M_takerOf_11 (hi : zInj wM v) (xc : XC wM v) (nx : NXM v) (X : Cx wM v p R s m args c 0 0 cX12_takerOf 5 RX12 4) (rt : Rt wM v p l e R s m args below meth c 0 0 Q cX12_takerOf false (some (.int res.1)) res.2) {k46 : Int32 → Int32 → Hp → Option (Int32 × Hp)} {k11 : Int32 → Int32 → Int32 → Int32 → Hp → Option (Int32 × Hp)} {x1 : Int32} {x2 : Int32} {x3 : Int32} {x4 : Int32} {σ : Hp}  (hk46 : ∀ (x2 : Int32) (x3 : Int32) (σ : Hp),  k46 x2 x3 σ = some res → Go wM v p l e R s m args below meth c 0 0 Q 5 46 [(0, .ref 0), (2, .int x2), (3, .int x3)] [] σ) (hk11 : ∀ (x1 : Int32) (x2 : Int32) (x3 : Int32) (x4 : Int32) (σ : Hp),  k11 x1 x2 x3 x4 σ = some res → Go wM v p l e R s m args below meth c 0 0 Q 5 11 [(0, .ref 0), (1, .int x1), (2, .int x2), (3, .int x3), (4, .int x4)] [] σ) (h : B_M_takerOf_11  k46 k11 x1 x2 x3 x4 σ = some res) : Go wM v p l e R s m args below meth c 0 0 Q 5 11 [(0, .ref 0), (1, .int x1), (2, .int x2), (3, .int x3), (4, .int x4)] [] σ := by
  unfold B_M_takerOf_11 at h
  refine go_iload X 4 (dk dt_M_takerOf_0 10 rfl) rfl ?_
  refine go_iload_n X 1 (dk dt_M_takerOf_0 11 rfl) rfl rfl ?_
  refine go_icmp_ge (tgt := 46) X (dk dt_M_takerOf_0 12 rfl) (by decide) h (fun h => ?_) (fun h => ?_)
  · refine go_sub [0, 2, 3] rfl ?_
    exact hk46 _ _ _  h
  · refine go_aload_n X 0 (dk dt_M_takerOf_0 13 rfl) rfl rfl ?_
    refine go_aload_n X 0 (dk dt_M_takerOf_0 14 rfl) rfl rfl ?_
    refine go_getr X fo_X12_98 lM_0 sM_0 fM_0_50 (dk dt_M_takerOf_0 15 rfl) ?_
    refine go_iload X 4 (dk dt_M_takerOf_1 0 rfl) rfl ?_
    refine go_iald X lM_30 sM_30 (dk dt_M_takerOf_1 1 rfl) h (fun h => ?_)
    refine go_aload_n X 0 (dk dt_M_takerOf_1 2 rfl) rfl rfl ?_
    refine go_getr X fo_X12_98 lM_0 sM_0 fM_0_50 (dk dt_M_takerOf_1 3 rfl) ?_
    refine go_iload_n X 3 (dk dt_M_takerOf_1 4 rfl) rfl rfl ?_
    refine go_iald X lM_30 sM_30 (dk dt_M_takerOf_1 5 rfl) h (fun h => ?_)
    refine go_Vi (As := [.int (σ 30 (Int32.toNatClampNeg x4)), .int (σ 30 (Int32.toNatClampNeg x3))]) (rest := []) X vo_X12_417 (fun q hq => ct_M_isHigher hi xc nx  hq) (by decide) rfl lM_0 sM_0 rfl rfl (Nat.le_of_ble_eq_true rfl) (dk dt_M_takerOf_1 6 rfl) h (fun q31 h => ?_)
    refine go_if_eq (tgt := 40) X (dk dt_M_takerOf_1 7 rfl) (by decide) h (fun h => ?_) (fun h => ?_)
    · refine go_iinc (lv' := [(4, .int (x4 + (1 : Int32))), (0, .ref 0), (1, .int x1), (2, .int x2), (3, .int x3)]) X 4 (dk dt_M_takerOf_1 10 rfl) rfl ci_1 (by decide) rfl ?_
      refine go_goto (tgt := 11) X (dk dt_M_takerOf_1 11 rfl) (by decide) ?_
      refine go_sub [1, 2, 3, 4, 0] rfl ?_
      exact hk11 _ _ _ _ _  h
    · refine go_iload X 4 (dk dt_M_takerOf_1 8 rfl) rfl ?_
      refine go_istore_n (lv' := [(3, .int x4), (0, .ref 0), (1, .int x1), (2, .int x2), (4, .int x4)]) X (dk dt_M_takerOf_1 9 rfl) rfl (by decide) rfl ?_
      refine go_iinc (lv' := [(4, .int (x4 + (1 : Int32))), (3, .int x4), (0, .ref 0), (1, .int x1), (2, .int x2)]) X 4 (dk dt_M_takerOf_1 10 rfl) rfl ci_1 (by decide) rfl ?_
      refine go_goto (tgt := 11) X (dk dt_M_takerOf_1 11 rfl) (by decide) ?_
      refine go_sub [2, 3, 4, 1, 0] rfl ?_
      exact hk11 _ _ _ _ _  h
set_option maxRecDepth 20000 in
theorem lkL_M_takerOf_11 (hi : zInj wM v) (xc : XC wM v) (nx : NXM v) (X : Cx wM v p R s m args c 0 0 cX12_takerOf 5 RX12 4) (rt : Rt wM v p l e R s m args below meth c 0 0 Q cX12_takerOf false (some (.int res.1)) res.2) {k46 : Int32 → Int32 → Hp → Option (Int32 × Hp)} (hk46 : ∀ (x2 : Int32) (x3 : Int32) (σ : Hp),  k46 x2 x3 σ = some res → Go wM v p l e R s m args below meth c 0 0 Q 5 46 [(0, .ref 0), (2, .int x2), (3, .int x3)] [] σ) (n : Nat) : ∀ {x1 : Int32} {x2 : Int32} {x3 : Int32} {x4 : Int32} {σ : Hp},  L_M_takerOf_11  k46 n x1 x2 x3 x4 σ = some res → Go wM v p l e R s m args below meth c 0 0 Q 5 11 [(0, .ref 0), (1, .int x1), (2, .int x2), (3, .int x3), (4, .int x4)] [] σ := by
  induction n with
  | zero => intro x1 x2 x3 x4 σ  h; cases h
  | succ n ih =>
    intro x1 x2 x3 x4 σ  h
    exact lkB_M_takerOf_11 hi xc nx X rt  hk46 (fun _ _ _ _ _  hh => ih  hh) h
set_option maxRecDepth 20000 in
theorem lkJ_M_takerOf_46 (hi : zInj wM v) (xc : XC wM v) (nx : NXM v) (X : Cx wM v p R s m args c 0 0 cX12_takerOf 5 RX12 4) (rt : Rt wM v p l e R s m args below meth c 0 0 Q cX12_takerOf false (some (.int res.1)) res.2)  {x2 : Int32} {x3 : Int32} {σ : Hp}   (h : J_M_takerOf_46   x2 x3 σ = some res) : Go wM v p l e R s m args below meth c 0 0 Q 5 46 [(0, .ref 0), (2, .int x2), (3, .int x3)] [] σ := by
  unfold J_M_takerOf_46 at h
  refine go_aload_n X 0 (dk dt_M_takerOf_1 12 rfl) rfl rfl ?_
  refine go_getr X fo_X12_107 lM_0 sM_0 fM_0_53 (dk dt_M_takerOf_1 13 rfl) ?_
  refine go_iload_n X 1 (dk dt_M_takerOf_1 14 rfl) rfl rfl ?_
  refine go_iald X lM_33 sM_33 (dk dt_M_takerOf_1 15 rfl) h (fun h => ?_)
  refine go_iload_n X 2 (dk dt_M_takerOf_2 0 rfl) rfl rfl ?_
  refine go_iadd X (dk dt_M_takerOf_2 1 rfl) ?_
  refine go_iload_n X 1 (dk dt_M_takerOf_2 2 rfl) rfl rfl ?_
  refine go_isub X (dk dt_M_takerOf_2 3 rfl) ?_
  refine go_iconst X (dk dt_M_takerOf_2 4 rfl) ci_4 ?_
  refine go_iremL X (dk dt_M_takerOf_2 5 rfl) (by decide) ?_
  exact go_iret rt (dk dt_M_takerOf_2 6 rfl) h (fun hh => nomatch hh)
set_option maxRecDepth 20000 in
theorem lkF_M_takerOf (hi : zInj wM v) (xc : XC wM v) (nx : NXM v) (X : Cx wM v p R s m args c 0 0 cX12_takerOf 5 RX12 4) (rt : Rt wM v p l e R s m args below meth c 0 0 Q cX12_takerOf false (some (.int res.1)) res.2) {a1 : Int32} {σ : Hp}  (h : F_M_takerOf  a1 σ = some res) : Go wM v p l e R s m args below meth c 0 0 Q 5 0 [(0, .ref 0), (1, .int a1)] [] σ := by
  unfold F_M_takerOf at h
  refine go_iload_n X 1 (dk dt_M_takerOf_0 0 rfl) rfl rfl ?_
  refine go_iconst X (dk dt_M_takerOf_0 1 rfl) ci_4 ?_
  refine go_isub X (dk dt_M_takerOf_0 2 rfl) ?_
  refine go_istore_n (lv' := [(2, .int (a1 - (4 : Int32))), (0, .ref 0), (1, .int a1)]) X (dk dt_M_takerOf_0 3 rfl) rfl (by decide) rfl ?_
  refine go_iload_n X 0 (dk dt_M_takerOf_0 4 rfl) rfl rfl ?_
  refine go_istore_n (lv' := [(3, .int (a1 - (4 : Int32))), (2, .int (a1 - (4 : Int32))), (0, .ref 0), (1, .int a1)]) X (dk dt_M_takerOf_0 5 rfl) rfl (by decide) rfl ?_
  refine go_iload_n X 1 (dk dt_M_takerOf_0 6 rfl) rfl rfl ?_
  refine go_iconst X (dk dt_M_takerOf_0 7 rfl) ci_1 ?_
  refine go_iadd X (dk dt_M_takerOf_0 8 rfl) ?_
  refine go_istore (lv' := [(4, .int ((a1 - (4 : Int32)) + (1 : Int32))), (3, .int (a1 - (4 : Int32))), (2, .int (a1 - (4 : Int32))), (0, .ref 0), (1, .int a1)]) X (dk dt_M_takerOf_0 9 rfl) (by decide) rfl ?_
  refine go_sub [3, 4, 2, 1, 0] rfl ?_
  exact lkL_M_takerOf_11 hi xc nx X rt (fun _ _ _  hh => lkJ_M_takerOf_46 hi xc nx X rt   hh) FU  h
set_option maxRecDepth 20000 in
theorem ct_M_takerOf (hi : zInj wM v) (xc : XC wM v) (nx : NXM v)  {a1 : Int32} {σ : Hp}  {q : (Int32 × Hp)} (h : F_M_takerOf  a1 σ = some q) : Ct wM v l yX12_takerOf cX12_takerOf 5 (some .int) 4 [.ref 0, .int a1] σ (some (.int q.1)) q.2 :=
  Ct.intro false (by decide) hi xc (Nat.le_of_ble_eq_true rfl) rfl (fun p e R s m args below meth c Q X rt => lkF_M_takerOf hi xc nx X rt  h)
end
def T_M_playsOut_0 : DT := [(0, .iconst 4, 1), (1, .aload_n 0, 1), (2, .getfield 399, 3), (5, .imul, 1), (6, .istore_n 2, 1), (7, .iconst 0, 1), (8, .istore_n 3, 1), (9, .aload_n 0, 1), (10, .iconst 0, 1), (11, .putfield 405, 3), (14, .aload_n 0, 1), (15, .iconst 0, 1), (16, .iload_n 1, 1), (17, .iconst 0, 1), (18, .invokevirtual 420, 3), (21, .iload_n 3, 1)]
theorem dt_M_playsOut_0 : dOk cX12_playsOut T_M_playsOut_0 := by unfold dOk; decide +kernel
def T_M_playsOut_1 : DT := [(22, .ifCond .lt 278, 3), (25, .aload_n 0, 1), (26, .getfield 107, 3), (29, .iload_n 3, 1), (30, .iaload, 1), (31, .istore 4, 2), (33, .aload_n 0, 1), (34, .getfield 101, 3), (37, .iload_n 3, 1), (38, .iaload, 1), (39, .ifCond .lt 30, 3), (42, .aload_n 0, 1), (43, .aload_n 0, 1), (44, .getfield 405, 3), (47, .iconst 1, 1), (48, .aload_n 0, 1)]
theorem dt_M_playsOut_1 : dOk cX12_playsOut T_M_playsOut_1 := by unfold dOk; decide +kernel
def T_M_playsOut_2 : DT := [(49, .getfield 399, 3), (52, .iload 4, 2), (54, .imul, 1), (55, .aload_n 0, 1), (56, .getfield 101, 3), (59, .iload_n 3, 1), (60, .iaload, 1), (61, .iadd, 1), (62, .ishl, 1), (63, .iconst (-1), 1), (64, .ixor, 1), (65, .iand, 1), (66, .putfield 405, 3), (69, .aload_n 0, 1), (70, .getfield 101, 3), (73, .iload_n 3, 1)]
theorem dt_M_playsOut_2 : dOk cX12_playsOut T_M_playsOut_2 := by unfold dOk; decide +kernel
def T_M_playsOut_3 : DT := [(74, .iaload, 1), (75, .iconst 1, 1), (76, .iadd, 1), (77, .istore 5, 2), (79, .iload 5, 2), (81, .aload_n 0, 1), (82, .getfield 399, 3), (85, .if_icmp .ge 24, 3), (88, .aload_n 0, 1), (89, .iload_n 3, 1), (90, .iload 4, 2), (92, .iload 5, 2), (94, .invokevirtual 424, 3), (97, .ifCond .ne 12, 3), (100, .iload 5, 2), (102, .iconst 1, 1)]
theorem dt_M_playsOut_3 : dOk cX12_playsOut T_M_playsOut_3 := by unfold dOk; decide +kernel
def T_M_playsOut_4 : DT := [(103, .iadd, 1), (104, .istore 5, 2), (106, .goto (-27), 3), (109, .aload_n 0, 1), (110, .getfield 101, 3), (113, .iload_n 3, 1), (114, .iload 5, 2), (116, .iastore, 1), (117, .iload 5, 2), (119, .aload_n 0, 1), (120, .getfield 399, 3), (123, .if_icmp .ne 40, 3), (126, .aload_n 0, 1), (127, .getfield 101, 3), (130, .iload_n 3, 1), (131, .iconst (-1), 1)]
theorem dt_M_playsOut_4 : dOk cX12_playsOut T_M_playsOut_4 := by unfold dOk; decide +kernel
def T_M_playsOut_5 : DT := [(132, .iastore, 1), (133, .iload_n 3, 1), (134, .iconst 1, 1), (135, .isub, 1), (136, .istore_n 3, 1), (137, .iload_n 3, 1), (138, .ifCond .lt (-117), 3), (141, .aload_n 0, 1), (142, .iload_n 3, 1), (143, .aload_n 0, 1), (144, .getfield 98, 3), (147, .iload_n 3, 1), (148, .iaload, 1), (149, .aload_n 0, 1), (150, .getfield 104, 3), (153, .iload_n 3, 1)]
theorem dt_M_playsOut_5 : dOk cX12_playsOut T_M_playsOut_5 := by unfold dOk; decide +kernel
def T_M_playsOut_6 : DT := [(154, .iconst 1, 1), (155, .iadd, 1), (156, .iaload, 1), (157, .invokevirtual 427, 3), (160, .goto (-139), 3), (163, .aload_n 0, 1), (164, .getfield 98, 3), (167, .iload_n 3, 1), (168, .aload_n 0, 1), (169, .iload 4, 2), (171, .iload 5, 2), (173, .invokevirtual 411, 3), (176, .iastore, 1), (177, .aload_n 0, 1), (178, .aload_n 0, 1), (179, .getfield 405, 3)]
theorem dt_M_playsOut_6 : dOk cX12_playsOut T_M_playsOut_6 := by unfold dOk; decide +kernel
def T_M_playsOut_7 : DT := [(182, .iconst 1, 1), (183, .aload_n 0, 1), (184, .getfield 399, 3), (187, .iload 4, 2), (189, .imul, 1), (190, .iload 5, 2), (192, .iadd, 1), (193, .ishl, 1), (194, .ior, 1), (195, .putfield 405, 3), (198, .iload_n 3, 1), (199, .iconst 4, 1), (200, .irem, 1), (201, .iconst 3, 1), (202, .if_icmp .ne 7, 3), (205, .iconst 1, 1)]
theorem dt_M_playsOut_7 : dOk cX12_playsOut T_M_playsOut_7 := by unfold dOk; decide +kernel
def T_M_playsOut_8 : DT := [(206, .goto 4, 3), (209, .iconst 0, 1), (210, .istore 6, 2), (212, .iload 6, 2), (214, .ifCond .eq 13, 3), (217, .aload_n 0, 1), (218, .iload_n 3, 1), (219, .iconst 1, 1), (220, .iadd, 1), (221, .invokevirtual 430, 3), (224, .goto 9, 3), (227, .iload 4, 2), (229, .iconst 1, 1), (230, .iadd, 1), (231, .iconst 4, 1), (232, .irem, 1)]
theorem dt_M_playsOut_8 : dOk cX12_playsOut T_M_playsOut_8 := by unfold dOk; decide +kernel
def T_M_playsOut_9 : DT := [(233, .istore 7, 2), (235, .aload_n 0, 1), (236, .getfield 113, 3), (239, .iload_n 3, 1), (240, .iaload, 1), (241, .iload 6, 2), (243, .ifCond .eq 14, 3), (246, .iload 7, 2), (248, .iconst 2, 1), (249, .irem, 1), (250, .ifCond .ne 7, 3), (253, .iconst 1, 1), (254, .goto 4, 3), (257, .iconst 0, 1), (258, .iadd, 1), (259, .istore 8, 2)]
theorem dt_M_playsOut_9 : dOk cX12_playsOut T_M_playsOut_9 := by unfold dOk; decide +kernel
def T_M_playsOut_10 : DT := [(261, .iload_n 3, 1), (262, .iconst 1, 1), (263, .iadd, 1), (264, .iload_n 2, 1), (265, .if_icmp .ne 19, 3), (268, .aload_n 0, 1), (269, .iload_n 3, 1), (270, .aload_n 0, 1), (271, .getfield 98, 3), (274, .iload_n 3, 1), (275, .iaload, 1), (276, .iload 8, 2), (278, .invokevirtual 427, 3), (281, .goto (-260), 3), (284, .iload_n 3, 1), (285, .iconst 1, 1)]
theorem dt_M_playsOut_10 : dOk cX12_playsOut T_M_playsOut_10 := by unfold dOk; decide +kernel
def T_M_playsOut_11 : DT := [(286, .iadd, 1), (287, .istore_n 3, 1), (288, .aload_n 0, 1), (289, .iload_n 3, 1), (290, .iload 7, 2), (292, .iload 8, 2), (294, .invokevirtual 420, 3), (297, .goto (-276), 3), (300, .return_, 1)]
theorem dt_M_playsOut_11 : dOk cX12_playsOut T_M_playsOut_11 := by unfold dOk; decide +kernel
section
variable {v : ZV} {l : Launch} {p : Program} {e : Env} {R : Room} {s : State} {m : MethodId} {args : Array Value} {below : List Frame} {meth : Method} {c : Code} {Q : State → Prop} {res : Hp} 
set_option maxRecDepth 20000 in
theorem lkB_M_playsOut_79 (hi : zInj wM v) (xc : XC wM v) (nx : NXM v) (X : Cx wM v p R s m args c 0 0 cX12_playsOut 9 RX12 8) (rt : Rt wM v p l e R s m args below meth c 0 0 Q cX12_playsOut false none res) {k109 : Int32 → Int32 → Int32 → Int32 → Hp → Option Hp} {k79 : Int32 → Int32 → Int32 → Int32 → Hp → Option Hp} {x2 : Int32} {x3 : Int32} {x4 : Int32} {x5 : Int32} {σ : Hp}  (hk109 : ∀ (x2 : Int32) (x3 : Int32) (x4 : Int32) (x5 : Int32) (σ : Hp),  k109 x2 x3 x4 x5 σ = some res → Go wM v p l e R s m args below meth c 0 0 Q 9 109 [(0, .ref 0), (2, .int x2), (3, .int x3), (4, .int x4), (5, .int x5)] [] σ) (hk79 : ∀ (x2 : Int32) (x3 : Int32) (x4 : Int32) (x5 : Int32) (σ : Hp),  k79 x2 x3 x4 x5 σ = some res → Go wM v p l e R s m args below meth c 0 0 Q 9 79 [(0, .ref 0), (2, .int x2), (3, .int x3), (4, .int x4), (5, .int x5)] [] σ) (h : B_M_playsOut_79  k109 k79 x2 x3 x4 x5 σ = some res) : Go wM v p l e R s m args below meth c 0 0 Q 9 79 [(0, .ref 0), (2, .int x2), (3, .int x3), (4, .int x4), (5, .int x5)] [] σ := by
  unfold B_M_playsOut_79 at h
  refine go_iload X 4 (dk dt_M_playsOut_3 4 rfl) rfl ?_
  refine go_aload_n X 0 (dk dt_M_playsOut_3 5 rfl) rfl rfl ?_
  refine go_geti X fo_X12_399 lM_0 sM_0 fM_0_56 (dk dt_M_playsOut_3 6 rfl) ?_
  refine go_icmp_ge (tgt := 109) X (dk dt_M_playsOut_3 7 rfl) (by decide) h (fun h => ?_) (fun h => ?_)
  · exact hk109 _ _ _ _ _  h
  · refine go_aload_n X 0 (dk dt_M_playsOut_3 8 rfl) rfl rfl ?_
    refine go_iload_n X 2 (dk dt_M_playsOut_3 9 rfl) rfl rfl ?_
    refine go_iload X 3 (dk dt_M_playsOut_3 10 rfl) rfl ?_
    refine go_iload X 4 (dk dt_M_playsOut_3 11 rfl) rfl ?_
    refine go_Vi (As := [.int x3, .int x4, .int x5]) (rest := []) X vo_X12_424 (fun q hq => ct_M_mayPlay hi xc nx  hq) (by decide) rfl lM_0 sM_0 rfl rfl (Nat.le_of_ble_eq_true rfl) (dk dt_M_playsOut_3 12 rfl) h (fun q94 h => ?_)
    refine go_if_ne (tgt := 109) X (dk dt_M_playsOut_3 13 rfl) (by decide) h (fun h => ?_) (fun h => ?_)
    · exact hk109 _ _ _ _ _  h
    · refine go_iload X 4 (dk dt_M_playsOut_3 14 rfl) rfl ?_
      refine go_iconst X (dk dt_M_playsOut_3 15 rfl) ci_1 ?_
      refine go_iadd X (dk dt_M_playsOut_4 0 rfl) ?_
      refine go_istore (lv' := [(5, .int (x5 + (1 : Int32))), (0, .ref 0), (2, .int x2), (3, .int x3), (4, .int x4)]) X (dk dt_M_playsOut_4 1 rfl) (by decide) rfl ?_
      refine go_goto (tgt := 79) X (dk dt_M_playsOut_4 2 rfl) (by decide) ?_
      refine go_sub [1, 2, 3, 4, 0] rfl ?_
      exact hk79 _ _ _ _ _  h
set_option maxRecDepth 20000 in
theorem lkL_M_playsOut_79 (hi : zInj wM v) (xc : XC wM v) (nx : NXM v) (X : Cx wM v p R s m args c 0 0 cX12_playsOut 9 RX12 8) (rt : Rt wM v p l e R s m args below meth c 0 0 Q cX12_playsOut false none res) {k109 : Int32 → Int32 → Int32 → Int32 → Hp → Option Hp} (hk109 : ∀ (x2 : Int32) (x3 : Int32) (x4 : Int32) (x5 : Int32) (σ : Hp),  k109 x2 x3 x4 x5 σ = some res → Go wM v p l e R s m args below meth c 0 0 Q 9 109 [(0, .ref 0), (2, .int x2), (3, .int x3), (4, .int x4), (5, .int x5)] [] σ) (n : Nat) : ∀ {x2 : Int32} {x3 : Int32} {x4 : Int32} {x5 : Int32} {σ : Hp},  L_M_playsOut_79  k109 n x2 x3 x4 x5 σ = some res → Go wM v p l e R s m args below meth c 0 0 Q 9 79 [(0, .ref 0), (2, .int x2), (3, .int x3), (4, .int x4), (5, .int x5)] [] σ := by
  induction n with
  | zero => intro x2 x3 x4 x5 σ  h; cases h
  | succ n ih =>
    intro x2 x3 x4 x5 σ  h
    exact lkB_M_playsOut_79 hi xc nx X rt  hk109 (fun _ _ _ _ _  hh => ih  hh) h
set_option maxRecDepth 20000 in
theorem lkJ_M_playsOut_258 (hi : zInj wM v) (xc : XC wM v) (nx : NXM v) (X : Cx wM v p R s m args c 0 0 cX12_playsOut 9 RX12 8) (rt : Rt wM v p l e R s m args below meth c 0 0 Q cX12_playsOut false none res) {k21 : Int32 → Int32 → Hp → Option Hp} {x2 : Int32} {x3 : Int32} {x7 : Int32} {s0 : Int32} {s1 : Int32} {σ : Hp}  (hk21 : ∀ (x2 : Int32) (x3 : Int32) (σ : Hp),  k21 x2 x3 σ = some res → Go wM v p l e R s m args below meth c 0 0 Q 9 21 [(0, .ref 0), (2, .int x2), (3, .int x3)] [] σ) (h : J_M_playsOut_258  k21 x2 x3 x7 s0 s1 σ = some res) : Go wM v p l e R s m args below meth c 0 0 Q 9 258 [(0, .ref 0), (2, .int x2), (3, .int x3), (7, .int x7)] [.int s0, .int s1] σ := by
  unfold J_M_playsOut_258 at h
  refine go_iadd X (dk dt_M_playsOut_9 14 rfl) ?_
  refine go_istore (lv' := [(8, .int (s1 + s0)), (0, .ref 0), (2, .int x2), (3, .int x3), (7, .int x7)]) X (dk dt_M_playsOut_9 15 rfl) (by decide) rfl ?_
  refine go_iload_n X 3 (dk dt_M_playsOut_10 0 rfl) rfl rfl ?_
  refine go_iconst X (dk dt_M_playsOut_10 1 rfl) ci_1 ?_
  refine go_iadd X (dk dt_M_playsOut_10 2 rfl) ?_
  refine go_iload_n X 2 (dk dt_M_playsOut_10 3 rfl) rfl rfl ?_
  refine go_icmp_ne (tgt := 284) X (dk dt_M_playsOut_10 4 rfl) (by decide) h (fun h => ?_) (fun h => ?_)
  · refine go_iload_n X 3 (dk dt_M_playsOut_10 14 rfl) rfl rfl ?_
    refine go_iconst X (dk dt_M_playsOut_10 15 rfl) ci_1 ?_
    refine go_iadd X (dk dt_M_playsOut_11 0 rfl) ?_
    refine go_istore_n (lv' := [(3, .int (x3 + (1 : Int32))), (8, .int (s1 + s0)), (0, .ref 0), (2, .int x2), (7, .int x7)]) X (dk dt_M_playsOut_11 1 rfl) rfl (by decide) rfl ?_
    refine go_aload_n X 2 (dk dt_M_playsOut_11 2 rfl) rfl rfl ?_
    refine go_iload_n X 0 (dk dt_M_playsOut_11 3 rfl) rfl rfl ?_
    refine go_iload X 4 (dk dt_M_playsOut_11 4 rfl) rfl ?_
    refine go_iload X 1 (dk dt_M_playsOut_11 5 rfl) rfl ?_
    refine go_Vv (As := [.int (x3 + (1 : Int32)), .int x7, .int (s1 + s0)]) (rest := []) X vo_X12_420 (fun q hq => ct_M_begins hi xc nx  hq) (by decide) rfl lM_0 sM_0 rfl rfl (Nat.le_of_ble_eq_true rfl) (dk dt_M_playsOut_11 6 rfl) h (fun q294 h => ?_)
    refine go_goto (tgt := 21) X (dk dt_M_playsOut_11 7 rfl) (by decide) ?_
    refine go_sub [2, 3, 0] rfl ?_
    exact hk21 _ _ _  h
  · refine go_aload_n X 1 (dk dt_M_playsOut_10 5 rfl) rfl rfl ?_
    refine go_iload_n X 3 (dk dt_M_playsOut_10 6 rfl) rfl rfl ?_
    refine go_aload_n X 1 (dk dt_M_playsOut_10 7 rfl) rfl rfl ?_
    refine go_getr X fo_X12_98 lM_0 sM_0 fM_0_50 (dk dt_M_playsOut_10 8 rfl) ?_
    refine go_iload_n X 3 (dk dt_M_playsOut_10 9 rfl) rfl rfl ?_
    refine go_iald X lM_30 sM_30 (dk dt_M_playsOut_10 10 rfl) h (fun h => ?_)
    refine go_iload X 0 (dk dt_M_playsOut_10 11 rfl) rfl ?_
    refine go_Vv (As := [.int x3, .int (σ 30 (Int32.toNatClampNeg x3)), .int (s1 + s0)]) (rest := []) X vo_X12_427 (fun q hq => ct_M_mayBeBest hi xc nx  hq) (by decide) rfl lM_0 sM_0 rfl rfl (Nat.le_of_ble_eq_true rfl) (dk dt_M_playsOut_10 12 rfl) h (fun q278 h => ?_)
    refine go_goto (tgt := 21) X (dk dt_M_playsOut_10 13 rfl) (by decide) ?_
    refine go_sub [1, 2, 3] rfl ?_
    exact hk21 _ _ _  h
set_option maxRecDepth 20000 in
theorem lkJ_M_playsOut_257 (hi : zInj wM v) (xc : XC wM v) (nx : NXM v) (X : Cx wM v p R s m args c 0 0 cX12_playsOut 9 RX12 8) (rt : Rt wM v p l e R s m args below meth c 0 0 Q cX12_playsOut false none res) {k21 : Int32 → Int32 → Hp → Option Hp} {x2 : Int32} {x3 : Int32} {x7 : Int32} {s0 : Int32} {σ : Hp}  (hk21 : ∀ (x2 : Int32) (x3 : Int32) (σ : Hp),  k21 x2 x3 σ = some res → Go wM v p l e R s m args below meth c 0 0 Q 9 21 [(0, .ref 0), (2, .int x2), (3, .int x3)] [] σ) (h : J_M_playsOut_257  k21 x2 x3 x7 s0 σ = some res) : Go wM v p l e R s m args below meth c 0 0 Q 9 257 [(0, .ref 0), (2, .int x2), (3, .int x3), (7, .int x7)] [.int s0] σ := by
  unfold J_M_playsOut_257 at h
  refine go_iconst X (dk dt_M_playsOut_9 13 rfl) ci_0 ?_
  exact lkJ_M_playsOut_258 hi xc nx X rt  hk21 h
set_option maxRecDepth 20000 in
theorem lkJ_M_playsOut_233 (hi : zInj wM v) (xc : XC wM v) (nx : NXM v) (X : Cx wM v p R s m args c 0 0 cX12_playsOut 9 RX12 8) (rt : Rt wM v p l e R s m args below meth c 0 0 Q cX12_playsOut false none res) {k21 : Int32 → Int32 → Hp → Option Hp} {x2 : Int32} {x3 : Int32} {x6 : Int32} {s0 : Int32} {σ : Hp}  (hk21 : ∀ (x2 : Int32) (x3 : Int32) (σ : Hp),  k21 x2 x3 σ = some res → Go wM v p l e R s m args below meth c 0 0 Q 9 21 [(0, .ref 0), (2, .int x2), (3, .int x3)] [] σ) (h : J_M_playsOut_233  k21 x2 x3 x6 s0 σ = some res) : Go wM v p l e R s m args below meth c 0 0 Q 9 233 [(0, .ref 0), (2, .int x2), (3, .int x3), (6, .int x6)] [.int s0] σ := by
  unfold J_M_playsOut_233 at h
  refine go_istore (lv' := [(7, .int s0), (0, .ref 0), (2, .int x2), (3, .int x3), (6, .int x6)]) X (dk dt_M_playsOut_9 0 rfl) (by decide) rfl ?_
  refine go_aload_n X 1 (dk dt_M_playsOut_9 1 rfl) rfl rfl ?_
  refine go_getr X fo_X12_113 lM_0 sM_0 fM_0_55 (dk dt_M_playsOut_9 2 rfl) ?_
  refine go_iload_n X 3 (dk dt_M_playsOut_9 3 rfl) rfl rfl ?_
  refine go_iald X lM_35 sM_35 (dk dt_M_playsOut_9 4 rfl) h (fun h => ?_)
  refine go_iload X 4 (dk dt_M_playsOut_9 5 rfl) rfl ?_
  refine go_if_eq (tgt := 257) X (dk dt_M_playsOut_9 6 rfl) (by decide) h (fun h => ?_) (fun h => ?_)
  · refine go_sub [1, 2, 3, 0] rfl ?_
    exact lkJ_M_playsOut_257 hi xc nx X rt  hk21 h
  · refine go_iload X 0 (dk dt_M_playsOut_9 7 rfl) rfl ?_
    refine go_iconst X (dk dt_M_playsOut_9 8 rfl) ci_2 ?_
    refine go_iremL X (dk dt_M_playsOut_9 9 rfl) (by decide) ?_
    refine go_if_ne (tgt := 257) X (dk dt_M_playsOut_9 10 rfl) (by decide) h (fun h => ?_) (fun h => ?_)
    · refine go_sub [1, 2, 3, 0] rfl ?_
      exact lkJ_M_playsOut_257 hi xc nx X rt  hk21 h
    · refine go_iconst X (dk dt_M_playsOut_9 11 rfl) ci_1 ?_
      refine go_goto (tgt := 258) X (dk dt_M_playsOut_9 12 rfl) (by decide) ?_
      refine go_sub [1, 2, 3, 0] rfl ?_
      exact lkJ_M_playsOut_258 hi xc nx X rt  hk21 h
set_option maxRecDepth 20000 in
theorem lkJ_M_playsOut_210 (hi : zInj wM v) (xc : XC wM v) (nx : NXM v) (X : Cx wM v p R s m args c 0 0 cX12_playsOut 9 RX12 8) (rt : Rt wM v p l e R s m args below meth c 0 0 Q cX12_playsOut false none res) {k21 : Int32 → Int32 → Hp → Option Hp} {x2 : Int32} {x3 : Int32} {x4 : Int32} {s0 : Int32} {σ : Hp}  (hk21 : ∀ (x2 : Int32) (x3 : Int32) (σ : Hp),  k21 x2 x3 σ = some res → Go wM v p l e R s m args below meth c 0 0 Q 9 21 [(0, .ref 0), (2, .int x2), (3, .int x3)] [] σ) (h : J_M_playsOut_210  k21 x2 x3 x4 s0 σ = some res) : Go wM v p l e R s m args below meth c 0 0 Q 9 210 [(0, .ref 0), (2, .int x2), (3, .int x3), (4, .int x4)] [.int s0] σ := by
  unfold J_M_playsOut_210 at h
  refine go_istore (lv' := [(6, .int s0), (0, .ref 0), (2, .int x2), (3, .int x3), (4, .int x4)]) X (dk dt_M_playsOut_8 2 rfl) (by decide) rfl ?_
  refine go_iload X 0 (dk dt_M_playsOut_8 3 rfl) rfl ?_
  refine go_if_eq (tgt := 227) X (dk dt_M_playsOut_8 4 rfl) (by decide) h (fun h => ?_) (fun h => ?_)
  · refine go_iload X 4 (dk dt_M_playsOut_8 11 rfl) rfl ?_
    refine go_iconst X (dk dt_M_playsOut_8 12 rfl) ci_1 ?_
    refine go_iadd X (dk dt_M_playsOut_8 13 rfl) ?_
    refine go_iconst X (dk dt_M_playsOut_8 14 rfl) ci_4 ?_
    refine go_iremL X (dk dt_M_playsOut_8 15 rfl) (by decide) ?_
    refine go_sub [1, 2, 3, 0] rfl ?_
    exact lkJ_M_playsOut_233 hi xc nx X rt  hk21 h
  · refine go_aload_n X 1 (dk dt_M_playsOut_8 5 rfl) rfl rfl ?_
    refine go_iload_n X 3 (dk dt_M_playsOut_8 6 rfl) rfl rfl ?_
    refine go_iconst X (dk dt_M_playsOut_8 7 rfl) ci_1 ?_
    refine go_iadd X (dk dt_M_playsOut_8 8 rfl) ?_
    refine go_Vi (As := [.int (x3 + (1 : Int32))]) (rest := []) X vo_X12_430 (fun q hq => ct_M_takerOf hi xc nx  hq) (by decide) rfl lM_0 sM_0 rfl rfl (Nat.le_of_ble_eq_true rfl) (dk dt_M_playsOut_8 9 rfl) h (fun q221 h => ?_)
    refine go_goto (tgt := 233) X (dk dt_M_playsOut_8 10 rfl) (by decide) ?_
    refine go_sub [1, 2, 3, 0] rfl ?_
    exact lkJ_M_playsOut_233 hi xc nx X rt  hk21 h
set_option maxRecDepth 20000 in
theorem lkJ_M_playsOut_109 (hi : zInj wM v) (xc : XC wM v) (nx : NXM v) (X : Cx wM v p R s m args c 0 0 cX12_playsOut 9 RX12 8) (rt : Rt wM v p l e R s m args below meth c 0 0 Q cX12_playsOut false none res) {k21 : Int32 → Int32 → Hp → Option Hp} {x2 : Int32} {x3 : Int32} {x4 : Int32} {x5 : Int32} {σ : Hp}  (hk21 : ∀ (x2 : Int32) (x3 : Int32) (σ : Hp),  k21 x2 x3 σ = some res → Go wM v p l e R s m args below meth c 0 0 Q 9 21 [(0, .ref 0), (2, .int x2), (3, .int x3)] [] σ) (h : J_M_playsOut_109  k21 x2 x3 x4 x5 σ = some res) : Go wM v p l e R s m args below meth c 0 0 Q 9 109 [(0, .ref 0), (2, .int x2), (3, .int x3), (4, .int x4), (5, .int x5)] [] σ := by
  unfold J_M_playsOut_109 at h
  refine go_aload_n X 0 (dk dt_M_playsOut_4 3 rfl) rfl rfl ?_
  refine go_getr X fo_X12_101 lM_0 sM_0 fM_0_51 (dk dt_M_playsOut_4 4 rfl) ?_
  refine go_iload_n X 2 (dk dt_M_playsOut_4 5 rfl) rfl rfl ?_
  refine go_iload X 4 (dk dt_M_playsOut_4 6 rfl) rfl ?_
  refine go_iast X lM_31 sM_31 (dk dt_M_playsOut_4 7 rfl) h (fun h => ?_)
  refine go_iload X 4 (dk dt_M_playsOut_4 8 rfl) rfl ?_
  refine go_aload_n X 0 (dk dt_M_playsOut_4 9 rfl) rfl rfl ?_
  refine go_geti X fo_X12_399 lM_0 sM_0 fM_0_56 (dk dt_M_playsOut_4 10 rfl) ?_
  refine go_icmp_ne (tgt := 163) X (dk dt_M_playsOut_4 11 rfl) (by decide) h (fun h => ?_) (fun h => ?_)
  · refine go_aload_n X 0 (dk dt_M_playsOut_6 5 rfl) rfl rfl ?_
    refine go_getr X fo_X12_98 lM_0 sM_0 fM_0_50 (dk dt_M_playsOut_6 6 rfl) ?_
    refine go_iload_n X 2 (dk dt_M_playsOut_6 7 rfl) rfl rfl ?_
    refine go_aload_n X 0 (dk dt_M_playsOut_6 8 rfl) rfl rfl ?_
    refine go_iload X 3 (dk dt_M_playsOut_6 9 rfl) rfl ?_
    refine go_iload X 4 (dk dt_M_playsOut_6 10 rfl) rfl ?_
    refine go_Vi (As := [.int x4, .int x5]) (rest := [.int x3, .ref 30]) X vo_X12_411 (fun q hq => ct_M_cardOf hi xc nx  hq) (by decide) rfl lM_0 sM_0 rfl rfl (Nat.le_of_ble_eq_true rfl) (dk dt_M_playsOut_6 11 rfl) h (fun q173 h => ?_)
    refine go_iast X lM_30 sM_30 (dk dt_M_playsOut_6 12 rfl) h (fun h => ?_)
    refine go_aload_n X 0 (dk dt_M_playsOut_6 13 rfl) rfl rfl ?_
    refine go_aload_n X 0 (dk dt_M_playsOut_6 14 rfl) rfl rfl ?_
    refine go_geti X fo_X12_405 lM_0 sM_0 fM_0_58 (dk dt_M_playsOut_6 15 rfl) ?_
    refine go_iconst X (dk dt_M_playsOut_7 0 rfl) ci_1 ?_
    refine go_aload_n X 0 (dk dt_M_playsOut_7 1 rfl) rfl rfl ?_
    refine go_geti X fo_X12_399 lM_0 sM_0 fM_0_56 (dk dt_M_playsOut_7 2 rfl) ?_
    refine go_iload X 3 (dk dt_M_playsOut_7 3 rfl) rfl ?_
    refine go_imul X (dk dt_M_playsOut_7 4 rfl) ?_
    refine go_iload X 4 (dk dt_M_playsOut_7 5 rfl) rfl ?_
    refine go_iadd X (dk dt_M_playsOut_7 6 rfl) ?_
    refine go_ishl X (dk dt_M_playsOut_7 7 rfl) ?_
    refine go_ior X (dk dt_M_playsOut_7 8 rfl) ?_
    refine go_puti X fo_X12_405 pf_12_58 lM_0 sM_0 fM_0_58 (dk dt_M_playsOut_7 9 rfl) ?_
    refine go_iload_n X 2 (dk dt_M_playsOut_7 10 rfl) rfl rfl ?_
    refine go_iconst X (dk dt_M_playsOut_7 11 rfl) ci_4 ?_
    refine go_iremL X (dk dt_M_playsOut_7 12 rfl) (by decide) ?_
    refine go_iconst X (dk dt_M_playsOut_7 13 rfl) ci_3 ?_
    refine go_icmp_ne (tgt := 209) X (dk dt_M_playsOut_7 14 rfl) (by decide) h (fun h => ?_) (fun h => ?_)
    · refine go_iconst X (dk dt_M_playsOut_8 1 rfl) ci_0 ?_
      refine go_sub [0, 1, 2, 3] rfl ?_
      exact lkJ_M_playsOut_210 hi xc nx X rt  hk21 h
    · refine go_iconst X (dk dt_M_playsOut_7 15 rfl) ci_1 ?_
      refine go_goto (tgt := 210) X (dk dt_M_playsOut_8 0 rfl) (by decide) ?_
      refine go_sub [0, 1, 2, 3] rfl ?_
      exact lkJ_M_playsOut_210 hi xc nx X rt  hk21 h
  · refine go_aload_n X 0 (dk dt_M_playsOut_4 12 rfl) rfl rfl ?_
    refine go_getr X fo_X12_101 lM_0 sM_0 fM_0_51 (dk dt_M_playsOut_4 13 rfl) ?_
    refine go_iload_n X 2 (dk dt_M_playsOut_4 14 rfl) rfl rfl ?_
    refine go_iconst X (dk dt_M_playsOut_4 15 rfl) ci_m1 ?_
    refine go_iast X lM_31 sM_31 (dk dt_M_playsOut_5 0 rfl) h (fun h => ?_)
    refine go_iload_n X 2 (dk dt_M_playsOut_5 1 rfl) rfl rfl ?_
    refine go_iconst X (dk dt_M_playsOut_5 2 rfl) ci_1 ?_
    refine go_isub X (dk dt_M_playsOut_5 3 rfl) ?_
    refine go_istore_n (lv' := [(3, .int (x3 - (1 : Int32))), (0, .ref 0), (2, .int x2), (4, .int x4), (5, .int x5)]) X (dk dt_M_playsOut_5 4 rfl) rfl (by decide) rfl ?_
    refine go_iload_n X 0 (dk dt_M_playsOut_5 5 rfl) rfl rfl ?_
    refine go_if_lt (tgt := 21) X (dk dt_M_playsOut_5 6 rfl) (by decide) h (fun h => ?_) (fun h => ?_)
    · refine go_sub [1, 2, 0] rfl ?_
      exact hk21 _ _ _  h
    · refine go_aload_n X 1 (dk dt_M_playsOut_5 7 rfl) rfl rfl ?_
      refine go_iload_n X 0 (dk dt_M_playsOut_5 8 rfl) rfl rfl ?_
      refine go_aload_n X 1 (dk dt_M_playsOut_5 9 rfl) rfl rfl ?_
      refine go_getr X fo_X12_98 lM_0 sM_0 fM_0_50 (dk dt_M_playsOut_5 10 rfl) ?_
      refine go_iload_n X 0 (dk dt_M_playsOut_5 11 rfl) rfl rfl ?_
      refine go_iald X lM_30 sM_30 (dk dt_M_playsOut_5 12 rfl) h (fun h => ?_)
      refine go_aload_n X 1 (dk dt_M_playsOut_5 13 rfl) rfl rfl ?_
      refine go_getr X fo_X12_104 lM_0 sM_0 fM_0_52 (dk dt_M_playsOut_5 14 rfl) ?_
      refine go_iload_n X 0 (dk dt_M_playsOut_5 15 rfl) rfl rfl ?_
      refine go_iconst X (dk dt_M_playsOut_6 0 rfl) ci_1 ?_
      refine go_iadd X (dk dt_M_playsOut_6 1 rfl) ?_
      refine go_iald X lM_32 sM_32 (dk dt_M_playsOut_6 2 rfl) h (fun h => ?_)
      refine go_Vv (As := [.int (x3 - (1 : Int32)), .int ((zu (zu σ 31 (Int32.toNatClampNeg x3) x5) 31 (Int32.toNatClampNeg x3) (-1 : Int32)) 30 (Int32.toNatClampNeg (x3 - (1 : Int32)))), .int ((zu (zu σ 31 (Int32.toNatClampNeg x3) x5) 31 (Int32.toNatClampNeg x3) (-1 : Int32)) 32 (Int32.toNatClampNeg ((x3 - (1 : Int32)) + (1 : Int32))))]) (rest := []) X vo_X12_427 (fun q hq => ct_M_mayBeBest hi xc nx  hq) (by decide) rfl lM_0 sM_0 rfl rfl (Nat.le_of_ble_eq_true rfl) (dk dt_M_playsOut_6 3 rfl) h (fun q157 h => ?_)
      refine go_goto (tgt := 21) X (dk dt_M_playsOut_6 4 rfl) (by decide) ?_
      refine go_sub [1, 2, 0] rfl ?_
      exact hk21 _ _ _  h
set_option maxRecDepth 20000 in
theorem lkJ_M_playsOut_69 (hi : zInj wM v) (xc : XC wM v) (nx : NXM v) (X : Cx wM v p R s m args c 0 0 cX12_playsOut 9 RX12 8) (rt : Rt wM v p l e R s m args below meth c 0 0 Q cX12_playsOut false none res) {k21 : Int32 → Int32 → Hp → Option Hp} {x2 : Int32} {x3 : Int32} {x4 : Int32} {σ : Hp}  (hk21 : ∀ (x2 : Int32) (x3 : Int32) (σ : Hp),  k21 x2 x3 σ = some res → Go wM v p l e R s m args below meth c 0 0 Q 9 21 [(0, .ref 0), (2, .int x2), (3, .int x3)] [] σ) (h : J_M_playsOut_69  k21 x2 x3 x4 σ = some res) : Go wM v p l e R s m args below meth c 0 0 Q 9 69 [(0, .ref 0), (2, .int x2), (3, .int x3), (4, .int x4)] [] σ := by
  unfold J_M_playsOut_69 at h
  refine go_aload_n X 0 (dk dt_M_playsOut_2 13 rfl) rfl rfl ?_
  refine go_getr X fo_X12_101 lM_0 sM_0 fM_0_51 (dk dt_M_playsOut_2 14 rfl) ?_
  refine go_iload_n X 2 (dk dt_M_playsOut_2 15 rfl) rfl rfl ?_
  refine go_iald X lM_31 sM_31 (dk dt_M_playsOut_3 0 rfl) h (fun h => ?_)
  refine go_iconst X (dk dt_M_playsOut_3 1 rfl) ci_1 ?_
  refine go_iadd X (dk dt_M_playsOut_3 2 rfl) ?_
  refine go_istore (lv' := [(5, .int ((σ 31 (Int32.toNatClampNeg x3)) + (1 : Int32))), (0, .ref 0), (2, .int x2), (3, .int x3), (4, .int x4)]) X (dk dt_M_playsOut_3 3 rfl) (by decide) rfl ?_
  refine go_sub [1, 2, 3, 4, 0] rfl ?_
  exact lkL_M_playsOut_79 hi xc nx X rt (fun _ _ _ _ _  hh => lkJ_M_playsOut_109 hi xc nx X rt  hk21 hh) FU  h
set_option maxRecDepth 20000 in
theorem lkB_M_playsOut_21 (hi : zInj wM v) (xc : XC wM v) (nx : NXM v) (X : Cx wM v p R s m args c 0 0 cX12_playsOut 9 RX12 8) (rt : Rt wM v p l e R s m args below meth c 0 0 Q cX12_playsOut false none res) {k21 : Int32 → Int32 → Hp → Option Hp} {x2 : Int32} {x3 : Int32} {σ : Hp}  (hk21 : ∀ (x2 : Int32) (x3 : Int32) (σ : Hp),  k21 x2 x3 σ = some res → Go wM v p l e R s m args below meth c 0 0 Q 9 21 [(0, .ref 0), (2, .int x2), (3, .int x3)] [] σ) (h : B_M_playsOut_21  k21 x2 x3 σ = some res) : Go wM v p l e R s m args below meth c 0 0 Q 9 21 [(0, .ref 0), (2, .int x2), (3, .int x3)] [] σ := by
  unfold B_M_playsOut_21 at h
  refine go_iload_n X 2 (dk dt_M_playsOut_0 15 rfl) rfl rfl ?_
  refine go_if_lt (tgt := 300) X (dk dt_M_playsOut_1 0 rfl) (by decide) h (fun h => ?_) (fun h => ?_)
  · exact go_vret rt (dk dt_M_playsOut_11 8 rfl) h
  · refine go_aload_n X 0 (dk dt_M_playsOut_1 1 rfl) rfl rfl ?_
    refine go_getr X fo_X12_107 lM_0 sM_0 fM_0_53 (dk dt_M_playsOut_1 2 rfl) ?_
    refine go_iload_n X 2 (dk dt_M_playsOut_1 3 rfl) rfl rfl ?_
    refine go_iald X lM_33 sM_33 (dk dt_M_playsOut_1 4 rfl) h (fun h => ?_)
    refine go_istore (lv' := [(4, .int (σ 33 (Int32.toNatClampNeg x3))), (0, .ref 0), (2, .int x2), (3, .int x3)]) X (dk dt_M_playsOut_1 5 rfl) (by decide) rfl ?_
    refine go_aload_n X 1 (dk dt_M_playsOut_1 6 rfl) rfl rfl ?_
    refine go_getr X fo_X12_101 lM_0 sM_0 fM_0_51 (dk dt_M_playsOut_1 7 rfl) ?_
    refine go_iload_n X 3 (dk dt_M_playsOut_1 8 rfl) rfl rfl ?_
    refine go_iald X lM_31 sM_31 (dk dt_M_playsOut_1 9 rfl) h (fun h => ?_)
    refine go_if_lt (tgt := 69) X (dk dt_M_playsOut_1 10 rfl) (by decide) h (fun h => ?_) (fun h => ?_)
    · refine go_sub [1, 2, 3, 0] rfl ?_
      exact lkJ_M_playsOut_69 hi xc nx X rt  hk21 h
    · refine go_aload_n X 1 (dk dt_M_playsOut_1 11 rfl) rfl rfl ?_
      refine go_aload_n X 1 (dk dt_M_playsOut_1 12 rfl) rfl rfl ?_
      refine go_geti X fo_X12_405 lM_0 sM_0 fM_0_58 (dk dt_M_playsOut_1 13 rfl) ?_
      refine go_iconst X (dk dt_M_playsOut_1 14 rfl) ci_1 ?_
      refine go_aload_n X 1 (dk dt_M_playsOut_1 15 rfl) rfl rfl ?_
      refine go_geti X fo_X12_399 lM_0 sM_0 fM_0_56 (dk dt_M_playsOut_2 0 rfl) ?_
      refine go_iload X 0 (dk dt_M_playsOut_2 1 rfl) rfl ?_
      refine go_imul X (dk dt_M_playsOut_2 2 rfl) ?_
      refine go_aload_n X 1 (dk dt_M_playsOut_2 3 rfl) rfl rfl ?_
      refine go_getr X fo_X12_101 lM_0 sM_0 fM_0_51 (dk dt_M_playsOut_2 4 rfl) ?_
      refine go_iload_n X 3 (dk dt_M_playsOut_2 5 rfl) rfl rfl ?_
      refine go_iald X lM_31 sM_31 (dk dt_M_playsOut_2 6 rfl) h (fun h => ?_)
      refine go_iadd X (dk dt_M_playsOut_2 7 rfl) ?_
      refine go_ishl X (dk dt_M_playsOut_2 8 rfl) ?_
      refine go_iconst X (dk dt_M_playsOut_2 9 rfl) ci_m1 ?_
      refine go_ixor X (dk dt_M_playsOut_2 10 rfl) ?_
      refine go_iand X (dk dt_M_playsOut_2 11 rfl) ?_
      refine go_puti X fo_X12_405 pf_12_58 lM_0 sM_0 fM_0_58 (dk dt_M_playsOut_2 12 rfl) ?_
      refine go_sub [1, 2, 3, 0] rfl ?_
      exact lkJ_M_playsOut_69 hi xc nx X rt  hk21 h
set_option maxRecDepth 20000 in
theorem lkL_M_playsOut_21 (hi : zInj wM v) (xc : XC wM v) (nx : NXM v) (X : Cx wM v p R s m args c 0 0 cX12_playsOut 9 RX12 8) (rt : Rt wM v p l e R s m args below meth c 0 0 Q cX12_playsOut false none res)   (n : Nat) : ∀ {x2 : Int32} {x3 : Int32} {σ : Hp},  L_M_playsOut_21   n x2 x3 σ = some res → Go wM v p l e R s m args below meth c 0 0 Q 9 21 [(0, .ref 0), (2, .int x2), (3, .int x3)] [] σ := by
  induction n with
  | zero => intro x2 x3 σ  h; cases h
  | succ n ih =>
    intro x2 x3 σ  h
    exact lkB_M_playsOut_21 hi xc nx X rt  (fun _ _ _  hh => ih  hh) h
set_option maxRecDepth 20000 in
theorem lkF_M_playsOut (hi : zInj wM v) (xc : XC wM v) (nx : NXM v) (X : Cx wM v p R s m args c 0 0 cX12_playsOut 9 RX12 8) (rt : Rt wM v p l e R s m args below meth c 0 0 Q cX12_playsOut false none res) {a1 : Int32} {σ : Hp}  (h : F_M_playsOut  a1 σ = some res) : Go wM v p l e R s m args below meth c 0 0 Q 9 0 [(0, .ref 0), (1, .int a1)] [] σ := by
  unfold F_M_playsOut at h
  refine go_iconst X (dk dt_M_playsOut_0 0 rfl) ci_4 ?_
  refine go_aload_n X 0 (dk dt_M_playsOut_0 1 rfl) rfl rfl ?_
  refine go_geti X fo_X12_399 lM_0 sM_0 fM_0_56 (dk dt_M_playsOut_0 2 rfl) ?_
  refine go_imul X (dk dt_M_playsOut_0 3 rfl) ?_
  refine go_istore_n (lv' := [(2, .int ((4 : Int32) * (σ 0 56))), (0, .ref 0), (1, .int a1)]) X (dk dt_M_playsOut_0 4 rfl) rfl (by decide) rfl ?_
  refine go_iconst X (dk dt_M_playsOut_0 5 rfl) ci_0 ?_
  refine go_istore_n (lv' := [(3, .int (0 : Int32)), (2, .int ((4 : Int32) * (σ 0 56))), (0, .ref 0), (1, .int a1)]) X (dk dt_M_playsOut_0 6 rfl) rfl (by decide) rfl ?_
  refine go_aload_n X 2 (dk dt_M_playsOut_0 7 rfl) rfl rfl ?_
  refine go_iconst X (dk dt_M_playsOut_0 8 rfl) ci_0 ?_
  refine go_puti X fo_X12_405 pf_12_58 lM_0 sM_0 fM_0_58 (dk dt_M_playsOut_0 9 rfl) ?_
  refine go_aload_n X 2 (dk dt_M_playsOut_0 10 rfl) rfl rfl ?_
  refine go_iconst X (dk dt_M_playsOut_0 11 rfl) ci_0 ?_
  refine go_iload_n X 3 (dk dt_M_playsOut_0 12 rfl) rfl rfl ?_
  refine go_iconst X (dk dt_M_playsOut_0 13 rfl) ci_0 ?_
  refine go_Vv (As := [.int (0 : Int32), .int a1, .int (0 : Int32)]) (rest := []) X vo_X12_420 (fun q hq => ct_M_begins hi xc nx  hq) (by decide) rfl lM_0 sM_0 rfl rfl (Nat.le_of_ble_eq_true rfl) (dk dt_M_playsOut_0 14 rfl) h (fun q18 h => ?_)
  refine go_sub [2, 1, 0] rfl ?_
  exact lkL_M_playsOut_21 hi xc nx X rt  FU  h
set_option maxRecDepth 20000 in
theorem ct_M_playsOut (hi : zInj wM v) (xc : XC wM v) (nx : NXM v)  {a1 : Int32} {σ : Hp}  {q : Hp} (h : F_M_playsOut  a1 σ = some q) : Ct wM v l yX12_playsOut cX12_playsOut 9 none 8 [.ref 0, .int a1] σ none q :=
  Ct.intro false (by decide) hi xc (Nat.le_of_ble_eq_true rfl) rfl (fun p e R s m args below meth c Q X rt => lkF_M_playsOut hi xc nx X rt  h)
end
def T_M_bridge_0 : DT := [(0, .iload_n 1, 1), (1, .iconst 1, 1), (2, .iconst 3, 1), (3, .invokestatic 122, 3), (6, .ifCond .eq 41, 3), (9, .iload_n 2, 1), (10, .iconst 0, 1), (11, .iconst 4, 1), (12, .invokestatic 122, 3), (15, .ifCond .eq 32, 3), (18, .iload_n 3, 1), (19, .iconst 0, 1), (20, .iconst 3, 1), (21, .invokestatic 122, 3), (24, .ifCond .eq 23, 3), (27, .iload 4, 2)]
theorem dt_M_bridge_0 : dOk cX12_bridge T_M_bridge_0 := by unfold dOk; decide +kernel
def T_M_bridge_1 : DT := [(29, .iconst 0, 1), (30, .iconst 1, 1), (31, .invokestatic 122, 3), (34, .ifCond .eq 13, 3), (37, .iconst 4, 1), (38, .iload_n 1, 1), (39, .imul, 1), (40, .aload_n 0, 1), (41, .getfield 147, 3), (44, .if_icmp .le 5, 3), (47, .iconst (-1), 1), (48, .ireturn, 1), (49, .aload_n 0, 1), (50, .iconst 0, 1), (51, .putfield 147, 3), (54, .iconst 0, 1)]
theorem dt_M_bridge_1 : dOk cX12_bridge T_M_bridge_1 := by unfold dOk; decide +kernel
def T_M_bridge_2 : DT := [(55, .istore 5, 2), (57, .iload 5, 2), (59, .iconst 4, 1), (60, .iload_n 1, 1), (61, .imul, 1), (62, .if_icmp .ge 57, 3), (65, .aload_n 0, 1), (66, .iload 5, 2), (68, .invokevirtual 402, 3), (71, .bipush 51, 2), (73, .if_icmp .le 6, 3), (76, .bipush (-2), 2), (78, .ireturn, 1), (79, .iconst 0, 1), (80, .istore 6, 2), (82, .iload 6, 2)]
theorem dt_M_bridge_2 : dOk cX12_bridge T_M_bridge_2 := by unfold dOk; decide +kernel
def T_M_bridge_3 : DT := [(84, .iload 5, 2), (86, .if_icmp .ge 27, 3), (89, .aload_n 0, 1), (90, .iload 6, 2), (92, .invokevirtual 402, 3), (95, .aload_n 0, 1), (96, .iload 5, 2), (98, .invokevirtual 402, 3), (101, .if_icmp .ne 6, 3), (104, .bipush (-2), 2), (106, .ireturn, 1), (107, .iinc 6 1, 3), (110, .goto (-28), 3), (113, .iinc 5 1, 3), (116, .goto (-59), 3), (119, .aload_n 0, 1)]
theorem dt_M_bridge_3 : dOk cX12_bridge T_M_bridge_3 := by unfold dOk; decide +kernel
def T_M_bridge_4 : DT := [(120, .iload_n 1, 1), (121, .putfield 399, 3), (124, .aload_n 0, 1), (125, .iload_n 2, 1), (126, .putfield 414, 3), (129, .aload_n 0, 1), (130, .iload_n 3, 1), (131, .invokevirtual 433, 3), (134, .iload 4, 2), (136, .ifCond .ne 12, 3), (139, .aload_n 0, 1), (140, .getfield 104, 3), (143, .iconst 0, 1), (144, .iaload, 1), (145, .goto 9, 3), (148, .aload_n 0, 1)]
theorem dt_M_bridge_4 : dOk cX12_bridge T_M_bridge_4 := by unfold dOk; decide +kernel
def T_M_bridge_5 : DT := [(149, .getfield 110, 3), (152, .iconst 0, 1), (153, .iaload, 1), (154, .ireturn, 1)]
theorem dt_M_bridge_5 : dOk cX12_bridge T_M_bridge_5 := by unfold dOk; decide +kernel
section
variable {v : ZV} {l : Launch} {p : Program} {e : Env} {R : Room} {s : State} {m : MethodId} {args : Array Value} {below : List Frame} {meth : Method} {c : Code} {Q : State → Prop} {res : (Int32 × Hp)} 
set_option maxRecDepth 20000 in
theorem lkB_M_bridge_82 (hi : zInj wM v) (xc : XC wM v) (nx : NXM v) (X : Cx wM v p R s m args c 0 0 cX12_bridge 7 RX12 10) (rt : Rt wM v p l e R s m args below meth c 0 0 Q cX12_bridge false (some (.int res.1)) res.2) {k113 : Int32 → Int32 → Int32 → Int32 → Int32 → Hp → Option (Int32 × Hp)} {k82 : Int32 → Int32 → Int32 → Int32 → Int32 → Int32 → Hp → Option (Int32 × Hp)} {x1 : Int32} {x2 : Int32} {x3 : Int32} {x4 : Int32} {x5 : Int32} {x6 : Int32} {σ : Hp}  (hk113 : ∀ (x1 : Int32) (x2 : Int32) (x3 : Int32) (x4 : Int32) (x5 : Int32) (σ : Hp),  k113 x1 x2 x3 x4 x5 σ = some res → Go wM v p l e R s m args below meth c 0 0 Q 7 113 [(0, .ref 0), (1, .int x1), (2, .int x2), (3, .int x3), (4, .int x4), (5, .int x5)] [] σ) (hk82 : ∀ (x1 : Int32) (x2 : Int32) (x3 : Int32) (x4 : Int32) (x5 : Int32) (x6 : Int32) (σ : Hp),  k82 x1 x2 x3 x4 x5 x6 σ = some res → Go wM v p l e R s m args below meth c 0 0 Q 7 82 [(0, .ref 0), (1, .int x1), (2, .int x2), (3, .int x3), (4, .int x4), (5, .int x5), (6, .int x6)] [] σ) (h : B_M_bridge_82  k113 k82 x1 x2 x3 x4 x5 x6 σ = some res) : Go wM v p l e R s m args below meth c 0 0 Q 7 82 [(0, .ref 0), (1, .int x1), (2, .int x2), (3, .int x3), (4, .int x4), (5, .int x5), (6, .int x6)] [] σ := by
  unfold B_M_bridge_82 at h
  refine go_iload X 6 (dk dt_M_bridge_2 15 rfl) rfl ?_
  refine go_iload X 5 (dk dt_M_bridge_3 0 rfl) rfl ?_
  refine go_icmp_ge (tgt := 113) X (dk dt_M_bridge_3 1 rfl) (by decide) h (fun h => ?_) (fun h => ?_)
  · refine go_sub [0, 1, 2, 3, 4, 5] rfl ?_
    exact hk113 _ _ _ _ _ _  h
  · refine go_aload_n X 0 (dk dt_M_bridge_3 2 rfl) rfl rfl ?_
    refine go_iload X 6 (dk dt_M_bridge_3 3 rfl) rfl ?_
    refine go_Vi (As := [.int x6]) (rest := []) X vo_X12_402 (fun q hq => ct_M_octet hi xc nx  hq) (by decide) rfl lM_0 sM_0 rfl rfl (Nat.le_of_ble_eq_true rfl) (dk dt_M_bridge_3 4 rfl) h (fun q92 h => ?_)
    refine go_aload_n X 0 (dk dt_M_bridge_3 5 rfl) rfl rfl ?_
    refine go_iload X 5 (dk dt_M_bridge_3 6 rfl) rfl ?_
    refine go_Vi (As := [.int x5]) (rest := [.int q92.1]) X vo_X12_402 (fun q hq => ct_M_octet hi xc nx  hq) (by decide) rfl lM_0 sM_0 rfl rfl (Nat.le_of_ble_eq_true rfl) (dk dt_M_bridge_3 7 rfl) h (fun q98 h => ?_)
    refine go_icmp_ne (tgt := 107) X (dk dt_M_bridge_3 8 rfl) (by decide) h (fun h => ?_) (fun h => ?_)
    · refine go_iinc (lv' := [(6, .int (x6 + (1 : Int32))), (0, .ref 0), (1, .int x1), (2, .int x2), (3, .int x3), (4, .int x4), (5, .int x5)]) X 6 (dk dt_M_bridge_3 11 rfl) rfl ci_1 (by decide) rfl ?_
      refine go_goto (tgt := 82) X (dk dt_M_bridge_3 12 rfl) (by decide) ?_
      refine go_sub [1, 2, 3, 4, 5, 6, 0] rfl ?_
      exact hk82 _ _ _ _ _ _ _  h
    · refine go_bipush X (dk dt_M_bridge_3 9 rfl) cb_m2 ?_
      exact go_iret rt (dk dt_M_bridge_3 10 rfl) h (fun hh => nomatch hh)
set_option maxRecDepth 20000 in
theorem lkL_M_bridge_82 (hi : zInj wM v) (xc : XC wM v) (nx : NXM v) (X : Cx wM v p R s m args c 0 0 cX12_bridge 7 RX12 10) (rt : Rt wM v p l e R s m args below meth c 0 0 Q cX12_bridge false (some (.int res.1)) res.2) {k113 : Int32 → Int32 → Int32 → Int32 → Int32 → Hp → Option (Int32 × Hp)} (hk113 : ∀ (x1 : Int32) (x2 : Int32) (x3 : Int32) (x4 : Int32) (x5 : Int32) (σ : Hp),  k113 x1 x2 x3 x4 x5 σ = some res → Go wM v p l e R s m args below meth c 0 0 Q 7 113 [(0, .ref 0), (1, .int x1), (2, .int x2), (3, .int x3), (4, .int x4), (5, .int x5)] [] σ) (n : Nat) : ∀ {x1 : Int32} {x2 : Int32} {x3 : Int32} {x4 : Int32} {x5 : Int32} {x6 : Int32} {σ : Hp},  L_M_bridge_82  k113 n x1 x2 x3 x4 x5 x6 σ = some res → Go wM v p l e R s m args below meth c 0 0 Q 7 82 [(0, .ref 0), (1, .int x1), (2, .int x2), (3, .int x3), (4, .int x4), (5, .int x5), (6, .int x6)] [] σ := by
  induction n with
  | zero => intro x1 x2 x3 x4 x5 x6 σ  h; cases h
  | succ n ih =>
    intro x1 x2 x3 x4 x5 x6 σ  h
    exact lkB_M_bridge_82 hi xc nx X rt  hk113 (fun _ _ _ _ _ _ _  hh => ih  hh) h
set_option maxRecDepth 20000 in
theorem lkJ_M_bridge_113 (hi : zInj wM v) (xc : XC wM v) (nx : NXM v) (X : Cx wM v p R s m args c 0 0 cX12_bridge 7 RX12 10) (rt : Rt wM v p l e R s m args below meth c 0 0 Q cX12_bridge false (some (.int res.1)) res.2) {k57 : Int32 → Int32 → Int32 → Int32 → Int32 → Hp → Option (Int32 × Hp)} {x1 : Int32} {x2 : Int32} {x3 : Int32} {x4 : Int32} {x5 : Int32} {σ : Hp}  (hk57 : ∀ (x1 : Int32) (x2 : Int32) (x3 : Int32) (x4 : Int32) (x5 : Int32) (σ : Hp),  k57 x1 x2 x3 x4 x5 σ = some res → Go wM v p l e R s m args below meth c 0 0 Q 7 57 [(0, .ref 0), (1, .int x1), (2, .int x2), (3, .int x3), (4, .int x4), (5, .int x5)] [] σ) (h : J_M_bridge_113  k57 x1 x2 x3 x4 x5 σ = some res) : Go wM v p l e R s m args below meth c 0 0 Q 7 113 [(0, .ref 0), (1, .int x1), (2, .int x2), (3, .int x3), (4, .int x4), (5, .int x5)] [] σ := by
  unfold J_M_bridge_113 at h
  refine go_iinc (lv' := [(5, .int (x5 + (1 : Int32))), (0, .ref 0), (1, .int x1), (2, .int x2), (3, .int x3), (4, .int x4)]) X 5 (dk dt_M_bridge_3 13 rfl) rfl ci_1 (by decide) rfl ?_
  refine go_goto (tgt := 57) X (dk dt_M_bridge_3 14 rfl) (by decide) ?_
  refine go_sub [1, 2, 3, 4, 5, 0] rfl ?_
  exact hk57 _ _ _ _ _ _  h
set_option maxRecDepth 20000 in
theorem lkB_M_bridge_57 (hi : zInj wM v) (xc : XC wM v) (nx : NXM v) (X : Cx wM v p R s m args c 0 0 cX12_bridge 7 RX12 10) (rt : Rt wM v p l e R s m args below meth c 0 0 Q cX12_bridge false (some (.int res.1)) res.2) {k119 : Int32 → Int32 → Int32 → Int32 → Hp → Option (Int32 × Hp)} {k57 : Int32 → Int32 → Int32 → Int32 → Int32 → Hp → Option (Int32 × Hp)} {x1 : Int32} {x2 : Int32} {x3 : Int32} {x4 : Int32} {x5 : Int32} {σ : Hp}  (hk119 : ∀ (x1 : Int32) (x2 : Int32) (x3 : Int32) (x4 : Int32) (σ : Hp),  k119 x1 x2 x3 x4 σ = some res → Go wM v p l e R s m args below meth c 0 0 Q 7 119 [(0, .ref 0), (1, .int x1), (2, .int x2), (3, .int x3), (4, .int x4)] [] σ) (hk57 : ∀ (x1 : Int32) (x2 : Int32) (x3 : Int32) (x4 : Int32) (x5 : Int32) (σ : Hp),  k57 x1 x2 x3 x4 x5 σ = some res → Go wM v p l e R s m args below meth c 0 0 Q 7 57 [(0, .ref 0), (1, .int x1), (2, .int x2), (3, .int x3), (4, .int x4), (5, .int x5)] [] σ) (h : B_M_bridge_57  k119 k57 x1 x2 x3 x4 x5 σ = some res) : Go wM v p l e R s m args below meth c 0 0 Q 7 57 [(0, .ref 0), (1, .int x1), (2, .int x2), (3, .int x3), (4, .int x4), (5, .int x5)] [] σ := by
  unfold B_M_bridge_57 at h
  refine go_iload X 5 (dk dt_M_bridge_2 1 rfl) rfl ?_
  refine go_iconst X (dk dt_M_bridge_2 2 rfl) ci_4 ?_
  refine go_iload_n X 1 (dk dt_M_bridge_2 3 rfl) rfl rfl ?_
  refine go_imul X (dk dt_M_bridge_2 4 rfl) ?_
  refine go_icmp_ge (tgt := 119) X (dk dt_M_bridge_2 5 rfl) (by decide) h (fun h => ?_) (fun h => ?_)
  · refine go_sub [0, 1, 2, 3, 4] rfl ?_
    exact hk119 _ _ _ _ _  h
  · refine go_aload_n X 0 (dk dt_M_bridge_2 6 rfl) rfl rfl ?_
    refine go_iload X 5 (dk dt_M_bridge_2 7 rfl) rfl ?_
    refine go_Vi (As := [.int x5]) (rest := []) X vo_X12_402 (fun q hq => ct_M_octet hi xc nx  hq) (by decide) rfl lM_0 sM_0 rfl rfl (Nat.le_of_ble_eq_true rfl) (dk dt_M_bridge_2 8 rfl) h (fun q68 h => ?_)
    refine go_bipush X (dk dt_M_bridge_2 9 rfl) cb_51 ?_
    refine go_icmp_le (tgt := 79) X (dk dt_M_bridge_2 10 rfl) (by decide) h (fun h => ?_) (fun h => ?_)
    · refine go_iconst X (dk dt_M_bridge_2 13 rfl) ci_0 ?_
      refine go_istore (lv' := [(6, .int (0 : Int32)), (0, .ref 0), (1, .int x1), (2, .int x2), (3, .int x3), (4, .int x4), (5, .int x5)]) X (dk dt_M_bridge_2 14 rfl) (by decide) rfl ?_
      refine go_sub [1, 2, 3, 4, 5, 6, 0] rfl ?_
      exact lkL_M_bridge_82 hi xc nx X rt (fun _ _ _ _ _ _  hh => lkJ_M_bridge_113 hi xc nx X rt  hk57 hh) FU  h
    · refine go_bipush X (dk dt_M_bridge_2 11 rfl) cb_m2 ?_
      exact go_iret rt (dk dt_M_bridge_2 12 rfl) h (fun hh => nomatch hh)
set_option maxRecDepth 20000 in
theorem lkL_M_bridge_57 (hi : zInj wM v) (xc : XC wM v) (nx : NXM v) (X : Cx wM v p R s m args c 0 0 cX12_bridge 7 RX12 10) (rt : Rt wM v p l e R s m args below meth c 0 0 Q cX12_bridge false (some (.int res.1)) res.2) {k119 : Int32 → Int32 → Int32 → Int32 → Hp → Option (Int32 × Hp)} (hk119 : ∀ (x1 : Int32) (x2 : Int32) (x3 : Int32) (x4 : Int32) (σ : Hp),  k119 x1 x2 x3 x4 σ = some res → Go wM v p l e R s m args below meth c 0 0 Q 7 119 [(0, .ref 0), (1, .int x1), (2, .int x2), (3, .int x3), (4, .int x4)] [] σ) (n : Nat) : ∀ {x1 : Int32} {x2 : Int32} {x3 : Int32} {x4 : Int32} {x5 : Int32} {σ : Hp},  L_M_bridge_57  k119 n x1 x2 x3 x4 x5 σ = some res → Go wM v p l e R s m args below meth c 0 0 Q 7 57 [(0, .ref 0), (1, .int x1), (2, .int x2), (3, .int x3), (4, .int x4), (5, .int x5)] [] σ := by
  induction n with
  | zero => intro x1 x2 x3 x4 x5 σ  h; cases h
  | succ n ih =>
    intro x1 x2 x3 x4 x5 σ  h
    exact lkB_M_bridge_57 hi xc nx X rt  hk119 (fun _ _ _ _ _ _  hh => ih  hh) h
set_option maxRecDepth 20000 in
theorem lkJ_M_bridge_119 (hi : zInj wM v) (xc : XC wM v) (nx : NXM v) (X : Cx wM v p R s m args c 0 0 cX12_bridge 7 RX12 10) (rt : Rt wM v p l e R s m args below meth c 0 0 Q cX12_bridge false (some (.int res.1)) res.2)  {x1 : Int32} {x2 : Int32} {x3 : Int32} {x4 : Int32} {σ : Hp}   (h : J_M_bridge_119   x1 x2 x3 x4 σ = some res) : Go wM v p l e R s m args below meth c 0 0 Q 7 119 [(0, .ref 0), (1, .int x1), (2, .int x2), (3, .int x3), (4, .int x4)] [] σ := by
  unfold J_M_bridge_119 at h
  refine go_aload_n X 0 (dk dt_M_bridge_3 15 rfl) rfl rfl ?_
  refine go_iload_n X 1 (dk dt_M_bridge_4 0 rfl) rfl rfl ?_
  refine go_puti X fo_X12_399 pf_12_56 lM_0 sM_0 fM_0_56 (dk dt_M_bridge_4 1 rfl) ?_
  refine go_aload_n X 0 (dk dt_M_bridge_4 2 rfl) rfl rfl ?_
  refine go_iload_n X 2 (dk dt_M_bridge_4 3 rfl) rfl rfl ?_
  refine go_puti X fo_X12_414 pf_12_57 lM_0 sM_0 fM_0_57 (dk dt_M_bridge_4 4 rfl) ?_
  refine go_aload_n X 0 (dk dt_M_bridge_4 5 rfl) rfl rfl ?_
  refine go_iload_n X 3 (dk dt_M_bridge_4 6 rfl) rfl rfl ?_
  refine go_Vv (As := [.int x3]) (rest := []) X vo_X12_433 (fun q hq => ct_M_playsOut hi xc nx  hq) (by decide) rfl lM_0 sM_0 rfl rfl (Nat.le_of_ble_eq_true rfl) (dk dt_M_bridge_4 7 rfl) h (fun q131 h => ?_)
  refine go_iload X 4 (dk dt_M_bridge_4 8 rfl) rfl ?_
  refine go_if_ne (tgt := 148) X (dk dt_M_bridge_4 9 rfl) (by decide) h (fun h => ?_) (fun h => ?_)
  · refine go_aload_n X 0 (dk dt_M_bridge_4 15 rfl) rfl rfl ?_
    refine go_getr X fo_X12_110 lM_0 sM_0 fM_0_54 (dk dt_M_bridge_5 0 rfl) ?_
    refine go_iconst X (dk dt_M_bridge_5 1 rfl) ci_0 ?_
    refine go_iald X lM_34 sM_34 (dk dt_M_bridge_5 2 rfl) h (fun h => ?_)
    exact go_iret rt (dk dt_M_bridge_5 3 rfl) h (fun hh => nomatch hh)
  · refine go_aload_n X 0 (dk dt_M_bridge_4 10 rfl) rfl rfl ?_
    refine go_getr X fo_X12_104 lM_0 sM_0 fM_0_52 (dk dt_M_bridge_4 11 rfl) ?_
    refine go_iconst X (dk dt_M_bridge_4 12 rfl) ci_0 ?_
    refine go_iald X lM_32 sM_32 (dk dt_M_bridge_4 13 rfl) h (fun h => ?_)
    refine go_goto (tgt := 154) X (dk dt_M_bridge_4 14 rfl) (by decide) ?_
    exact go_iret rt (dk dt_M_bridge_5 3 rfl) h (fun hh => nomatch hh)
set_option maxRecDepth 20000 in
theorem lkF_M_bridge (hi : zInj wM v) (xc : XC wM v) (nx : NXM v) (X : Cx wM v p R s m args c 0 0 cX12_bridge 7 RX12 10) (rt : Rt wM v p l e R s m args below meth c 0 0 Q cX12_bridge false (some (.int res.1)) res.2) {a1 : Int32} {a2 : Int32} {a3 : Int32} {a4 : Int32} {σ : Hp}  (h : F_M_bridge  a1 a2 a3 a4 σ = some res) : Go wM v p l e R s m args below meth c 0 0 Q 7 0 [(0, .ref 0), (1, .int a1), (2, .int a2), (3, .int a3), (4, .int a4)] [] σ := by
  unfold F_M_bridge at h
  refine go_iload_n X 1 (dk dt_M_bridge_0 0 rfl) rfl rfl ?_
  refine go_iconst X (dk dt_M_bridge_0 1 rfl) ci_1 ?_
  refine go_iconst X (dk dt_M_bridge_0 2 rfl) ci_3 ?_
  refine go_Si (As := [.int a1, .int (1 : Int32), .int (3 : Int32)]) (rest := []) X so_X12_122 (fun q hq => ct_M_in hi xc nx  hq) (by decide) rfl rfl (Nat.le_of_ble_eq_true rfl) (dk dt_M_bridge_0 3 rfl) h (fun q3 h => ?_)
  refine go_if_eq (tgt := 47) X (dk dt_M_bridge_0 4 rfl) (by decide) h (fun h => ?_) (fun h => ?_)
  · refine go_iconst X (dk dt_M_bridge_1 10 rfl) ci_m1 ?_
    exact go_iret rt (dk dt_M_bridge_1 11 rfl) h (fun hh => nomatch hh)
  · refine go_iload_n X 2 (dk dt_M_bridge_0 5 rfl) rfl rfl ?_
    refine go_iconst X (dk dt_M_bridge_0 6 rfl) ci_0 ?_
    refine go_iconst X (dk dt_M_bridge_0 7 rfl) ci_4 ?_
    refine go_Si (As := [.int a2, .int (0 : Int32), .int (4 : Int32)]) (rest := []) X so_X12_122 (fun q hq => ct_M_in hi xc nx  hq) (by decide) rfl rfl (Nat.le_of_ble_eq_true rfl) (dk dt_M_bridge_0 8 rfl) h (fun q12 h => ?_)
    refine go_if_eq (tgt := 47) X (dk dt_M_bridge_0 9 rfl) (by decide) h (fun h => ?_) (fun h => ?_)
    · refine go_iconst X (dk dt_M_bridge_1 10 rfl) ci_m1 ?_
      exact go_iret rt (dk dt_M_bridge_1 11 rfl) h (fun hh => nomatch hh)
    · refine go_iload_n X 3 (dk dt_M_bridge_0 10 rfl) rfl rfl ?_
      refine go_iconst X (dk dt_M_bridge_0 11 rfl) ci_0 ?_
      refine go_iconst X (dk dt_M_bridge_0 12 rfl) ci_3 ?_
      refine go_Si (As := [.int a3, .int (0 : Int32), .int (3 : Int32)]) (rest := []) X so_X12_122 (fun q hq => ct_M_in hi xc nx  hq) (by decide) rfl rfl (Nat.le_of_ble_eq_true rfl) (dk dt_M_bridge_0 13 rfl) h (fun q21 h => ?_)
      refine go_if_eq (tgt := 47) X (dk dt_M_bridge_0 14 rfl) (by decide) h (fun h => ?_) (fun h => ?_)
      · refine go_iconst X (dk dt_M_bridge_1 10 rfl) ci_m1 ?_
        exact go_iret rt (dk dt_M_bridge_1 11 rfl) h (fun hh => nomatch hh)
      · refine go_iload X 4 (dk dt_M_bridge_0 15 rfl) rfl ?_
        refine go_iconst X (dk dt_M_bridge_1 0 rfl) ci_0 ?_
        refine go_iconst X (dk dt_M_bridge_1 1 rfl) ci_1 ?_
        refine go_Si (As := [.int a4, .int (0 : Int32), .int (1 : Int32)]) (rest := []) X so_X12_122 (fun q hq => ct_M_in hi xc nx  hq) (by decide) rfl rfl (Nat.le_of_ble_eq_true rfl) (dk dt_M_bridge_1 2 rfl) h (fun q31 h => ?_)
        refine go_if_eq (tgt := 47) X (dk dt_M_bridge_1 3 rfl) (by decide) h (fun h => ?_) (fun h => ?_)
        · refine go_iconst X (dk dt_M_bridge_1 10 rfl) ci_m1 ?_
          exact go_iret rt (dk dt_M_bridge_1 11 rfl) h (fun hh => nomatch hh)
        · refine go_iconst X (dk dt_M_bridge_1 4 rfl) ci_4 ?_
          refine go_iload_n X 1 (dk dt_M_bridge_1 5 rfl) rfl rfl ?_
          refine go_imul X (dk dt_M_bridge_1 6 rfl) ?_
          refine go_aload_n X 0 (dk dt_M_bridge_1 7 rfl) rfl rfl ?_
          refine go_geti X fo_X12_147 lM_0 sM_0 fM_0_6 (dk dt_M_bridge_1 8 rfl) ?_
          refine go_icmp_le (tgt := 49) X (dk dt_M_bridge_1 9 rfl) (by decide) h (fun h => ?_) (fun h => ?_)
          · refine go_aload_n X 0 (dk dt_M_bridge_1 12 rfl) rfl rfl ?_
            refine go_iconst X (dk dt_M_bridge_1 13 rfl) ci_0 ?_
            refine go_puti X fo_X12_147 pf_12_6 lM_0 sM_0 fM_0_6 (dk dt_M_bridge_1 14 rfl) ?_
            refine go_iconst X (dk dt_M_bridge_1 15 rfl) ci_0 ?_
            refine go_istore (lv' := [(5, .int (0 : Int32)), (0, .ref 0), (1, .int a1), (2, .int a2), (3, .int a3), (4, .int a4)]) X (dk dt_M_bridge_2 0 rfl) (by decide) rfl ?_
            refine go_sub [1, 2, 3, 4, 5, 0] rfl ?_
            exact lkL_M_bridge_57 hi xc nx X rt (fun _ _ _ _ _  hh => lkJ_M_bridge_119 hi xc nx X rt   hh) FU  h
          · refine go_iconst X (dk dt_M_bridge_1 10 rfl) ci_m1 ?_
            exact go_iret rt (dk dt_M_bridge_1 11 rfl) h (fun hh => nomatch hh)
set_option maxRecDepth 20000 in
theorem ct_M_bridge (hi : zInj wM v) (xc : XC wM v) (nx : NXM v)  {a1 : Int32} {a2 : Int32} {a3 : Int32} {a4 : Int32} {σ : Hp}  {q : (Int32 × Hp)} (h : F_M_bridge  a1 a2 a3 a4 σ = some q) : Ct wM v l yX12_bridge cX12_bridge 7 (some .int) 10 [.ref 0, .int a1, .int a2, .int a3, .int a4] σ (some (.int q.1)) q.2 :=
  Ct.intro false (by decide) hi xc (Nat.le_of_ble_eq_true rfl) rfl (fun p e R s m args below meth c Q X rt => lkF_M_bridge hi xc nx X rt  h)
end
def T_M_reckon_0 : DT := [(0, .iload_n 0, 1), (1, .tableswitch 85 2 8 #[43, 47, 51, 55, 59, 63, 74], 43), (44, .iload_n 1, 1), (45, .iload_n 2, 1), (46, .iadd, 1), (47, .ireturn, 1), (48, .iload_n 1, 1), (49, .iload_n 2, 1), (50, .isub, 1), (51, .ireturn, 1), (52, .iload_n 1, 1), (53, .iload_n 2, 1), (54, .imul, 1), (55, .ireturn, 1), (56, .iload_n 1, 1), (57, .iload_n 2, 1)]
theorem dt_M_reckon_0 : dOk cX12_reckon T_M_reckon_0 := by unfold dOk; decide +kernel
def T_M_reckon_1 : DT := [(58, .idiv, 1), (59, .ireturn, 1), (60, .iload_n 1, 1), (61, .iload_n 2, 1), (62, .irem, 1), (63, .ireturn, 1), (64, .iload_n 1, 1), (65, .iload_n 2, 1), (66, .if_icmp .ge 7, 3), (69, .iconst 1, 1), (70, .goto 4, 3), (73, .iconst 0, 1), (74, .ireturn, 1), (75, .iload_n 1, 1), (76, .iload_n 2, 1), (77, .if_icmp .le 7, 3)]
theorem dt_M_reckon_1 : dOk cX12_reckon T_M_reckon_1 := by unfold dOk; decide +kernel
def T_M_reckon_2 : DT := [(80, .iconst 1, 1), (81, .goto 4, 3), (84, .iconst 0, 1), (85, .ireturn, 1), (86, .iload_n 1, 1), (87, .iload_n 2, 1), (88, .if_icmp .ne 7, 3), (91, .iconst 1, 1), (92, .goto 4, 3), (95, .iconst 0, 1), (96, .ireturn, 1)]
theorem dt_M_reckon_2 : dOk cX12_reckon T_M_reckon_2 := by unfold dOk; decide +kernel
section
variable {v : ZV} {l : Launch} {p : Program} {e : Env} {R : Room} {s : State} {m : MethodId} {args : Array Value} {below : List Frame} {meth : Method} {c : Code} {Q : State → Prop} {res : (Int32 × Hp)} 
set_option maxRecDepth 20000 in
theorem lkF_M_reckon (hi : zInj wM v) (xc : XC wM v) (nx : NXM v) (X : Cx wM v p R s m args c 0 0 cX12_reckon 3 RX12 2) (rt : Rt wM v p l e R s m args below meth c 0 0 Q cX12_reckon false (some (.int res.1)) res.2) {a0 : Int32} {a1 : Int32} {a2 : Int32} {σ : Hp}  (h : F_M_reckon  a0 a1 a2 σ = some res) : Go wM v p l e R s m args below meth c 0 0 Q 3 0 [(0, .int a0), (1, .int a1), (2, .int a2)] [] σ := by
  unfold F_M_reckon at h
  refine go_iload_n X 0 (dk dt_M_reckon_0 0 rfl) rfl rfl ?_
  by_cases hc1_2 : a0 = (2 : Int32)
  · rw [if_pos hc1_2] at h
    refine go_tsw (tgt := 44) X (dk dt_M_reckon_0 1 rfl) (by decide) (by rw [hc1_2]) (by decide) ?_
    refine go_iload_n X 1 (dk dt_M_reckon_0 2 rfl) rfl rfl ?_
    refine go_iload_n X 2 (dk dt_M_reckon_0 3 rfl) rfl rfl ?_
    refine go_iadd X (dk dt_M_reckon_0 4 rfl) ?_
    exact go_iret rt (dk dt_M_reckon_0 5 rfl) h (fun hh => nomatch hh)
  rw [if_neg hc1_2] at h
  by_cases hc1_3 : a0 = (3 : Int32)
  · rw [if_pos hc1_3] at h
    refine go_tsw (tgt := 48) X (dk dt_M_reckon_0 1 rfl) (by decide) (by rw [hc1_3]) (by decide) ?_
    refine go_iload_n X 1 (dk dt_M_reckon_0 6 rfl) rfl rfl ?_
    refine go_iload_n X 2 (dk dt_M_reckon_0 7 rfl) rfl rfl ?_
    refine go_isub X (dk dt_M_reckon_0 8 rfl) ?_
    exact go_iret rt (dk dt_M_reckon_0 9 rfl) h (fun hh => nomatch hh)
  rw [if_neg hc1_3] at h
  by_cases hc1_4 : a0 = (4 : Int32)
  · rw [if_pos hc1_4] at h
    refine go_tsw (tgt := 52) X (dk dt_M_reckon_0 1 rfl) (by decide) (by rw [hc1_4]) (by decide) ?_
    refine go_iload_n X 1 (dk dt_M_reckon_0 10 rfl) rfl rfl ?_
    refine go_iload_n X 2 (dk dt_M_reckon_0 11 rfl) rfl rfl ?_
    refine go_imul X (dk dt_M_reckon_0 12 rfl) ?_
    exact go_iret rt (dk dt_M_reckon_0 13 rfl) h (fun hh => nomatch hh)
  rw [if_neg hc1_4] at h
  by_cases hc1_5 : a0 = (5 : Int32)
  · rw [if_pos hc1_5] at h
    refine go_tsw (tgt := 56) X (dk dt_M_reckon_0 1 rfl) (by decide) (by rw [hc1_5]) (by decide) ?_
    refine go_iload_n X 1 (dk dt_M_reckon_0 14 rfl) rfl rfl ?_
    refine go_iload_n X 2 (dk dt_M_reckon_0 15 rfl) rfl rfl ?_
    refine go_idiv X (dk dt_M_reckon_1 0 rfl) h (fun h => ?_)
    exact go_iret rt (dk dt_M_reckon_1 1 rfl) h (fun hh => nomatch hh)
  rw [if_neg hc1_5] at h
  by_cases hc1_6 : a0 = (6 : Int32)
  · rw [if_pos hc1_6] at h
    refine go_tsw (tgt := 60) X (dk dt_M_reckon_0 1 rfl) (by decide) (by rw [hc1_6]) (by decide) ?_
    refine go_iload_n X 1 (dk dt_M_reckon_1 2 rfl) rfl rfl ?_
    refine go_iload_n X 2 (dk dt_M_reckon_1 3 rfl) rfl rfl ?_
    refine go_irem X (dk dt_M_reckon_1 4 rfl) h (fun h => ?_)
    exact go_iret rt (dk dt_M_reckon_1 5 rfl) h (fun hh => nomatch hh)
  rw [if_neg hc1_6] at h
  by_cases hc1_7 : a0 = (7 : Int32)
  · rw [if_pos hc1_7] at h
    refine go_tsw (tgt := 64) X (dk dt_M_reckon_0 1 rfl) (by decide) (by rw [hc1_7]) (by decide) ?_
    refine go_iload_n X 1 (dk dt_M_reckon_1 6 rfl) rfl rfl ?_
    refine go_iload_n X 2 (dk dt_M_reckon_1 7 rfl) rfl rfl ?_
    refine go_icmp_ge (tgt := 73) X (dk dt_M_reckon_1 8 rfl) (by decide) h (fun h => ?_) (fun h => ?_)
    · refine go_iconst X (dk dt_M_reckon_1 11 rfl) ci_0 ?_
      exact go_iret rt (dk dt_M_reckon_1 12 rfl) h (fun hh => nomatch hh)
    · refine go_iconst X (dk dt_M_reckon_1 9 rfl) ci_1 ?_
      refine go_goto (tgt := 74) X (dk dt_M_reckon_1 10 rfl) (by decide) ?_
      exact go_iret rt (dk dt_M_reckon_1 12 rfl) h (fun hh => nomatch hh)
  rw [if_neg hc1_7] at h
  by_cases hc1_8 : a0 = (8 : Int32)
  · rw [if_pos hc1_8] at h
    refine go_tsw (tgt := 75) X (dk dt_M_reckon_0 1 rfl) (by decide) (by rw [hc1_8]) (by decide) ?_
    refine go_iload_n X 1 (dk dt_M_reckon_1 13 rfl) rfl rfl ?_
    refine go_iload_n X 2 (dk dt_M_reckon_1 14 rfl) rfl rfl ?_
    refine go_icmp_le (tgt := 84) X (dk dt_M_reckon_1 15 rfl) (by decide) h (fun h => ?_) (fun h => ?_)
    · refine go_iconst X (dk dt_M_reckon_2 2 rfl) ci_0 ?_
      exact go_iret rt (dk dt_M_reckon_2 3 rfl) h (fun hh => nomatch hh)
    · refine go_iconst X (dk dt_M_reckon_2 0 rfl) ci_1 ?_
      refine go_goto (tgt := 85) X (dk dt_M_reckon_2 1 rfl) (by decide) ?_
      exact go_iret rt (dk dt_M_reckon_2 3 rfl) h (fun hh => nomatch hh)
  rw [if_neg hc1_8] at h
  refine go_tsw (tgt := 86) X (dk dt_M_reckon_0 1 rfl) (by decide) (sw_dflt [2, 3, 4, 5, 6, 7, 8] (by decide) (by simp only [List.mem_cons, List.not_mem_nil, or_false, not_or]; exact ⟨(i32_ne (k := 2) hc1_2), (i32_ne (k := 3) hc1_3), (i32_ne (k := 4) hc1_4), (i32_ne (k := 5) hc1_5), (i32_ne (k := 6) hc1_6), (i32_ne (k := 7) hc1_7), (i32_ne (k := 8) hc1_8)⟩)) (by decide) ?_
  refine go_iload_n X 1 (dk dt_M_reckon_2 4 rfl) rfl rfl ?_
  refine go_iload_n X 2 (dk dt_M_reckon_2 5 rfl) rfl rfl ?_
  refine go_icmp_ne (tgt := 95) X (dk dt_M_reckon_2 6 rfl) (by decide) h (fun h => ?_) (fun h => ?_)
  · refine go_iconst X (dk dt_M_reckon_2 9 rfl) ci_0 ?_
    exact go_iret rt (dk dt_M_reckon_2 10 rfl) h (fun hh => nomatch hh)
  · refine go_iconst X (dk dt_M_reckon_2 7 rfl) ci_1 ?_
    refine go_goto (tgt := 96) X (dk dt_M_reckon_2 8 rfl) (by decide) ?_
    exact go_iret rt (dk dt_M_reckon_2 10 rfl) h (fun hh => nomatch hh)
set_option maxRecDepth 20000 in
theorem ct_M_reckon (hi : zInj wM v) (xc : XC wM v) (nx : NXM v)  {a0 : Int32} {a1 : Int32} {a2 : Int32} {σ : Hp}  {q : (Int32 × Hp)} (h : F_M_reckon  a0 a1 a2 σ = some q) : Ct wM v l yX12_reckon cX12_reckon 3 (some .int) 2 [.int a0, .int a1, .int a2] σ (some (.int q.1)) q.2 :=
  Ct.intro false (by decide) hi xc (Nat.le_of_ble_eq_true rfl) rfl (fun p e R s m args below meth c Q X rt => lkF_M_reckon hi xc nx X rt  h)
end
