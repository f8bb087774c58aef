def T_X8_digit_0 : DT := [(0, .aload_n 0, 1), (1, .invokevirtual 28, 3), (4, .istore_n 1, 1), (5, .iload_n 1, 1), (6, .bipush 48, 2), (8, .if_icmp .lt 16, 3), (11, .iload_n 1, 1), (12, .bipush 57, 2), (14, .if_icmp .gt 10, 3), (17, .iload_n 1, 1), (18, .bipush 48, 2), (20, .isub, 1), (21, .goto 4, 3), (24, .iconst (-1), 1), (25, .ireturn, 1)]
theorem dt_X8_digit_0 : dOk cX8_digit T_X8_digit_0 := by unfold dOk; decide +kernel
section
variable {v : ZV} {l : Launch} {p : Program} {e : Env} {R : Room} {s : State} {m : MethodId} {args : Array Value} {below : List Frame} {meth : Method} {c : Code} {Q : State → Prop} {res : (Int32 × Hp)} 
set_option maxRecDepth 20000 in
theorem lkF_X8_digit (hi : zInj wC v) (xc : XC wC v) (nx : NXC v) (X : Cx wC v p R s m args c 0 0 cX8_digit 2 RX8 4) (rt : Rt wC v p l e R s m args below meth c 0 0 Q cX8_digit false (some (.int res.1)) res.2)  {σ : Hp}  (h : F_X8_digit   σ = some res) : Go wC v p l e R s m args below meth c 0 0 Q 2 0 [(0, .ref 23)] [] σ := by
  unfold F_X8_digit at h
  refine go_aload_n X 0 (dk dt_X8_digit_0 0 rfl) rfl rfl ?_
  refine go_Vi (As := []) (rest := []) X vo_X8_28 (fun q hq => ct_X8_here hi xc nx  hq) (by decide) rfl lC_23 sC_23 rfl rfl (Nat.le_of_ble_eq_true rfl) (dk dt_X8_digit_0 1 rfl) h (fun q1 h => ?_)
  refine go_istore_n (lv' := [(1, .int q1.1), (0, .ref 23)]) X (dk dt_X8_digit_0 2 rfl) rfl (by decide) rfl ?_
  refine go_iload_n X 0 (dk dt_X8_digit_0 3 rfl) rfl rfl ?_
  refine go_bipush X (dk dt_X8_digit_0 4 rfl) cb_48 ?_
  refine go_icmp_lt (tgt := 24) X (dk dt_X8_digit_0 5 rfl) (by decide) h (fun h => ?_) (fun h => ?_)
  · refine go_iconst X (dk dt_X8_digit_0 13 rfl) ci_m1 ?_
    exact go_iret rt (dk dt_X8_digit_0 14 rfl) h (fun hh => nomatch hh)
  · refine go_iload_n X 0 (dk dt_X8_digit_0 6 rfl) rfl rfl ?_
    refine go_bipush X (dk dt_X8_digit_0 7 rfl) cb_57 ?_
    refine go_icmp_gt (tgt := 24) X (dk dt_X8_digit_0 8 rfl) (by decide) h (fun h => ?_) (fun h => ?_)
    · refine go_iconst X (dk dt_X8_digit_0 13 rfl) ci_m1 ?_
      exact go_iret rt (dk dt_X8_digit_0 14 rfl) h (fun hh => nomatch hh)
    · refine go_iload_n X 0 (dk dt_X8_digit_0 9 rfl) rfl rfl ?_
      refine go_bipush X (dk dt_X8_digit_0 10 rfl) cb_48 ?_
      refine go_isub X (dk dt_X8_digit_0 11 rfl) ?_
      refine go_goto (tgt := 25) X (dk dt_X8_digit_0 12 rfl) (by decide) ?_
      exact go_iret rt (dk dt_X8_digit_0 14 rfl) h (fun hh => nomatch hh)
set_option maxRecDepth 20000 in
theorem ct_X8_digit (hi : zInj wC v) (xc : XC wC v) (nx : NXC v)   {σ : Hp}  {q : (Int32 × Hp)} (h : F_X8_digit   σ = some q) : Ct wC v l yX8_digit cX8_digit 2 (some .int) 4 [.ref 23] σ (some (.int q.1)) q.2 :=
  Ct.intro false (by decide) hi xc (Nat.le_of_ble_eq_true rfl) rfl (fun p e R s m args below meth c Q X rt => lkF_X8_digit hi xc nx X rt  h)
end
def T_X8_number_0 : DT := [(0, .aload_n 0, 1), (1, .invokevirtual 32, 3), (4, .iconst (-1), 1), (5, .if_icmp .ne 11, 3), (8, .aload_n 0, 1), (9, .iconst 1, 1), (10, .invokevirtual 35, 3), (13, .pop, 1), (14, .iconst (-1), 1), (15, .ireturn, 1), (16, .iconst 0, 1), (17, .istore_n 2, 1), (18, .iconst 0, 1), (19, .istore_n 3, 1), (20, .iload_n 3, 1), (21, .iload_n 1, 1)]
theorem dt_X8_number_0 : dOk cX8_number T_X8_number_0 := by unfold dOk; decide +kernel
def T_X8_number_1 : DT := [(22, .if_icmp .gt 50, 3), (25, .aload_n 0, 1), (26, .invokevirtual 32, 3), (29, .iconst (-1), 1), (30, .if_icmp .eq 42, 3), (33, .iload_n 3, 1), (34, .iload_n 1, 1), (35, .if_icmp .ne 11, 3), (38, .aload_n 0, 1), (39, .iconst 2, 1), (40, .invokevirtual 35, 3), (43, .pop, 1), (44, .iconst (-1), 1), (45, .ireturn, 1), (46, .bipush 10, 2), (48, .iload_n 2, 1)]
theorem dt_X8_number_1 : dOk cX8_number T_X8_number_1 := by unfold dOk; decide +kernel
def T_X8_number_2 : DT := [(49, .imul, 1), (50, .aload_n 0, 1), (51, .invokevirtual 32, 3), (54, .iadd, 1), (55, .istore_n 2, 1), (56, .aload_n 0, 1), (57, .dup, 1), (58, .getfield 22, 3), (61, .iconst 1, 1), (62, .iadd, 1), (63, .putfield 22, 3), (66, .iinc 3 1, 3), (69, .goto (-49), 3), (72, .iload_n 2, 1), (73, .ireturn, 1)]
theorem dt_X8_number_2 : dOk cX8_number T_X8_number_2 := by unfold dOk; decide +kernel
section
variable {v : ZV} {l : Launch} {p : Program} {e : Env} {R : Room} {s : State} {m : MethodId} {args : Array Value} {below : List Frame} {meth : Method} {c : Code} {Q : State → Prop} {res : (Int32 × Hp)} 
set_option maxRecDepth 20000 in
theorem lkB_X8_number_20 (hi : zInj wC v) (xc : XC wC v) (nx : NXC v) (X : Cx wC v p R s m args c 0 0 cX8_number 4 RX8 6) (rt : Rt wC v p l e R s m args below meth c 0 0 Q cX8_number false (some (.int res.1)) res.2) {k20 : Int32 → Int32 → Int32 → Hp → Option (Int32 × Hp)} {k38 : Hp → Option (Int32 × Hp)} {x1 : Int32} {x2 : Int32} {x3 : Int32} {σ : Hp}  (hk20 : ∀ (x1 : Int32) (x2 : Int32) (x3 : Int32) (σ : Hp),  k20 x1 x2 x3 σ = some res → Go wC v p l e R s m args below meth c 0 0 Q 4 20 [(0, .ref 23), (1, .int x1), (2, .int x2), (3, .int x3)] [] σ) (hk38 : ∀  (σ : Hp),  k38  σ = some res → Go wC v p l e R s m args below meth c 0 0 Q 4 38 [(0, .ref 23)] [] σ) (h : B_X8_number_20  k20 k38 x1 x2 x3 σ = some res) : Go wC v p l e R s m args below meth c 0 0 Q 4 20 [(0, .ref 23), (1, .int x1), (2, .int x2), (3, .int x3)] [] σ := by
  unfold B_X8_number_20 at h
  refine go_iload_n X 3 (dk dt_X8_number_0 14 rfl) rfl rfl ?_
  refine go_iload_n X 1 (dk dt_X8_number_0 15 rfl) rfl rfl ?_
  refine go_icmp_gt (tgt := 72) X (dk dt_X8_number_1 0 rfl) (by decide) h (fun h => ?_) (fun h => ?_)
  · refine go_iload_n X 2 (dk dt_X8_number_2 13 rfl) rfl rfl ?_
    exact go_iret rt (dk dt_X8_number_2 14 rfl) h (fun hh => nomatch hh)
  · refine go_aload_n X 0 (dk dt_X8_number_1 1 rfl) rfl rfl ?_
    refine go_Vi (As := []) (rest := []) X vo_X8_32 (fun q hq => ct_X8_digit hi xc nx  hq) (by decide) rfl lC_23 sC_23 rfl rfl (Nat.le_of_ble_eq_true rfl) (dk dt_X8_number_1 2 rfl) h (fun q26 h => ?_)
    refine go_iconst X (dk dt_X8_number_1 3 rfl) ci_m1 ?_
    refine go_icmp_eq (tgt := 72) X (dk dt_X8_number_1 4 rfl) (by decide) h (fun h => ?_) (fun h => ?_)
    · refine go_iload_n X 2 (dk dt_X8_number_2 13 rfl) rfl rfl ?_
      exact go_iret rt (dk dt_X8_number_2 14 rfl) h (fun hh => nomatch hh)
    · refine go_iload_n X 3 (dk dt_X8_number_1 5 rfl) rfl rfl ?_
      refine go_iload_n X 1 (dk dt_X8_number_1 6 rfl) rfl rfl ?_
      refine go_icmp_ne (tgt := 46) X (dk dt_X8_number_1 7 rfl) (by decide) h (fun h => ?_) (fun h => ?_)
      · refine go_bipush X (dk dt_X8_number_1 14 rfl) cb_10 ?_
        refine go_iload_n X 2 (dk dt_X8_number_1 15 rfl) rfl rfl ?_
        refine go_imul X (dk dt_X8_number_2 0 rfl) ?_
        refine go_aload_n X 0 (dk dt_X8_number_2 1 rfl) rfl rfl ?_
        refine go_Vi (As := []) (rest := [.int ((10 : Int32) * x2)]) X vo_X8_32 (fun q hq => ct_X8_digit hi xc nx  hq) (by decide) rfl lC_23 sC_23 rfl rfl (Nat.le_of_ble_eq_true rfl) (dk dt_X8_number_2 2 rfl) h (fun q51 h => ?_)
        refine go_iadd X (dk dt_X8_number_2 3 rfl) ?_
        refine go_istore_n (lv' := [(2, .int (((10 : Int32) * x2) + q51.1)), (0, .ref 23), (1, .int x1), (3, .int x3)]) X (dk dt_X8_number_2 4 rfl) rfl (by decide) rfl ?_
        refine go_aload_n X 1 (dk dt_X8_number_2 5 rfl) rfl rfl ?_
        refine go_dup X (dk dt_X8_number_2 6 rfl) rfl ?_
        refine go_geti X fo_X8_22 lC_23 sC_23 fC_23_3 (dk dt_X8_number_2 7 rfl) ?_
        refine go_iconst X (dk dt_X8_number_2 8 rfl) ci_1 ?_
        refine go_iadd X (dk dt_X8_number_2 9 rfl) ?_
        refine go_puti X fo_X8_22 pf_8_3 lC_23 sC_23 fC_23_3 (dk dt_X8_number_2 10 rfl) ?_
        refine go_iinc (lv' := [(3, .int (x3 + (1 : Int32))), (2, .int (((10 : Int32) * x2) + q51.1)), (0, .ref 23), (1, .int x1)]) X 3 (dk dt_X8_number_2 11 rfl) rfl ci_1 (by decide) rfl ?_
        refine go_goto (tgt := 20) X (dk dt_X8_number_2 12 rfl) (by decide) ?_
        refine go_sub [2, 3, 1, 0] rfl ?_
        exact hk20 _ _ _ _  h
      · refine go_sub [0] rfl ?_
        exact hk38  _  h
set_option maxRecDepth 20000 in
theorem lkL_X8_number_20 (hi : zInj wC v) (xc : XC wC v) (nx : NXC v) (X : Cx wC v p R s m args c 0 0 cX8_number 4 RX8 6) (rt : Rt wC v p l e R s m args below meth c 0 0 Q cX8_number false (some (.int res.1)) res.2) {k38 : Hp → Option (Int32 × Hp)} (hk38 : ∀  (σ : Hp),  k38  σ = some res → Go wC v p l e R s m args below meth c 0 0 Q 4 38 [(0, .ref 23)] [] σ) (n : Nat) : ∀ {x1 : Int32} {x2 : Int32} {x3 : Int32} {σ : Hp},  L_X8_number_20  k38 n x1 x2 x3 σ = some res → Go wC v p l e R s m args below meth c 0 0 Q 4 20 [(0, .ref 23), (1, .int x1), (2, .int x2), (3, .int x3)] [] σ := by
  induction n with
  | zero => intro x1 x2 x3 σ  h; cases h
  | succ n ih =>
    intro x1 x2 x3 σ  h
    exact lkB_X8_number_20 hi xc nx X rt  (fun _ _ _ _  hh => ih  hh) hk38 h
set_option maxRecDepth 20000 in
theorem lkJ_X8_number_38 (hi : zInj wC v) (xc : XC wC v) (nx : NXC v) (X : Cx wC v p R s m args c 0 0 cX8_number 4 RX8 6) (rt : Rt wC v p l e R s m args below meth c 0 0 Q cX8_number false (some (.int res.1)) res.2)   {σ : Hp}   (h : J_X8_number_38    σ = some res) : Go wC v p l e R s m args below meth c 0 0 Q 4 38 [(0, .ref 23)] [] σ := by
  unfold J_X8_number_38 at h
  refine go_aload_n X 0 (dk dt_X8_number_1 8 rfl) rfl rfl ?_
  refine go_iconst X (dk dt_X8_number_1 9 rfl) ci_2 ?_
  refine go_Vi (As := [.int (2 : Int32)]) (rest := []) X vo_X8_35 (fun q hq => ct_X8_refuse hi xc nx  hq) (by decide) rfl lC_23 sC_23 rfl rfl (Nat.le_of_ble_eq_true rfl) (dk dt_X8_number_1 10 rfl) h (fun q40 h => ?_)
  refine go_pop X (dk dt_X8_number_1 11 rfl) rfl ?_
  refine go_iconst X (dk dt_X8_number_1 12 rfl) ci_m1 ?_
  exact go_iret rt (dk dt_X8_number_1 13 rfl) h (fun hh => nomatch hh)
set_option maxRecDepth 20000 in
theorem lkF_X8_number (hi : zInj wC v) (xc : XC wC v) (nx : NXC v) (X : Cx wC v p R s m args c 0 0 cX8_number 4 RX8 6) (rt : Rt wC v p l e R s m args below meth c 0 0 Q cX8_number false (some (.int res.1)) res.2) {a1 : Int32} {σ : Hp}  (h : F_X8_number  a1 σ = some res) : Go wC v p l e R s m args below meth c 0 0 Q 4 0 [(0, .ref 23), (1, .int a1)] [] σ := by
  unfold F_X8_number at h
  refine go_aload_n X 0 (dk dt_X8_number_0 0 rfl) rfl rfl ?_
  refine go_Vi (As := []) (rest := []) X vo_X8_32 (fun q hq => ct_X8_digit hi xc nx  hq) (by decide) rfl lC_23 sC_23 rfl rfl (Nat.le_of_ble_eq_true rfl) (dk dt_X8_number_0 1 rfl) h (fun q1 h => ?_)
  refine go_iconst X (dk dt_X8_number_0 2 rfl) ci_m1 ?_
  refine go_icmp_ne (tgt := 16) X (dk dt_X8_number_0 3 rfl) (by decide) h (fun h => ?_) (fun h => ?_)
  · refine go_iconst X (dk dt_X8_number_0 10 rfl) ci_0 ?_
    refine go_istore_n (lv' := [(2, .int (0 : Int32)), (0, .ref 23), (1, .int a1)]) X (dk dt_X8_number_0 11 rfl) rfl (by decide) rfl ?_
    refine go_iconst X (dk dt_X8_number_0 12 rfl) ci_0 ?_
    refine go_istore_n (lv' := [(3, .int (0 : Int32)), (2, .int (0 : Int32)), (0, .ref 23), (1, .int a1)]) X (dk dt_X8_number_0 13 rfl) rfl (by decide) rfl ?_
    refine go_sub [2, 3, 1, 0] rfl ?_
    exact lkL_X8_number_20 hi xc nx X rt (fun  _  hh => lkJ_X8_number_38 hi xc nx X rt   hh) FU  h
  · refine go_aload_n X 0 (dk dt_X8_number_0 4 rfl) rfl rfl ?_
    refine go_iconst X (dk dt_X8_number_0 5 rfl) ci_1 ?_
    refine go_Vi (As := [.int (1 : Int32)]) (rest := []) X vo_X8_35 (fun q hq => ct_X8_refuse hi xc nx  hq) (by decide) rfl lC_23 sC_23 rfl rfl (Nat.le_of_ble_eq_true rfl) (dk dt_X8_number_0 6 rfl) h (fun q10 h => ?_)
    refine go_pop X (dk dt_X8_number_0 7 rfl) rfl ?_
    refine go_iconst X (dk dt_X8_number_0 8 rfl) ci_m1 ?_
    exact go_iret rt (dk dt_X8_number_0 9 rfl) h (fun hh => nomatch hh)
set_option maxRecDepth 20000 in
theorem ct_X8_number (hi : zInj wC v) (xc : XC wC v) (nx : NXC v)  {a1 : Int32} {σ : Hp}  {q : (Int32 × Hp)} (h : F_X8_number  a1 σ = some q) : Ct wC v l yX8_number cX8_number 4 (some .int) 6 [.ref 23, .int a1] σ (some (.int q.1)) q.2 :=
  Ct.intro false (by decide) hi xc (Nat.le_of_ble_eq_true rfl) rfl (fun p e R s m args below meth c Q X rt => lkF_X8_number hi xc nx X rt  h)
end
def T_X4_add_0 : DT := [(0, .aload_n 0, 1), (1, .getfield 38, 3), (4, .sipush 240, 3), (7, .if_icmp .ge 33, 3), (10, .aload_n 0, 1), (11, .getfield 9, 3), (14, .aload_n 0, 1), (15, .getfield 38, 3), (18, .iload_n 1, 1), (19, .iastore, 1), (20, .aload_n 0, 1), (21, .getfield 13, 3), (24, .aload_n 0, 1), (25, .getfield 38, 3), (28, .iload_n 2, 1), (29, .iastore, 1)]
theorem dt_X4_add_0 : dOk cX4_add T_X4_add_0 := by unfold dOk; decide +kernel
def T_X4_add_1 : DT := [(30, .aload_n 0, 1), (31, .dup, 1), (32, .getfield 38, 3), (35, .iconst 1, 1), (36, .iadd, 1), (37, .putfield 38, 3), (40, .aload_n 0, 1), (41, .getfield 38, 3), (44, .iconst 1, 1), (45, .isub, 1), (46, .ireturn, 1)]
theorem dt_X4_add_1 : dOk cX4_add T_X4_add_1 := by unfold dOk; decide +kernel
section
variable {v : ZV} {l : Launch} {p : Program} {e : Env} {R : Room} {s : State} {m : MethodId} {args : Array Value} {below : List Frame} {meth : Method} {c : Code} {Q : State → Prop} {res : (Int32 × Hp)} 
set_option maxRecDepth 20000 in
theorem lkF_X4_add (hi : zInj wC v) (xc : XC wC v) (nx : NXC v) (X : Cx wC v p R s m args c 0 0 cX4_add 3 RX4 2) (rt : Rt wC v p l e R s m args below meth c 0 0 Q cX4_add false (some (.int res.1)) res.2) {t : Nat} {a1 : Int32} {a2 : Int32} {σ : Hp} (ht : isL t = true) (h : F_X4_add  t a1 a2 σ = some res) : Go wC v p l e R s m args below meth c 0 0 Q 3 0 [(0, .ref t), (1, .int a1), (2, .int a2)] [] σ := by
  unfold F_X4_add at h
  refine go_aload_n X 0 (dk dt_X4_add_0 0 rfl) rfl rfl ?_
  refine go_geti X fo_X4_38 (lL ht) (sL ht) (fL_9 ht) (dk dt_X4_add_0 1 rfl) ?_
  refine go_sipush X (dk dt_X4_add_0 2 rfl) cs_240 ?_
  refine go_icmp_ge (tgt := 40) X (dk dt_X4_add_0 3 rfl) (by decide) h (fun h => ?_) (fun h => ?_)
  · refine go_aload_n X 0 (dk dt_X4_add_1 6 rfl) rfl rfl ?_
    refine go_geti X fo_X4_38 (lL ht) (sL ht) (fL_9 ht) (dk dt_X4_add_1 7 rfl) ?_
    refine go_iconst X (dk dt_X4_add_1 8 rfl) ci_1 ?_
    refine go_isub X (dk dt_X4_add_1 9 rfl) ?_
    exact go_iret rt (dk dt_X4_add_1 10 rfl) h (fun hh => nomatch hh)
  · refine go_aload_n X 0 (dk dt_X4_add_0 4 rfl) rfl rfl ?_
    refine go_getr X fo_X4_9 (lL ht) (sL ht) (fL_0 ht) (dk dt_X4_add_0 5 rfl) ?_
    refine go_aload_n X 0 (dk dt_X4_add_0 6 rfl) rfl rfl ?_
    refine go_geti X fo_X4_38 (lL ht) (sL ht) (fL_9 ht) (dk dt_X4_add_0 7 rfl) ?_
    refine go_iload_n X 1 (dk dt_X4_add_0 8 rfl) rfl rfl ?_
    refine go_iast X (lLa_1 ht) (sLa_1 ht) (dk dt_X4_add_0 9 rfl) h (fun h => ?_)
    refine go_aload_n X 0 (dk dt_X4_add_0 10 rfl) rfl rfl ?_
    refine go_getr X fo_X4_13 (lL ht) (sL ht) (fL_1 ht) (dk dt_X4_add_0 11 rfl) ?_
    refine go_aload_n X 0 (dk dt_X4_add_0 12 rfl) rfl rfl ?_
    refine go_geti X fo_X4_38 (lL ht) (sL ht) (fL_9 ht) (dk dt_X4_add_0 13 rfl) ?_
    refine go_iload_n X 2 (dk dt_X4_add_0 14 rfl) rfl rfl ?_
    refine go_iast X (lLa_2 ht) (sLa_2 ht) (dk dt_X4_add_0 15 rfl) h (fun h => ?_)
    refine go_aload_n X 0 (dk dt_X4_add_1 0 rfl) rfl rfl ?_
    refine go_dup X (dk dt_X4_add_1 1 rfl) rfl ?_
    refine go_geti X fo_X4_38 (lL ht) (sL ht) (fL_9 ht) (dk dt_X4_add_1 2 rfl) ?_
    refine go_iconst X (dk dt_X4_add_1 3 rfl) ci_1 ?_
    refine go_iadd X (dk dt_X4_add_1 4 rfl) ?_
    refine go_puti X fo_X4_38 pf_4_9 (lL ht) (sL ht) (fL_9 ht) (dk dt_X4_add_1 5 rfl) ?_
    refine go_aload_n X 0 (dk dt_X4_add_1 6 rfl) rfl rfl ?_
    refine go_geti X fo_X4_38 (lL ht) (sL ht) (fL_9 ht) (dk dt_X4_add_1 7 rfl) ?_
    refine go_iconst X (dk dt_X4_add_1 8 rfl) ci_1 ?_
    refine go_isub X (dk dt_X4_add_1 9 rfl) ?_
    exact go_iret rt (dk dt_X4_add_1 10 rfl) h (fun hh => nomatch hh)
set_option maxRecDepth 20000 in
theorem ct_X4_add (hi : zInj wC v) (xc : XC wC v) (nx : NXC v)  {t : Nat} {a1 : Int32} {a2 : Int32} {σ : Hp} (ht : isL t = true) {q : (Int32 × Hp)} (h : F_X4_add  t a1 a2 σ = some q) : Ct wC v l yX4_add cX4_add 3 (some .int) 2 [.ref t, .int a1, .int a2] σ (some (.int q.1)) q.2 :=
  Ct.intro false (by decide) hi xc (Nat.le_of_ble_eq_true rfl) rfl (fun p e R s m args below meth c Q X rt => lkF_X4_add hi xc nx X rt ht h)
end
def T_X5_readAmount_0 : DT := [(0, .aload_n 0, 1), (1, .iload_n 1, 1), (2, .invokevirtual 92, 3), (5, .ifCond .ne 5, 3), (8, .iconst 0, 1), (9, .ireturn, 1), (10, .iconst 0, 1), (11, .istore_n 2, 1), (12, .iload_n 2, 1), (13, .sipush 240, 3), (16, .if_icmp .ge 64, 3), (19, .aload_n 0, 1), (20, .getfield 9, 3), (23, .invokevirtual 29, 3), (26, .istore_n 3, 1), (27, .iload_n 3, 1)]
theorem dt_X5_readAmount_0 : dOk cX5_readAmount T_X5_readAmount_0 := by unfold dOk; decide +kernel
def T_X5_readAmount_1 : DT := [(28, .bipush 43, 2), (30, .if_icmp .eq 11, 3), (33, .iload_n 3, 1), (34, .bipush 45, 2), (36, .if_icmp .eq 5, 3), (39, .iconst 1, 1), (40, .ireturn, 1), (41, .aload_n 0, 1), (42, .getfield 9, 3), (45, .dup, 1), (46, .getfield 44, 3), (49, .iconst 1, 1), (50, .iadd, 1), (51, .putfield 44, 3), (54, .aload_n 0, 1), (55, .iload_n 1, 1)]
theorem dt_X5_readAmount_1 : dOk cX5_readAmount T_X5_readAmount_1 := by unfold dOk; decide +kernel
def T_X5_readAmount_2 : DT := [(56, .invokevirtual 92, 3), (59, .ifCond .ne 5, 3), (62, .iconst 0, 1), (63, .ireturn, 1), (64, .aload_n 0, 1), (65, .getfield 15, 3), (68, .iload_n 3, 1), (69, .iconst 0, 1), (70, .invokevirtual 79, 3), (73, .pop, 1), (74, .iinc 2 1, 3), (77, .goto (-65), 3), (80, .iconst 1, 1), (81, .ireturn, 1)]
theorem dt_X5_readAmount_2 : dOk cX5_readAmount T_X5_readAmount_2 := by unfold dOk; decide +kernel
section
variable {v : ZV} {l : Launch} {p : Program} {e : Env} {R : Room} {s : State} {m : MethodId} {args : Array Value} {below : List Frame} {meth : Method} {c : Code} {Q : State → Prop} {res : (Int32 × Hp)} {d d' : Nat} {o_X5_readTerm : Int32 → Hp → Option (Int32 × Hp)}
set_option maxRecDepth 20000 in
theorem lkJ_X5_readAmount_41 (hi : zInj wC v) (xc : XC wC v) (nx : NXC v) (X : Cx wC v p R s m args c 0 0 cX5_readAmount 4 RX5 d) (rt : Rt wC v p l e R s m args below meth c 0 0 Q cX5_readAmount true (some (.int res.1)) res.2) (hdb : 14 ≤ d) (ho_X5_readTerm : ∀ {b0 : Int32} {σ : Hp} {q : (Int32 × Hp)},  o_X5_readTerm b0 σ = some q → Ct wC v l yX5_readTerm cX5_readTerm 4 (some .boolean) d' [.ref 60, .int b0] σ (some (.int q.1)) q.2) (hdd : d' < d) {k12 : Int32 → Int32 → Hp → Option (Int32 × Hp)} {x1 : Int32} {x2 : Int32} {x3 : Int32} {σ : Hp}  (hk12 : ∀ (x1 : Int32) (x2 : Int32) (σ : Hp),  k12 x1 x2 σ = some res → Go wC v p l e R s m args below meth c 0 0 Q 4 12 [(0, .ref 60), (1, .int x1), (2, .int x2)] [] σ) (h : J_X5_readAmount_41 o_X5_readTerm k12 x1 x2 x3 σ = some res) : Go wC v p l e R s m args below meth c 0 0 Q 4 41 [(0, .ref 60), (1, .int x1), (2, .int x2), (3, .int x3)] [] σ := by
  unfold J_X5_readAmount_41 at h
  refine go_aload_n X 0 (dk dt_X5_readAmount_1 7 rfl) rfl rfl ?_
  refine go_getr X fo_X5_9 lC_60 sC_60 fC_60_0 (dk dt_X5_readAmount_1 8 rfl) ?_
  refine go_dup X (dk dt_X5_readAmount_1 9 rfl) rfl ?_
  refine go_geti X fo_X5_44 lC_23 sC_23 fC_23_3 (dk dt_X5_readAmount_1 10 rfl) ?_
  refine go_iconst X (dk dt_X5_readAmount_1 11 rfl) ci_1 ?_
  refine go_iadd X (dk dt_X5_readAmount_1 12 rfl) ?_
  refine go_puti X fo_X5_44 pf_8_3 lC_23 sC_23 fC_23_3 (dk dt_X5_readAmount_1 13 rfl) ?_
  refine go_aload_n X 0 (dk dt_X5_readAmount_1 14 rfl) rfl rfl ?_
  refine go_iload_n X 1 (dk dt_X5_readAmount_1 15 rfl) rfl rfl ?_
  refine go_Vi (As := [.int x1]) (rest := []) X vo_X5_92 (fun q hq => ho_X5_readTerm  hq) hdd rfl lC_60 sC_60 rfl rfl (Nat.le_of_ble_eq_true rfl) (dk dt_X5_readAmount_2 0 rfl) h (fun q56 h => ?_)
  refine go_if_ne (tgt := 64) X (dk dt_X5_readAmount_2 1 rfl) (by decide) h (fun h => ?_) (fun h => ?_)
  · refine go_aload_n X 0 (dk dt_X5_readAmount_2 4 rfl) rfl rfl ?_
    refine go_getd X fo_X5_15 lC_60 sC_60 fC_60_1 (dk dt_X5_readAmount_2 5 rfl) ?_
    obtain ⟨g1, h⟩ := gd_some h
    refine go_iload_n X 3 (dk dt_X5_readAmount_2 6 rfl) rfl rfl ?_
    refine go_iconst X (dk dt_X5_readAmount_2 7 rfl) ci_0 ?_
    refine go_Vi (As := [.int x3, .int (0 : Int32)]) (rest := []) X vo_X5_79 (fun q hq => ct_X4_add hi xc nx g1 hq) (by omega) rfl (lL g1) (sL g1) rfl rfl (Nat.le_of_ble_eq_true rfl) (dk dt_X5_readAmount_2 8 rfl) h (fun q70 h => ?_)
    refine go_pop X (dk dt_X5_readAmount_2 9 rfl) rfl ?_
    refine go_iinc (lv' := [(2, .int (x2 + (1 : Int32))), (0, .ref 60), (1, .int x1), (3, .int x3)]) X 2 (dk dt_X5_readAmount_2 10 rfl) rfl ci_1 (by decide) rfl ?_
    refine go_goto (tgt := 12) X (dk dt_X5_readAmount_2 11 rfl) (by decide) ?_
    refine go_sub [1, 2, 0] rfl ?_
    exact hk12 _ _ _  h
  · refine go_iconst X (dk dt_X5_readAmount_2 2 rfl) ci_0 ?_
    exact go_iret rt (dk dt_X5_readAmount_2 3 rfl) h (by decide)
set_option maxRecDepth 20000 in
theorem lkB_X5_readAmount_12 (hi : zInj wC v) (xc : XC wC v) (nx : NXC v) (X : Cx wC v p R s m args c 0 0 cX5_readAmount 4 RX5 d) (rt : Rt wC v p l e R s m args below meth c 0 0 Q cX5_readAmount true (some (.int res.1)) res.2) (hdb : 14 ≤ d) (ho_X5_readTerm : ∀ {b0 : Int32} {σ : Hp} {q : (Int32 × Hp)},  o_X5_readTerm b0 σ = some q → Ct wC v l yX5_readTerm cX5_readTerm 4 (some .boolean) d' [.ref 60, .int b0] σ (some (.int q.1)) q.2) (hdd : d' < d) {k12 : Int32 → Int32 → Hp → Option (Int32 × Hp)} {x1 : Int32} {x2 : Int32} {σ : Hp}  (hk12 : ∀ (x1 : Int32) (x2 : Int32) (σ : Hp),  k12 x1 x2 σ = some res → Go wC v p l e R s m args below meth c 0 0 Q 4 12 [(0, .ref 60), (1, .int x1), (2, .int x2)] [] σ) (h : B_X5_readAmount_12 o_X5_readTerm k12 x1 x2 σ = some res) : Go wC v p l e R s m args below meth c 0 0 Q 4 12 [(0, .ref 60), (1, .int x1), (2, .int x2)] [] σ := by
  unfold B_X5_readAmount_12 at h
  refine go_iload_n X 2 (dk dt_X5_readAmount_0 8 rfl) rfl rfl ?_
  refine go_sipush X (dk dt_X5_readAmount_0 9 rfl) cs_240 ?_
  refine go_icmp_ge (tgt := 80) X (dk dt_X5_readAmount_0 10 rfl) (by decide) h (fun h => ?_) (fun h => ?_)
  · refine go_iconst X (dk dt_X5_readAmount_2 12 rfl) ci_1 ?_
    exact go_iret rt (dk dt_X5_readAmount_2 13 rfl) h (by decide)
  · refine go_aload_n X 0 (dk dt_X5_readAmount_0 11 rfl) rfl rfl ?_
    refine go_getr X fo_X5_9 lC_60 sC_60 fC_60_0 (dk dt_X5_readAmount_0 12 rfl) ?_
    refine go_Vi (As := []) (rest := []) X vo_X5_29 (fun q hq => ct_X8_here hi xc nx  hq) (by omega) rfl lC_23 sC_23 rfl rfl (Nat.le_of_ble_eq_true rfl) (dk dt_X5_readAmount_0 13 rfl) h (fun q23 h => ?_)
    refine go_istore_n (lv' := [(3, .int q23.1), (0, .ref 60), (1, .int x1), (2, .int x2)]) X (dk dt_X5_readAmount_0 14 rfl) rfl (by decide) rfl ?_
    refine go_iload_n X 0 (dk dt_X5_readAmount_0 15 rfl) rfl rfl ?_
    refine go_bipush X (dk dt_X5_readAmount_1 0 rfl) cb_43 ?_
    refine go_icmp_eq (tgt := 41) X (dk dt_X5_readAmount_1 1 rfl) (by decide) h (fun h => ?_) (fun h => ?_)
    · refine go_sub [1, 2, 3, 0] rfl ?_
      exact lkJ_X5_readAmount_41 hi xc nx X rt hdb ho_X5_readTerm hdd  hk12 h
    · refine go_iload_n X 0 (dk dt_X5_readAmount_1 2 rfl) rfl rfl ?_
      refine go_bipush X (dk dt_X5_readAmount_1 3 rfl) cb_45 ?_
      refine go_icmp_eq (tgt := 41) X (dk dt_X5_readAmount_1 4 rfl) (by decide) h (fun h => ?_) (fun h => ?_)
      · refine go_sub [1, 2, 3, 0] rfl ?_
        exact lkJ_X5_readAmount_41 hi xc nx X rt hdb ho_X5_readTerm hdd  hk12 h
      · refine go_iconst X (dk dt_X5_readAmount_1 5 rfl) ci_1 ?_
        exact go_iret rt (dk dt_X5_readAmount_1 6 rfl) h (by decide)
set_option maxRecDepth 20000 in
theorem lkL_X5_readAmount_12 (hi : zInj wC v) (xc : XC wC v) (nx : NXC v) (X : Cx wC v p R s m args c 0 0 cX5_readAmount 4 RX5 d) (rt : Rt wC v p l e R s m args below meth c 0 0 Q cX5_readAmount true (some (.int res.1)) res.2) (hdb : 14 ≤ d) (ho_X5_readTerm : ∀ {b0 : Int32} {σ : Hp} {q : (Int32 × Hp)},  o_X5_readTerm b0 σ = some q → Ct wC v l yX5_readTerm cX5_readTerm 4 (some .boolean) d' [.ref 60, .int b0] σ (some (.int q.1)) q.2) (hdd : d' < d)   (n : Nat) : ∀ {x1 : Int32} {x2 : Int32} {σ : Hp},  L_X5_readAmount_12 o_X5_readTerm  n x1 x2 σ = some res → Go wC v p l e R s m args below meth c 0 0 Q 4 12 [(0, .ref 60), (1, .int x1), (2, .int x2)] [] σ := by
  induction n with
  | zero => intro x1 x2 σ  h; cases h
  | succ n ih =>
    intro x1 x2 σ  h
    exact lkB_X5_readAmount_12 hi xc nx X rt hdb ho_X5_readTerm hdd  (fun _ _ _  hh => ih  hh) h
set_option maxRecDepth 20000 in
theorem lkF_X5_readAmount (hi : zInj wC v) (xc : XC wC v) (nx : NXC v) (X : Cx wC v p R s m args c 0 0 cX5_readAmount 4 RX5 d) (rt : Rt wC v p l e R s m args below meth c 0 0 Q cX5_readAmount true (some (.int res.1)) res.2) (hdb : 14 ≤ d) (ho_X5_readTerm : ∀ {b0 : Int32} {σ : Hp} {q : (Int32 × Hp)},  o_X5_readTerm b0 σ = some q → Ct wC v l yX5_readTerm cX5_readTerm 4 (some .boolean) d' [.ref 60, .int b0] σ (some (.int q.1)) q.2) (hdd : d' < d) {a1 : Int32} {σ : Hp}  (h : F_X5_readAmount o_X5_readTerm a1 σ = some res) : Go wC v p l e R s m args below meth c 0 0 Q 4 0 [(0, .ref 60), (1, .int a1)] [] σ := by
  unfold F_X5_readAmount at h
  refine go_aload_n X 0 (dk dt_X5_readAmount_0 0 rfl) rfl rfl ?_
  refine go_iload_n X 1 (dk dt_X5_readAmount_0 1 rfl) rfl rfl ?_
  refine go_Vi (As := [.int a1]) (rest := []) X vo_X5_92 (fun q hq => ho_X5_readTerm  hq) hdd rfl lC_60 sC_60 rfl rfl (Nat.le_of_ble_eq_true rfl) (dk dt_X5_readAmount_0 2 rfl) h (fun q2 h => ?_)
  refine go_if_ne (tgt := 10) X (dk dt_X5_readAmount_0 3 rfl) (by decide) h (fun h => ?_) (fun h => ?_)
  · refine go_iconst X (dk dt_X5_readAmount_0 6 rfl) ci_0 ?_
    refine go_istore_n (lv' := [(2, .int (0 : Int32)), (0, .ref 60), (1, .int a1)]) X (dk dt_X5_readAmount_0 7 rfl) rfl (by decide) rfl ?_
    refine go_sub [1, 2, 0] rfl ?_
    exact lkL_X5_readAmount_12 hi xc nx X rt hdb ho_X5_readTerm hdd  FU  h
  · refine go_iconst X (dk dt_X5_readAmount_0 4 rfl) ci_0 ?_
    exact go_iret rt (dk dt_X5_readAmount_0 5 rfl) h (by decide)
set_option maxRecDepth 20000 in
theorem ct_X5_readAmount (hi : zInj wC v) (xc : XC wC v) (nx : NXC v)  (hdb : 14 ≤ d) (ho_X5_readTerm : ∀ {b0 : Int32} {σ : Hp} {q : (Int32 × Hp)},  o_X5_readTerm b0 σ = some q → Ct wC v l yX5_readTerm cX5_readTerm 4 (some .boolean) d' [.ref 60, .int b0] σ (some (.int q.1)) q.2) (hdd : d' < d) {a1 : Int32} {σ : Hp}  {q : (Int32 × Hp)} (h : F_X5_readAmount o_X5_readTerm a1 σ = some q) : Ct wC v l yX5_readAmount cX5_readAmount 4 (some .boolean) d [.ref 60, .int a1] σ (some (.int q.1)) q.2 :=
  Ct.intro true (by decide) hi xc (Nat.le_of_ble_eq_true rfl) rfl (fun p e R s m args below meth c Q X rt => lkF_X5_readAmount hi xc nx X rt hdb ho_X5_readTerm hdd  h)
end
def T_X5_readFactor_0 : DT := [(0, .aload_n 0, 1), (1, .getfield 9, 3), (4, .invokevirtual 29, 3), (7, .bipush 91, 2), (9, .if_icmp .ne 56, 3), (12, .iload_n 1, 1), (13, .bipush 6, 2), (15, .if_icmp .lt 12, 3), (18, .aload_n 0, 1), (19, .getfield 9, 3), (22, .iconst 5, 1), (23, .invokevirtual 33, 3), (26, .ireturn, 1), (27, .aload_n 0, 1), (28, .getfield 9, 3), (31, .dup, 1)]
theorem dt_X5_readFactor_0 : dOk cX5_readFactor T_X5_readFactor_0 := by unfold dOk; decide +kernel
def T_X5_readFactor_1 : DT := [(32, .getfield 44, 3), (35, .iconst 1, 1), (36, .iadd, 1), (37, .putfield 44, 3), (40, .aload_n 0, 1), (41, .iload_n 1, 1), (42, .iconst 1, 1), (43, .iadd, 1), (44, .invokevirtual 58, 3), (47, .ifCond .eq 16, 3), (50, .aload_n 0, 1), (51, .bipush 93, 2), (53, .invokevirtual 67, 3), (56, .ifCond .eq 7, 3), (59, .iconst 1, 1), (60, .goto 4, 3)]
theorem dt_X5_readFactor_1 : dOk cX5_readFactor T_X5_readFactor_1 := by unfold dOk; decide +kernel
def T_X5_readFactor_2 : DT := [(63, .iconst 0, 1), (64, .ireturn, 1), (65, .aload_n 0, 1), (66, .getfield 9, 3), (69, .invokevirtual 98, 3), (72, .iconst (-1), 1), (73, .if_icmp .eq 33, 3), (76, .aload_n 0, 1), (77, .getfield 9, 3), (80, .iconst 5, 1), (81, .invokevirtual 101, 3), (84, .istore_n 2, 1), (85, .aload_n 0, 1), (86, .getfield 15, 3), (89, .bipush 110, 2), (91, .iload_n 2, 1)]
theorem dt_X5_readFactor_2 : dOk cX5_readFactor T_X5_readFactor_2 := by unfold dOk; decide +kernel
def T_X5_readFactor_3 : DT := [(92, .invokevirtual 79, 3), (95, .pop, 1), (96, .iload_n 2, 1), (97, .ifCond .lt 7, 3), (100, .iconst 1, 1), (101, .goto 4, 3), (104, .iconst 0, 1), (105, .ireturn, 1), (106, .aload_n 0, 1), (107, .getfield 9, 3), (110, .invokevirtual 29, 3), (113, .iconst (-1), 1), (114, .if_icmp .ne 7, 3), (117, .iconst (-1), 1), (118, .goto 16, 3), (121, .ldc 105, 2)]
theorem dt_X5_readFactor_3 : dOk cX5_readFactor T_X5_readFactor_3 := by unfold dOk; decide +kernel
def T_X5_readFactor_4 : DT := [(123, .aload_n 0, 1), (124, .getfield 9, 3), (127, .invokevirtual 29, 3), (130, .i2c, 1), (131, .invokevirtual 107, 3), (134, .istore_n 2, 1), (135, .iload_n 2, 1), (136, .ifCond .ge 12, 3), (139, .aload_n 0, 1), (140, .getfield 9, 3), (143, .iconst 1, 1), (144, .invokevirtual 33, 3), (147, .ireturn, 1), (148, .aload_n 0, 1), (149, .getfield 9, 3), (152, .dup, 1)]
theorem dt_X5_readFactor_4 : dOk cX5_readFactor T_X5_readFactor_4 := by unfold dOk; decide +kernel
def T_X5_readFactor_5 : DT := [(153, .getfield 44, 3), (156, .iconst 1, 1), (157, .iadd, 1), (158, .putfield 44, 3), (161, .aload_n 0, 1), (162, .getfield 15, 3), (165, .bipush 108, 2), (167, .iload_n 2, 1), (168, .invokevirtual 79, 3), (171, .pop, 1), (172, .iconst 1, 1), (173, .ireturn, 1)]
theorem dt_X5_readFactor_5 : dOk cX5_readFactor T_X5_readFactor_5 := by unfold dOk; decide +kernel
section
variable {v : ZV} {l : Launch} {p : Program} {e : Env} {R : Room} {s : State} {m : MethodId} {args : Array Value} {below : List Frame} {meth : Method} {c : Code} {Q : State → Prop} {res : (Int32 × Hp)} {d d' : Nat} {o_X5_readAmount : Int32 → Hp → Option (Int32 × Hp)}
set_option maxRecDepth 20000 in
theorem lkJ_X5_readFactor_134 (hi : zInj wC v) (xc : XC wC v) (nx : NXC v) (X : Cx wC v p R s m args c 0 0 cX5_readFactor 3 RX5 d) (rt : Rt wC v p l e R s m args below meth c 0 0 Q cX5_readFactor true (some (.int res.1)) res.2) (hdb : 14 ≤ d) (ho_X5_readAmount : ∀ {b0 : Int32} {σ : Hp} {q : (Int32 × Hp)},  o_X5_readAmount b0 σ = some q → Ct wC v l yX5_readAmount cX5_readAmount 4 (some .boolean) d' [.ref 60, .int b0] σ (some (.int q.1)) q.2) (hdd : d' < d)  {s0 : Int32} {σ : Hp}   (h : J_X5_readFactor_134 o_X5_readAmount  s0 σ = some res) : Go wC v p l e R s m args below meth c 0 0 Q 3 134 [(0, .ref 60)] [.int s0] σ := by
  unfold J_X5_readFactor_134 at h
  refine go_istore_n (lv' := [(2, .int s0), (0, .ref 60)]) X (dk dt_X5_readFactor_4 5 rfl) rfl (by decide) rfl ?_
  refine go_iload_n X 0 (dk dt_X5_readFactor_4 6 rfl) rfl rfl ?_
  refine go_if_ge (tgt := 148) X (dk dt_X5_readFactor_4 7 rfl) (by decide) h (fun h => ?_) (fun h => ?_)
  · refine go_aload_n X 1 (dk dt_X5_readFactor_4 13 rfl) rfl rfl ?_
    refine go_getr X fo_X5_9 lC_60 sC_60 fC_60_0 (dk dt_X5_readFactor_4 14 rfl) ?_
    refine go_dup X (dk dt_X5_readFactor_4 15 rfl) rfl ?_
    refine go_geti X fo_X5_44 lC_23 sC_23 fC_23_3 (dk dt_X5_readFactor_5 0 rfl) ?_
    refine go_iconst X (dk dt_X5_readFactor_5 1 rfl) ci_1 ?_
    refine go_iadd X (dk dt_X5_readFactor_5 2 rfl) ?_
    refine go_puti X fo_X5_44 pf_8_3 lC_23 sC_23 fC_23_3 (dk dt_X5_readFactor_5 3 rfl) ?_
    refine go_aload_n X 1 (dk dt_X5_readFactor_5 4 rfl) rfl rfl ?_
    refine go_getd X fo_X5_15 lC_60 sC_60 fC_60_1 (dk dt_X5_readFactor_5 5 rfl) ?_
    obtain ⟨g1, h⟩ := gd_some h
    refine go_bipush X (dk dt_X5_readFactor_5 6 rfl) cb_108 ?_
    refine go_iload_n X 0 (dk dt_X5_readFactor_5 7 rfl) rfl rfl ?_
    refine go_Vi (As := [.int (108 : Int32), .int s0]) (rest := []) X vo_X5_79 (fun q hq => ct_X4_add hi xc nx g1 hq) (by omega) rfl (lL g1) (sL g1) rfl rfl (Nat.le_of_ble_eq_true rfl) (dk dt_X5_readFactor_5 8 rfl) h (fun q168 h => ?_)
    refine go_pop X (dk dt_X5_readFactor_5 9 rfl) rfl ?_
    refine go_iconst X (dk dt_X5_readFactor_5 10 rfl) ci_1 ?_
    exact go_iret rt (dk dt_X5_readFactor_5 11 rfl) h (by decide)
  · refine go_aload_n X 1 (dk dt_X5_readFactor_4 8 rfl) rfl rfl ?_
    refine go_getr X fo_X5_9 lC_60 sC_60 fC_60_0 (dk dt_X5_readFactor_4 9 rfl) ?_
    refine go_iconst X (dk dt_X5_readFactor_4 10 rfl) ci_1 ?_
    refine go_Vi (As := [.int (1 : Int32)]) (rest := []) X vo_X5_33 (fun q hq => ct_X8_refuse hi xc nx  hq) (by omega) rfl lC_23 sC_23 rfl rfl (Nat.le_of_ble_eq_true rfl) (dk dt_X5_readFactor_4 11 rfl) h (fun q144 h => ?_)
    exact go_zret rt (dk dt_X5_readFactor_4 12 rfl) h
set_option maxRecDepth 20000 in
theorem lkF_X5_readFactor (hi : zInj wC v) (xc : XC wC v) (nx : NXC v) (X : Cx wC v p R s m args c 0 0 cX5_readFactor 3 RX5 d) (rt : Rt wC v p l e R s m args below meth c 0 0 Q cX5_readFactor true (some (.int res.1)) res.2) (hdb : 14 ≤ d) (ho_X5_readAmount : ∀ {b0 : Int32} {σ : Hp} {q : (Int32 × Hp)},  o_X5_readAmount b0 σ = some q → Ct wC v l yX5_readAmount cX5_readAmount 4 (some .boolean) d' [.ref 60, .int b0] σ (some (.int q.1)) q.2) (hdd : d' < d) {a1 : Int32} {σ : Hp}  (h : F_X5_readFactor o_X5_readAmount a1 σ = some res) : Go wC v p l e R s m args below meth c 0 0 Q 3 0 [(0, .ref 60), (1, .int a1)] [] σ := by
  unfold F_X5_readFactor at h
  refine go_aload_n X 0 (dk dt_X5_readFactor_0 0 rfl) rfl rfl ?_
  refine go_getr X fo_X5_9 lC_60 sC_60 fC_60_0 (dk dt_X5_readFactor_0 1 rfl) ?_
  refine go_Vi (As := []) (rest := []) X vo_X5_29 (fun q hq => ct_X8_here hi xc nx  hq) (by omega) rfl lC_23 sC_23 rfl rfl (Nat.le_of_ble_eq_true rfl) (dk dt_X5_readFactor_0 2 rfl) h (fun q4 h => ?_)
  refine go_bipush X (dk dt_X5_readFactor_0 3 rfl) cb_91 ?_
  refine go_icmp_ne (tgt := 65) X (dk dt_X5_readFactor_0 4 rfl) (by decide) h (fun h => ?_) (fun h => ?_)
  · refine go_aload_n X 0 (dk dt_X5_readFactor_2 2 rfl) rfl rfl ?_
    refine go_getr X fo_X5_9 lC_60 sC_60 fC_60_0 (dk dt_X5_readFactor_2 3 rfl) ?_
    refine go_Vi (As := []) (rest := []) X vo_X5_98 (fun q hq => ct_X8_digit hi xc nx  hq) (by omega) rfl lC_23 sC_23 rfl rfl (Nat.le_of_ble_eq_true rfl) (dk dt_X5_readFactor_2 4 rfl) h (fun q69 h => ?_)
    refine go_iconst X (dk dt_X5_readFactor_2 5 rfl) ci_m1 ?_
    refine go_icmp_eq (tgt := 106) X (dk dt_X5_readFactor_2 6 rfl) (by decide) h (fun h => ?_) (fun h => ?_)
    · refine go_aload_n X 0 (dk dt_X5_readFactor_3 8 rfl) rfl rfl ?_
      refine go_getr X fo_X5_9 lC_60 sC_60 fC_60_0 (dk dt_X5_readFactor_3 9 rfl) ?_
      refine go_Vi (As := []) (rest := []) X vo_X5_29 (fun q hq => ct_X8_here hi xc nx  hq) (by omega) rfl lC_23 sC_23 rfl rfl (Nat.le_of_ble_eq_true rfl) (dk dt_X5_readFactor_3 10 rfl) h (fun q110 h => ?_)
      refine go_iconst X (dk dt_X5_readFactor_3 11 rfl) ci_m1 ?_
      refine go_icmp_ne (tgt := 121) X (dk dt_X5_readFactor_3 12 rfl) (by decide) h (fun h => ?_) (fun h => ?_)
      · refine go_ldcS X nx.2.2.1 (dk dt_X5_readFactor_3 15 rfl) ?_
        refine go_aload_n X 0 (dk dt_X5_readFactor_4 0 rfl) rfl rfl ?_
        refine go_getr X fo_X5_9 lC_60 sC_60 fC_60_0 (dk dt_X5_readFactor_4 1 rfl) ?_
        refine go_Vi (As := []) (rest := [.ref 61]) X vo_X5_29 (fun q hq => ct_X8_here hi xc nx  hq) (by omega) rfl lC_23 sC_23 rfl rfl (Nat.le_of_ble_eq_true rfl) (dk dt_X5_readFactor_4 2 rfl) h (fun q127 h => ?_)
        refine go_i2c X (dk dt_X5_readFactor_4 3 rfl) ?_
        refine nx.2.2.2 _ _ _ _ _ _ _ _ _ _ _ _ _ _ _ _ _ _ _ X (by omega) (Nat.le_of_ble_eq_true rfl) (dk dt_X5_readFactor_4 4 rfl) ?_
        refine go_sub [0] rfl ?_
        exact lkJ_X5_readFactor_134 hi xc nx X rt hdb ho_X5_readAmount hdd   h
      · refine go_iconst X (dk dt_X5_readFactor_3 13 rfl) ci_m1 ?_
        refine go_goto (tgt := 134) X (dk dt_X5_readFactor_3 14 rfl) (by decide) ?_
        refine go_sub [0] rfl ?_
        exact lkJ_X5_readFactor_134 hi xc nx X rt hdb ho_X5_readAmount hdd   h
    · refine go_aload_n X 0 (dk dt_X5_readFactor_2 7 rfl) rfl rfl ?_
      refine go_getr X fo_X5_9 lC_60 sC_60 fC_60_0 (dk dt_X5_readFactor_2 8 rfl) ?_
      refine go_iconst X (dk dt_X5_readFactor_2 9 rfl) ci_5 ?_
      refine go_Vi (As := [.int (5 : Int32)]) (rest := []) X vo_X5_101 (fun q hq => ct_X8_number hi xc nx  hq) (by omega) rfl lC_23 sC_23 rfl rfl (Nat.le_of_ble_eq_true rfl) (dk dt_X5_readFactor_2 10 rfl) h (fun q81 h => ?_)
      refine go_istore_n (lv' := [(2, .int q81.1), (0, .ref 60), (1, .int a1)]) X (dk dt_X5_readFactor_2 11 rfl) rfl (by decide) rfl ?_
      refine go_aload_n X 1 (dk dt_X5_readFactor_2 12 rfl) rfl rfl ?_
      refine go_getd X fo_X5_15 lC_60 sC_60 fC_60_1 (dk dt_X5_readFactor_2 13 rfl) ?_
      obtain ⟨g2, h⟩ := gd_some h
      refine go_bipush X (dk dt_X5_readFactor_2 14 rfl) cb_110 ?_
      refine go_iload_n X 0 (dk dt_X5_readFactor_2 15 rfl) rfl rfl ?_
      refine go_Vi (As := [.int (110 : Int32), .int q81.1]) (rest := []) X vo_X5_79 (fun q hq => ct_X4_add hi xc nx g2 hq) (by omega) rfl (lL g2) (sL g2) rfl rfl (Nat.le_of_ble_eq_true rfl) (dk dt_X5_readFactor_3 0 rfl) h (fun q92 h => ?_)
      refine go_pop X (dk dt_X5_readFactor_3 1 rfl) rfl ?_
      refine go_iload_n X 0 (dk dt_X5_readFactor_3 2 rfl) rfl rfl ?_
      refine go_if_lt (tgt := 104) X (dk dt_X5_readFactor_3 3 rfl) (by decide) h (fun h => ?_) (fun h => ?_)
      · refine go_iconst X (dk dt_X5_readFactor_3 6 rfl) ci_0 ?_
        exact go_iret rt (dk dt_X5_readFactor_3 7 rfl) h (by decide)
      · refine go_iconst X (dk dt_X5_readFactor_3 4 rfl) ci_1 ?_
        refine go_goto (tgt := 105) X (dk dt_X5_readFactor_3 5 rfl) (by decide) ?_
        exact go_iret rt (dk dt_X5_readFactor_3 7 rfl) h (by decide)
  · refine go_iload_n X 1 (dk dt_X5_readFactor_0 5 rfl) rfl rfl ?_
    refine go_bipush X (dk dt_X5_readFactor_0 6 rfl) cb_6 ?_
    refine go_icmp_lt (tgt := 27) X (dk dt_X5_readFactor_0 7 rfl) (by decide) h (fun h => ?_) (fun h => ?_)
    · refine go_aload_n X 0 (dk dt_X5_readFactor_0 13 rfl) rfl rfl ?_
      refine go_getr X fo_X5_9 lC_60 sC_60 fC_60_0 (dk dt_X5_readFactor_0 14 rfl) ?_
      refine go_dup X (dk dt_X5_readFactor_0 15 rfl) rfl ?_
      refine go_geti X fo_X5_44 lC_23 sC_23 fC_23_3 (dk dt_X5_readFactor_1 0 rfl) ?_
      refine go_iconst X (dk dt_X5_readFactor_1 1 rfl) ci_1 ?_
      refine go_iadd X (dk dt_X5_readFactor_1 2 rfl) ?_
      refine go_puti X fo_X5_44 pf_8_3 lC_23 sC_23 fC_23_3 (dk dt_X5_readFactor_1 3 rfl) ?_
      refine go_aload_n X 0 (dk dt_X5_readFactor_1 4 rfl) rfl rfl ?_
      refine go_iload_n X 1 (dk dt_X5_readFactor_1 5 rfl) rfl rfl ?_
      refine go_iconst X (dk dt_X5_readFactor_1 6 rfl) ci_1 ?_
      refine go_iadd X (dk dt_X5_readFactor_1 7 rfl) ?_
      refine go_Vi (As := [.int (a1 + (1 : Int32))]) (rest := []) X vo_X5_58 (fun q hq => ho_X5_readAmount  hq) hdd rfl lC_60 sC_60 rfl rfl (Nat.le_of_ble_eq_true rfl) (dk dt_X5_readFactor_1 8 rfl) h (fun q44 h => ?_)
      refine go_if_eq (tgt := 63) X (dk dt_X5_readFactor_1 9 rfl) (by decide) h (fun h => ?_) (fun h => ?_)
      · refine go_iconst X (dk dt_X5_readFactor_2 0 rfl) ci_0 ?_
        exact go_iret rt (dk dt_X5_readFactor_2 1 rfl) h (by decide)
      · refine go_aload_n X 0 (dk dt_X5_readFactor_1 10 rfl) rfl rfl ?_
        refine go_bipush X (dk dt_X5_readFactor_1 11 rfl) cb_93 ?_
        refine go_Vi (As := [.int (93 : Int32)]) (rest := []) X vo_X5_67 (fun q hq => ct_X5_readClosing hi xc nx  hq) (by omega) rfl lC_60 sC_60 rfl rfl (Nat.le_of_ble_eq_true rfl) (dk dt_X5_readFactor_1 12 rfl) h (fun q53 h => ?_)
        refine go_if_eq (tgt := 63) X (dk dt_X5_readFactor_1 13 rfl) (by decide) h (fun h => ?_) (fun h => ?_)
        · refine go_iconst X (dk dt_X5_readFactor_2 0 rfl) ci_0 ?_
          exact go_iret rt (dk dt_X5_readFactor_2 1 rfl) h (by decide)
        · refine go_iconst X (dk dt_X5_readFactor_1 14 rfl) ci_1 ?_
          refine go_goto (tgt := 64) X (dk dt_X5_readFactor_1 15 rfl) (by decide) ?_
          exact go_iret rt (dk dt_X5_readFactor_2 1 rfl) h (by decide)
    · refine go_aload_n X 0 (dk dt_X5_readFactor_0 8 rfl) rfl rfl ?_
      refine go_getr X fo_X5_9 lC_60 sC_60 fC_60_0 (dk dt_X5_readFactor_0 9 rfl) ?_
      refine go_iconst X (dk dt_X5_readFactor_0 10 rfl) ci_5 ?_
      refine go_Vi (As := [.int (5 : Int32)]) (rest := []) X vo_X5_33 (fun q hq => ct_X8_refuse hi xc nx  hq) (by omega) rfl lC_23 sC_23 rfl rfl (Nat.le_of_ble_eq_true rfl) (dk dt_X5_readFactor_0 11 rfl) h (fun q23 h => ?_)
      exact go_zret rt (dk dt_X5_readFactor_0 12 rfl) h
set_option maxRecDepth 20000 in
theorem ct_X5_readFactor (hi : zInj wC v) (xc : XC wC v) (nx : NXC v)  (hdb : 14 ≤ d) (ho_X5_readAmount : ∀ {b0 : Int32} {σ : Hp} {q : (Int32 × Hp)},  o_X5_readAmount b0 σ = some q → Ct wC v l yX5_readAmount cX5_readAmount 4 (some .boolean) d' [.ref 60, .int b0] σ (some (.int q.1)) q.2) (hdd : d' < d) {a1 : Int32} {σ : Hp}  {q : (Int32 × Hp)} (h : F_X5_readFactor o_X5_readAmount a1 σ = some q) : Ct wC v l yX5_readFactor cX5_readFactor 3 (some .boolean) d [.ref 60, .int a1] σ (some (.int q.1)) q.2 :=
  Ct.intro true (by decide) hi xc (Nat.le_of_ble_eq_true rfl) rfl (fun p e R s m args below meth c Q X rt => lkF_X5_readFactor hi xc nx X rt hdb ho_X5_readAmount hdd  h)
end
def T_X5_readTerm_0 : DT := [(0, .aload_n 0, 1), (1, .iload_n 1, 1), (2, .invokevirtual 95, 3), (5, .ifCond .ne 5, 3), (8, .iconst 0, 1), (9, .ireturn, 1), (10, .iconst 0, 1), (11, .istore_n 2, 1), (12, .iload_n 2, 1), (13, .sipush 240, 3), (16, .if_icmp .ge 70, 3), (19, .aload_n 0, 1), (20, .getfield 9, 3), (23, .invokevirtual 29, 3), (26, .istore_n 3, 1), (27, .iload_n 3, 1)]
theorem dt_X5_readTerm_0 : dOk cX5_readTerm T_X5_readTerm_0 := by unfold dOk; decide +kernel
def T_X5_readTerm_1 : DT := [(28, .bipush 42, 2), (30, .if_icmp .eq 17, 3), (33, .iload_n 3, 1), (34, .bipush 47, 2), (36, .if_icmp .eq 11, 3), (39, .iload_n 3, 1), (40, .bipush 37, 2), (42, .if_icmp .eq 5, 3), (45, .iconst 1, 1), (46, .ireturn, 1), (47, .aload_n 0, 1), (48, .getfield 9, 3), (51, .dup, 1), (52, .getfield 44, 3), (55, .iconst 1, 1), (56, .iadd, 1)]
theorem dt_X5_readTerm_1 : dOk cX5_readTerm T_X5_readTerm_1 := by unfold dOk; decide +kernel
def T_X5_readTerm_2 : DT := [(57, .putfield 44, 3), (60, .aload_n 0, 1), (61, .iload_n 1, 1), (62, .invokevirtual 95, 3), (65, .ifCond .ne 5, 3), (68, .iconst 0, 1), (69, .ireturn, 1), (70, .aload_n 0, 1), (71, .getfield 15, 3), (74, .iload_n 3, 1), (75, .iconst 0, 1), (76, .invokevirtual 79, 3), (79, .pop, 1), (80, .iinc 2 1, 3), (83, .goto (-71), 3), (86, .iconst 1, 1)]
theorem dt_X5_readTerm_2 : dOk cX5_readTerm T_X5_readTerm_2 := by unfold dOk; decide +kernel
def T_X5_readTerm_3 : DT := [(87, .ireturn, 1)]
theorem dt_X5_readTerm_3 : dOk cX5_readTerm T_X5_readTerm_3 := by unfold dOk; decide +kernel
section
variable {v : ZV} {l : Launch} {p : Program} {e : Env} {R : Room} {s : State} {m : MethodId} {args : Array Value} {below : List Frame} {meth : Method} {c : Code} {Q : State → Prop} {res : (Int32 × Hp)} {d d' : Nat} {o_X5_readFactor : Int32 → Hp → Option (Int32 × Hp)}
set_option maxRecDepth 20000 in
theorem lkJ_X5_readTerm_47 (hi : zInj wC v) (xc : XC wC v) (nx : NXC v) (X : Cx wC v p R s m args c 0 0 cX5_readTerm 4 RX5 d) (rt : Rt wC v p l e R s m args below meth c 0 0 Q cX5_readTerm true (some (.int res.1)) res.2) (hdb : 14 ≤ d) (ho_X5_readFactor : ∀ {b0 : Int32} {σ : Hp} {q : (Int32 × Hp)},  o_X5_readFactor b0 σ = some q → Ct wC v l yX5_readFactor cX5_readFactor 3 (some .boolean) d' [.ref 60, .int b0] σ (some (.int q.1)) q.2) (hdd : d' < d) {k12 : Int32 → Int32 → Hp → Option (Int32 × Hp)} {x1 : Int32} {x2 : Int32} {x3 : Int32} {σ : Hp}  (hk12 : ∀ (x1 : Int32) (x2 : Int32) (σ : Hp),  k12 x1 x2 σ = some res → Go wC v p l e R s m args below meth c 0 0 Q 4 12 [(0, .ref 60), (1, .int x1), (2, .int x2)] [] σ) (h : J_X5_readTerm_47 o_X5_readFactor k12 x1 x2 x3 σ = some res) : Go wC v p l e R s m args below meth c 0 0 Q 4 47 [(0, .ref 60), (1, .int x1), (2, .int x2), (3, .int x3)] [] σ := by
  unfold J_X5_readTerm_47 at h
  refine go_aload_n X 0 (dk dt_X5_readTerm_1 10 rfl) rfl rfl ?_
  refine go_getr X fo_X5_9 lC_60 sC_60 fC_60_0 (dk dt_X5_readTerm_1 11 rfl) ?_
  refine go_dup X (dk dt_X5_readTerm_1 12 rfl) rfl ?_
  refine go_geti X fo_X5_44 lC_23 sC_23 fC_23_3 (dk dt_X5_readTerm_1 13 rfl) ?_
  refine go_iconst X (dk dt_X5_readTerm_1 14 rfl) ci_1 ?_
  refine go_iadd X (dk dt_X5_readTerm_1 15 rfl) ?_
  refine go_puti X fo_X5_44 pf_8_3 lC_23 sC_23 fC_23_3 (dk dt_X5_readTerm_2 0 rfl) ?_
  refine go_aload_n X 0 (dk dt_X5_readTerm_2 1 rfl) rfl rfl ?_
  refine go_iload_n X 1 (dk dt_X5_readTerm_2 2 rfl) rfl rfl ?_
  refine go_Vi (As := [.int x1]) (rest := []) X vo_X5_95 (fun q hq => ho_X5_readFactor  hq) hdd rfl lC_60 sC_60 rfl rfl (Nat.le_of_ble_eq_true rfl) (dk dt_X5_readTerm_2 3 rfl) h (fun q62 h => ?_)
  refine go_if_ne (tgt := 70) X (dk dt_X5_readTerm_2 4 rfl) (by decide) h (fun h => ?_) (fun h => ?_)
  · refine go_aload_n X 0 (dk dt_X5_readTerm_2 7 rfl) rfl rfl ?_
    refine go_getd X fo_X5_15 lC_60 sC_60 fC_60_1 (dk dt_X5_readTerm_2 8 rfl) ?_
    obtain ⟨g1, h⟩ := gd_some h
    refine go_iload_n X 3 (dk dt_X5_readTerm_2 9 rfl) rfl rfl ?_
    refine go_iconst X (dk dt_X5_readTerm_2 10 rfl) ci_0 ?_
    refine go_Vi (As := [.int x3, .int (0 : Int32)]) (rest := []) X vo_X5_79 (fun q hq => ct_X4_add hi xc nx g1 hq) (by omega) rfl (lL g1) (sL g1) rfl rfl (Nat.le_of_ble_eq_true rfl) (dk dt_X5_readTerm_2 11 rfl) h (fun q76 h => ?_)
    refine go_pop X (dk dt_X5_readTerm_2 12 rfl) rfl ?_
    refine go_iinc (lv' := [(2, .int (x2 + (1 : Int32))), (0, .ref 60), (1, .int x1), (3, .int x3)]) X 2 (dk dt_X5_readTerm_2 13 rfl) rfl ci_1 (by decide) rfl ?_
    refine go_goto (tgt := 12) X (dk dt_X5_readTerm_2 14 rfl) (by decide) ?_
    refine go_sub [1, 2, 0] rfl ?_
    exact hk12 _ _ _  h
  · refine go_iconst X (dk dt_X5_readTerm_2 5 rfl) ci_0 ?_
    exact go_iret rt (dk dt_X5_readTerm_2 6 rfl) h (by decide)
set_option maxRecDepth 20000 in
theorem lkB_X5_readTerm_12 (hi : zInj wC v) (xc : XC wC v) (nx : NXC v) (X : Cx wC v p R s m args c 0 0 cX5_readTerm 4 RX5 d) (rt : Rt wC v p l e R s m args below meth c 0 0 Q cX5_readTerm true (some (.int res.1)) res.2) (hdb : 14 ≤ d) (ho_X5_readFactor : ∀ {b0 : Int32} {σ : Hp} {q : (Int32 × Hp)},  o_X5_readFactor b0 σ = some q → Ct wC v l yX5_readFactor cX5_readFactor 3 (some .boolean) d' [.ref 60, .int b0] σ (some (.int q.1)) q.2) (hdd : d' < d) {k12 : Int32 → Int32 → Hp → Option (Int32 × Hp)} {x1 : Int32} {x2 : Int32} {σ : Hp}  (hk12 : ∀ (x1 : Int32) (x2 : Int32) (σ : Hp),  k12 x1 x2 σ = some res → Go wC v p l e R s m args below meth c 0 0 Q 4 12 [(0, .ref 60), (1, .int x1), (2, .int x2)] [] σ) (h : B_X5_readTerm_12 o_X5_readFactor k12 x1 x2 σ = some res) : Go wC v p l e R s m args below meth c 0 0 Q 4 12 [(0, .ref 60), (1, .int x1), (2, .int x2)] [] σ := by
  unfold B_X5_readTerm_12 at h
  refine go_iload_n X 2 (dk dt_X5_readTerm_0 8 rfl) rfl rfl ?_
  refine go_sipush X (dk dt_X5_readTerm_0 9 rfl) cs_240 ?_
  refine go_icmp_ge (tgt := 86) X (dk dt_X5_readTerm_0 10 rfl) (by decide) h (fun h => ?_) (fun h => ?_)
  · refine go_iconst X (dk dt_X5_readTerm_2 15 rfl) ci_1 ?_
    exact go_iret rt (dk dt_X5_readTerm_3 0 rfl) h (by decide)
  · refine go_aload_n X 0 (dk dt_X5_readTerm_0 11 rfl) rfl rfl ?_
    refine go_getr X fo_X5_9 lC_60 sC_60 fC_60_0 (dk dt_X5_readTerm_0 12 rfl) ?_
    refine go_Vi (As := []) (rest := []) X vo_X5_29 (fun q hq => ct_X8_here hi xc nx  hq) (by omega) rfl lC_23 sC_23 rfl rfl (Nat.le_of_ble_eq_true rfl) (dk dt_X5_readTerm_0 13 rfl) h (fun q23 h => ?_)
    refine go_istore_n (lv' := [(3, .int q23.1), (0, .ref 60), (1, .int x1), (2, .int x2)]) X (dk dt_X5_readTerm_0 14 rfl) rfl (by decide) rfl ?_
    refine go_iload_n X 0 (dk dt_X5_readTerm_0 15 rfl) rfl rfl ?_
    refine go_bipush X (dk dt_X5_readTerm_1 0 rfl) cb_42 ?_
    refine go_icmp_eq (tgt := 47) X (dk dt_X5_readTerm_1 1 rfl) (by decide) h (fun h => ?_) (fun h => ?_)
    · refine go_sub [1, 2, 3, 0] rfl ?_
      exact lkJ_X5_readTerm_47 hi xc nx X rt hdb ho_X5_readFactor hdd  hk12 h
    · refine go_iload_n X 0 (dk dt_X5_readTerm_1 2 rfl) rfl rfl ?_
      refine go_bipush X (dk dt_X5_readTerm_1 3 rfl) cb_47 ?_
      refine go_icmp_eq (tgt := 47) X (dk dt_X5_readTerm_1 4 rfl) (by decide) h (fun h => ?_) (fun h => ?_)
      · refine go_sub [1, 2, 3, 0] rfl ?_
        exact lkJ_X5_readTerm_47 hi xc nx X rt hdb ho_X5_readFactor hdd  hk12 h
      · refine go_iload_n X 0 (dk dt_X5_readTerm_1 5 rfl) rfl rfl ?_
        refine go_bipush X (dk dt_X5_readTerm_1 6 rfl) cb_37 ?_
        refine go_icmp_eq (tgt := 47) X (dk dt_X5_readTerm_1 7 rfl) (by decide) h (fun h => ?_) (fun h => ?_)
        · refine go_sub [1, 2, 3, 0] rfl ?_
          exact lkJ_X5_readTerm_47 hi xc nx X rt hdb ho_X5_readFactor hdd  hk12 h
        · refine go_iconst X (dk dt_X5_readTerm_1 8 rfl) ci_1 ?_
          exact go_iret rt (dk dt_X5_readTerm_1 9 rfl) h (by decide)
set_option maxRecDepth 20000 in
theorem lkL_X5_readTerm_12 (hi : zInj wC v) (xc : XC wC v) (nx : NXC v) (X : Cx wC v p R s m args c 0 0 cX5_readTerm 4 RX5 d) (rt : Rt wC v p l e R s m args below meth c 0 0 Q cX5_readTerm true (some (.int res.1)) res.2) (hdb : 14 ≤ d) (ho_X5_readFactor : ∀ {b0 : Int32} {σ : Hp} {q : (Int32 × Hp)},  o_X5_readFactor b0 σ = some q → Ct wC v l yX5_readFactor cX5_readFactor 3 (some .boolean) d' [.ref 60, .int b0] σ (some (.int q.1)) q.2) (hdd : d' < d)   (n : Nat) : ∀ {x1 : Int32} {x2 : Int32} {σ : Hp},  L_X5_readTerm_12 o_X5_readFactor  n x1 x2 σ = some res → Go wC v p l e R s m args below meth c 0 0 Q 4 12 [(0, .ref 60), (1, .int x1), (2, .int x2)] [] σ := by
  induction n with
  | zero => intro x1 x2 σ  h; cases h
  | succ n ih =>
    intro x1 x2 σ  h
    exact lkB_X5_readTerm_12 hi xc nx X rt hdb ho_X5_readFactor hdd  (fun _ _ _  hh => ih  hh) h
set_option maxRecDepth 20000 in
theorem lkF_X5_readTerm (hi : zInj wC v) (xc : XC wC v) (nx : NXC v) (X : Cx wC v p R s m args c 0 0 cX5_readTerm 4 RX5 d) (rt : Rt wC v p l e R s m args below meth c 0 0 Q cX5_readTerm true (some (.int res.1)) res.2) (hdb : 14 ≤ d) (ho_X5_readFactor : ∀ {b0 : Int32} {σ : Hp} {q : (Int32 × Hp)},  o_X5_readFactor b0 σ = some q → Ct wC v l yX5_readFactor cX5_readFactor 3 (some .boolean) d' [.ref 60, .int b0] σ (some (.int q.1)) q.2) (hdd : d' < d) {a1 : Int32} {σ : Hp}  (h : F_X5_readTerm o_X5_readFactor a1 σ = some res) : Go wC v p l e R s m args below meth c 0 0 Q 4 0 [(0, .ref 60), (1, .int a1)] [] σ := by
  unfold F_X5_readTerm at h
  refine go_aload_n X 0 (dk dt_X5_readTerm_0 0 rfl) rfl rfl ?_
  refine go_iload_n X 1 (dk dt_X5_readTerm_0 1 rfl) rfl rfl ?_
  refine go_Vi (As := [.int a1]) (rest := []) X vo_X5_95 (fun q hq => ho_X5_readFactor  hq) hdd rfl lC_60 sC_60 rfl rfl (Nat.le_of_ble_eq_true rfl) (dk dt_X5_readTerm_0 2 rfl) h (fun q2 h => ?_)
  refine go_if_ne (tgt := 10) X (dk dt_X5_readTerm_0 3 rfl) (by decide) h (fun h => ?_) (fun h => ?_)
  · refine go_iconst X (dk dt_X5_readTerm_0 6 rfl) ci_0 ?_
    refine go_istore_n (lv' := [(2, .int (0 : Int32)), (0, .ref 60), (1, .int a1)]) X (dk dt_X5_readTerm_0 7 rfl) rfl (by decide) rfl ?_
    refine go_sub [1, 2, 0] rfl ?_
    exact lkL_X5_readTerm_12 hi xc nx X rt hdb ho_X5_readFactor hdd  FU  h
  · refine go_iconst X (dk dt_X5_readTerm_0 4 rfl) ci_0 ?_
    exact go_iret rt (dk dt_X5_readTerm_0 5 rfl) h (by decide)
set_option maxRecDepth 20000 in
theorem ct_X5_readTerm (hi : zInj wC v) (xc : XC wC v) (nx : NXC v)  (hdb : 14 ≤ d) (ho_X5_readFactor : ∀ {b0 : Int32} {σ : Hp} {q : (Int32 × Hp)},  o_X5_readFactor b0 σ = some q → Ct wC v l yX5_readFactor cX5_readFactor 3 (some .boolean) d' [.ref 60, .int b0] σ (some (.int q.1)) q.2) (hdd : d' < d) {a1 : Int32} {σ : Hp}  {q : (Int32 × Hp)} (h : F_X5_readTerm o_X5_readFactor a1 σ = some q) : Ct wC v l yX5_readTerm cX5_readTerm 4 (some .boolean) d [.ref 60, .int a1] σ (some (.int q.1)) q.2 :=
  Ct.intro true (by decide) hi xc (Nat.le_of_ble_eq_true rfl) rfl (fun p e R s m args below meth c Q X rt => lkF_X5_readTerm hi xc nx X rt hdb ho_X5_readFactor hdd  h)
end
section
variable {v : ZV} {l : Launch}
set_option maxRecDepth 100000 in
theorem ct_G_X5_readAmount (hi : zInj wC v) (xc : XC wC v) (nx : NXC v) (n : Nat) : (∀ {b0 : Int32} {σ : Hp} {q : (Int32 × Hp)},  G_X5_readAmount n 0 b0 σ = some q → Ct wC v l yX5_readAmount cX5_readAmount 4 (some .boolean) (14 + n) [.ref 60, .int b0] σ (some (.int q.1)) q.2) ∧ (∀ {b0 : Int32} {σ : Hp} {q : (Int32 × Hp)},  G_X5_readAmount n 1 b0 σ = some q → Ct wC v l yX5_readFactor cX5_readFactor 3 (some .boolean) (14 + n) [.ref 60, .int b0] σ (some (.int q.1)) q.2) ∧ (∀ {b0 : Int32} {σ : Hp} {q : (Int32 × Hp)},  G_X5_readAmount n 2 b0 σ = some q → Ct wC v l yX5_readTerm cX5_readTerm 4 (some .boolean) (14 + n) [.ref 60, .int b0] σ (some (.int q.1)) q.2) := by
  induction n with
  | zero => refine ⟨?_, ?_, ?_⟩ <;> (intros; rename_i h; rw [G_X5_readAmount_z] at h; cases h)
  | succ n ih =>
    obtain ⟨i0, i1, i2⟩ := ih
    refine ⟨?_, ?_, ?_⟩
    · intro a1 σ q  h
      rw [G_X5_readAmount_0] at h
      exact ct_X5_readAmount (d := 14 + (n + 1)) (d' := 14 + n) hi xc nx (by omega) i2 (by omega)  h
    · intro a1 σ q  h
      rw [G_X5_readAmount_1] at h
      exact ct_X5_readFactor (d := 14 + (n + 1)) (d' := 14 + n) hi xc nx (by omega) i0 (by omega)  h
    · intro a1 σ q  h
      rw [G_X5_readAmount_2] at h
      exact ct_X5_readTerm (d := 14 + (n + 1)) (d' := 14 + n) hi xc nx (by omega) i1 (by omega)  h
theorem ctD_X5_readAmount (hi : zInj wC v) (xc : XC wC v) (nx : NXC v) {a1 : Int32} {σ : Hp}  {q : (Int32 × Hp)} (h : D_X5_readAmount a1 σ = some q) : Ct wC v l yX5_readAmount cX5_readAmount 4 (some .boolean) 54 [.ref 60, .int a1] σ (some (.int q.1)) q.2 := (ct_G_X5_readAmount hi xc nx 40).1  h
theorem ctD_X5_readFactor (hi : zInj wC v) (xc : XC wC v) (nx : NXC v) {a1 : Int32} {σ : Hp}  {q : (Int32 × Hp)} (h : D_X5_readFactor a1 σ = some q) : Ct wC v l yX5_readFactor cX5_readFactor 3 (some .boolean) 54 [.ref 60, .int a1] σ (some (.int q.1)) q.2 := (ct_G_X5_readAmount hi xc nx 40).2.1  h
theorem ctD_X5_readTerm (hi : zInj wC v) (xc : XC wC v) (nx : NXC v) {a1 : Int32} {σ : Hp}  {q : (Int32 × Hp)} (h : D_X5_readTerm a1 σ = some q) : Ct wC v l yX5_readTerm cX5_readTerm 4 (some .boolean) 54 [.ref 60, .int a1] σ (some (.int q.1)) q.2 := (ct_G_X5_readAmount hi xc nx 40).2.2  h
end
def T_X4_jumpHere_0 : DT := [(0, .iload_n 1, 1), (1, .ifCond .lt 20, 3), (4, .iload_n 1, 1), (5, .sipush 240, 3), (8, .if_icmp .ge 13, 3), (11, .aload_n 0, 1), (12, .getfield 13, 3), (15, .iload_n 1, 1), (16, .aload_n 0, 1), (17, .getfield 38, 3), (20, .iastore, 1), (21, .return_, 1)]
theorem dt_X4_jumpHere_0 : dOk cX4_jumpHere T_X4_jumpHere_0 := by unfold dOk; decide +kernel
section
variable {v : ZV} {l : Launch} {p : Program} {e : Env} {R : Room} {s : State} {m : MethodId} {args : Array Value} {below : List Frame} {meth : Method} {c : Code} {Q : State → Prop} {res : Hp} 
set_option maxRecDepth 20000 in
theorem lkF_X4_jumpHere (hi : zInj wC v) (xc : XC wC v) (nx : NXC v) (X : Cx wC v p R s m args c 0 0 cX4_jumpHere 2 RX4 2) (rt : Rt wC v p l e R s m args below meth c 0 0 Q cX4_jumpHere false none res) {t : Nat} {a1 : Int32} {σ : Hp} (ht : isL t = true) (h : F_X4_jumpHere  t a1 σ = some res) : Go wC v p l e R s m args below meth c 0 0 Q 2 0 [(0, .ref t), (1, .int a1)] [] σ := by
  unfold F_X4_jumpHere at h
  refine go_iload_n X 1 (dk dt_X4_jumpHere_0 0 rfl) rfl rfl ?_
  refine go_if_lt (tgt := 21) X (dk dt_X4_jumpHere_0 1 rfl) (by decide) h (fun h => ?_) (fun h => ?_)
  · exact go_vret rt (dk dt_X4_jumpHere_0 11 rfl) h
  · refine go_iload_n X 1 (dk dt_X4_jumpHere_0 2 rfl) rfl rfl ?_
    refine go_sipush X (dk dt_X4_jumpHere_0 3 rfl) cs_240 ?_
    refine go_icmp_ge (tgt := 21) X (dk dt_X4_jumpHere_0 4 rfl) (by decide) h (fun h => ?_) (fun h => ?_)
    · exact go_vret rt (dk dt_X4_jumpHere_0 11 rfl) h
    · refine go_aload_n X 0 (dk dt_X4_jumpHere_0 5 rfl) rfl rfl ?_
      refine go_getr X fo_X4_13 (lL ht) (sL ht) (fL_1 ht) (dk dt_X4_jumpHere_0 6 rfl) ?_
      refine go_iload_n X 1 (dk dt_X4_jumpHere_0 7 rfl) rfl rfl ?_
      refine go_aload_n X 0 (dk dt_X4_jumpHere_0 8 rfl) rfl rfl ?_
      refine go_geti X fo_X4_38 (lL ht) (sL ht) (fL_9 ht) (dk dt_X4_jumpHere_0 9 rfl) ?_
      refine go_iast X (lLa_2 ht) (sLa_2 ht) (dk dt_X4_jumpHere_0 10 rfl) h (fun h => ?_)
      exact go_vret rt (dk dt_X4_jumpHere_0 11 rfl) h
set_option maxRecDepth 20000 in
theorem ct_X4_jumpHere (hi : zInj wC v) (xc : XC wC v) (nx : NXC v)  {t : Nat} {a1 : Int32} {σ : Hp} (ht : isL t = true) {q : Hp} (h : F_X4_jumpHere  t a1 σ = some q) : Ct wC v l yX4_jumpHere cX4_jumpHere 2 none 2 [.ref t, .int a1] σ none q :=
  Ct.intro false (by decide) hi xc (Nat.le_of_ble_eq_true rfl) rfl (fun p e R s m args below meth c Q X rt => lkF_X4_jumpHere hi xc nx X rt ht h)
end
def T_X5_readChoice_0 : DT := [(0, .aload_n 0, 1), (1, .iload_n 1, 1), (2, .invokevirtual 76, 3), (5, .ifCond .ne 5, 3), (8, .iconst 0, 1), (9, .ireturn, 1), (10, .iconst 0, 1), (11, .istore_n 2, 1), (12, .iload_n 2, 1), (13, .sipush 240, 3), (16, .if_icmp .ge 50, 3), (19, .aload_n 0, 1), (20, .getfield 9, 3), (23, .bipush 124, 2), (25, .invokevirtual 41, 3), (28, .ifCond .eq 38, 3)]
theorem dt_X5_readChoice_0 : dOk cX5_readChoice T_X5_readChoice_0 := by unfold dOk; decide +kernel
def T_X5_readChoice_1 : DT := [(31, .aload_n 0, 1), (32, .getfield 15, 3), (35, .bipush 124, 2), (37, .iconst 0, 1), (38, .invokevirtual 79, 3), (41, .istore_n 3, 1), (42, .aload_n 0, 1), (43, .iload_n 1, 1), (44, .invokevirtual 76, 3), (47, .ifCond .ne 5, 3), (50, .iconst 0, 1), (51, .ireturn, 1), (52, .aload_n 0, 1), (53, .getfield 15, 3), (56, .iload_n 3, 1), (57, .invokevirtual 83, 3)]
theorem dt_X5_readChoice_1 : dOk cX5_readChoice T_X5_readChoice_1 := by unfold dOk; decide +kernel
def T_X5_readChoice_2 : DT := [(60, .iinc 2 1, 3), (63, .goto (-51), 3), (66, .iconst 1, 1), (67, .ireturn, 1)]
theorem dt_X5_readChoice_2 : dOk cX5_readChoice T_X5_readChoice_2 := by unfold dOk; decide +kernel
section
variable {v : ZV} {l : Launch} {p : Program} {e : Env} {R : Room} {s : State} {m : MethodId} {args : Array Value} {below : List Frame} {meth : Method} {c : Code} {Q : State → Prop} {res : (Int32 × Hp)} {d d' : Nat} {o_X5_readPart : Int32 → Hp → Option (Int32 × Hp)}
set_option maxRecDepth 20000 in
theorem lkB_X5_readChoice_12 (hi : zInj wC v) (xc : XC wC v) (nx : NXC v) (X : Cx wC v p R s m args c 0 0 cX5_readChoice 4 RX5 d) (rt : Rt wC v p l e R s m args below meth c 0 0 Q cX5_readChoice true (some (.int res.1)) res.2) (hdb : 56 ≤ d) (ho_X5_readPart : ∀ {b0 : Int32} {σ : Hp} {q : (Int32 × Hp)},  o_X5_readPart b0 σ = some q → Ct wC v l yX5_readPart cX5_readPart 4 (some .boolean) d' [.ref 60, .int b0] σ (some (.int q.1)) q.2) (hdd : d' < d) {k12 : Int32 → Int32 → Hp → Option (Int32 × Hp)} {x1 : Int32} {x2 : Int32} {σ : Hp}  (hk12 : ∀ (x1 : Int32) (x2 : Int32) (σ : Hp),  k12 x1 x2 σ = some res → Go wC v p l e R s m args below meth c 0 0 Q 4 12 [(0, .ref 60), (1, .int x1), (2, .int x2)] [] σ) (h : B_X5_readChoice_12 o_X5_readPart k12 x1 x2 σ = some res) : Go wC v p l e R s m args below meth c 0 0 Q 4 12 [(0, .ref 60), (1, .int x1), (2, .int x2)] [] σ := by
  unfold B_X5_readChoice_12 at h
  refine go_iload_n X 2 (dk dt_X5_readChoice_0 8 rfl) rfl rfl ?_
  refine go_sipush X (dk dt_X5_readChoice_0 9 rfl) cs_240 ?_
  refine go_icmp_ge (tgt := 66) X (dk dt_X5_readChoice_0 10 rfl) (by decide) h (fun h => ?_) (fun h => ?_)
  · refine go_iconst X (dk dt_X5_readChoice_2 2 rfl) ci_1 ?_
    exact go_iret rt (dk dt_X5_readChoice_2 3 rfl) h (by decide)
  · refine go_aload_n X 0 (dk dt_X5_readChoice_0 11 rfl) rfl rfl ?_
    refine go_getr X fo_X5_9 lC_60 sC_60 fC_60_0 (dk dt_X5_readChoice_0 12 rfl) ?_
    refine go_bipush X (dk dt_X5_readChoice_0 13 rfl) cb_124 ?_
    refine go_Vi (As := [.int (124 : Int32)]) (rest := []) X vo_X5_41 (fun q hq => ct_X8_takes hi xc nx  hq) (by omega) rfl lC_23 sC_23 rfl rfl (Nat.le_of_ble_eq_true rfl) (dk dt_X5_readChoice_0 14 rfl) h (fun q25 h => ?_)
    refine go_if_eq (tgt := 66) X (dk dt_X5_readChoice_0 15 rfl) (by decide) h (fun h => ?_) (fun h => ?_)
    · refine go_iconst X (dk dt_X5_readChoice_2 2 rfl) ci_1 ?_
      exact go_iret rt (dk dt_X5_readChoice_2 3 rfl) h (by decide)
    · refine go_aload_n X 0 (dk dt_X5_readChoice_1 0 rfl) rfl rfl ?_
      refine go_getd X fo_X5_15 lC_60 sC_60 fC_60_1 (dk dt_X5_readChoice_1 1 rfl) ?_
      obtain ⟨g1, h⟩ := gd_some h
      refine go_bipush X (dk dt_X5_readChoice_1 2 rfl) cb_124 ?_
      refine go_iconst X (dk dt_X5_readChoice_1 3 rfl) ci_0 ?_
      refine go_Vi (As := [.int (124 : Int32), .int (0 : Int32)]) (rest := []) X vo_X5_79 (fun q hq => ct_X4_add hi xc nx g1 hq) (by omega) rfl (lL g1) (sL g1) rfl rfl (Nat.le_of_ble_eq_true rfl) (dk dt_X5_readChoice_1 4 rfl) h (fun q38 h => ?_)
      refine go_istore_n (lv' := [(3, .int q38.1), (0, .ref 60), (1, .int x1), (2, .int x2)]) X (dk dt_X5_readChoice_1 5 rfl) rfl (by decide) rfl ?_
      refine go_aload_n X 1 (dk dt_X5_readChoice_1 6 rfl) rfl rfl ?_
      refine go_iload_n X 2 (dk dt_X5_readChoice_1 7 rfl) rfl rfl ?_
      refine go_Vi (As := [.int x1]) (rest := []) X vo_X5_76 (fun q hq => ho_X5_readPart  hq) hdd rfl lC_60 sC_60 rfl rfl (Nat.le_of_ble_eq_true rfl) (dk dt_X5_readChoice_1 8 rfl) h (fun q44 h => ?_)
      refine go_if_ne (tgt := 52) X (dk dt_X5_readChoice_1 9 rfl) (by decide) h (fun h => ?_) (fun h => ?_)
      · refine go_aload_n X 1 (dk dt_X5_readChoice_1 12 rfl) rfl rfl ?_
        refine go_getd X fo_X5_15 lC_60 sC_60 fC_60_1 (dk dt_X5_readChoice_1 13 rfl) ?_
        obtain ⟨g2, h⟩ := gd_some h
        refine go_iload_n X 0 (dk dt_X5_readChoice_1 14 rfl) rfl rfl ?_
        refine go_Vv (As := [.int q38.1]) (rest := []) X vo_X5_83 (fun q hq => ct_X4_jumpHere hi xc nx g2 hq) (by omega) rfl (lL g2) (sL g2) rfl rfl (Nat.le_of_ble_eq_true rfl) (dk dt_X5_readChoice_1 15 rfl) h (fun q57 h => ?_)
        refine go_iinc (lv' := [(2, .int (x2 + (1 : Int32))), (3, .int q38.1), (0, .ref 60), (1, .int x1)]) X 3 (dk dt_X5_readChoice_2 0 rfl) rfl ci_1 (by decide) rfl ?_
        refine go_goto (tgt := 12) X (dk dt_X5_readChoice_2 1 rfl) (by decide) ?_
        refine go_sub [2, 3, 0] rfl ?_
        exact hk12 _ _ _  h
      · refine go_iconst X (dk dt_X5_readChoice_1 10 rfl) ci_0 ?_
        exact go_iret rt (dk dt_X5_readChoice_1 11 rfl) h (by decide)
set_option maxRecDepth 20000 in
theorem lkL_X5_readChoice_12 (hi : zInj wC v) (xc : XC wC v) (nx : NXC v) (X : Cx wC v p R s m args c 0 0 cX5_readChoice 4 RX5 d) (rt : Rt wC v p l e R s m args below meth c 0 0 Q cX5_readChoice true (some (.int res.1)) res.2) (hdb : 56 ≤ d) (ho_X5_readPart : ∀ {b0 : Int32} {σ : Hp} {q : (Int32 × Hp)},  o_X5_readPart b0 σ = some q → Ct wC v l yX5_readPart cX5_readPart 4 (some .boolean) d' [.ref 60, .int b0] σ (some (.int q.1)) q.2) (hdd : d' < d)   (n : Nat) : ∀ {x1 : Int32} {x2 : Int32} {σ : Hp},  L_X5_readChoice_12 o_X5_readPart  n x1 x2 σ = some res → Go wC v p l e R s m args below meth c 0 0 Q 4 12 [(0, .ref 60), (1, .int x1), (2, .int x2)] [] σ := by
  induction n with
  | zero => intro x1 x2 σ  h; cases h
  | succ n ih =>
    intro x1 x2 σ  h
    exact lkB_X5_readChoice_12 hi xc nx X rt hdb ho_X5_readPart hdd  (fun _ _ _  hh => ih  hh) h
set_option maxRecDepth 20000 in
theorem lkF_X5_readChoice (hi : zInj wC v) (xc : XC wC v) (nx : NXC v) (X : Cx wC v p R s m args c 0 0 cX5_readChoice 4 RX5 d) (rt : Rt wC v p l e R s m args below meth c 0 0 Q cX5_readChoice true (some (.int res.1)) res.2) (hdb : 56 ≤ d) (ho_X5_readPart : ∀ {b0 : Int32} {σ : Hp} {q : (Int32 × Hp)},  o_X5_readPart b0 σ = some q → Ct wC v l yX5_readPart cX5_readPart 4 (some .boolean) d' [.ref 60, .int b0] σ (some (.int q.1)) q.2) (hdd : d' < d) {a1 : Int32} {σ : Hp}  (h : F_X5_readChoice o_X5_readPart a1 σ = some res) : Go wC v p l e R s m args below meth c 0 0 Q 4 0 [(0, .ref 60), (1, .int a1)] [] σ := by
  unfold F_X5_readChoice at h
  refine go_aload_n X 0 (dk dt_X5_readChoice_0 0 rfl) rfl rfl ?_
  refine go_iload_n X 1 (dk dt_X5_readChoice_0 1 rfl) rfl rfl ?_
  refine go_Vi (As := [.int a1]) (rest := []) X vo_X5_76 (fun q hq => ho_X5_readPart  hq) hdd rfl lC_60 sC_60 rfl rfl (Nat.le_of_ble_eq_true rfl) (dk dt_X5_readChoice_0 2 rfl) h (fun q2 h => ?_)
  refine go_if_ne (tgt := 10) X (dk dt_X5_readChoice_0 3 rfl) (by decide) h (fun h => ?_) (fun h => ?_)
  · refine go_iconst X (dk dt_X5_readChoice_0 6 rfl) ci_0 ?_
    refine go_istore_n (lv' := [(2, .int (0 : Int32)), (0, .ref 60), (1, .int a1)]) X (dk dt_X5_readChoice_0 7 rfl) rfl (by decide) rfl ?_
    refine go_sub [1, 2, 0] rfl ?_
    exact lkL_X5_readChoice_12 hi xc nx X rt hdb ho_X5_readPart hdd  FU  h
  · refine go_iconst X (dk dt_X5_readChoice_0 4 rfl) ci_0 ?_
    exact go_iret rt (dk dt_X5_readChoice_0 5 rfl) h (by decide)
set_option maxRecDepth 20000 in
theorem ct_X5_readChoice (hi : zInj wC v) (xc : XC wC v) (nx : NXC v)  (hdb : 56 ≤ d) (ho_X5_readPart : ∀ {b0 : Int32} {σ : Hp} {q : (Int32 × Hp)},  o_X5_readPart b0 σ = some q → Ct wC v l yX5_readPart cX5_readPart 4 (some .boolean) d' [.ref 60, .int b0] σ (some (.int q.1)) q.2) (hdd : d' < d) {a1 : Int32} {σ : Hp}  {q : (Int32 × Hp)} (h : F_X5_readChoice o_X5_readPart a1 σ = some q) : Ct wC v l yX5_readChoice cX5_readChoice 4 (some .boolean) d [.ref 60, .int a1] σ (some (.int q.1)) q.2 :=
  Ct.intro true (by decide) hi xc (Nat.le_of_ble_eq_true rfl) rfl (fun p e R s m args below meth c Q X rt => lkF_X5_readChoice hi xc nx X rt hdb ho_X5_readPart hdd  h)
end
def T_X5_readOpened_0 : DT := [(0, .iload_n 1, 1), (1, .bipush 6, 2), (3, .if_icmp .lt 12, 3), (6, .aload_n 0, 1), (7, .getfield 9, 3), (10, .iconst 5, 1), (11, .invokevirtual 33, 3), (14, .ireturn, 1), (15, .aload_n 0, 1), (16, .getfield 9, 3), (19, .bipush 40, 2), (21, .invokevirtual 41, 3), (24, .ifCond .eq 28, 3), (27, .aload_n 0, 1), (28, .iload_n 1, 1), (29, .iconst 1, 1)]
theorem dt_X5_readOpened_0 : dOk cX5_readOpened T_X5_readOpened_0 := by unfold dOk; decide +kernel
def T_X5_readOpened_1 : DT := [(30, .iadd, 1), (31, .invokevirtual 64, 3), (34, .ifCond .eq 16, 3), (37, .aload_n 0, 1), (38, .bipush 41, 2), (40, .invokevirtual 67, 3), (43, .ifCond .eq 7, 3), (46, .iconst 1, 1), (47, .goto 4, 3), (50, .iconst 0, 1), (51, .ireturn, 1), (52, .aload_n 0, 1), (53, .getfield 9, 3), (56, .dup, 1), (57, .getfield 44, 3), (60, .iconst 1, 1)]
theorem dt_X5_readOpened_1 : dOk cX5_readOpened T_X5_readOpened_1 := by unfold dOk; decide +kernel
def T_X5_readOpened_2 : DT := [(61, .iadd, 1), (62, .putfield 44, 3), (65, .aload_n 0, 1), (66, .iload_n 1, 1), (67, .iconst 1, 1), (68, .iadd, 1), (69, .invokevirtual 86, 3), (72, .ifCond .ne 5, 3), (75, .iconst 0, 1), (76, .ireturn, 1), (77, .aload_n 0, 1), (78, .getfield 15, 3), (81, .bipush 33, 2), (83, .iconst 0, 1), (84, .invokevirtual 79, 3), (87, .pop, 1)]
theorem dt_X5_readOpened_2 : dOk cX5_readOpened T_X5_readOpened_2 := by unfold dOk; decide +kernel
def T_X5_readOpened_3 : DT := [(88, .iconst 1, 1), (89, .ireturn, 1)]
theorem dt_X5_readOpened_3 : dOk cX5_readOpened T_X5_readOpened_3 := by unfold dOk; decide +kernel
section
variable {v : ZV} {l : Launch} {p : Program} {e : Env} {R : Room} {s : State} {m : MethodId} {args : Array Value} {below : List Frame} {meth : Method} {c : Code} {Q : State → Prop} {res : (Int32 × Hp)} {d d' : Nat} {o_X5_readChoice : Int32 → Hp → Option (Int32 × Hp)} {o_X5_readTest : Int32 → Hp → Option (Int32 × Hp)}
set_option maxRecDepth 20000 in
theorem lkF_X5_readOpened (hi : zInj wC v) (xc : XC wC v) (nx : NXC v) (X : Cx wC v p R s m args c 0 0 cX5_readOpened 2 RX5 d) (rt : Rt wC v p l e R s m args below meth c 0 0 Q cX5_readOpened true (some (.int res.1)) res.2) (hdb : 56 ≤ d) (ho_X5_readChoice : ∀ {b0 : Int32} {σ : Hp} {q : (Int32 × Hp)},  o_X5_readChoice b0 σ = some q → Ct wC v l yX5_readChoice cX5_readChoice 4 (some .boolean) d' [.ref 60, .int b0] σ (some (.int q.1)) q.2) (ho_X5_readTest : ∀ {b0 : Int32} {σ : Hp} {q : (Int32 × Hp)},  o_X5_readTest b0 σ = some q → Ct wC v l yX5_readTest cX5_readTest 3 (some .boolean) d' [.ref 60, .int b0] σ (some (.int q.1)) q.2) (hdd : d' < d) {a1 : Int32} {σ : Hp}  (h : F_X5_readOpened o_X5_readChoice o_X5_readTest a1 σ = some res) : Go wC v p l e R s m args below meth c 0 0 Q 2 0 [(0, .ref 60), (1, .int a1)] [] σ := by
  unfold F_X5_readOpened at h
  refine go_iload_n X 1 (dk dt_X5_readOpened_0 0 rfl) rfl rfl ?_
  refine go_bipush X (dk dt_X5_readOpened_0 1 rfl) cb_6 ?_
  refine go_icmp_lt (tgt := 15) X (dk dt_X5_readOpened_0 2 rfl) (by decide) h (fun h => ?_) (fun h => ?_)
  · refine go_aload_n X 0 (dk dt_X5_readOpened_0 8 rfl) rfl rfl ?_
    refine go_getr X fo_X5_9 lC_60 sC_60 fC_60_0 (dk dt_X5_readOpened_0 9 rfl) ?_
    refine go_bipush X (dk dt_X5_readOpened_0 10 rfl) cb_40 ?_
    refine go_Vi (As := [.int (40 : Int32)]) (rest := []) X vo_X5_41 (fun q hq => ct_X8_takes hi xc nx  hq) (by omega) rfl lC_23 sC_23 rfl rfl (Nat.le_of_ble_eq_true rfl) (dk dt_X5_readOpened_0 11 rfl) h (fun q21 h => ?_)
    refine go_if_eq (tgt := 52) X (dk dt_X5_readOpened_0 12 rfl) (by decide) h (fun h => ?_) (fun h => ?_)
    · refine go_aload_n X 0 (dk dt_X5_readOpened_1 11 rfl) rfl rfl ?_
      refine go_getr X fo_X5_9 lC_60 sC_60 fC_60_0 (dk dt_X5_readOpened_1 12 rfl) ?_
      refine go_dup X (dk dt_X5_readOpened_1 13 rfl) rfl ?_
      refine go_geti X fo_X5_44 lC_23 sC_23 fC_23_3 (dk dt_X5_readOpened_1 14 rfl) ?_
      refine go_iconst X (dk dt_X5_readOpened_1 15 rfl) ci_1 ?_
      refine go_iadd X (dk dt_X5_readOpened_2 0 rfl) ?_
      refine go_puti X fo_X5_44 pf_8_3 lC_23 sC_23 fC_23_3 (dk dt_X5_readOpened_2 1 rfl) ?_
      refine go_aload_n X 0 (dk dt_X5_readOpened_2 2 rfl) rfl rfl ?_
      refine go_iload_n X 1 (dk dt_X5_readOpened_2 3 rfl) rfl rfl ?_
      refine go_iconst X (dk dt_X5_readOpened_2 4 rfl) ci_1 ?_
      refine go_iadd X (dk dt_X5_readOpened_2 5 rfl) ?_
      refine go_Vi (As := [.int (a1 + (1 : Int32))]) (rest := []) X vo_X5_86 (fun q hq => ho_X5_readTest  hq) hdd rfl lC_60 sC_60 rfl rfl (Nat.le_of_ble_eq_true rfl) (dk dt_X5_readOpened_2 6 rfl) h (fun q69 h => ?_)
      refine go_if_ne (tgt := 77) X (dk dt_X5_readOpened_2 7 rfl) (by decide) h (fun h => ?_) (fun h => ?_)
      · refine go_aload_n X 0 (dk dt_X5_readOpened_2 10 rfl) rfl rfl ?_
        refine go_getd X fo_X5_15 lC_60 sC_60 fC_60_1 (dk dt_X5_readOpened_2 11 rfl) ?_
        obtain ⟨g1, h⟩ := gd_some h
        refine go_bipush X (dk dt_X5_readOpened_2 12 rfl) cb_33 ?_
        refine go_iconst X (dk dt_X5_readOpened_2 13 rfl) ci_0 ?_
        refine go_Vi (As := [.int (33 : Int32), .int (0 : Int32)]) (rest := []) X vo_X5_79 (fun q hq => ct_X4_add hi xc nx g1 hq) (by omega) rfl (lL g1) (sL g1) rfl rfl (Nat.le_of_ble_eq_true rfl) (dk dt_X5_readOpened_2 14 rfl) h (fun q84 h => ?_)
        refine go_pop X (dk dt_X5_readOpened_2 15 rfl) rfl ?_
        refine go_iconst X (dk dt_X5_readOpened_3 0 rfl) ci_1 ?_
        exact go_iret rt (dk dt_X5_readOpened_3 1 rfl) h (by decide)
      · refine go_iconst X (dk dt_X5_readOpened_2 8 rfl) ci_0 ?_
        exact go_iret rt (dk dt_X5_readOpened_2 9 rfl) h (by decide)
    · refine go_aload_n X 0 (dk dt_X5_readOpened_0 13 rfl) rfl rfl ?_
      refine go_iload_n X 1 (dk dt_X5_readOpened_0 14 rfl) rfl rfl ?_
      refine go_iconst X (dk dt_X5_readOpened_0 15 rfl) ci_1 ?_
      refine go_iadd X (dk dt_X5_readOpened_1 0 rfl) ?_
      refine go_Vi (As := [.int (a1 + (1 : Int32))]) (rest := []) X vo_X5_64 (fun q hq => ho_X5_readChoice  hq) hdd rfl lC_60 sC_60 rfl rfl (Nat.le_of_ble_eq_true rfl) (dk dt_X5_readOpened_1 1 rfl) h (fun q31 h => ?_)
      refine go_if_eq (tgt := 50) X (dk dt_X5_readOpened_1 2 rfl) (by decide) h (fun h => ?_) (fun h => ?_)
      · refine go_iconst X (dk dt_X5_readOpened_1 9 rfl) ci_0 ?_
        exact go_iret rt (dk dt_X5_readOpened_1 10 rfl) h (by decide)
      · refine go_aload_n X 0 (dk dt_X5_readOpened_1 3 rfl) rfl rfl ?_
        refine go_bipush X (dk dt_X5_readOpened_1 4 rfl) cb_41 ?_
        refine go_Vi (As := [.int (41 : Int32)]) (rest := []) X vo_X5_67 (fun q hq => ct_X5_readClosing hi xc nx  hq) (by omega) rfl lC_60 sC_60 rfl rfl (Nat.le_of_ble_eq_true rfl) (dk dt_X5_readOpened_1 5 rfl) h (fun q40 h => ?_)
        refine go_if_eq (tgt := 50) X (dk dt_X5_readOpened_1 6 rfl) (by decide) h (fun h => ?_) (fun h => ?_)
        · refine go_iconst X (dk dt_X5_readOpened_1 9 rfl) ci_0 ?_
          exact go_iret rt (dk dt_X5_readOpened_1 10 rfl) h (by decide)
        · refine go_iconst X (dk dt_X5_readOpened_1 7 rfl) ci_1 ?_
          refine go_goto (tgt := 51) X (dk dt_X5_readOpened_1 8 rfl) (by decide) ?_
          exact go_iret rt (dk dt_X5_readOpened_1 10 rfl) h (by decide)
  · refine go_aload_n X 0 (dk dt_X5_readOpened_0 3 rfl) rfl rfl ?_
    refine go_getr X fo_X5_9 lC_60 sC_60 fC_60_0 (dk dt_X5_readOpened_0 4 rfl) ?_
    refine go_iconst X (dk dt_X5_readOpened_0 5 rfl) ci_5 ?_
    refine go_Vi (As := [.int (5 : Int32)]) (rest := []) X vo_X5_33 (fun q hq => ct_X8_refuse hi xc nx  hq) (by omega) rfl lC_23 sC_23 rfl rfl (Nat.le_of_ble_eq_true rfl) (dk dt_X5_readOpened_0 6 rfl) h (fun q11 h => ?_)
    exact go_zret rt (dk dt_X5_readOpened_0 7 rfl) h
set_option maxRecDepth 20000 in
theorem ct_X5_readOpened (hi : zInj wC v) (xc : XC wC v) (nx : NXC v)  (hdb : 56 ≤ d) (ho_X5_readChoice : ∀ {b0 : Int32} {σ : Hp} {q : (Int32 × Hp)},  o_X5_readChoice b0 σ = some q → Ct wC v l yX5_readChoice cX5_readChoice 4 (some .boolean) d' [.ref 60, .int b0] σ (some (.int q.1)) q.2) (ho_X5_readTest : ∀ {b0 : Int32} {σ : Hp} {q : (Int32 × Hp)},  o_X5_readTest b0 σ = some q → Ct wC v l yX5_readTest cX5_readTest 3 (some .boolean) d' [.ref 60, .int b0] σ (some (.int q.1)) q.2) (hdd : d' < d) {a1 : Int32} {σ : Hp}  {q : (Int32 × Hp)} (h : F_X5_readOpened o_X5_readChoice o_X5_readTest a1 σ = some q) : Ct wC v l yX5_readOpened cX5_readOpened 2 (some .boolean) d [.ref 60, .int a1] σ (some (.int q.1)) q.2 :=
  Ct.intro true (by decide) hi xc (Nat.le_of_ble_eq_true rfl) rfl (fun p e R s m args below meth c Q X rt => lkF_X5_readOpened hi xc nx X rt hdb ho_X5_readChoice ho_X5_readTest hdd  h)
end
def T_X5_readPart_0 : DT := [(0, .aload_n 0, 1), (1, .iload_n 1, 1), (2, .invokevirtual 86, 3), (5, .ifCond .ne 5, 3), (8, .iconst 0, 1), (9, .ireturn, 1), (10, .iconst 0, 1), (11, .istore_n 2, 1), (12, .iload_n 2, 1), (13, .sipush 240, 3), (16, .if_icmp .ge 50, 3), (19, .aload_n 0, 1), (20, .getfield 9, 3), (23, .bipush 38, 2), (25, .invokevirtual 41, 3), (28, .ifCond .eq 38, 3)]
theorem dt_X5_readPart_0 : dOk cX5_readPart T_X5_readPart_0 := by unfold dOk; decide +kernel
def T_X5_readPart_1 : DT := [(31, .aload_n 0, 1), (32, .getfield 15, 3), (35, .bipush 38, 2), (37, .iconst 0, 1), (38, .invokevirtual 79, 3), (41, .istore_n 3, 1), (42, .aload_n 0, 1), (43, .iload_n 1, 1), (44, .invokevirtual 86, 3), (47, .ifCond .ne 5, 3), (50, .iconst 0, 1), (51, .ireturn, 1), (52, .aload_n 0, 1), (53, .getfield 15, 3), (56, .iload_n 3, 1), (57, .invokevirtual 83, 3)]
theorem dt_X5_readPart_1 : dOk cX5_readPart T_X5_readPart_1 := by unfold dOk; decide +kernel
def T_X5_readPart_2 : DT := [(60, .iinc 2 1, 3), (63, .goto (-51), 3), (66, .iconst 1, 1), (67, .ireturn, 1)]
theorem dt_X5_readPart_2 : dOk cX5_readPart T_X5_readPart_2 := by unfold dOk; decide +kernel
section
variable {v : ZV} {l : Launch} {p : Program} {e : Env} {R : Room} {s : State} {m : MethodId} {args : Array Value} {below : List Frame} {meth : Method} {c : Code} {Q : State → Prop} {res : (Int32 × Hp)} {d d' : Nat} {o_X5_readTest : Int32 → Hp → Option (Int32 × Hp)}
set_option maxRecDepth 20000 in
theorem lkB_X5_readPart_12 (hi : zInj wC v) (xc : XC wC v) (nx : NXC v) (X : Cx wC v p R s m args c 0 0 cX5_readPart 4 RX5 d) (rt : Rt wC v p l e R s m args below meth c 0 0 Q cX5_readPart true (some (.int res.1)) res.2) (hdb : 56 ≤ d) (ho_X5_readTest : ∀ {b0 : Int32} {σ : Hp} {q : (Int32 × Hp)},  o_X5_readTest b0 σ = some q → Ct wC v l yX5_readTest cX5_readTest 3 (some .boolean) d' [.ref 60, .int b0] σ (some (.int q.1)) q.2) (hdd : d' < d) {k12 : Int32 → Int32 → Hp → Option (Int32 × Hp)} {x1 : Int32} {x2 : Int32} {σ : Hp}  (hk12 : ∀ (x1 : Int32) (x2 : Int32) (σ : Hp),  k12 x1 x2 σ = some res → Go wC v p l e R s m args below meth c 0 0 Q 4 12 [(0, .ref 60), (1, .int x1), (2, .int x2)] [] σ) (h : B_X5_readPart_12 o_X5_readTest k12 x1 x2 σ = some res) : Go wC v p l e R s m args below meth c 0 0 Q 4 12 [(0, .ref 60), (1, .int x1), (2, .int x2)] [] σ := by
  unfold B_X5_readPart_12 at h
  refine go_iload_n X 2 (dk dt_X5_readPart_0 8 rfl) rfl rfl ?_
  refine go_sipush X (dk dt_X5_readPart_0 9 rfl) cs_240 ?_
  refine go_icmp_ge (tgt := 66) X (dk dt_X5_readPart_0 10 rfl) (by decide) h (fun h => ?_) (fun h => ?_)
  · refine go_iconst X (dk dt_X5_readPart_2 2 rfl) ci_1 ?_
    exact go_iret rt (dk dt_X5_readPart_2 3 rfl) h (by decide)
  · refine go_aload_n X 0 (dk dt_X5_readPart_0 11 rfl) rfl rfl ?_
    refine go_getr X fo_X5_9 lC_60 sC_60 fC_60_0 (dk dt_X5_readPart_0 12 rfl) ?_
    refine go_bipush X (dk dt_X5_readPart_0 13 rfl) cb_38 ?_
    refine go_Vi (As := [.int (38 : Int32)]) (rest := []) X vo_X5_41 (fun q hq => ct_X8_takes hi xc nx  hq) (by omega) rfl lC_23 sC_23 rfl rfl (Nat.le_of_ble_eq_true rfl) (dk dt_X5_readPart_0 14 rfl) h (fun q25 h => ?_)
    refine go_if_eq (tgt := 66) X (dk dt_X5_readPart_0 15 rfl) (by decide) h (fun h => ?_) (fun h => ?_)
    · refine go_iconst X (dk dt_X5_readPart_2 2 rfl) ci_1 ?_
      exact go_iret rt (dk dt_X5_readPart_2 3 rfl) h (by decide)
    · refine go_aload_n X 0 (dk dt_X5_readPart_1 0 rfl) rfl rfl ?_
      refine go_getd X fo_X5_15 lC_60 sC_60 fC_60_1 (dk dt_X5_readPart_1 1 rfl) ?_
      obtain ⟨g1, h⟩ := gd_some h
      refine go_bipush X (dk dt_X5_readPart_1 2 rfl) cb_38 ?_
      refine go_iconst X (dk dt_X5_readPart_1 3 rfl) ci_0 ?_
      refine go_Vi (As := [.int (38 : Int32), .int (0 : Int32)]) (rest := []) X vo_X5_79 (fun q hq => ct_X4_add hi xc nx g1 hq) (by omega) rfl (lL g1) (sL g1) rfl rfl (Nat.le_of_ble_eq_true rfl) (dk dt_X5_readPart_1 4 rfl) h (fun q38 h => ?_)
      refine go_istore_n (lv' := [(3, .int q38.1), (0, .ref 60), (1, .int x1), (2, .int x2)]) X (dk dt_X5_readPart_1 5 rfl) rfl (by decide) rfl ?_
      refine go_aload_n X 1 (dk dt_X5_readPart_1 6 rfl) rfl rfl ?_
      refine go_iload_n X 2 (dk dt_X5_readPart_1 7 rfl) rfl rfl ?_
      refine go_Vi (As := [.int x1]) (rest := []) X vo_X5_86 (fun q hq => ho_X5_readTest  hq) hdd rfl lC_60 sC_60 rfl rfl (Nat.le_of_ble_eq_true rfl) (dk dt_X5_readPart_1 8 rfl) h (fun q44 h => ?_)
      refine go_if_ne (tgt := 52) X (dk dt_X5_readPart_1 9 rfl) (by decide) h (fun h => ?_) (fun h => ?_)
      · refine go_aload_n X 1 (dk dt_X5_readPart_1 12 rfl) rfl rfl ?_
        refine go_getd X fo_X5_15 lC_60 sC_60 fC_60_1 (dk dt_X5_readPart_1 13 rfl) ?_
        obtain ⟨g2, h⟩ := gd_some h
        refine go_iload_n X 0 (dk dt_X5_readPart_1 14 rfl) rfl rfl ?_
        refine go_Vv (As := [.int q38.1]) (rest := []) X vo_X5_83 (fun q hq => ct_X4_jumpHere hi xc nx g2 hq) (by omega) rfl (lL g2) (sL g2) rfl rfl (Nat.le_of_ble_eq_true rfl) (dk dt_X5_readPart_1 15 rfl) h (fun q57 h => ?_)
        refine go_iinc (lv' := [(2, .int (x2 + (1 : Int32))), (3, .int q38.1), (0, .ref 60), (1, .int x1)]) X 3 (dk dt_X5_readPart_2 0 rfl) rfl ci_1 (by decide) rfl ?_
        refine go_goto (tgt := 12) X (dk dt_X5_readPart_2 1 rfl) (by decide) ?_
        refine go_sub [2, 3, 0] rfl ?_
        exact hk12 _ _ _  h
      · refine go_iconst X (dk dt_X5_readPart_1 10 rfl) ci_0 ?_
        exact go_iret rt (dk dt_X5_readPart_1 11 rfl) h (by decide)
set_option maxRecDepth 20000 in
theorem lkL_X5_readPart_12 (hi : zInj wC v) (xc : XC wC v) (nx : NXC v) (X : Cx wC v p R s m args c 0 0 cX5_readPart 4 RX5 d) (rt : Rt wC v p l e R s m args below meth c 0 0 Q cX5_readPart true (some (.int res.1)) res.2) (hdb : 56 ≤ d) (ho_X5_readTest : ∀ {b0 : Int32} {σ : Hp} {q : (Int32 × Hp)},  o_X5_readTest b0 σ = some q → Ct wC v l yX5_readTest cX5_readTest 3 (some .boolean) d' [.ref 60, .int b0] σ (some (.int q.1)) q.2) (hdd : d' < d)   (n : Nat) : ∀ {x1 : Int32} {x2 : Int32} {σ : Hp},  L_X5_readPart_12 o_X5_readTest  n x1 x2 σ = some res → Go wC v p l e R s m args below meth c 0 0 Q 4 12 [(0, .ref 60), (1, .int x1), (2, .int x2)] [] σ := by
  induction n with
  | zero => intro x1 x2 σ  h; cases h
  | succ n ih =>
    intro x1 x2 σ  h
    exact lkB_X5_readPart_12 hi xc nx X rt hdb ho_X5_readTest hdd  (fun _ _ _  hh => ih  hh) h
set_option maxRecDepth 20000 in
theorem lkF_X5_readPart (hi : zInj wC v) (xc : XC wC v) (nx : NXC v) (X : Cx wC v p R s m args c 0 0 cX5_readPart 4 RX5 d) (rt : Rt wC v p l e R s m args below meth c 0 0 Q cX5_readPart true (some (.int res.1)) res.2) (hdb : 56 ≤ d) (ho_X5_readTest : ∀ {b0 : Int32} {σ : Hp} {q : (Int32 × Hp)},  o_X5_readTest b0 σ = some q → Ct wC v l yX5_readTest cX5_readTest 3 (some .boolean) d' [.ref 60, .int b0] σ (some (.int q.1)) q.2) (hdd : d' < d) {a1 : Int32} {σ : Hp}  (h : F_X5_readPart o_X5_readTest a1 σ = some res) : Go wC v p l e R s m args below meth c 0 0 Q 4 0 [(0, .ref 60), (1, .int a1)] [] σ := by
  unfold F_X5_readPart at h
  refine go_aload_n X 0 (dk dt_X5_readPart_0 0 rfl) rfl rfl ?_
  refine go_iload_n X 1 (dk dt_X5_readPart_0 1 rfl) rfl rfl ?_
  refine go_Vi (As := [.int a1]) (rest := []) X vo_X5_86 (fun q hq => ho_X5_readTest  hq) hdd rfl lC_60 sC_60 rfl rfl (Nat.le_of_ble_eq_true rfl) (dk dt_X5_readPart_0 2 rfl) h (fun q2 h => ?_)
  refine go_if_ne (tgt := 10) X (dk dt_X5_readPart_0 3 rfl) (by decide) h (fun h => ?_) (fun h => ?_)
  · refine go_iconst X (dk dt_X5_readPart_0 6 rfl) ci_0 ?_
    refine go_istore_n (lv' := [(2, .int (0 : Int32)), (0, .ref 60), (1, .int a1)]) X (dk dt_X5_readPart_0 7 rfl) rfl (by decide) rfl ?_
    refine go_sub [1, 2, 0] rfl ?_
    exact lkL_X5_readPart_12 hi xc nx X rt hdb ho_X5_readTest hdd  FU  h
  · refine go_iconst X (dk dt_X5_readPart_0 4 rfl) ci_0 ?_
    exact go_iret rt (dk dt_X5_readPart_0 5 rfl) h (by decide)
set_option maxRecDepth 20000 in
theorem ct_X5_readPart (hi : zInj wC v) (xc : XC wC v) (nx : NXC v)  (hdb : 56 ≤ d) (ho_X5_readTest : ∀ {b0 : Int32} {σ : Hp} {q : (Int32 × Hp)},  o_X5_readTest b0 σ = some q → Ct wC v l yX5_readTest cX5_readTest 3 (some .boolean) d' [.ref 60, .int b0] σ (some (.int q.1)) q.2) (hdd : d' < d) {a1 : Int32} {σ : Hp}  {q : (Int32 × Hp)} (h : F_X5_readPart o_X5_readTest a1 σ = some q) : Ct wC v l yX5_readPart cX5_readPart 4 (some .boolean) d [.ref 60, .int a1] σ (some (.int q.1)) q.2 :=
  Ct.intro true (by decide) hi xc (Nat.le_of_ble_eq_true rfl) rfl (fun p e R s m args below meth c Q X rt => lkF_X5_readPart hi xc nx X rt hdb ho_X5_readTest hdd  h)
end
def T_X5_readTest_0 : DT := [(0, .aload_n 0, 1), (1, .getfield 9, 3), (4, .invokevirtual 29, 3), (7, .bipush 33, 2), (9, .if_icmp .eq 15, 3), (12, .aload_n 0, 1), (13, .getfield 9, 3), (16, .invokevirtual 29, 3), (19, .bipush 40, 2), (21, .if_icmp .ne 9, 3), (24, .aload_n 0, 1), (25, .iload_n 1, 1), (26, .invokevirtual 89, 3), (29, .ireturn, 1), (30, .aload_n 0, 1), (31, .iload_n 1, 1)]
theorem dt_X5_readTest_0 : dOk cX5_readTest T_X5_readTest_0 := by unfold dOk; decide +kernel
def T_X5_readTest_1 : DT := [(32, .invokevirtual 58, 3), (35, .ifCond .ne 5, 3), (38, .iconst 0, 1), (39, .ireturn, 1), (40, .aload_n 0, 1), (41, .getfield 9, 3), (44, .invokevirtual 29, 3), (47, .istore_n 2, 1), (48, .iload_n 2, 1), (49, .bipush 60, 2), (51, .if_icmp .eq 24, 3), (54, .iload_n 2, 1), (55, .bipush 62, 2), (57, .if_icmp .eq 18, 3), (60, .iload_n 2, 1), (61, .bipush 61, 2)]
theorem dt_X5_readTest_1 : dOk cX5_readTest T_X5_readTest_1 := by unfold dOk; decide +kernel
def T_X5_readTest_2 : DT := [(63, .if_icmp .eq 12, 3), (66, .aload_n 0, 1), (67, .getfield 9, 3), (70, .iconst 1, 1), (71, .invokevirtual 33, 3), (74, .ireturn, 1), (75, .aload_n 0, 1), (76, .getfield 9, 3), (79, .dup, 1), (80, .getfield 44, 3), (83, .iconst 1, 1), (84, .iadd, 1), (85, .putfield 44, 3), (88, .aload_n 0, 1), (89, .iload_n 1, 1), (90, .invokevirtual 58, 3)]
theorem dt_X5_readTest_2 : dOk cX5_readTest T_X5_readTest_2 := by unfold dOk; decide +kernel
def T_X5_readTest_3 : DT := [(93, .ifCond .ne 5, 3), (96, .iconst 0, 1), (97, .ireturn, 1), (98, .aload_n 0, 1), (99, .getfield 15, 3), (102, .iload_n 2, 1), (103, .iconst 0, 1), (104, .invokevirtual 79, 3), (107, .pop, 1), (108, .iconst 1, 1), (109, .ireturn, 1)]
theorem dt_X5_readTest_3 : dOk cX5_readTest T_X5_readTest_3 := by unfold dOk; decide +kernel
section
variable {v : ZV} {l : Launch} {p : Program} {e : Env} {R : Room} {s : State} {m : MethodId} {args : Array Value} {below : List Frame} {meth : Method} {c : Code} {Q : State → Prop} {res : (Int32 × Hp)} {d d' : Nat} {o_X5_readOpened : Int32 → Hp → Option (Int32 × Hp)}
set_option maxRecDepth 20000 in
theorem lkJ_X5_readTest_24 (hi : zInj wC v) (xc : XC wC v) (nx : NXC v) (X : Cx wC v p R s m args c 0 0 cX5_readTest 3 RX5 d) (rt : Rt wC v p l e R s m args below meth c 0 0 Q cX5_readTest true (some (.int res.1)) res.2) (hdb : 56 ≤ d) (ho_X5_readOpened : ∀ {b0 : Int32} {σ : Hp} {q : (Int32 × Hp)},  o_X5_readOpened b0 σ = some q → Ct wC v l yX5_readOpened cX5_readOpened 2 (some .boolean) d' [.ref 60, .int b0] σ (some (.int q.1)) q.2) (hdd : d' < d)  {x1 : Int32} {σ : Hp}   (h : J_X5_readTest_24 o_X5_readOpened  x1 σ = some res) : Go wC v p l e R s m args below meth c 0 0 Q 3 24 [(0, .ref 60), (1, .int x1)] [] σ := by
  unfold J_X5_readTest_24 at h
  refine go_aload_n X 0 (dk dt_X5_readTest_0 10 rfl) rfl rfl ?_
  refine go_iload_n X 1 (dk dt_X5_readTest_0 11 rfl) rfl rfl ?_
  refine go_Vi (As := [.int x1]) (rest := []) X vo_X5_89 (fun q hq => ho_X5_readOpened  hq) hdd rfl lC_60 sC_60 rfl rfl (Nat.le_of_ble_eq_true rfl) (dk dt_X5_readTest_0 12 rfl) h (fun q26 h => ?_)
  exact go_zret rt (dk dt_X5_readTest_0 13 rfl) h
set_option maxRecDepth 20000 in
theorem lkJ_X5_readTest_75 (hi : zInj wC v) (xc : XC wC v) (nx : NXC v) (X : Cx wC v p R s m args c 0 0 cX5_readTest 3 RX5 d) (rt : Rt wC v p l e R s m args below meth c 0 0 Q cX5_readTest true (some (.int res.1)) res.2) (hdb : 56 ≤ d) (ho_X5_readOpened : ∀ {b0 : Int32} {σ : Hp} {q : (Int32 × Hp)},  o_X5_readOpened b0 σ = some q → Ct wC v l yX5_readOpened cX5_readOpened 2 (some .boolean) d' [.ref 60, .int b0] σ (some (.int q.1)) q.2) (hdd : d' < d)  {x1 : Int32} {x2 : Int32} {σ : Hp}   (h : J_X5_readTest_75 o_X5_readOpened  x1 x2 σ = some res) : Go wC v p l e R s m args below meth c 0 0 Q 3 75 [(0, .ref 60), (1, .int x1), (2, .int x2)] [] σ := by
  unfold J_X5_readTest_75 at h
  refine go_aload_n X 0 (dk dt_X5_readTest_2 6 rfl) rfl rfl ?_
  refine go_getr X fo_X5_9 lC_60 sC_60 fC_60_0 (dk dt_X5_readTest_2 7 rfl) ?_
  refine go_dup X (dk dt_X5_readTest_2 8 rfl) rfl ?_
  refine go_geti X fo_X5_44 lC_23 sC_23 fC_23_3 (dk dt_X5_readTest_2 9 rfl) ?_
  refine go_iconst X (dk dt_X5_readTest_2 10 rfl) ci_1 ?_
  refine go_iadd X (dk dt_X5_readTest_2 11 rfl) ?_
  refine go_puti X fo_X5_44 pf_8_3 lC_23 sC_23 fC_23_3 (dk dt_X5_readTest_2 12 rfl) ?_
  refine go_aload_n X 0 (dk dt_X5_readTest_2 13 rfl) rfl rfl ?_
  refine go_iload_n X 1 (dk dt_X5_readTest_2 14 rfl) rfl rfl ?_
  refine go_Vi (As := [.int x1]) (rest := []) X vo_X5_58 (fun q hq => ctD_X5_readAmount hi xc nx  hq) (by omega) rfl lC_60 sC_60 rfl rfl (Nat.le_of_ble_eq_true rfl) (dk dt_X5_readTest_2 15 rfl) h (fun q90 h => ?_)
  refine go_if_ne (tgt := 98) X (dk dt_X5_readTest_3 0 rfl) (by decide) h (fun h => ?_) (fun h => ?_)
  · refine go_aload_n X 0 (dk dt_X5_readTest_3 3 rfl) rfl rfl ?_
    refine go_getd X fo_X5_15 lC_60 sC_60 fC_60_1 (dk dt_X5_readTest_3 4 rfl) ?_
    obtain ⟨g1, h⟩ := gd_some h
    refine go_iload_n X 2 (dk dt_X5_readTest_3 5 rfl) rfl rfl ?_
    refine go_iconst X (dk dt_X5_readTest_3 6 rfl) ci_0 ?_
    refine go_Vi (As := [.int x2, .int (0 : Int32)]) (rest := []) X vo_X5_79 (fun q hq => ct_X4_add hi xc nx g1 hq) (by omega) rfl (lL g1) (sL g1) rfl rfl (Nat.le_of_ble_eq_true rfl) (dk dt_X5_readTest_3 7 rfl) h (fun q104 h => ?_)
    refine go_pop X (dk dt_X5_readTest_3 8 rfl) rfl ?_
    refine go_iconst X (dk dt_X5_readTest_3 9 rfl) ci_1 ?_
    exact go_iret rt (dk dt_X5_readTest_3 10 rfl) h (by decide)
  · refine go_iconst X (dk dt_X5_readTest_3 1 rfl) ci_0 ?_
    exact go_iret rt (dk dt_X5_readTest_3 2 rfl) h (by decide)
set_option maxRecDepth 20000 in
theorem lkF_X5_readTest (hi : zInj wC v) (xc : XC wC v) (nx : NXC v) (X : Cx wC v p R s m args c 0 0 cX5_readTest 3 RX5 d) (rt : Rt wC v p l e R s m args below meth c 0 0 Q cX5_readTest true (some (.int res.1)) res.2) (hdb : 56 ≤ d) (ho_X5_readOpened : ∀ {b0 : Int32} {σ : Hp} {q : (Int32 × Hp)},  o_X5_readOpened b0 σ = some q → Ct wC v l yX5_readOpened cX5_readOpened 2 (some .boolean) d' [.ref 60, .int b0] σ (some (.int q.1)) q.2) (hdd : d' < d) {a1 : Int32} {σ : Hp}  (h : F_X5_readTest o_X5_readOpened a1 σ = some res) : Go wC v p l e R s m args below meth c 0 0 Q 3 0 [(0, .ref 60), (1, .int a1)] [] σ := by
  unfold F_X5_readTest at h
  refine go_aload_n X 0 (dk dt_X5_readTest_0 0 rfl) rfl rfl ?_
  refine go_getr X fo_X5_9 lC_60 sC_60 fC_60_0 (dk dt_X5_readTest_0 1 rfl) ?_
  refine go_Vi (As := []) (rest := []) X vo_X5_29 (fun q hq => ct_X8_here hi xc nx  hq) (by omega) rfl lC_23 sC_23 rfl rfl (Nat.le_of_ble_eq_true rfl) (dk dt_X5_readTest_0 2 rfl) h (fun q4 h => ?_)
  refine go_bipush X (dk dt_X5_readTest_0 3 rfl) cb_33 ?_
  refine go_icmp_eq (tgt := 24) X (dk dt_X5_readTest_0 4 rfl) (by decide) h (fun h => ?_) (fun h => ?_)
  · exact lkJ_X5_readTest_24 hi xc nx X rt hdb ho_X5_readOpened hdd   h
  · refine go_aload_n X 0 (dk dt_X5_readTest_0 5 rfl) rfl rfl ?_
    refine go_getr X fo_X5_9 lC_60 sC_60 fC_60_0 (dk dt_X5_readTest_0 6 rfl) ?_
    refine go_Vi (As := []) (rest := []) X vo_X5_29 (fun q hq => ct_X8_here hi xc nx  hq) (by omega) rfl lC_23 sC_23 rfl rfl (Nat.le_of_ble_eq_true rfl) (dk dt_X5_readTest_0 7 rfl) h (fun q16 h => ?_)
    refine go_bipush X (dk dt_X5_readTest_0 8 rfl) cb_40 ?_
    refine go_icmp_ne (tgt := 30) X (dk dt_X5_readTest_0 9 rfl) (by decide) h (fun h => ?_) (fun h => ?_)
    · refine go_aload_n X 0 (dk dt_X5_readTest_0 14 rfl) rfl rfl ?_
      refine go_iload_n X 1 (dk dt_X5_readTest_0 15 rfl) rfl rfl ?_
      refine go_Vi (As := [.int a1]) (rest := []) X vo_X5_58 (fun q hq => ctD_X5_readAmount hi xc nx  hq) (by omega) rfl lC_60 sC_60 rfl rfl (Nat.le_of_ble_eq_true rfl) (dk dt_X5_readTest_1 0 rfl) h (fun q32 h => ?_)
      refine go_if_ne (tgt := 40) X (dk dt_X5_readTest_1 1 rfl) (by decide) h (fun h => ?_) (fun h => ?_)
      · refine go_aload_n X 0 (dk dt_X5_readTest_1 4 rfl) rfl rfl ?_
        refine go_getr X fo_X5_9 lC_60 sC_60 fC_60_0 (dk dt_X5_readTest_1 5 rfl) ?_
        refine go_Vi (As := []) (rest := []) X vo_X5_29 (fun q hq => ct_X8_here hi xc nx  hq) (by omega) rfl lC_23 sC_23 rfl rfl (Nat.le_of_ble_eq_true rfl) (dk dt_X5_readTest_1 6 rfl) h (fun q44 h => ?_)
        refine go_istore_n (lv' := [(2, .int q44.1), (0, .ref 60), (1, .int a1)]) X (dk dt_X5_readTest_1 7 rfl) rfl (by decide) rfl ?_
        refine go_iload_n X 0 (dk dt_X5_readTest_1 8 rfl) rfl rfl ?_
        refine go_bipush X (dk dt_X5_readTest_1 9 rfl) cb_60 ?_
        refine go_icmp_eq (tgt := 75) X (dk dt_X5_readTest_1 10 rfl) (by decide) h (fun h => ?_) (fun h => ?_)
        · refine go_sub [1, 2, 0] rfl ?_
          exact lkJ_X5_readTest_75 hi xc nx X rt hdb ho_X5_readOpened hdd   h
        · refine go_iload_n X 0 (dk dt_X5_readTest_1 11 rfl) rfl rfl ?_
          refine go_bipush X (dk dt_X5_readTest_1 12 rfl) cb_62 ?_
          refine go_icmp_eq (tgt := 75) X (dk dt_X5_readTest_1 13 rfl) (by decide) h (fun h => ?_) (fun h => ?_)
          · refine go_sub [1, 2, 0] rfl ?_
            exact lkJ_X5_readTest_75 hi xc nx X rt hdb ho_X5_readOpened hdd   h
          · refine go_iload_n X 0 (dk dt_X5_readTest_1 14 rfl) rfl rfl ?_
            refine go_bipush X (dk dt_X5_readTest_1 15 rfl) cb_61 ?_
            refine go_icmp_eq (tgt := 75) X (dk dt_X5_readTest_2 0 rfl) (by decide) h (fun h => ?_) (fun h => ?_)
            · refine go_sub [1, 2, 0] rfl ?_
              exact lkJ_X5_readTest_75 hi xc nx X rt hdb ho_X5_readOpened hdd   h
            · refine go_aload_n X 1 (dk dt_X5_readTest_2 1 rfl) rfl rfl ?_
              refine go_getr X fo_X5_9 lC_60 sC_60 fC_60_0 (dk dt_X5_readTest_2 2 rfl) ?_
              refine go_iconst X (dk dt_X5_readTest_2 3 rfl) ci_1 ?_
              refine go_Vi (As := [.int (1 : Int32)]) (rest := []) X vo_X5_33 (fun q hq => ct_X8_refuse hi xc nx  hq) (by omega) rfl lC_23 sC_23 rfl rfl (Nat.le_of_ble_eq_true rfl) (dk dt_X5_readTest_2 4 rfl) h (fun q71 h => ?_)
              exact go_zret rt (dk dt_X5_readTest_2 5 rfl) h
      · refine go_iconst X (dk dt_X5_readTest_1 2 rfl) ci_0 ?_
        exact go_iret rt (dk dt_X5_readTest_1 3 rfl) h (by decide)
    · exact lkJ_X5_readTest_24 hi xc nx X rt hdb ho_X5_readOpened hdd   h
set_option maxRecDepth 20000 in
theorem ct_X5_readTest (hi : zInj wC v) (xc : XC wC v) (nx : NXC v)  (hdb : 56 ≤ d) (ho_X5_readOpened : ∀ {b0 : Int32} {σ : Hp} {q : (Int32 × Hp)},  o_X5_readOpened b0 σ = some q → Ct wC v l yX5_readOpened cX5_readOpened 2 (some .boolean) d' [.ref 60, .int b0] σ (some (.int q.1)) q.2) (hdd : d' < d) {a1 : Int32} {σ : Hp}  {q : (Int32 × Hp)} (h : F_X5_readTest o_X5_readOpened a1 σ = some q) : Ct wC v l yX5_readTest cX5_readTest 3 (some .boolean) d [.ref 60, .int a1] σ (some (.int q.1)) q.2 :=
  Ct.intro true (by decide) hi xc (Nat.le_of_ble_eq_true rfl) rfl (fun p e R s m args below meth c Q X rt => lkF_X5_readTest hi xc nx X rt hdb ho_X5_readOpened hdd  h)
end
section
variable {v : ZV} {l : Launch}
set_option maxRecDepth 100000 in
theorem ct_G_X5_readChoice (hi : zInj wC v) (xc : XC wC v) (nx : NXC v) (n : Nat) : (∀ {b0 : Int32} {σ : Hp} {q : (Int32 × Hp)},  G_X5_readChoice n 0 b0 σ = some q → Ct wC v l yX5_readChoice cX5_readChoice 4 (some .boolean) (56 + n) [.ref 60, .int b0] σ (some (.int q.1)) q.2) ∧ (∀ {b0 : Int32} {σ : Hp} {q : (Int32 × Hp)},  G_X5_readChoice n 1 b0 σ = some q → Ct wC v l yX5_readOpened cX5_readOpened 2 (some .boolean) (56 + n) [.ref 60, .int b0] σ (some (.int q.1)) q.2) ∧ (∀ {b0 : Int32} {σ : Hp} {q : (Int32 × Hp)},  G_X5_readChoice n 2 b0 σ = some q → Ct wC v l yX5_readPart cX5_readPart 4 (some .boolean) (56 + n) [.ref 60, .int b0] σ (some (.int q.1)) q.2) ∧ (∀ {b0 : Int32} {σ : Hp} {q : (Int32 × Hp)},  G_X5_readChoice n 3 b0 σ = some q → Ct wC v l yX5_readTest cX5_readTest 3 (some .boolean) (56 + n) [.ref 60, .int b0] σ (some (.int q.1)) q.2) := by
  induction n with
  | zero => refine ⟨?_, ?_, ?_, ?_⟩ <;> (intros; rename_i h; rw [G_X5_readChoice_z] at h; cases h)
  | succ n ih =>
    obtain ⟨i0, i1, i2, i3⟩ := ih
    refine ⟨?_, ?_, ?_, ?_⟩
    · intro a1 σ q  h
      rw [G_X5_readChoice_0] at h
      exact ct_X5_readChoice (d := 56 + (n + 1)) (d' := 56 + n) hi xc nx (by omega) i2 (by omega)  h
    · intro a1 σ q  h
      rw [G_X5_readChoice_1] at h
      exact ct_X5_readOpened (d := 56 + (n + 1)) (d' := 56 + n) hi xc nx (by omega) i0 i3 (by omega)  h
    · intro a1 σ q  h
      rw [G_X5_readChoice_2] at h
      exact ct_X5_readPart (d := 56 + (n + 1)) (d' := 56 + n) hi xc nx (by omega) i3 (by omega)  h
    · intro a1 σ q  h
      rw [G_X5_readChoice_3] at h
      exact ct_X5_readTest (d := 56 + (n + 1)) (d' := 56 + n) hi xc nx (by omega) i1 (by omega)  h
theorem ctD_X5_readChoice (hi : zInj wC v) (xc : XC wC v) (nx : NXC v) {a1 : Int32} {σ : Hp}  {q : (Int32 × Hp)} (h : D_X5_readChoice a1 σ = some q) : Ct wC v l yX5_readChoice cX5_readChoice 4 (some .boolean) 96 [.ref 60, .int a1] σ (some (.int q.1)) q.2 := (ct_G_X5_readChoice hi xc nx 40).1  h
theorem ctD_X5_readOpened (hi : zInj wC v) (xc : XC wC v) (nx : NXC v) {a1 : Int32} {σ : Hp}  {q : (Int32 × Hp)} (h : D_X5_readOpened a1 σ = some q) : Ct wC v l yX5_readOpened cX5_readOpened 2 (some .boolean) 96 [.ref 60, .int a1] σ (some (.int q.1)) q.2 := (ct_G_X5_readChoice hi xc nx 40).2.1  h
theorem ctD_X5_readPart (hi : zInj wC v) (xc : XC wC v) (nx : NXC v) {a1 : Int32} {σ : Hp}  {q : (Int32 × Hp)} (h : D_X5_readPart a1 σ = some q) : Ct wC v l yX5_readPart cX5_readPart 4 (some .boolean) 96 [.ref 60, .int a1] σ (some (.int q.1)) q.2 := (ct_G_X5_readChoice hi xc nx 40).2.2.1  h
theorem ctD_X5_readTest (hi : zInj wC v) (xc : XC wC v) (nx : NXC v) {a1 : Int32} {σ : Hp}  {q : (Int32 × Hp)} (h : D_X5_readTest a1 σ = some q) : Ct wC v l yX5_readTest cX5_readTest 3 (some .boolean) 96 [.ref 60, .int a1] σ (some (.int q.1)) q.2 := (ct_G_X5_readChoice hi xc nx 40).2.2.2  h
end
def T_X5_readRule_0 : DT := [(0, .iload_n 1, 1), (1, .ifCond .lt 9, 3), (4, .iload_n 1, 1), (5, .bipush 16, 2), (7, .if_icmp .lt 5, 3), (10, .iconst 0, 1), (11, .ireturn, 1), (12, .aload_n 0, 1), (13, .getfield 9, 3), (16, .dup, 1), (17, .getfield 44, 3), (20, .iconst 1, 1), (21, .iadd, 1), (22, .putfield 44, 3), (25, .aload_n 0, 1), (26, .getfield 15, 3)]
theorem dt_X5_readRule_0 : dOk cX5_readRule T_X5_readRule_0 := by unfold dOk; decide +kernel
def T_X5_readRule_1 : DT := [(29, .getfield 48, 3), (32, .iload_n 1, 1), (33, .iload_n 2, 1), (34, .iastore, 1), (35, .aload_n 0, 1), (36, .getfield 15, 3), (39, .getfield 52, 3), (42, .iload_n 1, 1), (43, .aload_n 0, 1), (44, .getfield 15, 3), (47, .getfield 55, 3), (50, .iastore, 1), (51, .iload_n 2, 1), (52, .bipush 120, 2), (54, .if_icmp .eq 13, 3), (57, .aload_n 0, 1)]
theorem dt_X5_readRule_1 : dOk cX5_readRule T_X5_readRule_1 := by unfold dOk; decide +kernel
def T_X5_readRule_2 : DT := [(58, .iconst 0, 1), (59, .invokevirtual 58, 3), (62, .ifCond .ne 5, 3), (65, .iconst 0, 1), (66, .ireturn, 1), (67, .aload_n 0, 1), (68, .getfield 15, 3), (71, .getfield 61, 3), (74, .iload_n 1, 1), (75, .aload_n 0, 1), (76, .getfield 15, 3), (79, .getfield 55, 3), (82, .iastore, 1), (83, .aload_n 0, 1), (84, .getfield 9, 3), (87, .bipush 40, 2)]
theorem dt_X5_readRule_2 : dOk cX5_readRule T_X5_readRule_2 := by unfold dOk; decide +kernel
def T_X5_readRule_3 : DT := [(89, .invokevirtual 41, 3), (92, .ifCond .ne 12, 3), (95, .aload_n 0, 1), (96, .getfield 9, 3), (99, .iconst 1, 1), (100, .invokevirtual 33, 3), (103, .ireturn, 1), (104, .aload_n 0, 1), (105, .iconst 1, 1), (106, .invokevirtual 64, 3), (109, .ifCond .eq 12, 3), (112, .aload_n 0, 1), (113, .bipush 41, 2), (115, .invokevirtual 67, 3), (118, .ifCond .ne 5, 3), (121, .iconst 0, 1)]
theorem dt_X5_readRule_3 : dOk cX5_readRule T_X5_readRule_3 := by unfold dOk; decide +kernel
def T_X5_readRule_4 : DT := [(122, .ireturn, 1), (123, .aload_n 0, 1), (124, .getfield 15, 3), (127, .getfield 70, 3), (130, .iload_n 1, 1), (131, .aload_n 0, 1), (132, .getfield 15, 3), (135, .getfield 55, 3), (138, .iastore, 1), (139, .aload_n 0, 1), (140, .getfield 15, 3), (143, .iload_n 1, 1), (144, .iconst 1, 1), (145, .iadd, 1), (146, .putfield 73, 3), (149, .iconst 1, 1)]
theorem dt_X5_readRule_4 : dOk cX5_readRule T_X5_readRule_4 := by unfold dOk; decide +kernel
def T_X5_readRule_5 : DT := [(150, .ireturn, 1)]
theorem dt_X5_readRule_5 : dOk cX5_readRule T_X5_readRule_5 := by unfold dOk; decide +kernel
section
variable {v : ZV} {l : Launch} {p : Program} {e : Env} {R : Room} {s : State} {m : MethodId} {args : Array Value} {below : List Frame} {meth : Method} {c : Code} {Q : State → Prop} {res : (Int32 × Hp)} 
set_option maxRecDepth 20000 in
theorem lkJ_X5_readRule_67 (hi : zInj wC v) (xc : XC wC v) (nx : NXC v) (X : Cx wC v p R s m args c 0 0 cX5_readRule 3 RX5 98) (rt : Rt wC v p l e R s m args below meth c 0 0 Q cX5_readRule true (some (.int res.1)) res.2)  {x1 : Int32} {σ : Hp}   (h : J_X5_readRule_67   x1 σ = some res) : Go wC v p l e R s m args below meth c 0 0 Q 3 67 [(0, .ref 60), (1, .int x1)] [] σ := by
  unfold J_X5_readRule_67 at h
  refine go_aload_n X 0 (dk dt_X5_readRule_2 5 rfl) rfl rfl ?_
  refine go_getd X fo_X5_15 lC_60 sC_60 fC_60_1 (dk dt_X5_readRule_2 6 rfl) ?_
  obtain ⟨g4, h⟩ := gd_some h
  refine go_getr X fo_X5_61 (lL g4) (sL g4) (fL_4 g4) (dk dt_X5_readRule_2 7 rfl) ?_
  refine go_iload_n X 1 (dk dt_X5_readRule_2 8 rfl) rfl rfl ?_
  refine go_aload_n X 0 (dk dt_X5_readRule_2 9 rfl) rfl rfl ?_
  refine go_getd X fo_X5_15 lC_60 sC_60 fC_60_1 (dk dt_X5_readRule_2 10 rfl) ?_
  obtain ⟨g5, h⟩ := gd_some h
  refine go_geti X fo_X5_55 (lL g5) (sL g5) (fL_9 g5) (dk dt_X5_readRule_2 11 rfl) ?_
  refine go_iast X (lLa_5 g4) (sLa_5 g4) (dk dt_X5_readRule_2 12 rfl) h (fun h => ?_)
  refine go_aload_n X 0 (dk dt_X5_readRule_2 13 rfl) rfl rfl ?_
  refine go_getr X fo_X5_9 lC_60 sC_60 fC_60_0 (dk dt_X5_readRule_2 14 rfl) ?_
  refine go_bipush X (dk dt_X5_readRule_2 15 rfl) cb_40 ?_
  refine go_Vi (As := [.int (40 : Int32)]) (rest := []) X vo_X5_41 (fun q hq => ct_X8_takes hi xc nx  hq) (by decide) rfl lC_23 sC_23 rfl rfl (Nat.le_of_ble_eq_true rfl) (dk dt_X5_readRule_3 0 rfl) h (fun q89 h => ?_)
  refine go_if_ne (tgt := 104) X (dk dt_X5_readRule_3 1 rfl) (by decide) h (fun h => ?_) (fun h => ?_)
  · refine go_aload_n X 0 (dk dt_X5_readRule_3 7 rfl) rfl rfl ?_
    refine go_iconst X (dk dt_X5_readRule_3 8 rfl) ci_1 ?_
    refine go_Vi (As := [.int (1 : Int32)]) (rest := []) X vo_X5_64 (fun q hq => ctD_X5_readChoice hi xc nx  hq) (by decide) rfl lC_60 sC_60 rfl rfl (Nat.le_of_ble_eq_true rfl) (dk dt_X5_readRule_3 9 rfl) h (fun q106 h => ?_)
    refine go_if_eq (tgt := 121) X (dk dt_X5_readRule_3 10 rfl) (by decide) h (fun h => ?_) (fun h => ?_)
    · refine go_iconst X (dk dt_X5_readRule_3 15 rfl) ci_0 ?_
      exact go_iret rt (dk dt_X5_readRule_4 0 rfl) h (by decide)
    · refine go_aload_n X 0 (dk dt_X5_readRule_3 11 rfl) rfl rfl ?_
      refine go_bipush X (dk dt_X5_readRule_3 12 rfl) cb_41 ?_
      refine go_Vi (As := [.int (41 : Int32)]) (rest := []) X vo_X5_67 (fun q hq => ct_X5_readClosing hi xc nx  hq) (by decide) rfl lC_60 sC_60 rfl rfl (Nat.le_of_ble_eq_true rfl) (dk dt_X5_readRule_3 13 rfl) h (fun q115 h => ?_)
      refine go_if_ne (tgt := 123) X (dk dt_X5_readRule_3 14 rfl) (by decide) h (fun h => ?_) (fun h => ?_)
      · refine go_aload_n X 0 (dk dt_X5_readRule_4 1 rfl) rfl rfl ?_
        refine go_getd X fo_X5_15 lC_60 sC_60 fC_60_1 (dk dt_X5_readRule_4 2 rfl) ?_
        obtain ⟨g6, h⟩ := gd_some h
        refine go_getr X fo_X5_70 (lL g6) (sL g6) (fL_5 g6) (dk dt_X5_readRule_4 3 rfl) ?_
        refine go_iload_n X 1 (dk dt_X5_readRule_4 4 rfl) rfl rfl ?_
        refine go_aload_n X 0 (dk dt_X5_readRule_4 5 rfl) rfl rfl ?_
        refine go_getd X fo_X5_15 lC_60 sC_60 fC_60_1 (dk dt_X5_readRule_4 6 rfl) ?_
        obtain ⟨g7, h⟩ := gd_some h
        refine go_geti X fo_X5_55 (lL g7) (sL g7) (fL_9 g7) (dk dt_X5_readRule_4 7 rfl) ?_
        refine go_iast X (lLa_6 g6) (sLa_6 g6) (dk dt_X5_readRule_4 8 rfl) h (fun h => ?_)
        refine go_aload_n X 0 (dk dt_X5_readRule_4 9 rfl) rfl rfl ?_
        refine go_getd X fo_X5_15 lC_60 sC_60 fC_60_1 (dk dt_X5_readRule_4 10 rfl) ?_
        obtain ⟨g8, h⟩ := gd_some h
        refine go_iload_n X 1 (dk dt_X5_readRule_4 11 rfl) rfl rfl ?_
        refine go_iconst X (dk dt_X5_readRule_4 12 rfl) ci_1 ?_
        refine go_iadd X (dk dt_X5_readRule_4 13 rfl) ?_
        refine go_puti X fo_X5_73 pf_4_8 (lL g8) (sL g8) (fL_8 g8) (dk dt_X5_readRule_4 14 rfl) ?_
        refine go_iconst X (dk dt_X5_readRule_4 15 rfl) ci_1 ?_
        exact go_iret rt (dk dt_X5_readRule_5 0 rfl) h (by decide)
      · refine go_iconst X (dk dt_X5_readRule_3 15 rfl) ci_0 ?_
        exact go_iret rt (dk dt_X5_readRule_4 0 rfl) h (by decide)
  · refine go_aload_n X 0 (dk dt_X5_readRule_3 2 rfl) rfl rfl ?_
    refine go_getr X fo_X5_9 lC_60 sC_60 fC_60_0 (dk dt_X5_readRule_3 3 rfl) ?_
    refine go_iconst X (dk dt_X5_readRule_3 4 rfl) ci_1 ?_
    refine go_Vi (As := [.int (1 : Int32)]) (rest := []) X vo_X5_33 (fun q hq => ct_X8_refuse hi xc nx  hq) (by decide) rfl lC_23 sC_23 rfl rfl (Nat.le_of_ble_eq_true rfl) (dk dt_X5_readRule_3 5 rfl) h (fun q100 h => ?_)
    exact go_zret rt (dk dt_X5_readRule_3 6 rfl) h
set_option maxRecDepth 20000 in
theorem lkF_X5_readRule (hi : zInj wC v) (xc : XC wC v) (nx : NXC v) (X : Cx wC v p R s m args c 0 0 cX5_readRule 3 RX5 98) (rt : Rt wC v p l e R s m args below meth c 0 0 Q cX5_readRule true (some (.int res.1)) res.2) {a1 : Int32} {a2 : Int32} {σ : Hp}  (h : F_X5_readRule  a1 a2 σ = some res) : Go wC v p l e R s m args below meth c 0 0 Q 3 0 [(0, .ref 60), (1, .int a1), (2, .int a2)] [] σ := by
  unfold F_X5_readRule at h
  refine go_iload_n X 1 (dk dt_X5_readRule_0 0 rfl) rfl rfl ?_
  refine go_if_lt (tgt := 10) X (dk dt_X5_readRule_0 1 rfl) (by decide) h (fun h => ?_) (fun h => ?_)
  · refine go_iconst X (dk dt_X5_readRule_0 5 rfl) ci_0 ?_
    exact go_iret rt (dk dt_X5_readRule_0 6 rfl) h (by decide)
  · refine go_iload_n X 1 (dk dt_X5_readRule_0 2 rfl) rfl rfl ?_
    refine go_bipush X (dk dt_X5_readRule_0 3 rfl) cb_16 ?_
    refine go_icmp_lt (tgt := 12) X (dk dt_X5_readRule_0 4 rfl) (by decide) h (fun h => ?_) (fun h => ?_)
    · refine go_aload_n X 0 (dk dt_X5_readRule_0 7 rfl) rfl rfl ?_
      refine go_getr X fo_X5_9 lC_60 sC_60 fC_60_0 (dk dt_X5_readRule_0 8 rfl) ?_
      refine go_dup X (dk dt_X5_readRule_0 9 rfl) rfl ?_
      refine go_geti X fo_X5_44 lC_23 sC_23 fC_23_3 (dk dt_X5_readRule_0 10 rfl) ?_
      refine go_iconst X (dk dt_X5_readRule_0 11 rfl) ci_1 ?_
      refine go_iadd X (dk dt_X5_readRule_0 12 rfl) ?_
      refine go_puti X fo_X5_44 pf_8_3 lC_23 sC_23 fC_23_3 (dk dt_X5_readRule_0 13 rfl) ?_
      refine go_aload_n X 0 (dk dt_X5_readRule_0 14 rfl) rfl rfl ?_
      refine go_getd X fo_X5_15 lC_60 sC_60 fC_60_1 (dk dt_X5_readRule_0 15 rfl) ?_
      obtain ⟨g1, h⟩ := gd_some h
      refine go_getr X fo_X5_48 (lL g1) (sL g1) (fL_2 g1) (dk dt_X5_readRule_1 0 rfl) ?_
      refine go_iload_n X 1 (dk dt_X5_readRule_1 1 rfl) rfl rfl ?_
      refine go_iload_n X 2 (dk dt_X5_readRule_1 2 rfl) rfl rfl ?_
      refine go_iast X (lLa_3 g1) (sLa_3 g1) (dk dt_X5_readRule_1 3 rfl) h (fun h => ?_)
      refine go_aload_n X 0 (dk dt_X5_readRule_1 4 rfl) rfl rfl ?_
      refine go_getd X fo_X5_15 lC_60 sC_60 fC_60_1 (dk dt_X5_readRule_1 5 rfl) ?_
      obtain ⟨g2, h⟩ := gd_some h
      refine go_getr X fo_X5_52 (lL g2) (sL g2) (fL_3 g2) (dk dt_X5_readRule_1 6 rfl) ?_
      refine go_iload_n X 1 (dk dt_X5_readRule_1 7 rfl) rfl rfl ?_
      refine go_aload_n X 0 (dk dt_X5_readRule_1 8 rfl) rfl rfl ?_
      refine go_getd X fo_X5_15 lC_60 sC_60 fC_60_1 (dk dt_X5_readRule_1 9 rfl) ?_
      obtain ⟨g3, h⟩ := gd_some h
      refine go_geti X fo_X5_55 (lL g3) (sL g3) (fL_9 g3) (dk dt_X5_readRule_1 10 rfl) ?_
      refine go_iast X (lLa_4 g2) (sLa_4 g2) (dk dt_X5_readRule_1 11 rfl) h (fun h => ?_)
      refine go_iload_n X 2 (dk dt_X5_readRule_1 12 rfl) rfl rfl ?_
      refine go_bipush X (dk dt_X5_readRule_1 13 rfl) cb_120 ?_
      refine go_icmp_eq (tgt := 67) X (dk dt_X5_readRule_1 14 rfl) (by decide) h (fun h => ?_) (fun h => ?_)
      · refine go_sub [0, 1] rfl ?_
        exact lkJ_X5_readRule_67 hi xc nx X rt   h
      · refine go_aload_n X 0 (dk dt_X5_readRule_1 15 rfl) rfl rfl ?_
        refine go_iconst X (dk dt_X5_readRule_2 0 rfl) ci_0 ?_
        refine go_Vi (As := [.int (0 : Int32)]) (rest := []) X vo_X5_58 (fun q hq => ctD_X5_readAmount hi xc nx  hq) (by decide) rfl lC_60 sC_60 rfl rfl (Nat.le_of_ble_eq_true rfl) (dk dt_X5_readRule_2 1 rfl) h (fun q59 h => ?_)
        refine go_if_ne (tgt := 67) X (dk dt_X5_readRule_2 2 rfl) (by decide) h (fun h => ?_) (fun h => ?_)
        · refine go_sub [0, 1] rfl ?_
          exact lkJ_X5_readRule_67 hi xc nx X rt   h
        · refine go_iconst X (dk dt_X5_readRule_2 3 rfl) ci_0 ?_
          exact go_iret rt (dk dt_X5_readRule_2 4 rfl) h (by decide)
    · refine go_iconst X (dk dt_X5_readRule_0 5 rfl) ci_0 ?_
      exact go_iret rt (dk dt_X5_readRule_0 6 rfl) h (by decide)
set_option maxRecDepth 20000 in
theorem ct_X5_readRule (hi : zInj wC v) (xc : XC wC v) (nx : NXC v)  {a1 : Int32} {a2 : Int32} {σ : Hp}  {q : (Int32 × Hp)} (h : F_X5_readRule  a1 a2 σ = some q) : Ct wC v l yX5_readRule cX5_readRule 3 (some .boolean) 98 [.ref 60, .int a1, .int a2] σ (some (.int q.1)) q.2 :=
  Ct.intro true (by decide) hi xc (Nat.le_of_ble_eq_true rfl) rfl (fun p e R s m args below meth c Q X rt => lkF_X5_readRule hi xc nx X rt  h)
end
def T_X5_readInto_0 : DT := [(0, .aload_n 0, 1), (1, .aload_n 1, 1), (2, .putfield 15, 3), (5, .aload_n 0, 1), (6, .getfield 15, 3), (9, .invokevirtual 19, 3), (12, .aload_n 0, 1), (13, .getfield 9, 3), (16, .iload_n 2, 1), (17, .invokevirtual 24, 3), (20, .iconst 0, 1), (21, .istore_n 3, 1), (22, .iload_n 3, 1), (23, .bipush 16, 2), (25, .if_icmp .gt 116, 3), (28, .aload_n 0, 1)]
theorem dt_X5_readInto_0 : dOk cX5_readInto T_X5_readInto_0 := by unfold dOk; decide +kernel
def T_X5_readInto_1 : DT := [(29, .getfield 9, 3), (32, .invokevirtual 29, 3), (35, .istore 4, 2), (37, .iload 4, 2), (39, .bipush 98, 2), (41, .if_icmp .eq 33, 3), (44, .iload 4, 2), (46, .bipush 116, 2), (48, .if_icmp .eq 26, 3), (51, .iload 4, 2), (53, .bipush 119, 2), (55, .if_icmp .eq 19, 3), (58, .iload 4, 2), (60, .bipush 120, 2), (62, .if_icmp .eq 12, 3), (65, .aload_n 0, 1)]
theorem dt_X5_readInto_1 : dOk cX5_readInto T_X5_readInto_1 := by unfold dOk; decide +kernel
def T_X5_readInto_2 : DT := [(66, .getfield 9, 3), (69, .iconst 1, 1), (70, .invokevirtual 33, 3), (73, .ireturn, 1), (74, .iload_n 3, 1), (75, .bipush 16, 2), (77, .if_icmp .ne 12, 3), (80, .aload_n 0, 1), (81, .getfield 9, 3), (84, .iconst 4, 1), (85, .invokevirtual 33, 3), (88, .ireturn, 1), (89, .aload_n 0, 1), (90, .iload_n 3, 1), (91, .iload 4, 2), (93, .invokevirtual 37, 3)]
theorem dt_X5_readInto_2 : dOk cX5_readInto T_X5_readInto_2 := by unfold dOk; decide +kernel
def T_X5_readInto_3 : DT := [(96, .ifCond .ne 5, 3), (99, .iconst 0, 1), (100, .ireturn, 1), (101, .aload_n 0, 1), (102, .getfield 9, 3), (105, .invokevirtual 29, 3), (108, .iconst (-1), 1), (109, .if_icmp .ne 5, 3), (112, .iconst 1, 1), (113, .ireturn, 1), (114, .aload_n 0, 1), (115, .getfield 9, 3), (118, .bipush 59, 2), (120, .invokevirtual 41, 3), (123, .ifCond .ne 12, 3), (126, .aload_n 0, 1)]
theorem dt_X5_readInto_3 : dOk cX5_readInto T_X5_readInto_3 := by unfold dOk; decide +kernel
def T_X5_readInto_4 : DT := [(127, .getfield 9, 3), (130, .iconst 1, 1), (131, .invokevirtual 33, 3), (134, .ireturn, 1), (135, .iinc 3 1, 3), (138, .goto (-116), 3), (141, .iconst 0, 1), (142, .ireturn, 1)]
theorem dt_X5_readInto_4 : dOk cX5_readInto T_X5_readInto_4 := by unfold dOk; decide +kernel
section
variable {v : ZV} {l : Launch} {p : Program} {e : Env} {R : Room} {s : State} {m : MethodId} {args : Array Value} {below : List Frame} {meth : Method} {c : Code} {Q : State → Prop} {res : (Int32 × Hp)} 
set_option maxRecDepth 20000 in
theorem lkJ_X5_readInto_74 (hi : zInj wC v) (xc : XC wC v) (nx : NXC v) (X : Cx wC v p R s m args c 0 0 cX5_readInto 5 RX5 100) (rt : Rt wC v p l e R s m args below meth c 0 0 Q cX5_readInto true (some (.int res.1)) res.2) {k22 : Int32 → Hp → Option (Int32 × Hp)} {k126 : Hp → Option (Int32 × Hp)} {k80 : Hp → Option (Int32 × Hp)} {x3 : Int32} {x4 : Int32} {σ : Hp}  (hk22 : ∀ (x3 : Int32) (σ : Hp),  k22 x3 σ = some res → Go wC v p l e R s m args below meth c 0 0 Q 5 22 [(0, .ref 60), (3, .int x3)] [] σ) (hk126 : ∀  (σ : Hp),  k126  σ = some res → Go wC v p l e R s m args below meth c 0 0 Q 5 126 [(0, .ref 60)] [] σ) (hk80 : ∀  (σ : Hp),  k80  σ = some res → Go wC v p l e R s m args below meth c 0 0 Q 5 80 [(0, .ref 60)] [] σ) (h : J_X5_readInto_74  k22 k126 k80 x3 x4 σ = some res) : Go wC v p l e R s m args below meth c 0 0 Q 5 74 [(0, .ref 60), (3, .int x3), (4, .int x4)] [] σ := by
  unfold J_X5_readInto_74 at h
  refine go_iload_n X 1 (dk dt_X5_readInto_2 4 rfl) rfl rfl ?_
  refine go_bipush X (dk dt_X5_readInto_2 5 rfl) cb_16 ?_
  refine go_icmp_ne (tgt := 89) X (dk dt_X5_readInto_2 6 rfl) (by decide) h (fun h => ?_) (fun h => ?_)
  · refine go_aload_n X 0 (dk dt_X5_readInto_2 12 rfl) rfl rfl ?_
    refine go_iload_n X 1 (dk dt_X5_readInto_2 13 rfl) rfl rfl ?_
    refine go_iload X 2 (dk dt_X5_readInto_2 14 rfl) rfl ?_
    refine go_Vi (As := [.int x3, .int x4]) (rest := []) X vo_X5_37 (fun q hq => ct_X5_readRule hi xc nx  hq) (by decide) rfl lC_60 sC_60 rfl rfl (Nat.le_of_ble_eq_true rfl) (dk dt_X5_readInto_2 15 rfl) h (fun q93 h => ?_)
    refine go_if_ne (tgt := 101) X (dk dt_X5_readInto_3 0 rfl) (by decide) h (fun h => ?_) (fun h => ?_)
    · refine go_aload_n X 0 (dk dt_X5_readInto_3 3 rfl) rfl rfl ?_
      refine go_getr X fo_X5_9 lC_60 sC_60 fC_60_0 (dk dt_X5_readInto_3 4 rfl) ?_
      refine go_Vi (As := []) (rest := []) X vo_X5_29 (fun q hq => ct_X8_here hi xc nx  hq) (by decide) rfl lC_23 sC_23 rfl rfl (Nat.le_of_ble_eq_true rfl) (dk dt_X5_readInto_3 5 rfl) h (fun q105 h => ?_)
      refine go_iconst X (dk dt_X5_readInto_3 6 rfl) ci_m1 ?_
      refine go_icmp_ne (tgt := 114) X (dk dt_X5_readInto_3 7 rfl) (by decide) h (fun h => ?_) (fun h => ?_)
      · refine go_aload_n X 0 (dk dt_X5_readInto_3 10 rfl) rfl rfl ?_
        refine go_getr X fo_X5_9 lC_60 sC_60 fC_60_0 (dk dt_X5_readInto_3 11 rfl) ?_
        refine go_bipush X (dk dt_X5_readInto_3 12 rfl) cb_59 ?_
        refine go_Vi (As := [.int (59 : Int32)]) (rest := []) X vo_X5_41 (fun q hq => ct_X8_takes hi xc nx  hq) (by decide) rfl lC_23 sC_23 rfl rfl (Nat.le_of_ble_eq_true rfl) (dk dt_X5_readInto_3 13 rfl) h (fun q120 h => ?_)
        refine go_if_ne (tgt := 135) X (dk dt_X5_readInto_3 14 rfl) (by decide) h (fun h => ?_) (fun h => ?_)
        · refine go_iinc (lv' := [(3, .int (x3 + (1 : Int32))), (0, .ref 60), (4, .int x4)]) X 1 (dk dt_X5_readInto_4 4 rfl) rfl ci_1 (by decide) rfl ?_
          refine go_goto (tgt := 22) X (dk dt_X5_readInto_4 5 rfl) (by decide) ?_
          refine go_sub [1, 0] rfl ?_
          exact hk22 _ _  h
        · refine go_sub [0] rfl ?_
          exact hk126  _  h
      · refine go_iconst X (dk dt_X5_readInto_3 8 rfl) ci_1 ?_
        exact go_iret rt (dk dt_X5_readInto_3 9 rfl) h (by decide)
    · refine go_iconst X (dk dt_X5_readInto_3 1 rfl) ci_0 ?_
      exact go_iret rt (dk dt_X5_readInto_3 2 rfl) h (by decide)
  · refine go_sub [0] rfl ?_
    exact hk80  _  h
set_option maxRecDepth 20000 in
theorem lkB_X5_readInto_22 (hi : zInj wC v) (xc : XC wC v) (nx : NXC v) (X : Cx wC v p R s m args c 0 0 cX5_readInto 5 RX5 100) (rt : Rt wC v p l e R s m args below meth c 0 0 Q cX5_readInto true (some (.int res.1)) res.2) {k22 : Int32 → Hp → Option (Int32 × Hp)} {k126 : Hp → Option (Int32 × Hp)} {k80 : Hp → Option (Int32 × Hp)} {k65 : Hp → Option (Int32 × Hp)} {x3 : Int32} {σ : Hp}  (hk22 : ∀ (x3 : Int32) (σ : Hp),  k22 x3 σ = some res → Go wC v p l e R s m args below meth c 0 0 Q 5 22 [(0, .ref 60), (3, .int x3)] [] σ) (hk126 : ∀  (σ : Hp),  k126  σ = some res → Go wC v p l e R s m args below meth c 0 0 Q 5 126 [(0, .ref 60)] [] σ) (hk80 : ∀  (σ : Hp),  k80  σ = some res → Go wC v p l e R s m args below meth c 0 0 Q 5 80 [(0, .ref 60)] [] σ) (hk65 : ∀  (σ : Hp),  k65  σ = some res → Go wC v p l e R s m args below meth c 0 0 Q 5 65 [(0, .ref 60)] [] σ) (h : B_X5_readInto_22  k22 k126 k80 k65 x3 σ = some res) : Go wC v p l e R s m args below meth c 0 0 Q 5 22 [(0, .ref 60), (3, .int x3)] [] σ := by
  unfold B_X5_readInto_22 at h
  refine go_iload_n X 1 (dk dt_X5_readInto_0 12 rfl) rfl rfl ?_
  refine go_bipush X (dk dt_X5_readInto_0 13 rfl) cb_16 ?_
  refine go_icmp_gt (tgt := 141) X (dk dt_X5_readInto_0 14 rfl) (by decide) h (fun h => ?_) (fun h => ?_)
  · refine go_iconst X (dk dt_X5_readInto_4 6 rfl) ci_0 ?_
    exact go_iret rt (dk dt_X5_readInto_4 7 rfl) h (by decide)
  · refine go_aload_n X 0 (dk dt_X5_readInto_0 15 rfl) rfl rfl ?_
    refine go_getr X fo_X5_9 lC_60 sC_60 fC_60_0 (dk dt_X5_readInto_1 0 rfl) ?_
    refine go_Vi (As := []) (rest := []) X vo_X5_29 (fun q hq => ct_X8_here hi xc nx  hq) (by decide) rfl lC_23 sC_23 rfl rfl (Nat.le_of_ble_eq_true rfl) (dk dt_X5_readInto_1 1 rfl) h (fun q32 h => ?_)
    refine go_istore (lv' := [(4, .int q32.1), (0, .ref 60), (3, .int x3)]) X (dk dt_X5_readInto_1 2 rfl) (by decide) rfl ?_
    refine go_iload X 0 (dk dt_X5_readInto_1 3 rfl) rfl ?_
    refine go_bipush X (dk dt_X5_readInto_1 4 rfl) cb_98 ?_
    refine go_icmp_eq (tgt := 74) X (dk dt_X5_readInto_1 5 rfl) (by decide) h (fun h => ?_) (fun h => ?_)
    · refine go_sub [1, 2, 0] rfl ?_
      exact lkJ_X5_readInto_74 hi xc nx X rt  hk22 hk126 hk80 h
    · refine go_iload X 0 (dk dt_X5_readInto_1 6 rfl) rfl ?_
      refine go_bipush X (dk dt_X5_readInto_1 7 rfl) cb_116 ?_
      refine go_icmp_eq (tgt := 74) X (dk dt_X5_readInto_1 8 rfl) (by decide) h (fun h => ?_) (fun h => ?_)
      · refine go_sub [1, 2, 0] rfl ?_
        exact lkJ_X5_readInto_74 hi xc nx X rt  hk22 hk126 hk80 h
      · refine go_iload X 0 (dk dt_X5_readInto_1 9 rfl) rfl ?_
        refine go_bipush X (dk dt_X5_readInto_1 10 rfl) cb_119 ?_
        refine go_icmp_eq (tgt := 74) X (dk dt_X5_readInto_1 11 rfl) (by decide) h (fun h => ?_) (fun h => ?_)
        · refine go_sub [1, 2, 0] rfl ?_
          exact lkJ_X5_readInto_74 hi xc nx X rt  hk22 hk126 hk80 h
        · refine go_iload X 0 (dk dt_X5_readInto_1 12 rfl) rfl ?_
          refine go_bipush X (dk dt_X5_readInto_1 13 rfl) cb_120 ?_
          refine go_icmp_eq (tgt := 74) X (dk dt_X5_readInto_1 14 rfl) (by decide) h (fun h => ?_) (fun h => ?_)
          · refine go_sub [1, 2, 0] rfl ?_
            exact lkJ_X5_readInto_74 hi xc nx X rt  hk22 hk126 hk80 h
          · refine go_sub [1] rfl ?_
            exact hk65  _  h
set_option maxRecDepth 20000 in
theorem lkL_X5_readInto_22 (hi : zInj wC v) (xc : XC wC v) (nx : NXC v) (X : Cx wC v p R s m args c 0 0 cX5_readInto 5 RX5 100) (rt : Rt wC v p l e R s m args below meth c 0 0 Q cX5_readInto true (some (.int res.1)) res.2) {k126 : Hp → Option (Int32 × Hp)} {k80 : Hp → Option (Int32 × Hp)} {k65 : Hp → Option (Int32 × Hp)} (hk126 : ∀  (σ : Hp),  k126  σ = some res → Go wC v p l e R s m args below meth c 0 0 Q 5 126 [(0, .ref 60)] [] σ) (hk80 : ∀  (σ : Hp),  k80  σ = some res → Go wC v p l e R s m args below meth c 0 0 Q 5 80 [(0, .ref 60)] [] σ) (hk65 : ∀  (σ : Hp),  k65  σ = some res → Go wC v p l e R s m args below meth c 0 0 Q 5 65 [(0, .ref 60)] [] σ) (n : Nat) : ∀ {x3 : Int32} {σ : Hp},  L_X5_readInto_22  k126 k80 k65 n x3 σ = some res → Go wC v p l e R s m args below meth c 0 0 Q 5 22 [(0, .ref 60), (3, .int x3)] [] σ := by
  induction n with
  | zero => intro x3 σ  h; cases h
  | succ n ih =>
    intro x3 σ  h
    exact lkB_X5_readInto_22 hi xc nx X rt  (fun _ _  hh => ih  hh) hk126 hk80 hk65 h
set_option maxRecDepth 20000 in
theorem lkJ_X5_readInto_126 (hi : zInj wC v) (xc : XC wC v) (nx : NXC v) (X : Cx wC v p R s m args c 0 0 cX5_readInto 5 RX5 100) (rt : Rt wC v p l e R s m args below meth c 0 0 Q cX5_readInto true (some (.int res.1)) res.2)   {σ : Hp}   (h : J_X5_readInto_126    σ = some res) : Go wC v p l e R s m args below meth c 0 0 Q 5 126 [(0, .ref 60)] [] σ := by
  unfold J_X5_readInto_126 at h
  refine go_aload_n X 0 (dk dt_X5_readInto_3 15 rfl) rfl rfl ?_
  refine go_getr X fo_X5_9 lC_60 sC_60 fC_60_0 (dk dt_X5_readInto_4 0 rfl) ?_
  refine go_iconst X (dk dt_X5_readInto_4 1 rfl) ci_1 ?_
  refine go_Vi (As := [.int (1 : Int32)]) (rest := []) X vo_X5_33 (fun q hq => ct_X8_refuse hi xc nx  hq) (by decide) rfl lC_23 sC_23 rfl rfl (Nat.le_of_ble_eq_true rfl) (dk dt_X5_readInto_4 2 rfl) h (fun q131 h => ?_)
  exact go_zret rt (dk dt_X5_readInto_4 3 rfl) h
set_option maxRecDepth 20000 in
theorem lkJ_X5_readInto_80 (hi : zInj wC v) (xc : XC wC v) (nx : NXC v) (X : Cx wC v p R s m args c 0 0 cX5_readInto 5 RX5 100) (rt : Rt wC v p l e R s m args below meth c 0 0 Q cX5_readInto true (some (.int res.1)) res.2)   {σ : Hp}   (h : J_X5_readInto_80    σ = some res) : Go wC v p l e R s m args below meth c 0 0 Q 5 80 [(0, .ref 60)] [] σ := by
  unfold J_X5_readInto_80 at h
  refine go_aload_n X 0 (dk dt_X5_readInto_2 7 rfl) rfl rfl ?_
  refine go_getr X fo_X5_9 lC_60 sC_60 fC_60_0 (dk dt_X5_readInto_2 8 rfl) ?_
  refine go_iconst X (dk dt_X5_readInto_2 9 rfl) ci_4 ?_
  refine go_Vi (As := [.int (4 : Int32)]) (rest := []) X vo_X5_33 (fun q hq => ct_X8_refuse hi xc nx  hq) (by decide) rfl lC_23 sC_23 rfl rfl (Nat.le_of_ble_eq_true rfl) (dk dt_X5_readInto_2 10 rfl) h (fun q85 h => ?_)
  exact go_zret rt (dk dt_X5_readInto_2 11 rfl) h
set_option maxRecDepth 20000 in
theorem lkJ_X5_readInto_65 (hi : zInj wC v) (xc : XC wC v) (nx : NXC v) (X : Cx wC v p R s m args c 0 0 cX5_readInto 5 RX5 100) (rt : Rt wC v p l e R s m args below meth c 0 0 Q cX5_readInto true (some (.int res.1)) res.2)   {σ : Hp}   (h : J_X5_readInto_65    σ = some res) : Go wC v p l e R s m args below meth c 0 0 Q 5 65 [(0, .ref 60)] [] σ := by
  unfold J_X5_readInto_65 at h
  refine go_aload_n X 0 (dk dt_X5_readInto_1 15 rfl) rfl rfl ?_
  refine go_getr X fo_X5_9 lC_60 sC_60 fC_60_0 (dk dt_X5_readInto_2 0 rfl) ?_
  refine go_iconst X (dk dt_X5_readInto_2 1 rfl) ci_1 ?_
  refine go_Vi (As := [.int (1 : Int32)]) (rest := []) X vo_X5_33 (fun q hq => ct_X8_refuse hi xc nx  hq) (by decide) rfl lC_23 sC_23 rfl rfl (Nat.le_of_ble_eq_true rfl) (dk dt_X5_readInto_2 2 rfl) h (fun q70 h => ?_)
  exact go_zret rt (dk dt_X5_readInto_2 3 rfl) h
set_option maxRecDepth 20000 in
theorem lkF_X5_readInto (hi : zInj wC v) (xc : XC wC v) (nx : NXC v) (X : Cx wC v p R s m args c 0 0 cX5_readInto 5 RX5 100) (rt : Rt wC v p l e R s m args below meth c 0 0 Q cX5_readInto true (some (.int res.1)) res.2) {a1 : Nat} {a2 : Int32} {σ : Hp} (ha1 : isL a1 = true) (h : F_X5_readInto  a1 a2 σ = some res) : Go wC v p l e R s m args below meth c 0 0 Q 5 0 [(0, .ref 60), (1, .ref a1), (2, .int a2)] [] σ := by
  unfold F_X5_readInto at h
  refine go_aload_n X 0 (dk dt_X5_readInto_0 0 rfl) rfl rfl ?_
  refine go_aload_n X 1 (dk dt_X5_readInto_0 1 rfl) rfl rfl ?_
  refine go_putd X fo_X5_15 pf_5_1 lC_60 sC_60 fC_60_1 (bL ha1) (dk dt_X5_readInto_0 2 rfl) ?_
  refine go_aload_n X 0 (dk dt_X5_readInto_0 3 rfl) rfl rfl ?_
  refine go_getd X fo_X5_15 lC_60 sC_60 fC_60_1 (dk dt_X5_readInto_0 4 rfl) ?_
  obtain ⟨g1, h⟩ := gd_some h
  refine go_Vv (As := []) (rest := []) X vo_X5_19 (fun q hq => ct_X4_begin hi xc nx g1 hq) (by decide) rfl (lL g1) (sL g1) rfl rfl (Nat.le_of_ble_eq_true rfl) (dk dt_X5_readInto_0 5 rfl) h (fun q9 h => ?_)
  refine go_aload_n X 0 (dk dt_X5_readInto_0 6 rfl) rfl rfl ?_
  refine go_getr X fo_X5_9 lC_60 sC_60 fC_60_0 (dk dt_X5_readInto_0 7 rfl) ?_
  refine go_iload_n X 2 (dk dt_X5_readInto_0 8 rfl) rfl rfl ?_
  refine go_Vv (As := [.int a2]) (rest := []) X vo_X5_24 (fun q hq => ct_X8_begin hi xc nx  hq) (by decide) rfl lC_23 sC_23 rfl rfl (Nat.le_of_ble_eq_true rfl) (dk dt_X5_readInto_0 9 rfl) h (fun q17 h => ?_)
  refine go_iconst X (dk dt_X5_readInto_0 10 rfl) ci_0 ?_
  refine go_istore_n (lv' := [(3, .int (0 : Int32)), (0, .ref 60), (1, .ref a1), (2, .int a2)]) X (dk dt_X5_readInto_0 11 rfl) rfl (by decide) rfl ?_
  refine go_sub [1, 0] rfl ?_
  exact lkL_X5_readInto_22 hi xc nx X rt (fun  _  hh => lkJ_X5_readInto_126 hi xc nx X rt   hh) (fun  _  hh => lkJ_X5_readInto_80 hi xc nx X rt   hh) (fun  _  hh => lkJ_X5_readInto_65 hi xc nx X rt   hh) FU  h
set_option maxRecDepth 20000 in
theorem ct_X5_readInto (hi : zInj wC v) (xc : XC wC v) (nx : NXC v)  {a1 : Nat} {a2 : Int32} {σ : Hp} (ha1 : isL a1 = true) {q : (Int32 × Hp)} (h : F_X5_readInto  a1 a2 σ = some q) : Ct wC v l yX5_readInto cX5_readInto 5 (some .boolean) 100 [.ref 60, .ref a1, .int a2] σ (some (.int q.1)) q.2 :=
  Ct.intro true (by decide) hi xc (Nat.le_of_ble_eq_true rfl) rfl (fun p e R s m args below meth c Q X rt => lkF_X5_readInto hi xc nx X rt ha1 h)
end
def T_V_law_0 : DT := [(0, .iload_n 1, 1), (1, .iconst 1, 1), (2, .sipush 240, 3), (5, .invokestatic 119, 3), (8, .ifCond .eq 14, 3), (11, .aload_n 0, 1), (12, .getfield 32, 3), (15, .iload_n 1, 1), (16, .invokevirtual 151, 3), (19, .ifCond .ne 5, 3), (22, .iconst (-1), 1), (23, .ireturn, 1), (24, .aload_n 0, 1), (25, .getfield 107, 3), (28, .aload_n 0, 1), (29, .getfield 99, 3)]
theorem dt_V_law_0 : dOk cX11_law T_V_law_0 := by unfold dOk; decide +kernel
def T_V_law_1 : DT := [(32, .iload_n 1, 1), (33, .invokevirtual 154, 3), (36, .istore_n 2, 1), (37, .aload_n 0, 1), (38, .getfield 32, 3), (41, .invokevirtual 158, 3), (44, .iload_n 2, 1), (45, .ifCond .ne 11, 3), (48, .aload_n 0, 1), (49, .getfield 32, 3), (52, .getfield 161, 3), (55, .ireturn, 1), (56, .aload_n 0, 1), (57, .getfield 95, 3), (60, .astore_n 3, 1), (61, .aload_n 0, 1)]
theorem dt_V_law_1 : dOk cX11_law T_V_law_1 := by unfold dOk; decide +kernel
def T_V_law_2 : DT := [(62, .aload_n 0, 1), (63, .getfield 99, 3), (66, .putfield 95, 3), (69, .aload_n 0, 1), (70, .aload_n 3, 1), (71, .putfield 99, 3), (74, .aload_n 0, 1), (75, .getfield 95, 3), (78, .getfield 164, 3), (81, .ireturn, 1)]
theorem dt_V_law_2 : dOk cX11_law T_V_law_2 := by unfold dOk; decide +kernel
section
variable {v : ZV} {l : Launch} {p : Program} {e : Env} {R : Room} {s : State} {m : MethodId} {args : Array Value} {below : List Frame} {meth : Method} {c : Code} {Q : State → Prop} {res : (Int32 × Hp)} 
set_option maxRecDepth 20000 in
theorem lkF_V_law (hi : zInj wC v) (xc : XC wC v) (nx : NXC v) (X : Cx wC v p R s m args c 0 0 cX11_law 4 RX11 102) (rt : Rt wC v p l e R s m args below meth c 0 0 Q cX11_law false (some (.int res.1)) res.2) {a1 : Int32} {σ : Hp}  (h : F_V_law  a1 σ = some res) : Go wC v p l e R s m args below meth c 0 0 Q 4 0 [(0, .ref 0), (1, .int a1)] [] σ := by
  unfold F_V_law at h
  refine go_iload_n X 1 (dk dt_V_law_0 0 rfl) rfl rfl ?_
  refine go_iconst X (dk dt_V_law_0 1 rfl) ci_1 ?_
  refine go_sipush X (dk dt_V_law_0 2 rfl) cs_240 ?_
  refine go_Si (As := [.int a1, .int (1 : Int32), .int (240 : Int32)]) (rest := []) X so_X11_119 (fun q hq => ct_V_within hi xc nx  hq) (by decide) rfl rfl (Nat.le_of_ble_eq_true rfl) (dk dt_V_law_0 3 rfl) h (fun q5 h => ?_)
  refine go_if_eq (tgt := 22) X (dk dt_V_law_0 4 rfl) (by decide) h (fun h => ?_) (fun h => ?_)
  · refine go_iconst X (dk dt_V_law_0 10 rfl) ci_m1 ?_
    exact go_iret rt (dk dt_V_law_0 11 rfl) h (fun hh => nomatch hh)
  · refine go_aload_n X 0 (dk dt_V_law_0 5 rfl) rfl rfl ?_
    refine go_getr X fo_X11_32 lC_0 sC_0 fC_0_4 (dk dt_V_law_0 6 rfl) ?_
    refine go_iload_n X 1 (dk dt_V_law_0 7 rfl) rfl rfl ?_
    refine go_Vi (As := [.int a1]) (rest := []) X vo_X11_151 (fun q hq => ct_X8_has hi xc nx  hq) (by decide) rfl lC_23 sC_23 rfl rfl (Nat.le_of_ble_eq_true rfl) (dk dt_V_law_0 8 rfl) h (fun q16 h => ?_)
    refine go_if_ne (tgt := 24) X (dk dt_V_law_0 9 rfl) (by decide) h (fun h => ?_) (fun h => ?_)
    · refine go_aload_n X 0 (dk dt_V_law_0 12 rfl) rfl rfl ?_
      refine go_getr X fo_X11_107 lC_0 sC_0 fC_0_16 (dk dt_V_law_0 13 rfl) ?_
      refine go_aload_n X 0 (dk dt_V_law_0 14 rfl) rfl rfl ?_
      refine go_getd X fo_X11_99 lC_0 sC_0 fC_0_15 (dk dt_V_law_0 15 rfl) ?_
      obtain ⟨g1, h⟩ := gd_some h
      refine go_iload_n X 1 (dk dt_V_law_1 0 rfl) rfl rfl ?_
      refine go_Vi (As := [.ref (Int32.toNatClampNeg (q16.2 0 15)), .int a1]) (rest := []) X vo_X11_154 (fun q hq => ct_X5_readInto hi xc nx g1 hq) (by decide) rfl lC_60 sC_60 rfl rfl (Nat.le_of_ble_eq_true rfl) (dk dt_V_law_1 1 rfl) h (fun q33 h => ?_)
      refine go_istore_n (lv' := [(2, .int q33.1), (0, .ref 0), (1, .int a1)]) X (dk dt_V_law_1 2 rfl) rfl (by decide) rfl ?_
      refine go_aload_n X 1 (dk dt_V_law_1 3 rfl) rfl rfl ?_
      refine go_getr X fo_X11_32 lC_0 sC_0 fC_0_4 (dk dt_V_law_1 4 rfl) ?_
      refine go_Vv (As := []) (rest := []) X vo_X11_158 (fun q hq => ct_X8_clear hi xc nx  hq) (by decide) rfl lC_23 sC_23 rfl rfl (Nat.le_of_ble_eq_true rfl) (dk dt_V_law_1 5 rfl) h (fun q41 h => ?_)
      refine go_iload_n X 0 (dk dt_V_law_1 6 rfl) rfl rfl ?_
      refine go_if_ne (tgt := 56) X (dk dt_V_law_1 7 rfl) (by decide) h (fun h => ?_) (fun h => ?_)
      · refine go_aload_n X 1 (dk dt_V_law_1 12 rfl) rfl rfl ?_
        refine go_getd X fo_X11_95 lC_0 sC_0 fC_0_14 (dk dt_V_law_1 13 rfl) ?_
        obtain ⟨g2, h⟩ := gd_some h
        refine go_astore_n (lv' := [(3, .ref (Int32.toNatClampNeg (q41 0 14))), (2, .int q33.1), (0, .ref 0), (1, .int a1)]) X (dk dt_V_law_1 14 rfl) rfl (by decide) rfl ?_
        refine go_aload_n X 2 (dk dt_V_law_1 15 rfl) rfl rfl ?_
        refine go_aload_n X 2 (dk dt_V_law_2 0 rfl) rfl rfl ?_
        refine go_getd X fo_X11_99 lC_0 sC_0 fC_0_15 (dk dt_V_law_2 1 rfl) ?_
        obtain ⟨g3, h⟩ := gd_some h
        refine go_putd X fo_X11_95 pf_11_14 lC_0 sC_0 fC_0_14 (bL g3) (dk dt_V_law_2 2 rfl) ?_
        refine go_aload_n X 2 (dk dt_V_law_2 3 rfl) rfl rfl ?_
        refine go_aload_n X 0 (dk dt_V_law_2 4 rfl) rfl rfl ?_
        refine go_putd X fo_X11_99 pf_11_15 lC_0 sC_0 fC_0_15 (bL g2) (dk dt_V_law_2 5 rfl) ?_
        refine go_aload_n X 2 (dk dt_V_law_2 6 rfl) rfl rfl ?_
        refine go_getd X fo_X11_95 lC_0 sC_0 fC_0_14 (dk dt_V_law_2 7 rfl) ?_
        obtain ⟨g4, h⟩ := gd_some h
        refine go_geti X fo_X11_164 (lL g4) (sL g4) (fL_8 g4) (dk dt_V_law_2 8 rfl) ?_
        exact go_iret rt (dk dt_V_law_2 9 rfl) h (fun hh => nomatch hh)
      · refine go_aload_n X 1 (dk dt_V_law_1 8 rfl) rfl rfl ?_
        refine go_getr X fo_X11_32 lC_0 sC_0 fC_0_4 (dk dt_V_law_1 9 rfl) ?_
        refine go_geti X fo_X11_161 lC_23 sC_23 fC_23_4 (dk dt_V_law_1 10 rfl) ?_
        exact go_iret rt (dk dt_V_law_1 11 rfl) h (fun hh => nomatch hh)
    · refine go_iconst X (dk dt_V_law_0 10 rfl) ci_m1 ?_
      exact go_iret rt (dk dt_V_law_0 11 rfl) h (fun hh => nomatch hh)
set_option maxRecDepth 20000 in
theorem ct_V_law (hi : zInj wC v) (xc : XC wC v) (nx : NXC v)  {a1 : Int32} {σ : Hp}  {q : (Int32 × Hp)} (h : F_V_law  a1 σ = some q) : Ct wC v l yX11_law cX11_law 4 (some .int) 102 [.ref 0, .int a1] σ (some (.int q.1)) q.2 :=
  Ct.intro false (by decide) hi xc (Nat.le_of_ble_eq_true rfl) rfl (fun p e R s m args below meth c Q X rt => lkF_V_law hi xc nx X rt  h)
end
def T_V_longestRise_0 : DT := [(0, .iconst 0, 1), (1, .istore_n 1, 1), (2, .iconst 0, 1), (3, .istore_n 2, 1), (4, .iload_n 2, 1), (5, .bipush 24, 2), (7, .if_icmp .ge 90, 3), (10, .aload_n 0, 1), (11, .getfield 88, 3), (14, .iload_n 2, 1), (15, .iconst 1, 1), (16, .iastore, 1), (17, .iconst 0, 1), (18, .istore_n 3, 1), (19, .iload_n 3, 1), (20, .iload_n 2, 1)]
theorem dt_V_longestRise_0 : dOk cX11_longestRise T_V_longestRise_0 := by unfold dOk; decide +kernel
def T_V_longestRise_1 : DT := [(21, .if_icmp .ge 59, 3), (24, .aload_n 0, 1), (25, .getfield 25, 3), (28, .getfield 138, 3), (31, .iload_n 3, 1), (32, .iaload, 1), (33, .aload_n 0, 1), (34, .getfield 25, 3), (37, .getfield 138, 3), (40, .iload_n 2, 1), (41, .iaload, 1), (42, .if_icmp .ge 32, 3), (45, .aload_n 0, 1), (46, .getfield 88, 3), (49, .iload_n 3, 1), (50, .iaload, 1)]
theorem dt_V_longestRise_1 : dOk cX11_longestRise T_V_longestRise_1 := by unfold dOk; decide +kernel
def T_V_longestRise_2 : DT := [(51, .aload_n 0, 1), (52, .getfield 88, 3), (55, .iload_n 2, 1), (56, .iaload, 1), (57, .if_icmp .lt 17, 3), (60, .aload_n 0, 1), (61, .getfield 88, 3), (64, .iload_n 2, 1), (65, .aload_n 0, 1), (66, .getfield 88, 3), (69, .iload_n 3, 1), (70, .iaload, 1), (71, .iconst 1, 1), (72, .iadd, 1), (73, .iastore, 1), (74, .iinc 3 1, 3)]
theorem dt_V_longestRise_2 : dOk cX11_longestRise T_V_longestRise_2 := by unfold dOk; decide +kernel
def T_V_longestRise_3 : DT := [(77, .goto (-58), 3), (80, .iload_n 1, 1), (81, .aload_n 0, 1), (82, .getfield 88, 3), (85, .iload_n 2, 1), (86, .iaload, 1), (87, .invokestatic 350, 3), (90, .istore_n 1, 1), (91, .iinc 2 1, 3), (94, .goto (-90), 3), (97, .iload_n 1, 1), (98, .ireturn, 1)]
theorem dt_V_longestRise_3 : dOk cX11_longestRise T_V_longestRise_3 := by unfold dOk; decide +kernel
section
variable {v : ZV} {l : Launch} {p : Program} {e : Env} {R : Room} {s : State} {m : MethodId} {args : Array Value} {below : List Frame} {meth : Method} {c : Code} {Q : State → Prop} {res : (Int32 × Hp)} 
set_option maxRecDepth 20000 in
theorem lkB_V_longestRise_19 (hi : zInj wC v) (xc : XC wC v) (nx : NXC v) (X : Cx wC v p R s m args c 0 0 cX11_longestRise 4 RX11 2) (rt : Rt wC v p l e R s m args below meth c 0 0 Q cX11_longestRise false (some (.int res.1)) res.2) {k80 : Int32 → Int32 → Hp → Option (Int32 × Hp)} {k19 : Int32 → Int32 → Int32 → Hp → Option (Int32 × Hp)} {x1 : Int32} {x2 : Int32} {x3 : Int32} {σ : Hp}  (hk80 : ∀ (x1 : Int32) (x2 : Int32) (σ : Hp),  k80 x1 x2 σ = some res → Go wC v p l e R s m args below meth c 0 0 Q 4 80 [(0, .ref 0), (1, .int x1), (2, .int x2)] [] σ) (hk19 : ∀ (x1 : Int32) (x2 : Int32) (x3 : Int32) (σ : Hp),  k19 x1 x2 x3 σ = some res → Go wC v p l e R s m args below meth c 0 0 Q 4 19 [(0, .ref 0), (1, .int x1), (2, .int x2), (3, .int x3)] [] σ) (h : B_V_longestRise_19  k80 k19 x1 x2 x3 σ = some res) : Go wC v p l e R s m args below meth c 0 0 Q 4 19 [(0, .ref 0), (1, .int x1), (2, .int x2), (3, .int x3)] [] σ := by
  unfold B_V_longestRise_19 at h
  refine go_iload_n X 3 (dk dt_V_longestRise_0 14 rfl) rfl rfl ?_
  refine go_iload_n X 2 (dk dt_V_longestRise_0 15 rfl) rfl rfl ?_
  refine go_icmp_ge (tgt := 80) X (dk dt_V_longestRise_1 0 rfl) (by decide) h (fun h => ?_) (fun h => ?_)
  · refine go_sub [0, 1, 2] rfl ?_
    exact hk80 _ _ _  h
  · refine go_aload_n X 0 (dk dt_V_longestRise_1 1 rfl) rfl rfl ?_
    refine go_getr X fo_X11_25 lC_0 sC_0 fC_0_3 (dk dt_V_longestRise_1 2 rfl) ?_
    refine go_getr X fo_X11_138 lC_19 sC_19 fC_19_0 (dk dt_V_longestRise_1 3 rfl) ?_
    refine go_iload_n X 3 (dk dt_V_longestRise_1 4 rfl) rfl rfl ?_
    refine go_iald X lC_20 sC_20 (dk dt_V_longestRise_1 5 rfl) h (fun h => ?_)
    refine go_aload_n X 0 (dk dt_V_longestRise_1 6 rfl) rfl rfl ?_
    refine go_getr X fo_X11_25 lC_0 sC_0 fC_0_3 (dk dt_V_longestRise_1 7 rfl) ?_
    refine go_getr X fo_X11_138 lC_19 sC_19 fC_19_0 (dk dt_V_longestRise_1 8 rfl) ?_
    refine go_iload_n X 2 (dk dt_V_longestRise_1 9 rfl) rfl rfl ?_
    refine go_iald X lC_20 sC_20 (dk dt_V_longestRise_1 10 rfl) h (fun h => ?_)
    refine go_icmp_ge (tgt := 74) X (dk dt_V_longestRise_1 11 rfl) (by decide) h (fun h => ?_) (fun h => ?_)
    · refine go_iinc (lv' := [(3, .int (x3 + (1 : Int32))), (0, .ref 0), (1, .int x1), (2, .int x2)]) X 3 (dk dt_V_longestRise_2 15 rfl) rfl ci_1 (by decide) rfl ?_
      refine go_goto (tgt := 19) X (dk dt_V_longestRise_3 0 rfl) (by decide) ?_
      refine go_sub [1, 2, 3, 0] rfl ?_
      exact hk19 _ _ _ _  h
    · refine go_aload_n X 0 (dk dt_V_longestRise_1 12 rfl) rfl rfl ?_
      refine go_getr X fo_X11_88 lC_0 sC_0 fC_0_13 (dk dt_V_longestRise_1 13 rfl) ?_
      refine go_iload_n X 3 (dk dt_V_longestRise_1 14 rfl) rfl rfl ?_
      refine go_iald X lC_41 sC_41 (dk dt_V_longestRise_1 15 rfl) h (fun h => ?_)
      refine go_aload_n X 0 (dk dt_V_longestRise_2 0 rfl) rfl rfl ?_
      refine go_getr X fo_X11_88 lC_0 sC_0 fC_0_13 (dk dt_V_longestRise_2 1 rfl) ?_
      refine go_iload_n X 2 (dk dt_V_longestRise_2 2 rfl) rfl rfl ?_
      refine go_iald X lC_41 sC_41 (dk dt_V_longestRise_2 3 rfl) h (fun h => ?_)
      refine go_icmp_lt (tgt := 74) X (dk dt_V_longestRise_2 4 rfl) (by decide) h (fun h => ?_) (fun h => ?_)
      · refine go_iinc (lv' := [(3, .int (x3 + (1 : Int32))), (0, .ref 0), (1, .int x1), (2, .int x2)]) X 3 (dk dt_V_longestRise_2 15 rfl) rfl ci_1 (by decide) rfl ?_
        refine go_goto (tgt := 19) X (dk dt_V_longestRise_3 0 rfl) (by decide) ?_
        refine go_sub [1, 2, 3, 0] rfl ?_
        exact hk19 _ _ _ _  h
      · refine go_aload_n X 0 (dk dt_V_longestRise_2 5 rfl) rfl rfl ?_
        refine go_getr X fo_X11_88 lC_0 sC_0 fC_0_13 (dk dt_V_longestRise_2 6 rfl) ?_
        refine go_iload_n X 2 (dk dt_V_longestRise_2 7 rfl) rfl rfl ?_
        refine go_aload_n X 0 (dk dt_V_longestRise_2 8 rfl) rfl rfl ?_
        refine go_getr X fo_X11_88 lC_0 sC_0 fC_0_13 (dk dt_V_longestRise_2 9 rfl) ?_
        refine go_iload_n X 3 (dk dt_V_longestRise_2 10 rfl) rfl rfl ?_
        refine go_iald X lC_41 sC_41 (dk dt_V_longestRise_2 11 rfl) h (fun h => ?_)
        refine go_iconst X (dk dt_V_longestRise_2 12 rfl) ci_1 ?_
        refine go_iadd X (dk dt_V_longestRise_2 13 rfl) ?_
        refine go_iast X lC_41 sC_41 (dk dt_V_longestRise_2 14 rfl) h (fun h => ?_)
        refine go_iinc (lv' := [(3, .int (x3 + (1 : Int32))), (0, .ref 0), (1, .int x1), (2, .int x2)]) X 3 (dk dt_V_longestRise_2 15 rfl) rfl ci_1 (by decide) rfl ?_
        refine go_goto (tgt := 19) X (dk dt_V_longestRise_3 0 rfl) (by decide) ?_
        refine go_sub [1, 2, 3, 0] rfl ?_
        exact hk19 _ _ _ _  h
set_option maxRecDepth 20000 in
theorem lkL_V_longestRise_19 (hi : zInj wC v) (xc : XC wC v) (nx : NXC v) (X : Cx wC v p R s m args c 0 0 cX11_longestRise 4 RX11 2) (rt : Rt wC v p l e R s m args below meth c 0 0 Q cX11_longestRise false (some (.int res.1)) res.2) {k80 : Int32 → Int32 → Hp → Option (Int32 × Hp)} (hk80 : ∀ (x1 : Int32) (x2 : Int32) (σ : Hp),  k80 x1 x2 σ = some res → Go wC v p l e R s m args below meth c 0 0 Q 4 80 [(0, .ref 0), (1, .int x1), (2, .int x2)] [] σ) (n : Nat) : ∀ {x1 : Int32} {x2 : Int32} {x3 : Int32} {σ : Hp},  L_V_longestRise_19  k80 n x1 x2 x3 σ = some res → Go wC v p l e R s m args below meth c 0 0 Q 4 19 [(0, .ref 0), (1, .int x1), (2, .int x2), (3, .int x3)] [] σ := by
  induction n with
  | zero => intro x1 x2 x3 σ  h; cases h
  | succ n ih =>
    intro x1 x2 x3 σ  h
    exact lkB_V_longestRise_19 hi xc nx X rt  hk80 (fun _ _ _ _  hh => ih  hh) h
set_option maxRecDepth 20000 in
theorem lkJ_V_longestRise_80 (hi : zInj wC v) (xc : XC wC v) (nx : NXC v) (X : Cx wC v p R s m args c 0 0 cX11_longestRise 4 RX11 2) (rt : Rt wC v p l e R s m args below meth c 0 0 Q cX11_longestRise false (some (.int res.1)) res.2) {k4 : Int32 → Int32 → Hp → Option (Int32 × Hp)} {x1 : Int32} {x2 : Int32} {σ : Hp}  (hk4 : ∀ (x1 : Int32) (x2 : Int32) (σ : Hp),  k4 x1 x2 σ = some res → Go wC v p l e R s m args below meth c 0 0 Q 4 4 [(0, .ref 0), (1, .int x1), (2, .int x2)] [] σ) (h : J_V_longestRise_80  k4 x1 x2 σ = some res) : Go wC v p l e R s m args below meth c 0 0 Q 4 80 [(0, .ref 0), (1, .int x1), (2, .int x2)] [] σ := by
  unfold J_V_longestRise_80 at h
  refine go_iload_n X 1 (dk dt_V_longestRise_3 1 rfl) rfl rfl ?_
  refine go_aload_n X 0 (dk dt_V_longestRise_3 2 rfl) rfl rfl ?_
  refine go_getr X fo_X11_88 lC_0 sC_0 fC_0_13 (dk dt_V_longestRise_3 3 rfl) ?_
  refine go_iload_n X 2 (dk dt_V_longestRise_3 4 rfl) rfl rfl ?_
  refine go_iald X lC_41 sC_41 (dk dt_V_longestRise_3 5 rfl) h (fun h => ?_)
  refine go_mmax X mo_X11_350 (by decide) (Nat.le_of_ble_eq_true rfl) (dk dt_V_longestRise_3 6 rfl) ?_
  refine go_istore_n (lv' := [(1, .int (jmax x1 (σ 41 (Int32.toNatClampNeg x2)))), (0, .ref 0), (2, .int x2)]) X (dk dt_V_longestRise_3 7 rfl) rfl (by decide) rfl ?_
  refine go_iinc (lv' := [(2, .int (x2 + (1 : Int32))), (1, .int (jmax x1 (σ 41 (Int32.toNatClampNeg x2)))), (0, .ref 0)]) X 2 (dk dt_V_longestRise_3 8 rfl) rfl ci_1 (by decide) rfl ?_
  refine go_goto (tgt := 4) X (dk dt_V_longestRise_3 9 rfl) (by decide) ?_
  refine go_sub [2, 1, 0] rfl ?_
  exact hk4 _ _ _  h
set_option maxRecDepth 20000 in
theorem lkB_V_longestRise_4 (hi : zInj wC v) (xc : XC wC v) (nx : NXC v) (X : Cx wC v p R s m args c 0 0 cX11_longestRise 4 RX11 2) (rt : Rt wC v p l e R s m args below meth c 0 0 Q cX11_longestRise false (some (.int res.1)) res.2) {k4 : Int32 → Int32 → Hp → Option (Int32 × Hp)} {x1 : Int32} {x2 : Int32} {σ : Hp}  (hk4 : ∀ (x1 : Int32) (x2 : Int32) (σ : Hp),  k4 x1 x2 σ = some res → Go wC v p l e R s m args below meth c 0 0 Q 4 4 [(0, .ref 0), (1, .int x1), (2, .int x2)] [] σ) (h : B_V_longestRise_4  k4 x1 x2 σ = some res) : Go wC v p l e R s m args below meth c 0 0 Q 4 4 [(0, .ref 0), (1, .int x1), (2, .int x2)] [] σ := by
  unfold B_V_longestRise_4 at h
  refine go_iload_n X 2 (dk dt_V_longestRise_0 4 rfl) rfl rfl ?_
  refine go_bipush X (dk dt_V_longestRise_0 5 rfl) cb_24 ?_
  refine go_icmp_ge (tgt := 97) X (dk dt_V_longestRise_0 6 rfl) (by decide) h (fun h => ?_) (fun h => ?_)
  · refine go_iload_n X 1 (dk dt_V_longestRise_3 10 rfl) rfl rfl ?_
    exact go_iret rt (dk dt_V_longestRise_3 11 rfl) h (fun hh => nomatch hh)
  · refine go_aload_n X 0 (dk dt_V_longestRise_0 7 rfl) rfl rfl ?_
    refine go_getr X fo_X11_88 lC_0 sC_0 fC_0_13 (dk dt_V_longestRise_0 8 rfl) ?_
    refine go_iload_n X 2 (dk dt_V_longestRise_0 9 rfl) rfl rfl ?_
    refine go_iconst X (dk dt_V_longestRise_0 10 rfl) ci_1 ?_
    refine go_iast X lC_41 sC_41 (dk dt_V_longestRise_0 11 rfl) h (fun h => ?_)
    refine go_iconst X (dk dt_V_longestRise_0 12 rfl) ci_0 ?_
    refine go_istore_n (lv' := [(3, .int (0 : Int32)), (0, .ref 0), (1, .int x1), (2, .int x2)]) X (dk dt_V_longestRise_0 13 rfl) rfl (by decide) rfl ?_
    refine go_sub [1, 2, 3, 0] rfl ?_
    exact lkL_V_longestRise_19 hi xc nx X rt (fun _ _ _  hh => lkJ_V_longestRise_80 hi xc nx X rt  hk4 hh) FU  h
set_option maxRecDepth 20000 in
theorem lkL_V_longestRise_4 (hi : zInj wC v) (xc : XC wC v) (nx : NXC v) (X : Cx wC v p R s m args c 0 0 cX11_longestRise 4 RX11 2) (rt : Rt wC v p l e R s m args below meth c 0 0 Q cX11_longestRise false (some (.int res.1)) res.2)   (n : Nat) : ∀ {x1 : Int32} {x2 : Int32} {σ : Hp},  L_V_longestRise_4   n x1 x2 σ = some res → Go wC v p l e R s m args below meth c 0 0 Q 4 4 [(0, .ref 0), (1, .int x1), (2, .int x2)] [] σ := by
  induction n with
  | zero => intro x1 x2 σ  h; cases h
  | succ n ih =>
    intro x1 x2 σ  h
    exact lkB_V_longestRise_4 hi xc nx X rt  (fun _ _ _  hh => ih  hh) h
set_option maxRecDepth 20000 in
theorem lkF_V_longestRise (hi : zInj wC v) (xc : XC wC v) (nx : NXC v) (X : Cx wC v p R s m args c 0 0 cX11_longestRise 4 RX11 2) (rt : Rt wC v p l e R s m args below meth c 0 0 Q cX11_longestRise false (some (.int res.1)) res.2)  {σ : Hp}  (h : F_V_longestRise   σ = some res) : Go wC v p l e R s m args below meth c 0 0 Q 4 0 [(0, .ref 0)] [] σ := by
  unfold F_V_longestRise at h
  refine go_iconst X (dk dt_V_longestRise_0 0 rfl) ci_0 ?_
  refine go_istore_n (lv' := [(1, .int (0 : Int32)), (0, .ref 0)]) X (dk dt_V_longestRise_0 1 rfl) rfl (by decide) rfl ?_
  refine go_iconst X (dk dt_V_longestRise_0 2 rfl) ci_0 ?_
  refine go_istore_n (lv' := [(2, .int (0 : Int32)), (1, .int (0 : Int32)), (0, .ref 0)]) X (dk dt_V_longestRise_0 3 rfl) rfl (by decide) rfl ?_
  refine go_sub [2, 1, 0] rfl ?_
  exact lkL_V_longestRise_4 hi xc nx X rt  FU  h
set_option maxRecDepth 20000 in
theorem ct_V_longestRise (hi : zInj wC v) (xc : XC wC v) (nx : NXC v)   {σ : Hp}  {q : (Int32 × Hp)} (h : F_V_longestRise   σ = some q) : Ct wC v l yX11_longestRise cX11_longestRise 4 (some .int) 2 [.ref 0] σ (some (.int q.1)) q.2 :=
  Ct.intro false (by decide) hi xc (Nat.le_of_ble_eq_true rfl) rfl (fun p e R s m args below meth c Q X rt => lkF_V_longestRise hi xc nx X rt  h)
end
def T_V_loses_0 : DT := [(0, .iload_n 1, 1), (1, .iconst 1, 1), (2, .bipush 120, 2), (4, .invokestatic 119, 3), (7, .ifCond .eq 12, 3), (10, .iload_n 2, 1), (11, .iconst 0, 1), (12, .iconst 1, 1), (13, .invokestatic 119, 3), (16, .ifCond .ne 5, 3), (19, .iconst (-1), 1), (20, .ireturn, 1), (21, .aload_n 0, 1), (22, .getfield 10, 3), (25, .getfield 127, 3), (28, .ifCond .eq 19, 3)]
theorem dt_V_loses_0 : dOk cX11_loses T_V_loses_0 := by unfold dOk; decide +kernel
def T_V_loses_1 : DT := [(31, .iload_n 2, 1), (32, .ifCond .ne 13, 3), (35, .aload_n 0, 1), (36, .getfield 10, 3), (39, .getfield 127, 3), (42, .goto 4, 3), (45, .iconst 0, 1), (46, .ireturn, 1), (47, .aload_n 0, 1), (48, .iload_n 1, 1), (49, .invokevirtual 195, 3), (52, .iload_n 2, 1), (53, .ifCond .ne 11, 3), (56, .aload_n 0, 1), (57, .getfield 19, 3), (60, .getfield 127, 3)]
theorem dt_V_loses_1 : dOk cX11_loses T_V_loses_1 := by unfold dOk; decide +kernel
def T_V_loses_2 : DT := [(63, .ireturn, 1), (64, .aload_n 0, 1), (65, .getfield 19, 3), (68, .getfield 127, 3), (71, .ifCond .ne 8, 3), (74, .bipush (-2), 2), (76, .goto 10, 3), (79, .aload_n 0, 1), (80, .getfield 50, 3), (83, .getfield 264, 3), (86, .ireturn, 1)]
theorem dt_V_loses_2 : dOk cX11_loses T_V_loses_2 := by unfold dOk; decide +kernel
section
variable {v : ZV} {l : Launch} {p : Program} {e : Env} {R : Room} {s : State} {m : MethodId} {args : Array Value} {below : List Frame} {meth : Method} {c : Code} {Q : State → Prop} {res : (Int32 × Hp)} 
set_option maxRecDepth 20000 in
theorem lkF_V_loses (hi : zInj wC v) (xc : XC wC v) (nx : NXC v) (X : Cx wC v p R s m args c 0 0 cX11_loses 3 RX11 16) (rt : Rt wC v p l e R s m args below meth c 0 0 Q cX11_loses false (some (.int res.1)) res.2) {a1 : Int32} {a2 : Int32} {σ : Hp}  (h : F_V_loses  a1 a2 σ = some res) : Go wC v p l e R s m args below meth c 0 0 Q 3 0 [(0, .ref 0), (1, .int a1), (2, .int a2)] [] σ := by
  unfold F_V_loses at h
  refine go_iload_n X 1 (dk dt_V_loses_0 0 rfl) rfl rfl ?_
  refine go_iconst X (dk dt_V_loses_0 1 rfl) ci_1 ?_
  refine go_bipush X (dk dt_V_loses_0 2 rfl) cb_120 ?_
  refine go_Si (As := [.int a1, .int (1 : Int32), .int (120 : Int32)]) (rest := []) X so_X11_119 (fun q hq => ct_V_within hi xc nx  hq) (by decide) rfl rfl (Nat.le_of_ble_eq_true rfl) (dk dt_V_loses_0 3 rfl) h (fun q4 h => ?_)
  refine go_if_eq (tgt := 19) X (dk dt_V_loses_0 4 rfl) (by decide) h (fun h => ?_) (fun h => ?_)
  · refine go_iconst X (dk dt_V_loses_0 10 rfl) ci_m1 ?_
    exact go_iret rt (dk dt_V_loses_0 11 rfl) h (fun hh => nomatch hh)
  · refine go_iload_n X 2 (dk dt_V_loses_0 5 rfl) rfl rfl ?_
    refine go_iconst X (dk dt_V_loses_0 6 rfl) ci_0 ?_
    refine go_iconst X (dk dt_V_loses_0 7 rfl) ci_1 ?_
    refine go_Si (As := [.int a2, .int (0 : Int32), .int (1 : Int32)]) (rest := []) X so_X11_119 (fun q hq => ct_V_within hi xc nx  hq) (by decide) rfl rfl (Nat.le_of_ble_eq_true rfl) (dk dt_V_loses_0 8 rfl) h (fun q13 h => ?_)
    refine go_if_ne (tgt := 21) X (dk dt_V_loses_0 9 rfl) (by decide) h (fun h => ?_) (fun h => ?_)
    · refine go_aload_n X 0 (dk dt_V_loses_0 12 rfl) rfl rfl ?_
      refine go_getr X fo_X11_10 lC_0 sC_0 fC_0_0 (dk dt_V_loses_0 13 rfl) ?_
      refine go_geti X fo_X11_127 lC_1 sC_1 fC_1_8 (dk dt_V_loses_0 14 rfl) ?_
      refine go_if_eq (tgt := 47) X (dk dt_V_loses_0 15 rfl) (by decide) h (fun h => ?_) (fun h => ?_)
      · refine go_aload_n X 0 (dk dt_V_loses_1 8 rfl) rfl rfl ?_
        refine go_iload_n X 1 (dk dt_V_loses_1 9 rfl) rfl rfl ?_
        refine go_Vv (As := [.int a1]) (rest := []) X vo_X11_195 (fun q hq => ct_V_tryWatches hi xc nx  hq) (by decide) rfl lC_0 sC_0 rfl rfl (Nat.le_of_ble_eq_true rfl) (dk dt_V_loses_1 10 rfl) h (fun q49 h => ?_)
        refine go_iload_n X 2 (dk dt_V_loses_1 11 rfl) rfl rfl ?_
        refine go_if_ne (tgt := 64) X (dk dt_V_loses_1 12 rfl) (by decide) h (fun h => ?_) (fun h => ?_)
        · refine go_aload_n X 0 (dk dt_V_loses_2 1 rfl) rfl rfl ?_
          refine go_getr X fo_X11_19 lC_0 sC_0 fC_0_2 (dk dt_V_loses_2 2 rfl) ?_
          refine go_geti X fo_X11_127 lC_13 sC_13 fC_13_8 (dk dt_V_loses_2 3 rfl) ?_
          refine go_if_ne (tgt := 79) X (dk dt_V_loses_2 4 rfl) (by decide) h (fun h => ?_) (fun h => ?_)
          · refine go_aload_n X 0 (dk dt_V_loses_2 7 rfl) rfl rfl ?_
            refine go_getr X fo_X11_50 lC_0 sC_0 fC_0_6 (dk dt_V_loses_2 8 rfl) ?_
            refine go_geti X fo_X11_264 lC_26 sC_26 fC_26_6 (dk dt_V_loses_2 9 rfl) ?_
            exact go_iret rt (dk dt_V_loses_2 10 rfl) h (fun hh => nomatch hh)
          · refine go_bipush X (dk dt_V_loses_2 5 rfl) cb_m2 ?_
            refine go_goto (tgt := 86) X (dk dt_V_loses_2 6 rfl) (by decide) ?_
            exact go_iret rt (dk dt_V_loses_2 10 rfl) h (fun hh => nomatch hh)
        · refine go_aload_n X 0 (dk dt_V_loses_1 13 rfl) rfl rfl ?_
          refine go_getr X fo_X11_19 lC_0 sC_0 fC_0_2 (dk dt_V_loses_1 14 rfl) ?_
          refine go_geti X fo_X11_127 lC_13 sC_13 fC_13_8 (dk dt_V_loses_1 15 rfl) ?_
          exact go_iret rt (dk dt_V_loses_2 0 rfl) h (fun hh => nomatch hh)
      · refine go_iload_n X 2 (dk dt_V_loses_1 0 rfl) rfl rfl ?_
        refine go_if_ne (tgt := 45) X (dk dt_V_loses_1 1 rfl) (by decide) h (fun h => ?_) (fun h => ?_)
        · refine go_iconst X (dk dt_V_loses_1 6 rfl) ci_0 ?_
          exact go_iret rt (dk dt_V_loses_1 7 rfl) h (fun hh => nomatch hh)
        · refine go_aload_n X 0 (dk dt_V_loses_1 2 rfl) rfl rfl ?_
          refine go_getr X fo_X11_10 lC_0 sC_0 fC_0_0 (dk dt_V_loses_1 3 rfl) ?_
          refine go_geti X fo_X11_127 lC_1 sC_1 fC_1_8 (dk dt_V_loses_1 4 rfl) ?_
          refine go_goto (tgt := 46) X (dk dt_V_loses_1 5 rfl) (by decide) ?_
          exact go_iret rt (dk dt_V_loses_1 7 rfl) h (fun hh => nomatch hh)
    · refine go_iconst X (dk dt_V_loses_0 10 rfl) ci_m1 ?_
      exact go_iret rt (dk dt_V_loses_0 11 rfl) h (fun hh => nomatch hh)
set_option maxRecDepth 20000 in
theorem ct_V_loses (hi : zInj wC v) (xc : XC wC v) (nx : NXC v)  {a1 : Int32} {a2 : Int32} {σ : Hp}  {q : (Int32 × Hp)} (h : F_V_loses  a1 a2 σ = some q) : Ct wC v l yX11_loses cX11_loses 3 (some .int) 16 [.ref 0, .int a1, .int a2] σ (some (.int q.1)) q.2 :=
  Ct.intro false (by decide) hi xc (Nat.le_of_ble_eq_true rfl) rfl (fun p e R s m args below meth c Q X rt => lkF_V_loses hi xc nx X rt  h)
end
def T_V_march_0 : DT := [(0, .iload_n 1, 1), (1, .invokestatic 131, 3), (4, .ifCond .ne 5, 3), (7, .iconst (-1), 1), (8, .ireturn, 1), (9, .aload_n 0, 1), (10, .getfield 10, 3), (13, .iload_n 1, 1), (14, .iconst 0, 1), (15, .invokevirtual 228, 3), (18, .aload_n 0, 1), (19, .getfield 10, 3), (22, .iload_n 1, 1), (23, .iconst 1, 1), (24, .invokevirtual 228, 3), (27, .ior, 1)]
theorem dt_V_march_0 : dOk cX11_march T_V_march_0 := by unfold dOk; decide +kernel
def T_V_march_1 : DT := [(28, .istore_n 2, 1), (29, .iconst 0, 1), (30, .istore_n 3, 1), (31, .iconst 0, 1), (32, .istore 4, 2), (34, .iload 4, 2), (36, .bipush 8, 2), (38, .if_icmp .ge 96, 3), (41, .iload 4, 2), (43, .iconst 1, 1), (44, .iadd, 1), (45, .istore 5, 2), (47, .iload 5, 2), (49, .bipush 8, 2), (51, .if_icmp .ge 77, 3), (54, .iload_n 2, 1)]
theorem dt_V_march_1 : dOk cX11_march T_V_march_1 := by unfold dOk; decide +kernel
def T_V_march_2 : DT := [(55, .iload 4, 2), (57, .ishr, 1), (58, .iconst 1, 1), (59, .iand, 1), (60, .iconst 1, 1), (61, .if_icmp .ne 17, 3), (64, .iload_n 2, 1), (65, .iload 5, 2), (67, .ishr, 1), (68, .iconst 1, 1), (69, .iand, 1), (70, .iconst 1, 1), (71, .if_icmp .ne 7, 3), (74, .iconst 1, 1), (75, .goto 4, 3), (78, .iconst 0, 1)]
theorem dt_V_march_2 : dOk cX11_march T_V_march_2 := by unfold dOk; decide +kernel
def T_V_march_3 : DT := [(79, .istore 6, 2), (81, .iload 6, 2), (83, .ifCond .eq 39, 3), (86, .aload_n 0, 1), (87, .getfield 10, 3), (90, .getfield 213, 3), (93, .iload_n 1, 1), (94, .bipush 8, 2), (96, .imul, 1), (97, .iload 4, 2), (99, .iadd, 1), (100, .iaload, 1), (101, .aload_n 0, 1), (102, .getfield 10, 3), (105, .getfield 213, 3), (108, .iload_n 1, 1)]
theorem dt_V_march_3 : dOk cX11_march T_V_march_3 := by unfold dOk; decide +kernel
def T_V_march_4 : DT := [(109, .bipush 8, 2), (111, .imul, 1), (112, .iload 5, 2), (114, .iadd, 1), (115, .iaload, 1), (116, .if_icmp .le 6, 3), (119, .iinc 3 1, 3), (122, .iinc 5 1, 3), (125, .goto (-78), 3), (128, .iinc 4 1, 3), (131, .goto (-97), 3), (134, .iload_n 3, 1), (135, .ireturn, 1)]
theorem dt_V_march_4 : dOk cX11_march T_V_march_4 := by unfold dOk; decide +kernel
section
variable {v : ZV} {l : Launch} {p : Program} {e : Env} {R : Room} {s : State} {m : MethodId} {args : Array Value} {below : List Frame} {meth : Method} {c : Code} {Q : State → Prop} {res : (Int32 × Hp)} 
set_option maxRecDepth 20000 in
theorem lkJ_V_march_79 (hi : zInj wC v) (xc : XC wC v) (nx : NXC v) (X : Cx wC v p R s m args c 0 0 cX11_march 7 RX11 4) (rt : Rt wC v p l e R s m args below meth c 0 0 Q cX11_march false (some (.int res.1)) res.2) {k47 : Int32 → Int32 → Int32 → Int32 → Int32 → Hp → Option (Int32 × Hp)} {x1 : Int32} {x2 : Int32} {x3 : Int32} {x4 : Int32} {x5 : Int32} {s0 : Int32} {σ : Hp}  (hk47 : ∀ (x1 : Int32) (x2 : Int32) (x3 : Int32) (x4 : Int32) (x5 : Int32) (σ : Hp),  k47 x1 x2 x3 x4 x5 σ = some res → Go wC v p l e R s m args below meth c 0 0 Q 7 47 [(0, .ref 0), (1, .int x1), (2, .int x2), (3, .int x3), (4, .int x4), (5, .int x5)] [] σ) (h : J_V_march_79  k47 x1 x2 x3 x4 x5 s0 σ = some res) : Go wC v p l e R s m args below meth c 0 0 Q 7 79 [(0, .ref 0), (1, .int x1), (2, .int x2), (3, .int x3), (4, .int x4), (5, .int x5)] [.int s0] σ := by
  unfold J_V_march_79 at h
  refine go_istore (lv' := [(6, .int s0), (0, .ref 0), (1, .int x1), (2, .int x2), (3, .int x3), (4, .int x4), (5, .int x5)]) X (dk dt_V_march_3 0 rfl) (by decide) rfl ?_
  refine go_iload X 0 (dk dt_V_march_3 1 rfl) rfl ?_
  refine go_if_eq (tgt := 122) X (dk dt_V_march_3 2 rfl) (by decide) h (fun h => ?_) (fun h => ?_)
  · refine go_iinc (lv' := [(5, .int (x5 + (1 : Int32))), (6, .int s0), (0, .ref 0), (1, .int x1), (2, .int x2), (3, .int x3), (4, .int x4)]) X 6 (dk dt_V_march_4 7 rfl) rfl ci_1 (by decide) rfl ?_
    refine go_goto (tgt := 47) X (dk dt_V_march_4 8 rfl) (by decide) ?_
    refine go_sub [2, 3, 4, 5, 6, 0] rfl ?_
    exact hk47 _ _ _ _ _ _  h
  · refine go_aload_n X 1 (dk dt_V_march_3 3 rfl) rfl rfl ?_
    refine go_getr X fo_X11_10 lC_0 sC_0 fC_0_0 (dk dt_V_march_3 4 rfl) ?_
    refine go_getr X fo_X11_213 lC_1 sC_1 fC_1_0 (dk dt_V_march_3 5 rfl) ?_
    refine go_iload_n X 2 (dk dt_V_march_3 6 rfl) rfl rfl ?_
    refine go_bipush X (dk dt_V_march_3 7 rfl) cb_8 ?_
    refine go_imul X (dk dt_V_march_3 8 rfl) ?_
    refine go_iload X 5 (dk dt_V_march_3 9 rfl) rfl ?_
    refine go_iadd X (dk dt_V_march_3 10 rfl) ?_
    refine go_iald X lC_2 sC_2 (dk dt_V_march_3 11 rfl) h (fun h => ?_)
    refine go_aload_n X 1 (dk dt_V_march_3 12 rfl) rfl rfl ?_
    refine go_getr X fo_X11_10 lC_0 sC_0 fC_0_0 (dk dt_V_march_3 13 rfl) ?_
    refine go_getr X fo_X11_213 lC_1 sC_1 fC_1_0 (dk dt_V_march_3 14 rfl) ?_
    refine go_iload_n X 2 (dk dt_V_march_3 15 rfl) rfl rfl ?_
    refine go_bipush X (dk dt_V_march_4 0 rfl) cb_8 ?_
    refine go_imul X (dk dt_V_march_4 1 rfl) ?_
    refine go_iload X 6 (dk dt_V_march_4 2 rfl) rfl ?_
    refine go_iadd X (dk dt_V_march_4 3 rfl) ?_
    refine go_iald X lC_2 sC_2 (dk dt_V_march_4 4 rfl) h (fun h => ?_)
    refine go_icmp_le (tgt := 122) X (dk dt_V_march_4 5 rfl) (by decide) h (fun h => ?_) (fun h => ?_)
    · refine go_iinc (lv' := [(5, .int (x5 + (1 : Int32))), (6, .int s0), (0, .ref 0), (1, .int x1), (2, .int x2), (3, .int x3), (4, .int x4)]) X 6 (dk dt_V_march_4 7 rfl) rfl ci_1 (by decide) rfl ?_
      refine go_goto (tgt := 47) X (dk dt_V_march_4 8 rfl) (by decide) ?_
      refine go_sub [2, 3, 4, 5, 6, 0] rfl ?_
      exact hk47 _ _ _ _ _ _  h
    · refine go_iinc (lv' := [(3, .int (x3 + (1 : Int32))), (6, .int s0), (0, .ref 0), (1, .int x1), (2, .int x2), (4, .int x4), (5, .int x5)]) X 4 (dk dt_V_march_4 6 rfl) rfl ci_1 (by decide) rfl ?_
      refine go_iinc (lv' := [(5, .int (x5 + (1 : Int32))), (3, .int (x3 + (1 : Int32))), (6, .int s0), (0, .ref 0), (1, .int x1), (2, .int x2), (4, .int x4)]) X 6 (dk dt_V_march_4 7 rfl) rfl ci_1 (by decide) rfl ?_
      refine go_goto (tgt := 47) X (dk dt_V_march_4 8 rfl) (by decide) ?_
      refine go_sub [3, 4, 5, 1, 6, 0] rfl ?_
      exact hk47 _ _ _ _ _ _  h
set_option maxRecDepth 20000 in
theorem lkJ_V_march_78 (hi : zInj wC v) (xc : XC wC v) (nx : NXC v) (X : Cx wC v p R s m args c 0 0 cX11_march 7 RX11 4) (rt : Rt wC v p l e R s m args below meth c 0 0 Q cX11_march false (some (.int res.1)) res.2) {k47 : Int32 → Int32 → Int32 → Int32 → Int32 → Hp → Option (Int32 × Hp)} {x1 : Int32} {x2 : Int32} {x3 : Int32} {x4 : Int32} {x5 : Int32} {σ : Hp}  (hk47 : ∀ (x1 : Int32) (x2 : Int32) (x3 : Int32) (x4 : Int32) (x5 : Int32) (σ : Hp),  k47 x1 x2 x3 x4 x5 σ = some res → Go wC v p l e R s m args below meth c 0 0 Q 7 47 [(0, .ref 0), (1, .int x1), (2, .int x2), (3, .int x3), (4, .int x4), (5, .int x5)] [] σ) (h : J_V_march_78  k47 x1 x2 x3 x4 x5 σ = some res) : Go wC v p l e R s m args below meth c 0 0 Q 7 78 [(0, .ref 0), (1, .int x1), (2, .int x2), (3, .int x3), (4, .int x4), (5, .int x5)] [] σ := by
  unfold J_V_march_78 at h
  refine go_iconst X (dk dt_V_march_2 15 rfl) ci_0 ?_
  exact lkJ_V_march_79 hi xc nx X rt  hk47 h
set_option maxRecDepth 20000 in
theorem lkB_V_march_47 (hi : zInj wC v) (xc : XC wC v) (nx : NXC v) (X : Cx wC v p R s m args c 0 0 cX11_march 7 RX11 4) (rt : Rt wC v p l e R s m args below meth c 0 0 Q cX11_march false (some (.int res.1)) res.2) {k128 : Int32 → Int32 → Int32 → Int32 → Hp → Option (Int32 × Hp)} {k47 : Int32 → Int32 → Int32 → Int32 → Int32 → Hp → Option (Int32 × Hp)} {x1 : Int32} {x2 : Int32} {x3 : Int32} {x4 : Int32} {x5 : Int32} {σ : Hp}  (hk128 : ∀ (x1 : Int32) (x2 : Int32) (x3 : Int32) (x4 : Int32) (σ : Hp),  k128 x1 x2 x3 x4 σ = some res → Go wC v p l e R s m args below meth c 0 0 Q 7 128 [(0, .ref 0), (1, .int x1), (2, .int x2), (3, .int x3), (4, .int x4)] [] σ) (hk47 : ∀ (x1 : Int32) (x2 : Int32) (x3 : Int32) (x4 : Int32) (x5 : Int32) (σ : Hp),  k47 x1 x2 x3 x4 x5 σ = some res → Go wC v p l e R s m args below meth c 0 0 Q 7 47 [(0, .ref 0), (1, .int x1), (2, .int x2), (3, .int x3), (4, .int x4), (5, .int x5)] [] σ) (h : B_V_march_47  k128 k47 x1 x2 x3 x4 x5 σ = some res) : Go wC v p l e R s m args below meth c 0 0 Q 7 47 [(0, .ref 0), (1, .int x1), (2, .int x2), (3, .int x3), (4, .int x4), (5, .int x5)] [] σ := by
  unfold B_V_march_47 at h
  refine go_iload X 5 (dk dt_V_march_1 12 rfl) rfl ?_
  refine go_bipush X (dk dt_V_march_1 13 rfl) cb_8 ?_
  refine go_icmp_ge (tgt := 128) X (dk dt_V_march_1 14 rfl) (by decide) h (fun h => ?_) (fun h => ?_)
  · refine go_sub [0, 1, 2, 3, 4] rfl ?_
    exact hk128 _ _ _ _ _  h
  · refine go_iload_n X 2 (dk dt_V_march_1 15 rfl) rfl rfl ?_
    refine go_iload X 4 (dk dt_V_march_2 0 rfl) rfl ?_
    refine go_ishr X (dk dt_V_march_2 1 rfl) ?_
    refine go_iconst X (dk dt_V_march_2 2 rfl) ci_1 ?_
    refine go_iand X (dk dt_V_march_2 3 rfl) ?_
    refine go_iconst X (dk dt_V_march_2 4 rfl) ci_1 ?_
    refine go_icmp_ne (tgt := 78) X (dk dt_V_march_2 5 rfl) (by decide) h (fun h => ?_) (fun h => ?_)
    · exact lkJ_V_march_78 hi xc nx X rt  hk47 h
    · refine go_iload_n X 2 (dk dt_V_march_2 6 rfl) rfl rfl ?_
      refine go_iload X 5 (dk dt_V_march_2 7 rfl) rfl ?_
      refine go_ishr X (dk dt_V_march_2 8 rfl) ?_
      refine go_iconst X (dk dt_V_march_2 9 rfl) ci_1 ?_
      refine go_iand X (dk dt_V_march_2 10 rfl) ?_
      refine go_iconst X (dk dt_V_march_2 11 rfl) ci_1 ?_
      refine go_icmp_ne (tgt := 78) X (dk dt_V_march_2 12 rfl) (by decide) h (fun h => ?_) (fun h => ?_)
      · exact lkJ_V_march_78 hi xc nx X rt  hk47 h
      · refine go_iconst X (dk dt_V_march_2 13 rfl) ci_1 ?_
        refine go_goto (tgt := 79) X (dk dt_V_march_2 14 rfl) (by decide) ?_
        exact lkJ_V_march_79 hi xc nx X rt  hk47 h
set_option maxRecDepth 20000 in
theorem lkL_V_march_47 (hi : zInj wC v) (xc : XC wC v) (nx : NXC v) (X : Cx wC v p R s m args c 0 0 cX11_march 7 RX11 4) (rt : Rt wC v p l e R s m args below meth c 0 0 Q cX11_march false (some (.int res.1)) res.2) {k128 : Int32 → Int32 → Int32 → Int32 → Hp → Option (Int32 × Hp)} (hk128 : ∀ (x1 : Int32) (x2 : Int32) (x3 : Int32) (x4 : Int32) (σ : Hp),  k128 x1 x2 x3 x4 σ = some res → Go wC v p l e R s m args below meth c 0 0 Q 7 128 [(0, .ref 0), (1, .int x1), (2, .int x2), (3, .int x3), (4, .int x4)] [] σ) (n : Nat) : ∀ {x1 : Int32} {x2 : Int32} {x3 : Int32} {x4 : Int32} {x5 : Int32} {σ : Hp},  L_V_march_47  k128 n x1 x2 x3 x4 x5 σ = some res → Go wC v p l e R s m args below meth c 0 0 Q 7 47 [(0, .ref 0), (1, .int x1), (2, .int x2), (3, .int x3), (4, .int x4), (5, .int x5)] [] σ := by
  induction n with
  | zero => intro x1 x2 x3 x4 x5 σ  h; cases h
  | succ n ih =>
    intro x1 x2 x3 x4 x5 σ  h
    exact lkB_V_march_47 hi xc nx X rt  hk128 (fun _ _ _ _ _ _  hh => ih  hh) h
set_option maxRecDepth 20000 in
theorem lkJ_V_march_128 (hi : zInj wC v) (xc : XC wC v) (nx : NXC v) (X : Cx wC v p R s m args c 0 0 cX11_march 7 RX11 4) (rt : Rt wC v p l e R s m args below meth c 0 0 Q cX11_march false (some (.int res.1)) res.2) {k34 : Int32 → Int32 → Int32 → Int32 → Hp → Option (Int32 × Hp)} {x1 : Int32} {x2 : Int32} {x3 : Int32} {x4 : Int32} {σ : Hp}  (hk34 : ∀ (x1 : Int32) (x2 : Int32) (x3 : Int32) (x4 : Int32) (σ : Hp),  k34 x1 x2 x3 x4 σ = some res → Go wC v p l e R s m args below meth c 0 0 Q 7 34 [(0, .ref 0), (1, .int x1), (2, .int x2), (3, .int x3), (4, .int x4)] [] σ) (h : J_V_march_128  k34 x1 x2 x3 x4 σ = some res) : Go wC v p l e R s m args below meth c 0 0 Q 7 128 [(0, .ref 0), (1, .int x1), (2, .int x2), (3, .int x3), (4, .int x4)] [] σ := by
  unfold J_V_march_128 at h
  refine go_iinc (lv' := [(4, .int (x4 + (1 : Int32))), (0, .ref 0), (1, .int x1), (2, .int x2), (3, .int x3)]) X 4 (dk dt_V_march_4 9 rfl) rfl ci_1 (by decide) rfl ?_
  refine go_goto (tgt := 34) X (dk dt_V_march_4 10 rfl) (by decide) ?_
  refine go_sub [1, 2, 3, 4, 0] rfl ?_
  exact hk34 _ _ _ _ _  h
set_option maxRecDepth 20000 in
theorem lkB_V_march_34 (hi : zInj wC v) (xc : XC wC v) (nx : NXC v) (X : Cx wC v p R s m args c 0 0 cX11_march 7 RX11 4) (rt : Rt wC v p l e R s m args below meth c 0 0 Q cX11_march false (some (.int res.1)) res.2) {k34 : Int32 → Int32 → Int32 → Int32 → Hp → Option (Int32 × Hp)} {x1 : Int32} {x2 : Int32} {x3 : Int32} {x4 : Int32} {σ : Hp}  (hk34 : ∀ (x1 : Int32) (x2 : Int32) (x3 : Int32) (x4 : Int32) (σ : Hp),  k34 x1 x2 x3 x4 σ = some res → Go wC v p l e R s m args below meth c 0 0 Q 7 34 [(0, .ref 0), (1, .int x1), (2, .int x2), (3, .int x3), (4, .int x4)] [] σ) (h : B_V_march_34  k34 x1 x2 x3 x4 σ = some res) : Go wC v p l e R s m args below meth c 0 0 Q 7 34 [(0, .ref 0), (1, .int x1), (2, .int x2), (3, .int x3), (4, .int x4)] [] σ := by
  unfold B_V_march_34 at h
  refine go_iload X 4 (dk dt_V_march_1 5 rfl) rfl ?_
  refine go_bipush X (dk dt_V_march_1 6 rfl) cb_8 ?_
  refine go_icmp_ge (tgt := 134) X (dk dt_V_march_1 7 rfl) (by decide) h (fun h => ?_) (fun h => ?_)
  · refine go_iload_n X 3 (dk dt_V_march_4 11 rfl) rfl rfl ?_
    exact go_iret rt (dk dt_V_march_4 12 rfl) h (fun hh => nomatch hh)
  · refine go_iload X 4 (dk dt_V_march_1 8 rfl) rfl ?_
    refine go_iconst X (dk dt_V_march_1 9 rfl) ci_1 ?_
    refine go_iadd X (dk dt_V_march_1 10 rfl) ?_
    refine go_istore (lv' := [(5, .int (x4 + (1 : Int32))), (0, .ref 0), (1, .int x1), (2, .int x2), (3, .int x3), (4, .int x4)]) X (dk dt_V_march_1 11 rfl) (by decide) rfl ?_
    refine go_sub [1, 2, 3, 4, 5, 0] rfl ?_
    exact lkL_V_march_47 hi xc nx X rt (fun _ _ _ _ _  hh => lkJ_V_march_128 hi xc nx X rt  hk34 hh) FU  h
set_option maxRecDepth 20000 in
theorem lkL_V_march_34 (hi : zInj wC v) (xc : XC wC v) (nx : NXC v) (X : Cx wC v p R s m args c 0 0 cX11_march 7 RX11 4) (rt : Rt wC v p l e R s m args below meth c 0 0 Q cX11_march false (some (.int res.1)) res.2)   (n : Nat) : ∀ {x1 : Int32} {x2 : Int32} {x3 : Int32} {x4 : Int32} {σ : Hp},  L_V_march_34   n x1 x2 x3 x4 σ = some res → Go wC v p l e R s m args below meth c 0 0 Q 7 34 [(0, .ref 0), (1, .int x1), (2, .int x2), (3, .int x3), (4, .int x4)] [] σ := by
  induction n with
  | zero => intro x1 x2 x3 x4 σ  h; cases h
  | succ n ih =>
    intro x1 x2 x3 x4 σ  h
    exact lkB_V_march_34 hi xc nx X rt  (fun _ _ _ _ _  hh => ih  hh) h
set_option maxRecDepth 20000 in
theorem lkF_V_march (hi : zInj wC v) (xc : XC wC v) (nx : NXC v) (X : Cx wC v p R s m args c 0 0 cX11_march 7 RX11 4) (rt : Rt wC v p l e R s m args below meth c 0 0 Q cX11_march false (some (.int res.1)) res.2) {a1 : Int32} {σ : Hp}  (h : F_V_march  a1 σ = some res) : Go wC v p l e R s m args below meth c 0 0 Q 7 0 [(0, .ref 0), (1, .int a1)] [] σ := by
  unfold F_V_march at h
  refine go_iload_n X 1 (dk dt_V_march_0 0 rfl) rfl rfl ?_
  refine go_Si (As := [.int a1]) (rest := []) X so_X11_131 (fun q hq => ct_V_isSide hi xc nx  hq) (by decide) rfl rfl (Nat.le_of_ble_eq_true rfl) (dk dt_V_march_0 1 rfl) h (fun q1 h => ?_)
  refine go_if_ne (tgt := 9) X (dk dt_V_march_0 2 rfl) (by decide) h (fun h => ?_) (fun h => ?_)
  · refine go_aload_n X 0 (dk dt_V_march_0 5 rfl) rfl rfl ?_
    refine go_getr X fo_X11_10 lC_0 sC_0 fC_0_0 (dk dt_V_march_0 6 rfl) ?_
    refine go_iload_n X 1 (dk dt_V_march_0 7 rfl) rfl rfl ?_
    refine go_iconst X (dk dt_V_march_0 8 rfl) ci_0 ?_
    refine go_Vi (As := [.int a1, .int (0 : Int32)]) (rest := []) X vo_X11_228 (fun q hq => ct_X10_bits hi xc nx (by decide : isW 1 = true) hq) (by decide) rfl lC_1 sC_1 rfl rfl (Nat.le_of_ble_eq_true rfl) (dk dt_V_march_0 9 rfl) h (fun q15 h => ?_)
    refine go_aload_n X 0 (dk dt_V_march_0 10 rfl) rfl rfl ?_
    refine go_getr X fo_X11_10 lC_0 sC_0 fC_0_0 (dk dt_V_march_0 11 rfl) ?_
    refine go_iload_n X 1 (dk dt_V_march_0 12 rfl) rfl rfl ?_
    refine go_iconst X (dk dt_V_march_0 13 rfl) ci_1 ?_
    refine go_Vi (As := [.int a1, .int (1 : Int32)]) (rest := [.int q15.1]) X vo_X11_228 (fun q hq => ct_X10_bits hi xc nx (by decide : isW 1 = true) hq) (by decide) rfl lC_1 sC_1 rfl rfl (Nat.le_of_ble_eq_true rfl) (dk dt_V_march_0 14 rfl) h (fun q24 h => ?_)
    refine go_ior X (dk dt_V_march_0 15 rfl) ?_
    refine go_istore_n (lv' := [(2, .int (q15.1 ||| q24.1)), (0, .ref 0), (1, .int a1)]) X (dk dt_V_march_1 0 rfl) rfl (by decide) rfl ?_
    refine go_iconst X (dk dt_V_march_1 1 rfl) ci_0 ?_
    refine go_istore_n (lv' := [(3, .int (0 : Int32)), (2, .int (q15.1 ||| q24.1)), (0, .ref 0), (1, .int a1)]) X (dk dt_V_march_1 2 rfl) rfl (by decide) rfl ?_
    refine go_iconst X (dk dt_V_march_1 3 rfl) ci_0 ?_
    refine go_istore (lv' := [(4, .int (0 : Int32)), (3, .int (0 : Int32)), (2, .int (q15.1 ||| q24.1)), (0, .ref 0), (1, .int a1)]) X (dk dt_V_march_1 4 rfl) (by decide) rfl ?_
    refine go_sub [3, 4, 2, 1, 0] rfl ?_
    exact lkL_V_march_34 hi xc nx X rt  FU  h
  · refine go_iconst X (dk dt_V_march_0 3 rfl) ci_m1 ?_
    exact go_iret rt (dk dt_V_march_0 4 rfl) h (fun hh => nomatch hh)
set_option maxRecDepth 20000 in
theorem ct_V_march (hi : zInj wC v) (xc : XC wC v) (nx : NXC v)  {a1 : Int32} {σ : Hp}  {q : (Int32 × Hp)} (h : F_V_march  a1 σ = some q) : Ct wC v l yX11_march cX11_march 7 (some .int) 4 [.ref 0, .int a1] σ (some (.int q.1)) q.2 :=
  Ct.intro false (by decide) hi xc (Nat.le_of_ble_eq_true rfl) rfl (fun p e R s m args below meth c Q X rt => lkF_V_march hi xc nx X rt  h)
end
