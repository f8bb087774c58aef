def T_M_readsFactor_0 : DT := [(0, .aload_n 0, 1), (1, .invokevirtual 161, 3), (4, .bipush 91, 2), (6, .if_icmp .ne 14, 3), (9, .aload_n 0, 1), (10, .bipush 14, 2), (12, .invokevirtual 195, 3), (15, .ifCond .ne (-15), 3), (18, .iconst 0, 1), (19, .ireturn, 1), (20, .aload_n 0, 1), (21, .invokevirtual 174, 3), (24, .ifCond .eq 23, 3), (27, .aload_n 0, 1), (28, .invokevirtual 199, 3), (31, .ifCond .ne 5, 3)]
theorem dt_M_readsFactor_0 : dOk cX12_readsFactor T_M_readsFactor_0 := by unfold dOk; decide +kernel
def T_M_readsFactor_1 : DT := [(34, .iconst 0, 1), (35, .ireturn, 1), (36, .aload_n 0, 1), (37, .iconst 0, 1), (38, .aload_n 0, 1), (39, .getfield 171, 3), (42, .invokevirtual 191, 3), (45, .iconst 1, 1), (46, .ireturn, 1), (47, .aload_n 0, 1), (48, .invokevirtual 161, 3), (51, .invokestatic 202, 3), (54, .istore_n 1, 1), (55, .iload_n 1, 1), (56, .iconst (-1), 1), (57, .if_icmp .ne 13, 3)]
theorem dt_M_readsFactor_1 : dOk cX12_readsFactor T_M_readsFactor_1 := by unfold dOk; decide +kernel
def T_M_readsFactor_2 : DT := [(60, .aload_n 0, 1), (61, .iconst 1, 1), (62, .aload_n 0, 1), (63, .getfield 155, 3), (66, .invokevirtual 168, 3), (69, .ireturn, 1), (70, .aload_n 0, 1), (71, .iconst 1, 1), (72, .iload_n 1, 1), (73, .invokevirtual 191, 3), (76, .aload_n 0, 1), (77, .aload_n 0, 1), (78, .getfield 155, 3), (81, .iconst 1, 1), (82, .iadd, 1), (83, .putfield 155, 3)]
theorem dt_M_readsFactor_2 : dOk cX12_readsFactor T_M_readsFactor_2 := by unfold dOk; decide +kernel
def T_M_readsFactor_3 : DT := [(86, .iconst 1, 1), (87, .ireturn, 1)]
theorem dt_M_readsFactor_3 : dOk cX12_readsFactor T_M_readsFactor_3 := by unfold dOk; decide +kernel
section
variable {v : ZV} {l : Launch} {p : Program} {e : Env} {R : Room} {s : State} {m : MethodId} {args : Array Value} {below : List Frame} {meth : Method} {c : Code} {Q : State → Prop} {res : (Int32 × Hp)} 
set_option maxRecDepth 20000 in
theorem lkB_M_readsFactor_0 (hi : zInj wM v) (xc : XC wM v) (nx : NXM v) (X : Cx wM v p R s m args c 0 0 cX12_readsFactor 2 RX12 8) (rt : Rt wM v p l e R s m args below meth c 0 0 Q cX12_readsFactor true (some (.int res.1)) res.2) {k20 : Hp → Option (Int32 × Hp)} {k0 : Hp → Option (Int32 × Hp)}  {σ : Hp}  (hk20 : ∀  (σ : Hp),  k20  σ = some res → Go wM v p l e R s m args below meth c 0 0 Q 2 20 [(0, .ref 0)] [] σ) (hk0 : ∀  (σ : Hp),  k0  σ = some res → Go wM v p l e R s m args below meth c 0 0 Q 2 0 [(0, .ref 0)] [] σ) (h : B_M_readsFactor_0  k20 k0  σ = some res) : Go wM v p l e R s m args below meth c 0 0 Q 2 0 [(0, .ref 0)] [] σ := by
  unfold B_M_readsFactor_0 at h
  refine go_aload_n X 0 (dk dt_M_readsFactor_0 0 rfl) rfl rfl ?_
  refine go_Vi (As := []) (rest := []) X vo_X12_161 (fun q hq => ct_M_here hi xc nx  hq) (by decide) rfl lM_0 sM_0 rfl rfl (Nat.le_of_ble_eq_true rfl) (dk dt_M_readsFactor_0 1 rfl) h (fun q1 h => ?_)
  refine go_bipush X (dk dt_M_readsFactor_0 2 rfl) cb_91 ?_
  refine go_icmp_ne (tgt := 20) X (dk dt_M_readsFactor_0 3 rfl) (by decide) h (fun h => ?_) (fun h => ?_)
  · exact hk20  _  h
  · refine go_aload_n X 0 (dk dt_M_readsFactor_0 4 rfl) rfl rfl ?_
    refine go_bipush X (dk dt_M_readsFactor_0 5 rfl) cb_14 ?_
    refine go_Vi (As := [.int (14 : Int32)]) (rest := []) X vo_X12_195 (fun q hq => ct_M_opens hi xc nx  hq) (by decide) rfl lM_0 sM_0 rfl rfl (Nat.le_of_ble_eq_true rfl) (dk dt_M_readsFactor_0 6 rfl) h (fun q12 h => ?_)
    refine go_if_ne (tgt := 0) X (dk dt_M_readsFactor_0 7 rfl) (by decide) h (fun h => ?_) (fun h => ?_)
    · exact hk0  _  h
    · refine go_iconst X (dk dt_M_readsFactor_0 8 rfl) ci_0 ?_
      exact go_iret rt (dk dt_M_readsFactor_0 9 rfl) h (by decide)
set_option maxRecDepth 20000 in
theorem lkL_M_readsFactor_0 (hi : zInj wM v) (xc : XC wM v) (nx : NXM v) (X : Cx wM v p R s m args c 0 0 cX12_readsFactor 2 RX12 8) (rt : Rt wM v p l e R s m args below meth c 0 0 Q cX12_readsFactor true (some (.int res.1)) res.2) {k20 : Hp → Option (Int32 × Hp)} (hk20 : ∀  (σ : Hp),  k20  σ = some res → Go wM v p l e R s m args below meth c 0 0 Q 2 20 [(0, .ref 0)] [] σ) (n : Nat) : ∀  {σ : Hp},  L_M_readsFactor_0  k20 n  σ = some res → Go wM v p l e R s m args below meth c 0 0 Q 2 0 [(0, .ref 0)] [] σ := by
  induction n with
  | zero => intro  σ  h; cases h
  | succ n ih =>
    intro  σ  h
    exact lkB_M_readsFactor_0 hi xc nx X rt  hk20 (fun  _  hh => ih  hh) h
set_option maxRecDepth 20000 in
theorem lkJ_M_readsFactor_20 (hi : zInj wM v) (xc : XC wM v) (nx : NXM v) (X : Cx wM v p R s m args c 0 0 cX12_readsFactor 2 RX12 8) (rt : Rt wM v p l e R s m args below meth c 0 0 Q cX12_readsFactor true (some (.int res.1)) res.2)   {σ : Hp}   (h : J_M_readsFactor_20    σ = some res) : Go wM v p l e R s m args below meth c 0 0 Q 2 20 [(0, .ref 0)] [] σ := by
  unfold J_M_readsFactor_20 at h
  refine go_aload_n X 0 (dk dt_M_readsFactor_0 10 rfl) rfl rfl ?_
  refine go_Vi (As := []) (rest := []) X vo_X12_174 (fun q hq => ct_M_isDigit hi xc nx  hq) (by decide) rfl lM_0 sM_0 rfl rfl (Nat.le_of_ble_eq_true rfl) (dk dt_M_readsFactor_0 11 rfl) h (fun q21 h => ?_)
  refine go_if_eq (tgt := 47) X (dk dt_M_readsFactor_0 12 rfl) (by decide) h (fun h => ?_) (fun h => ?_)
  · refine go_aload_n X 0 (dk dt_M_readsFactor_1 9 rfl) rfl rfl ?_
    refine go_Vi (As := []) (rest := []) X vo_X12_161 (fun q hq => ct_M_here hi xc nx  hq) (by decide) rfl lM_0 sM_0 rfl rfl (Nat.le_of_ble_eq_true rfl) (dk dt_M_readsFactor_1 10 rfl) h (fun q48 h => ?_)
    refine go_Si (As := [.int q48.1]) (rest := []) X so_X12_202 (fun q hq => ct_M_factOf hi xc nx  hq) (by decide) rfl rfl (Nat.le_of_ble_eq_true rfl) (dk dt_M_readsFactor_1 11 rfl) h (fun q51 h => ?_)
    refine go_istore_n (lv' := [(1, .int q51.1), (0, .ref 0)]) X (dk dt_M_readsFactor_1 12 rfl) rfl (by decide) rfl ?_
    refine go_iload_n X 0 (dk dt_M_readsFactor_1 13 rfl) rfl rfl ?_
    refine go_iconst X (dk dt_M_readsFactor_1 14 rfl) ci_m1 ?_
    refine go_icmp_ne (tgt := 70) X (dk dt_M_readsFactor_1 15 rfl) (by decide) h (fun h => ?_) (fun h => ?_)
    · refine go_aload_n X 1 (dk dt_M_readsFactor_2 6 rfl) rfl rfl ?_
      refine go_iconst X (dk dt_M_readsFactor_2 7 rfl) ci_1 ?_
      refine go_iload_n X 0 (dk dt_M_readsFactor_2 8 rfl) rfl rfl ?_
      refine go_Vv (As := [.int (1 : Int32), .int q51.1]) (rest := []) X vo_X12_191 (fun q hq => ct_M_notes hi xc nx  hq) (by decide) rfl lM_0 sM_0 rfl rfl (Nat.le_of_ble_eq_true rfl) (dk dt_M_readsFactor_2 9 rfl) h (fun q73 h => ?_)
      refine go_aload_n X 1 (dk dt_M_readsFactor_2 10 rfl) rfl rfl ?_
      refine go_aload_n X 1 (dk dt_M_readsFactor_2 11 rfl) rfl rfl ?_
      refine go_geti X fo_X12_155 lM_0 sM_0 fM_0_7 (dk dt_M_readsFactor_2 12 rfl) ?_
      refine go_iconst X (dk dt_M_readsFactor_2 13 rfl) ci_1 ?_
      refine go_iadd X (dk dt_M_readsFactor_2 14 rfl) ?_
      refine go_puti X fo_X12_155 pf_12_7 lM_0 sM_0 fM_0_7 (dk dt_M_readsFactor_2 15 rfl) ?_
      refine go_iconst X (dk dt_M_readsFactor_3 0 rfl) ci_1 ?_
      exact go_iret rt (dk dt_M_readsFactor_3 1 rfl) h (by decide)
    · refine go_aload_n X 1 (dk dt_M_readsFactor_2 0 rfl) rfl rfl ?_
      refine go_iconst X (dk dt_M_readsFactor_2 1 rfl) ci_1 ?_
      refine go_aload_n X 1 (dk dt_M_readsFactor_2 2 rfl) rfl rfl ?_
      refine go_geti X fo_X12_155 lM_0 sM_0 fM_0_7 (dk dt_M_readsFactor_2 3 rfl) ?_
      refine go_Vi (As := [.int (1 : Int32), .int (q51.2 0 7)]) (rest := []) X vo_X12_168 (fun q hq => ct_M_wrongAt hi xc nx  hq) (by decide) rfl lM_0 sM_0 rfl rfl (Nat.le_of_ble_eq_true rfl) (dk dt_M_readsFactor_2 4 rfl) h (fun q66 h => ?_)
      exact go_zret rt (dk dt_M_readsFactor_2 5 rfl) h
  · refine go_aload_n X 0 (dk dt_M_readsFactor_0 13 rfl) rfl rfl ?_
    refine go_Vi (As := []) (rest := []) X vo_X12_199 (fun q hq => ct_M_readsNumber hi xc nx  hq) (by decide) rfl lM_0 sM_0 rfl rfl (Nat.le_of_ble_eq_true rfl) (dk dt_M_readsFactor_0 14 rfl) h (fun q28 h => ?_)
    refine go_if_ne (tgt := 36) X (dk dt_M_readsFactor_0 15 rfl) (by decide) h (fun h => ?_) (fun h => ?_)
    · refine go_aload_n X 0 (dk dt_M_readsFactor_1 2 rfl) rfl rfl ?_
      refine go_iconst X (dk dt_M_readsFactor_1 3 rfl) ci_0 ?_
      refine go_aload_n X 0 (dk dt_M_readsFactor_1 4 rfl) rfl rfl ?_
      refine go_geti X fo_X12_171 lM_0 sM_0 fM_0_10 (dk dt_M_readsFactor_1 5 rfl) ?_
      refine go_Vv (As := [.int (0 : Int32), .int (q28.2 0 10)]) (rest := []) X vo_X12_191 (fun q hq => ct_M_notes hi xc nx  hq) (by decide) rfl lM_0 sM_0 rfl rfl (Nat.le_of_ble_eq_true rfl) (dk dt_M_readsFactor_1 6 rfl) h (fun q42 h => ?_)
      refine go_iconst X (dk dt_M_readsFactor_1 7 rfl) ci_1 ?_
      exact go_iret rt (dk dt_M_readsFactor_1 8 rfl) h (by decide)
    · refine go_iconst X (dk dt_M_readsFactor_1 0 rfl) ci_0 ?_
      exact go_iret rt (dk dt_M_readsFactor_1 1 rfl) h (by decide)
set_option maxRecDepth 20000 in
theorem lkF_M_readsFactor (hi : zInj wM v) (xc : XC wM v) (nx : NXM v) (X : Cx wM v p R s m args c 0 0 cX12_readsFactor 2 RX12 8) (rt : Rt wM v p l e R s m args below meth c 0 0 Q cX12_readsFactor true (some (.int res.1)) res.2)  {σ : Hp}  (h : F_M_readsFactor   σ = some res) : Go wM v p l e R s m args below meth c 0 0 Q 2 0 [(0, .ref 0)] [] σ := by
  unfold F_M_readsFactor at h
  exact lkL_M_readsFactor_0 hi xc nx X rt (fun  _  hh => lkJ_M_readsFactor_20 hi xc nx X rt   hh) FU  h
set_option maxRecDepth 20000 in
theorem ct_M_readsFactor (hi : zInj wM v) (xc : XC wM v) (nx : NXM v)   {σ : Hp}  {q : (Int32 × Hp)} (h : F_M_readsFactor   σ = some q) : Ct wM v l yX12_readsFactor cX12_readsFactor 2 (some .boolean) 8 [.ref 0] σ (some (.int q.1)) q.2 :=
  Ct.intro true (by decide) hi xc (Nat.le_of_ble_eq_true rfl) rfl (fun p e R s m args below meth c Q X rt => lkF_M_readsFactor hi xc nx X rt  h)
end
def T_M_sumSign_0 : DT := [(0, .iload_n 0, 1), (1, .bipush 43, 2), (3, .if_icmp .ne 7, 3), (6, .iconst 2, 1), (7, .goto 45, 3), (10, .iload_n 0, 1), (11, .bipush 45, 2), (13, .if_icmp .ne 7, 3), (16, .iconst 3, 1), (17, .goto 35, 3), (20, .iload_n 0, 1), (21, .bipush 42, 2), (23, .if_icmp .ne 7, 3), (26, .iconst 4, 1), (27, .goto 25, 3), (30, .iload_n 0, 1)]
theorem dt_M_sumSign_0 : dOk cX12_sumSign T_M_sumSign_0 := by unfold dOk; decide +kernel
def T_M_sumSign_1 : DT := [(31, .bipush 47, 2), (33, .if_icmp .ne 7, 3), (36, .iconst 5, 1), (37, .goto 15, 3), (40, .iload_n 0, 1), (41, .bipush 37, 2), (43, .if_icmp .ne 8, 3), (46, .bipush 6, 2), (48, .goto 4, 3), (51, .iconst (-1), 1), (52, .ireturn, 1)]
theorem dt_M_sumSign_1 : dOk cX12_sumSign T_M_sumSign_1 := by unfold dOk; decide +kernel
section
variable {v : ZV} {l : Launch} {p : Program} {e : Env} {R : Room} {s : State} {m : MethodId} {args : Array Value} {below : List Frame} {meth : Method} {c : Code} {Q : State → Prop} {res : (Int32 × Hp)} 
set_option maxRecDepth 20000 in
theorem lkF_M_sumSign (hi : zInj wM v) (xc : XC wM v) (nx : NXM v) (X : Cx wM v p R s m args c 0 0 cX12_sumSign 1 RX12 2) (rt : Rt wM v p l e R s m args below meth c 0 0 Q cX12_sumSign false (some (.int res.1)) res.2) {a0 : Int32} {σ : Hp}  (h : F_M_sumSign  a0 σ = some res) : Go wM v p l e R s m args below meth c 0 0 Q 1 0 [(0, .int a0)] [] σ := by
  unfold F_M_sumSign at h
  refine go_iload_n X 0 (dk dt_M_sumSign_0 0 rfl) rfl rfl ?_
  refine go_bipush X (dk dt_M_sumSign_0 1 rfl) cb_43 ?_
  refine go_icmp_ne (tgt := 10) X (dk dt_M_sumSign_0 2 rfl) (by decide) h (fun h => ?_) (fun h => ?_)
  · refine go_iload_n X 0 (dk dt_M_sumSign_0 5 rfl) rfl rfl ?_
    refine go_bipush X (dk dt_M_sumSign_0 6 rfl) cb_45 ?_
    refine go_icmp_ne (tgt := 20) X (dk dt_M_sumSign_0 7 rfl) (by decide) h (fun h => ?_) (fun h => ?_)
    · refine go_iload_n X 0 (dk dt_M_sumSign_0 10 rfl) rfl rfl ?_
      refine go_bipush X (dk dt_M_sumSign_0 11 rfl) cb_42 ?_
      refine go_icmp_ne (tgt := 30) X (dk dt_M_sumSign_0 12 rfl) (by decide) h (fun h => ?_) (fun h => ?_)
      · refine go_iload_n X 0 (dk dt_M_sumSign_0 15 rfl) rfl rfl ?_
        refine go_bipush X (dk dt_M_sumSign_1 0 rfl) cb_47 ?_
        refine go_icmp_ne (tgt := 40) X (dk dt_M_sumSign_1 1 rfl) (by decide) h (fun h => ?_) (fun h => ?_)
        · refine go_iload_n X 0 (dk dt_M_sumSign_1 4 rfl) rfl rfl ?_
          refine go_bipush X (dk dt_M_sumSign_1 5 rfl) cb_37 ?_
          refine go_icmp_ne (tgt := 51) X (dk dt_M_sumSign_1 6 rfl) (by decide) h (fun h => ?_) (fun h => ?_)
          · refine go_iconst X (dk dt_M_sumSign_1 9 rfl) ci_m1 ?_
            exact go_iret rt (dk dt_M_sumSign_1 10 rfl) h (fun hh => nomatch hh)
          · refine go_bipush X (dk dt_M_sumSign_1 7 rfl) cb_6 ?_
            refine go_goto (tgt := 52) X (dk dt_M_sumSign_1 8 rfl) (by decide) ?_
            exact go_iret rt (dk dt_M_sumSign_1 10 rfl) h (fun hh => nomatch hh)
        · refine go_iconst X (dk dt_M_sumSign_1 2 rfl) ci_5 ?_
          refine go_goto (tgt := 52) X (dk dt_M_sumSign_1 3 rfl) (by decide) ?_
          exact go_iret rt (dk dt_M_sumSign_1 10 rfl) h (fun hh => nomatch hh)
      · refine go_iconst X (dk dt_M_sumSign_0 13 rfl) ci_4 ?_
        refine go_goto (tgt := 52) X (dk dt_M_sumSign_0 14 rfl) (by decide) ?_
        exact go_iret rt (dk dt_M_sumSign_1 10 rfl) h (fun hh => nomatch hh)
    · refine go_iconst X (dk dt_M_sumSign_0 8 rfl) ci_3 ?_
      refine go_goto (tgt := 52) X (dk dt_M_sumSign_0 9 rfl) (by decide) ?_
      exact go_iret rt (dk dt_M_sumSign_1 10 rfl) h (fun hh => nomatch hh)
  · refine go_iconst X (dk dt_M_sumSign_0 3 rfl) ci_2 ?_
    refine go_goto (tgt := 52) X (dk dt_M_sumSign_0 4 rfl) (by decide) ?_
    exact go_iret rt (dk dt_M_sumSign_1 10 rfl) h (fun hh => nomatch hh)
set_option maxRecDepth 20000 in
theorem ct_M_sumSign (hi : zInj wM v) (xc : XC wM v) (nx : NXM v)  {a0 : Int32} {σ : Hp}  {q : (Int32 × Hp)} (h : F_M_sumSign  a0 σ = some q) : Ct wM v l yX12_sumSign cX12_sumSign 1 (some .int) 2 [.int a0] σ (some (.int q.1)) q.2 :=
  Ct.intro false (by decide) hi xc (Nat.le_of_ble_eq_true rfl) rfl (fun p e R s m args below meth c Q X rt => lkF_M_sumSign hi xc nx X rt  h)
end
def T_M_readsSum_0 : DT := [(0, .aload_n 0, 1), (1, .getfield 185, 3), (4, .istore_n 1, 1), (5, .aload_n 0, 1), (6, .invokevirtual 205, 3), (9, .ifCond .ne 5, 3), (12, .iconst 0, 1), (13, .ireturn, 1), (14, .aload_n 0, 1), (15, .invokevirtual 161, 3), (18, .invokestatic 208, 3), (21, .istore_n 2, 1), (22, .iload_n 2, 1), (23, .iconst (-1), 1), (24, .if_icmp .eq 59, 3), (27, .aload_n 0, 1)]
theorem dt_M_readsSum_0 : dOk cX12_readsSum T_M_readsSum_0 := by unfold dOk; decide +kernel
def T_M_readsSum_1 : DT := [(28, .iload_n 2, 1), (29, .iconst 4, 1), (30, .if_icmp .ge 7, 3), (33, .iconst 1, 1), (34, .goto 4, 3), (37, .iconst 0, 1), (38, .invokevirtual 211, 3), (41, .aload_n 0, 1), (42, .getfield 32, 3), (45, .aload_n 0, 1), (46, .getfield 185, 3), (49, .ldc 181, 2), (51, .iload_n 2, 1), (52, .imul, 1), (53, .iastore, 1), (54, .aload_n 0, 1)]
theorem dt_M_readsSum_1 : dOk cX12_readsSum T_M_readsSum_1 := by unfold dOk; decide +kernel
def T_M_readsSum_2 : DT := [(55, .aload_n 0, 1), (56, .getfield 185, 3), (59, .iconst 1, 1), (60, .iadd, 1), (61, .putfield 185, 3), (64, .aload_n 0, 1), (65, .aload_n 0, 1), (66, .getfield 155, 3), (69, .iconst 1, 1), (70, .iadd, 1), (71, .putfield 155, 3), (74, .aload_n 0, 1), (75, .invokevirtual 205, 3), (78, .ifCond .ne 85, 3), (81, .iconst 0, 1), (82, .ireturn, 1)]
theorem dt_M_readsSum_2 : dOk cX12_readsSum T_M_readsSum_2 := by unfold dOk; decide +kernel
def T_M_readsSum_3 : DT := [(83, .aload_n 0, 1), (84, .invokevirtual 161, 3), (87, .bipush 93, 2), (89, .if_icmp .ne 49, 3), (92, .aload_n 0, 1), (93, .iload_n 1, 1), (94, .invokevirtual 215, 3), (97, .ifCond .eq 41, 3), (100, .aload_n 0, 1), (101, .iconst 1, 1), (102, .invokevirtual 211, 3), (105, .aload_n 0, 1), (106, .aload_n 0, 1), (107, .getfield 185, 3), (110, .iconst 1, 1), (111, .isub, 1)]
theorem dt_M_readsSum_3 : dOk cX12_readsSum T_M_readsSum_3 := by unfold dOk; decide +kernel
def T_M_readsSum_4 : DT := [(112, .putfield 185, 3), (115, .aload_n 0, 1), (116, .aload_n 0, 1), (117, .getfield 182, 3), (120, .iconst 1, 1), (121, .isub, 1), (122, .putfield 182, 3), (125, .aload_n 0, 1), (126, .aload_n 0, 1), (127, .getfield 155, 3), (130, .iconst 1, 1), (131, .iadd, 1), (132, .putfield 155, 3), (135, .goto 28, 3), (138, .aload_n 0, 1), (139, .iload_n 1, 1)]
theorem dt_M_readsSum_4 : dOk cX12_readsSum T_M_readsSum_4 := by unfold dOk; decide +kernel
def T_M_readsSum_5 : DT := [(140, .invokevirtual 215, 3), (143, .ifCond .eq 13, 3), (146, .aload_n 0, 1), (147, .iconst 1, 1), (148, .aload_n 0, 1), (149, .getfield 155, 3), (152, .invokevirtual 168, 3), (155, .ireturn, 1), (156, .aload_n 0, 1), (157, .iconst 1, 1), (158, .invokevirtual 211, 3), (161, .iconst 1, 1), (162, .ireturn, 1), (163, .goto (-149), 3)]
theorem dt_M_readsSum_5 : dOk cX12_readsSum T_M_readsSum_5 := by unfold dOk; decide +kernel
section
variable {v : ZV} {l : Launch} {p : Program} {e : Env} {R : Room} {s : State} {m : MethodId} {args : Array Value} {below : List Frame} {meth : Method} {c : Code} {Q : State → Prop} {res : (Int32 × Hp)} 
set_option maxRecDepth 20000 in
theorem lkJ_M_readsSum_38 (hi : zInj wM v) (xc : XC wM v) (nx : NXM v) (X : Cx wM v p R s m args c 0 0 cX12_readsSum 3 RX12 10) (rt : Rt wM v p l e R s m args below meth c 0 0 Q cX12_readsSum true (some (.int res.1)) res.2) {k14 : Int32 → Hp → Option (Int32 × Hp)} {x1 : Int32} {x2 : Int32} {s0 : Int32} {σ : Hp}  (hk14 : ∀ (x1 : Int32) (σ : Hp),  k14 x1 σ = some res → Go wM v p l e R s m args below meth c 0 0 Q 3 14 [(0, .ref 0), (1, .int x1)] [] σ) (h : J_M_readsSum_38  k14 x1 x2 s0 σ = some res) : Go wM v p l e R s m args below meth c 0 0 Q 3 38 [(0, .ref 0), (1, .int x1), (2, .int x2)] [.int s0, .ref 0] σ := by
  unfold J_M_readsSum_38 at h
  refine go_Vv (As := [.int s0]) (rest := []) X vo_X12_211 (fun q hq => ct_M_closesSums hi xc nx  hq) (by decide) rfl lM_0 sM_0 rfl rfl (Nat.le_of_ble_eq_true rfl) (dk dt_M_readsSum_1 6 rfl) h (fun q38 h => ?_)
  refine go_aload_n X 0 (dk dt_M_readsSum_1 7 rfl) rfl rfl ?_
  refine go_getr X fo_X12_32 lM_0 sM_0 fM_0_17 (dk dt_M_readsSum_1 8 rfl) ?_
  refine go_aload_n X 0 (dk dt_M_readsSum_1 9 rfl) rfl rfl ?_
  refine go_geti X fo_X12_185 lM_0 sM_0 fM_0_13 (dk dt_M_readsSum_1 10 rfl) ?_
  refine go_ldc X wd_1387 (dk dt_M_readsSum_1 11 rfl) ?_
  refine go_iload_n X 2 (dk dt_M_readsSum_1 12 rfl) rfl rfl ?_
  refine go_imul X (dk dt_M_readsSum_1 13 rfl) ?_
  refine go_iast X lM_8 sM_8 (dk dt_M_readsSum_1 14 rfl) h (fun h => ?_)
  refine go_aload_n X 0 (dk dt_M_readsSum_1 15 rfl) rfl rfl ?_
  refine go_aload_n X 0 (dk dt_M_readsSum_2 0 rfl) rfl rfl ?_
  refine go_geti X fo_X12_185 lM_0 sM_0 fM_0_13 (dk dt_M_readsSum_2 1 rfl) ?_
  refine go_iconst X (dk dt_M_readsSum_2 2 rfl) ci_1 ?_
  refine go_iadd X (dk dt_M_readsSum_2 3 rfl) ?_
  refine go_puti X fo_X12_185 pf_12_13 lM_0 sM_0 fM_0_13 (dk dt_M_readsSum_2 4 rfl) ?_
  refine go_aload_n X 0 (dk dt_M_readsSum_2 5 rfl) rfl rfl ?_
  refine go_aload_n X 0 (dk dt_M_readsSum_2 6 rfl) rfl rfl ?_
  refine go_geti X fo_X12_155 lM_0 sM_0 fM_0_7 (dk dt_M_readsSum_2 7 rfl) ?_
  refine go_iconst X (dk dt_M_readsSum_2 8 rfl) ci_1 ?_
  refine go_iadd X (dk dt_M_readsSum_2 9 rfl) ?_
  refine go_puti X fo_X12_155 pf_12_7 lM_0 sM_0 fM_0_7 (dk dt_M_readsSum_2 10 rfl) ?_
  refine go_aload_n X 0 (dk dt_M_readsSum_2 11 rfl) rfl rfl ?_
  refine go_Vi (As := []) (rest := []) X vo_X12_205 (fun q hq => ct_M_readsFactor hi xc nx  hq) (by decide) rfl lM_0 sM_0 rfl rfl (Nat.le_of_ble_eq_true rfl) (dk dt_M_readsSum_2 12 rfl) h (fun q75 h => ?_)
  refine go_if_ne (tgt := 163) X (dk dt_M_readsSum_2 13 rfl) (by decide) h (fun h => ?_) (fun h => ?_)
  · refine go_goto (tgt := 14) X (dk dt_M_readsSum_5 13 rfl) (by decide) ?_
    refine go_sub [0, 1] rfl ?_
    exact hk14 _ _  h
  · refine go_iconst X (dk dt_M_readsSum_2 14 rfl) ci_0 ?_
    exact go_iret rt (dk dt_M_readsSum_2 15 rfl) h (by decide)
set_option maxRecDepth 20000 in
theorem lkB_M_readsSum_14 (hi : zInj wM v) (xc : XC wM v) (nx : NXM v) (X : Cx wM v p R s m args c 0 0 cX12_readsSum 3 RX12 10) (rt : Rt wM v p l e R s m args below meth c 0 0 Q cX12_readsSum true (some (.int res.1)) res.2) {k138 : Int32 → Hp → Option (Int32 × Hp)} {k14 : Int32 → Hp → Option (Int32 × Hp)} {x1 : Int32} {σ : Hp}  (hk138 : ∀ (x1 : Int32) (σ : Hp),  k138 x1 σ = some res → Go wM v p l e R s m args below meth c 0 0 Q 3 138 [(0, .ref 0), (1, .int x1)] [] σ) (hk14 : ∀ (x1 : Int32) (σ : Hp),  k14 x1 σ = some res → Go wM v p l e R s m args below meth c 0 0 Q 3 14 [(0, .ref 0), (1, .int x1)] [] σ) (h : B_M_readsSum_14  k138 k14 x1 σ = some res) : Go wM v p l e R s m args below meth c 0 0 Q 3 14 [(0, .ref 0), (1, .int x1)] [] σ := by
  unfold B_M_readsSum_14 at h
  refine go_aload_n X 0 (dk dt_M_readsSum_0 8 rfl) rfl rfl ?_
  refine go_Vi (As := []) (rest := []) X vo_X12_161 (fun q hq => ct_M_here hi xc nx  hq) (by decide) rfl lM_0 sM_0 rfl rfl (Nat.le_of_ble_eq_true rfl) (dk dt_M_readsSum_0 9 rfl) h (fun q15 h => ?_)
  refine go_Si (As := [.int q15.1]) (rest := []) X so_X12_208 (fun q hq => ct_M_sumSign hi xc nx  hq) (by decide) rfl rfl (Nat.le_of_ble_eq_true rfl) (dk dt_M_readsSum_0 10 rfl) h (fun q18 h => ?_)
  refine go_istore_n (lv' := [(2, .int q18.1), (0, .ref 0), (1, .int x1)]) X (dk dt_M_readsSum_0 11 rfl) rfl (by decide) rfl ?_
  refine go_iload_n X 0 (dk dt_M_readsSum_0 12 rfl) rfl rfl ?_
  refine go_iconst X (dk dt_M_readsSum_0 13 rfl) ci_m1 ?_
  refine go_icmp_eq (tgt := 83) X (dk dt_M_readsSum_0 14 rfl) (by decide) h (fun h => ?_) (fun h => ?_)
  · refine go_aload_n X 1 (dk dt_M_readsSum_3 0 rfl) rfl rfl ?_
    refine go_Vi (As := []) (rest := []) X vo_X12_161 (fun q hq => ct_M_here hi xc nx  hq) (by decide) rfl lM_0 sM_0 rfl rfl (Nat.le_of_ble_eq_true rfl) (dk dt_M_readsSum_3 1 rfl) h (fun q84 h => ?_)
    refine go_bipush X (dk dt_M_readsSum_3 2 rfl) cb_93 ?_
    refine go_icmp_ne (tgt := 138) X (dk dt_M_readsSum_3 3 rfl) (by decide) h (fun h => ?_) (fun h => ?_)
    · refine go_sub [1, 2] rfl ?_
      exact hk138 _ _  h
    · refine go_aload_n X 1 (dk dt_M_readsSum_3 4 rfl) rfl rfl ?_
      refine go_iload_n X 2 (dk dt_M_readsSum_3 5 rfl) rfl rfl ?_
      refine go_Vi (As := [.int x1]) (rest := []) X vo_X12_215 (fun q hq => ct_M_hasOpenSum hi xc nx  hq) (by decide) rfl lM_0 sM_0 rfl rfl (Nat.le_of_ble_eq_true rfl) (dk dt_M_readsSum_3 6 rfl) h (fun q94 h => ?_)
      refine go_if_eq (tgt := 138) X (dk dt_M_readsSum_3 7 rfl) (by decide) h (fun h => ?_) (fun h => ?_)
      · refine go_sub [1, 2] rfl ?_
        exact hk138 _ _  h
      · refine go_aload_n X 1 (dk dt_M_readsSum_3 8 rfl) rfl rfl ?_
        refine go_iconst X (dk dt_M_readsSum_3 9 rfl) ci_1 ?_
        refine go_Vv (As := [.int (1 : Int32)]) (rest := []) X vo_X12_211 (fun q hq => ct_M_closesSums hi xc nx  hq) (by decide) rfl lM_0 sM_0 rfl rfl (Nat.le_of_ble_eq_true rfl) (dk dt_M_readsSum_3 10 rfl) h (fun q102 h => ?_)
        refine go_aload_n X 1 (dk dt_M_readsSum_3 11 rfl) rfl rfl ?_
        refine go_aload_n X 1 (dk dt_M_readsSum_3 12 rfl) rfl rfl ?_
        refine go_geti X fo_X12_185 lM_0 sM_0 fM_0_13 (dk dt_M_readsSum_3 13 rfl) ?_
        refine go_iconst X (dk dt_M_readsSum_3 14 rfl) ci_1 ?_
        refine go_isub X (dk dt_M_readsSum_3 15 rfl) ?_
        refine go_puti X fo_X12_185 pf_12_13 lM_0 sM_0 fM_0_13 (dk dt_M_readsSum_4 0 rfl) ?_
        refine go_aload_n X 1 (dk dt_M_readsSum_4 1 rfl) rfl rfl ?_
        refine go_aload_n X 1 (dk dt_M_readsSum_4 2 rfl) rfl rfl ?_
        refine go_geti X fo_X12_182 lM_0 sM_0 fM_0_11 (dk dt_M_readsSum_4 3 rfl) ?_
        refine go_iconst X (dk dt_M_readsSum_4 4 rfl) ci_1 ?_
        refine go_isub X (dk dt_M_readsSum_4 5 rfl) ?_
        refine go_puti X fo_X12_182 pf_12_11 lM_0 sM_0 fM_0_11 (dk dt_M_readsSum_4 6 rfl) ?_
        refine go_aload_n X 1 (dk dt_M_readsSum_4 7 rfl) rfl rfl ?_
        refine go_aload_n X 1 (dk dt_M_readsSum_4 8 rfl) rfl rfl ?_
        refine go_geti X fo_X12_155 lM_0 sM_0 fM_0_7 (dk dt_M_readsSum_4 9 rfl) ?_
        refine go_iconst X (dk dt_M_readsSum_4 10 rfl) ci_1 ?_
        refine go_iadd X (dk dt_M_readsSum_4 11 rfl) ?_
        refine go_puti X fo_X12_155 pf_12_7 lM_0 sM_0 fM_0_7 (dk dt_M_readsSum_4 12 rfl) ?_
        refine go_goto (tgt := 163) X (dk dt_M_readsSum_4 13 rfl) (by decide) ?_
        refine go_goto (tgt := 14) X (dk dt_M_readsSum_5 13 rfl) (by decide) ?_
        refine go_sub [1, 2] rfl ?_
        exact hk14 _ _  h
  · refine go_aload_n X 1 (dk dt_M_readsSum_0 15 rfl) rfl rfl ?_
    refine go_iload_n X 0 (dk dt_M_readsSum_1 0 rfl) rfl rfl ?_
    refine go_iconst X (dk dt_M_readsSum_1 1 rfl) ci_4 ?_
    refine go_icmp_ge (tgt := 37) X (dk dt_M_readsSum_1 2 rfl) (by decide) h (fun h => ?_) (fun h => ?_)
    · refine go_iconst X (dk dt_M_readsSum_1 5 rfl) ci_0 ?_
      refine go_sub [1, 2, 0] rfl ?_
      exact lkJ_M_readsSum_38 hi xc nx X rt  hk14 h
    · refine go_iconst X (dk dt_M_readsSum_1 3 rfl) ci_1 ?_
      refine go_goto (tgt := 38) X (dk dt_M_readsSum_1 4 rfl) (by decide) ?_
      refine go_sub [1, 2, 0] rfl ?_
      exact lkJ_M_readsSum_38 hi xc nx X rt  hk14 h
set_option maxRecDepth 20000 in
theorem lkL_M_readsSum_14 (hi : zInj wM v) (xc : XC wM v) (nx : NXM v) (X : Cx wM v p R s m args c 0 0 cX12_readsSum 3 RX12 10) (rt : Rt wM v p l e R s m args below meth c 0 0 Q cX12_readsSum true (some (.int res.1)) res.2) {k138 : Int32 → Hp → Option (Int32 × Hp)} (hk138 : ∀ (x1 : Int32) (σ : Hp),  k138 x1 σ = some res → Go wM v p l e R s m args below meth c 0 0 Q 3 138 [(0, .ref 0), (1, .int x1)] [] σ) (n : Nat) : ∀ {x1 : Int32} {σ : Hp},  L_M_readsSum_14  k138 n x1 σ = some res → Go wM v p l e R s m args below meth c 0 0 Q 3 14 [(0, .ref 0), (1, .int x1)] [] σ := by
  induction n with
  | zero => intro x1 σ  h; cases h
  | succ n ih =>
    intro x1 σ  h
    exact lkB_M_readsSum_14 hi xc nx X rt  hk138 (fun _ _  hh => ih  hh) h
set_option maxRecDepth 20000 in
theorem lkJ_M_readsSum_138 (hi : zInj wM v) (xc : XC wM v) (nx : NXM v) (X : Cx wM v p R s m args c 0 0 cX12_readsSum 3 RX12 10) (rt : Rt wM v p l e R s m args below meth c 0 0 Q cX12_readsSum true (some (.int res.1)) res.2)  {x1 : Int32} {σ : Hp}   (h : J_M_readsSum_138   x1 σ = some res) : Go wM v p l e R s m args below meth c 0 0 Q 3 138 [(0, .ref 0), (1, .int x1)] [] σ := by
  unfold J_M_readsSum_138 at h
  refine go_aload_n X 0 (dk dt_M_readsSum_4 14 rfl) rfl rfl ?_
  refine go_iload_n X 1 (dk dt_M_readsSum_4 15 rfl) rfl rfl ?_
  refine go_Vi (As := [.int x1]) (rest := []) X vo_X12_215 (fun q hq => ct_M_hasOpenSum hi xc nx  hq) (by decide) rfl lM_0 sM_0 rfl rfl (Nat.le_of_ble_eq_true rfl) (dk dt_M_readsSum_5 0 rfl) h (fun q140 h => ?_)
  refine go_if_eq (tgt := 156) X (dk dt_M_readsSum_5 1 rfl) (by decide) h (fun h => ?_) (fun h => ?_)
  · refine go_aload_n X 0 (dk dt_M_readsSum_5 8 rfl) rfl rfl ?_
    refine go_iconst X (dk dt_M_readsSum_5 9 rfl) ci_1 ?_
    refine go_Vv (As := [.int (1 : Int32)]) (rest := []) X vo_X12_211 (fun q hq => ct_M_closesSums hi xc nx  hq) (by decide) rfl lM_0 sM_0 rfl rfl (Nat.le_of_ble_eq_true rfl) (dk dt_M_readsSum_5 10 rfl) h (fun q158 h => ?_)
    refine go_iconst X (dk dt_M_readsSum_5 11 rfl) ci_1 ?_
    exact go_iret rt (dk dt_M_readsSum_5 12 rfl) h (by decide)
  · refine go_aload_n X 0 (dk dt_M_readsSum_5 2 rfl) rfl rfl ?_
    refine go_iconst X (dk dt_M_readsSum_5 3 rfl) ci_1 ?_
    refine go_aload_n X 0 (dk dt_M_readsSum_5 4 rfl) rfl rfl ?_
    refine go_geti X fo_X12_155 lM_0 sM_0 fM_0_7 (dk dt_M_readsSum_5 5 rfl) ?_
    refine go_Vi (As := [.int (1 : Int32), .int (q140.2 0 7)]) (rest := []) X vo_X12_168 (fun q hq => ct_M_wrongAt hi xc nx  hq) (by decide) rfl lM_0 sM_0 rfl rfl (Nat.le_of_ble_eq_true rfl) (dk dt_M_readsSum_5 6 rfl) h (fun q152 h => ?_)
    exact go_zret rt (dk dt_M_readsSum_5 7 rfl) h
set_option maxRecDepth 20000 in
theorem lkF_M_readsSum (hi : zInj wM v) (xc : XC wM v) (nx : NXM v) (X : Cx wM v p R s m args c 0 0 cX12_readsSum 3 RX12 10) (rt : Rt wM v p l e R s m args below meth c 0 0 Q cX12_readsSum true (some (.int res.1)) res.2)  {σ : Hp}  (h : F_M_readsSum   σ = some res) : Go wM v p l e R s m args below meth c 0 0 Q 3 0 [(0, .ref 0)] [] σ := by
  unfold F_M_readsSum at h
  refine go_aload_n X 0 (dk dt_M_readsSum_0 0 rfl) rfl rfl ?_
  refine go_geti X fo_X12_185 lM_0 sM_0 fM_0_13 (dk dt_M_readsSum_0 1 rfl) ?_
  refine go_istore_n (lv' := [(1, .int (σ 0 13)), (0, .ref 0)]) X (dk dt_M_readsSum_0 2 rfl) rfl (by decide) rfl ?_
  refine go_aload_n X 1 (dk dt_M_readsSum_0 3 rfl) rfl rfl ?_
  refine go_Vi (As := []) (rest := []) X vo_X12_205 (fun q hq => ct_M_readsFactor hi xc nx  hq) (by decide) rfl lM_0 sM_0 rfl rfl (Nat.le_of_ble_eq_true rfl) (dk dt_M_readsSum_0 4 rfl) h (fun q6 h => ?_)
  refine go_if_ne (tgt := 14) X (dk dt_M_readsSum_0 5 rfl) (by decide) h (fun h => ?_) (fun h => ?_)
  · refine go_sub [1, 0] rfl ?_
    exact lkL_M_readsSum_14 hi xc nx X rt (fun _ _  hh => lkJ_M_readsSum_138 hi xc nx X rt   hh) FU  h
  · refine go_iconst X (dk dt_M_readsSum_0 6 rfl) ci_0 ?_
    exact go_iret rt (dk dt_M_readsSum_0 7 rfl) h (by decide)
set_option maxRecDepth 20000 in
theorem ct_M_readsSum (hi : zInj wM v) (xc : XC wM v) (nx : NXM v)   {σ : Hp}  {q : (Int32 × Hp)} (h : F_M_readsSum   σ = some q) : Ct wM v l yX12_readsSum cX12_readsSum 3 (some .boolean) 10 [.ref 0] σ (some (.int q.1)) q.2 :=
  Ct.intro true (by decide) hi xc (Nat.le_of_ble_eq_true rfl) rfl (fun p e R s m args below meth c Q X rt => lkF_M_readsSum hi xc nx X rt  h)
end
def T_M_readsCompared_0 : DT := [(0, .aload_n 0, 1), (1, .invokevirtual 218, 3), (4, .ifCond .ne 5, 3), (7, .iconst 0, 1), (8, .ireturn, 1), (9, .aload_n 0, 1), (10, .invokevirtual 161, 3), (13, .bipush 60, 2), (15, .if_icmp .ne 8, 3), (18, .bipush 7, 2), (20, .goto 32, 3), (23, .aload_n 0, 1), (24, .invokevirtual 161, 3), (27, .bipush 62, 2), (29, .if_icmp .ne 8, 3), (32, .bipush 8, 2)]
theorem dt_M_readsCompared_0 : dOk cX12_readsCompared T_M_readsCompared_0 := by unfold dOk; decide +kernel
def T_M_readsCompared_1 : DT := [(34, .goto 18, 3), (37, .aload_n 0, 1), (38, .invokevirtual 161, 3), (41, .bipush 61, 2), (43, .if_icmp .ne 8, 3), (46, .bipush 9, 2), (48, .goto 4, 3), (51, .iconst (-1), 1), (52, .istore_n 1, 1), (53, .iload_n 1, 1), (54, .iconst (-1), 1), (55, .if_icmp .ne 13, 3), (58, .aload_n 0, 1), (59, .iconst 1, 1), (60, .aload_n 0, 1), (61, .getfield 155, 3)]
theorem dt_M_readsCompared_1 : dOk cX12_readsCompared T_M_readsCompared_1 := by unfold dOk; decide +kernel
def T_M_readsCompared_2 : DT := [(64, .invokevirtual 168, 3), (67, .ireturn, 1), (68, .aload_n 0, 1), (69, .aload_n 0, 1), (70, .getfield 155, 3), (73, .iconst 1, 1), (74, .iadd, 1), (75, .putfield 155, 3), (78, .aload_n 0, 1), (79, .invokevirtual 218, 3), (82, .ifCond .ne 5, 3), (85, .iconst 0, 1), (86, .ireturn, 1), (87, .aload_n 0, 1), (88, .iload_n 1, 1), (89, .iconst 0, 1)]
theorem dt_M_readsCompared_2 : dOk cX12_readsCompared T_M_readsCompared_2 := by unfold dOk; decide +kernel
def T_M_readsCompared_3 : DT := [(90, .invokevirtual 191, 3), (93, .aload_n 0, 1), (94, .invokevirtual 221, 3), (97, .iconst 1, 1), (98, .ireturn, 1)]
theorem dt_M_readsCompared_3 : dOk cX12_readsCompared T_M_readsCompared_3 := by unfold dOk; decide +kernel
section
variable {v : ZV} {l : Launch} {p : Program} {e : Env} {R : Room} {s : State} {m : MethodId} {args : Array Value} {below : List Frame} {meth : Method} {c : Code} {Q : State → Prop} {res : (Int32 × Hp)} 
set_option maxRecDepth 20000 in
theorem lkJ_M_readsCompared_52 (hi : zInj wM v) (xc : XC wM v) (nx : NXM v) (X : Cx wM v p R s m args c 0 0 cX12_readsCompared 2 RX12 12) (rt : Rt wM v p l e R s m args below meth c 0 0 Q cX12_readsCompared true (some (.int res.1)) res.2)  {s0 : Int32} {σ : Hp}   (h : J_M_readsCompared_52   s0 σ = some res) : Go wM v p l e R s m args below meth c 0 0 Q 2 52 [(0, .ref 0)] [.int s0] σ := by
  unfold J_M_readsCompared_52 at h
  refine go_istore_n (lv' := [(1, .int s0), (0, .ref 0)]) X (dk dt_M_readsCompared_1 8 rfl) rfl (by decide) rfl ?_
  refine go_iload_n X 0 (dk dt_M_readsCompared_1 9 rfl) rfl rfl ?_
  refine go_iconst X (dk dt_M_readsCompared_1 10 rfl) ci_m1 ?_
  refine go_icmp_ne (tgt := 68) X (dk dt_M_readsCompared_1 11 rfl) (by decide) h (fun h => ?_) (fun h => ?_)
  · refine go_aload_n X 1 (dk dt_M_readsCompared_2 2 rfl) rfl rfl ?_
    refine go_aload_n X 1 (dk dt_M_readsCompared_2 3 rfl) rfl rfl ?_
    refine go_geti X fo_X12_155 lM_0 sM_0 fM_0_7 (dk dt_M_readsCompared_2 4 rfl) ?_
    refine go_iconst X (dk dt_M_readsCompared_2 5 rfl) ci_1 ?_
    refine go_iadd X (dk dt_M_readsCompared_2 6 rfl) ?_
    refine go_puti X fo_X12_155 pf_12_7 lM_0 sM_0 fM_0_7 (dk dt_M_readsCompared_2 7 rfl) ?_
    refine go_aload_n X 1 (dk dt_M_readsCompared_2 8 rfl) rfl rfl ?_
    refine go_Vi (As := []) (rest := []) X vo_X12_218 (fun q hq => ct_M_readsSum hi xc nx  hq) (by decide) rfl lM_0 sM_0 rfl rfl (Nat.le_of_ble_eq_true rfl) (dk dt_M_readsCompared_2 9 rfl) h (fun q79 h => ?_)
    refine go_if_ne (tgt := 87) X (dk dt_M_readsCompared_2 10 rfl) (by decide) h (fun h => ?_) (fun h => ?_)
    · refine go_aload_n X 1 (dk dt_M_readsCompared_2 13 rfl) rfl rfl ?_
      refine go_iload_n X 0 (dk dt_M_readsCompared_2 14 rfl) rfl rfl ?_
      refine go_iconst X (dk dt_M_readsCompared_2 15 rfl) ci_0 ?_
      refine go_Vv (As := [.int s0, .int (0 : Int32)]) (rest := []) X vo_X12_191 (fun q hq => ct_M_notes hi xc nx  hq) (by decide) rfl lM_0 sM_0 rfl rfl (Nat.le_of_ble_eq_true rfl) (dk dt_M_readsCompared_3 0 rfl) h (fun q90 h => ?_)
      refine go_aload_n X 1 (dk dt_M_readsCompared_3 1 rfl) rfl rfl ?_
      refine go_Vv (As := []) (rest := []) X vo_X12_221 (fun q hq => ct_M_endsPiece hi xc nx  hq) (by decide) rfl lM_0 sM_0 rfl rfl (Nat.le_of_ble_eq_true rfl) (dk dt_M_readsCompared_3 2 rfl) h (fun q94 h => ?_)
      refine go_iconst X (dk dt_M_readsCompared_3 3 rfl) ci_1 ?_
      exact go_iret rt (dk dt_M_readsCompared_3 4 rfl) h (by decide)
    · refine go_iconst X (dk dt_M_readsCompared_2 11 rfl) ci_0 ?_
      exact go_iret rt (dk dt_M_readsCompared_2 12 rfl) h (by decide)
  · refine go_aload_n X 1 (dk dt_M_readsCompared_1 12 rfl) rfl rfl ?_
    refine go_iconst X (dk dt_M_readsCompared_1 13 rfl) ci_1 ?_
    refine go_aload_n X 1 (dk dt_M_readsCompared_1 14 rfl) rfl rfl ?_
    refine go_geti X fo_X12_155 lM_0 sM_0 fM_0_7 (dk dt_M_readsCompared_1 15 rfl) ?_
    refine go_Vi (As := [.int (1 : Int32), .int (σ 0 7)]) (rest := []) X vo_X12_168 (fun q hq => ct_M_wrongAt hi xc nx  hq) (by decide) rfl lM_0 sM_0 rfl rfl (Nat.le_of_ble_eq_true rfl) (dk dt_M_readsCompared_2 0 rfl) h (fun q64 h => ?_)
    exact go_zret rt (dk dt_M_readsCompared_2 1 rfl) h
set_option maxRecDepth 20000 in
theorem lkF_M_readsCompared (hi : zInj wM v) (xc : XC wM v) (nx : NXM v) (X : Cx wM v p R s m args c 0 0 cX12_readsCompared 2 RX12 12) (rt : Rt wM v p l e R s m args below meth c 0 0 Q cX12_readsCompared true (some (.int res.1)) res.2)  {σ : Hp}  (h : F_M_readsCompared   σ = some res) : Go wM v p l e R s m args below meth c 0 0 Q 2 0 [(0, .ref 0)] [] σ := by
  unfold F_M_readsCompared at h
  refine go_aload_n X 0 (dk dt_M_readsCompared_0 0 rfl) rfl rfl ?_
  refine go_Vi (As := []) (rest := []) X vo_X12_218 (fun q hq => ct_M_readsSum hi xc nx  hq) (by decide) rfl lM_0 sM_0 rfl rfl (Nat.le_of_ble_eq_true rfl) (dk dt_M_readsCompared_0 1 rfl) h (fun q1 h => ?_)
  refine go_if_ne (tgt := 9) X (dk dt_M_readsCompared_0 2 rfl) (by decide) h (fun h => ?_) (fun h => ?_)
  · refine go_aload_n X 0 (dk dt_M_readsCompared_0 5 rfl) rfl rfl ?_
    refine go_Vi (As := []) (rest := []) X vo_X12_161 (fun q hq => ct_M_here hi xc nx  hq) (by decide) rfl lM_0 sM_0 rfl rfl (Nat.le_of_ble_eq_true rfl) (dk dt_M_readsCompared_0 6 rfl) h (fun q10 h => ?_)
    refine go_bipush X (dk dt_M_readsCompared_0 7 rfl) cb_60 ?_
    refine go_icmp_ne (tgt := 23) X (dk dt_M_readsCompared_0 8 rfl) (by decide) h (fun h => ?_) (fun h => ?_)
    · refine go_aload_n X 0 (dk dt_M_readsCompared_0 11 rfl) rfl rfl ?_
      refine go_Vi (As := []) (rest := []) X vo_X12_161 (fun q hq => ct_M_here hi xc nx  hq) (by decide) rfl lM_0 sM_0 rfl rfl (Nat.le_of_ble_eq_true rfl) (dk dt_M_readsCompared_0 12 rfl) h (fun q24 h => ?_)
      refine go_bipush X (dk dt_M_readsCompared_0 13 rfl) cb_62 ?_
      refine go_icmp_ne (tgt := 37) X (dk dt_M_readsCompared_0 14 rfl) (by decide) h (fun h => ?_) (fun h => ?_)
      · refine go_aload_n X 0 (dk dt_M_readsCompared_1 1 rfl) rfl rfl ?_
        refine go_Vi (As := []) (rest := []) X vo_X12_161 (fun q hq => ct_M_here hi xc nx  hq) (by decide) rfl lM_0 sM_0 rfl rfl (Nat.le_of_ble_eq_true rfl) (dk dt_M_readsCompared_1 2 rfl) h (fun q38 h => ?_)
        refine go_bipush X (dk dt_M_readsCompared_1 3 rfl) cb_61 ?_
        refine go_icmp_ne (tgt := 51) X (dk dt_M_readsCompared_1 4 rfl) (by decide) h (fun h => ?_) (fun h => ?_)
        · refine go_iconst X (dk dt_M_readsCompared_1 7 rfl) ci_m1 ?_
          exact lkJ_M_readsCompared_52 hi xc nx X rt   h
        · refine go_bipush X (dk dt_M_readsCompared_1 5 rfl) cb_9 ?_
          refine go_goto (tgt := 52) X (dk dt_M_readsCompared_1 6 rfl) (by decide) ?_
          exact lkJ_M_readsCompared_52 hi xc nx X rt   h
      · refine go_bipush X (dk dt_M_readsCompared_0 15 rfl) cb_8 ?_
        refine go_goto (tgt := 52) X (dk dt_M_readsCompared_1 0 rfl) (by decide) ?_
        exact lkJ_M_readsCompared_52 hi xc nx X rt   h
    · refine go_bipush X (dk dt_M_readsCompared_0 9 rfl) cb_7 ?_
      refine go_goto (tgt := 52) X (dk dt_M_readsCompared_0 10 rfl) (by decide) ?_
      exact lkJ_M_readsCompared_52 hi xc nx X rt   h
  · refine go_iconst X (dk dt_M_readsCompared_0 3 rfl) ci_0 ?_
    exact go_iret rt (dk dt_M_readsCompared_0 4 rfl) h (by decide)
set_option maxRecDepth 20000 in
theorem ct_M_readsCompared (hi : zInj wM v) (xc : XC wM v) (nx : NXM v)   {σ : Hp}  {q : (Int32 × Hp)} (h : F_M_readsCompared   σ = some q) : Ct wM v l yX12_readsCompared cX12_readsCompared 2 (some .boolean) 12 [.ref 0] σ (some (.int q.1)) q.2 :=
  Ct.intro true (by decide) hi xc (Nat.le_of_ble_eq_true rfl) rfl (fun p e R s m args below meth c Q X rt => lkF_M_readsCompared hi xc nx X rt  h)
end
def T_M_readsCondition_0 : DT := [(0, .aload_n 0, 1), (1, .invokevirtual 161, 3), (4, .bipush 40, 2), (6, .if_icmp .eq 13, 3), (9, .aload_n 0, 1), (10, .iconst 1, 1), (11, .aload_n 0, 1), (12, .getfield 155, 3), (15, .invokevirtual 168, 3), (18, .ireturn, 1), (19, .aload_n 0, 1), (20, .iconst 0, 1), (21, .putfield 182, 3), (24, .aload_n 0, 1), (25, .iconst 0, 1), (26, .putfield 185, 3)]
theorem dt_M_readsCondition_0 : dOk cX12_readsCondition T_M_readsCondition_0 := by unfold dOk; decide +kernel
def T_M_readsCondition_1 : DT := [(29, .aload_n 0, 1), (30, .bipush 13, 2), (32, .invokevirtual 195, 3), (35, .ifCond .ne 5, 3), (38, .iconst 0, 1), (39, .ireturn, 1), (40, .aload_n 0, 1), (41, .invokevirtual 161, 3), (44, .bipush 33, 2), (46, .if_icmp .eq 12, 3), (49, .aload_n 0, 1), (50, .invokevirtual 161, 3), (53, .bipush 40, 2), (55, .if_icmp .ne 28, 3), (58, .aload_n 0, 1), (59, .aload_n 0, 1)]
theorem dt_M_readsCondition_1 : dOk cX12_readsCondition T_M_readsCondition_1 := by unfold dOk; decide +kernel
def T_M_readsCondition_2 : DT := [(60, .invokevirtual 161, 3), (63, .bipush 33, 2), (65, .if_icmp .ne 8, 3), (68, .bipush 10, 2), (70, .goto 5, 3), (73, .bipush 13, 2), (75, .invokevirtual 195, 3), (78, .ifCond .ne (-38), 3), (81, .iconst 0, 1), (82, .ireturn, 1), (83, .aload_n 0, 1), (84, .invokevirtual 224, 3), (87, .ifCond .ne 5, 3), (90, .iconst 0, 1), (91, .ireturn, 1), (92, .aload_n 0, 1)]
theorem dt_M_readsCondition_2 : dOk cX12_readsCondition T_M_readsCondition_2 := by unfold dOk; decide +kernel
def T_M_readsCondition_3 : DT := [(93, .invokevirtual 161, 3), (96, .bipush 41, 2), (98, .if_icmp .ne 54, 3), (101, .aload_n 0, 1), (102, .iconst 1, 1), (103, .invokevirtual 227, 3), (106, .aload_n 0, 1), (107, .aload_n 0, 1), (108, .getfield 185, 3), (111, .iconst 1, 1), (112, .isub, 1), (113, .putfield 185, 3), (116, .aload_n 0, 1), (117, .aload_n 0, 1), (118, .getfield 182, 3), (121, .iconst 1, 1)]
theorem dt_M_readsCondition_3 : dOk cX12_readsCondition T_M_readsCondition_3 := by unfold dOk; decide +kernel
def T_M_readsCondition_4 : DT := [(122, .isub, 1), (123, .putfield 182, 3), (126, .aload_n 0, 1), (127, .aload_n 0, 1), (128, .getfield 155, 3), (131, .iconst 1, 1), (132, .iadd, 1), (133, .putfield 155, 3), (136, .aload_n 0, 1), (137, .getfield 185, 3), (140, .ifCond .ne 5, 3), (143, .iconst 1, 1), (144, .ireturn, 1), (145, .aload_n 0, 1), (146, .invokevirtual 221, 3), (149, .goto (-57), 3)]
theorem dt_M_readsCondition_4 : dOk cX12_readsCondition T_M_readsCondition_4 := by unfold dOk; decide +kernel
def T_M_readsCondition_5 : DT := [(152, .aload_n 0, 1), (153, .invokevirtual 161, 3), (156, .bipush 38, 2), (158, .if_icmp .eq 22, 3), (161, .aload_n 0, 1), (162, .invokevirtual 161, 3), (165, .bipush 124, 2), (167, .if_icmp .eq 13, 3), (170, .aload_n 0, 1), (171, .iconst 1, 1), (172, .aload_n 0, 1), (173, .getfield 155, 3), (176, .invokevirtual 168, 3), (179, .ireturn, 1), (180, .aload_n 0, 1), (181, .aload_n 0, 1)]
theorem dt_M_readsCondition_5 : dOk cX12_readsCondition T_M_readsCondition_5 := by unfold dOk; decide +kernel
def T_M_readsCondition_6 : DT := [(182, .invokevirtual 161, 3), (185, .bipush 124, 2), (187, .if_icmp .ne 7, 3), (190, .iconst 1, 1), (191, .goto 4, 3), (194, .iconst 0, 1), (195, .invokevirtual 227, 3), (198, .aload_n 0, 1), (199, .aload_n 0, 1), (200, .invokevirtual 161, 3), (203, .bipush 38, 2), (205, .if_icmp .ne 8, 3), (208, .bipush 11, 2), (210, .goto 5, 3), (213, .bipush 12, 2), (215, .invokevirtual 230, 3)]
theorem dt_M_readsCondition_6 : dOk cX12_readsCondition T_M_readsCondition_6 := by unfold dOk; decide +kernel
def T_M_readsCondition_7 : DT := [(218, .goto (-178), 3)]
theorem dt_M_readsCondition_7 : dOk cX12_readsCondition T_M_readsCondition_7 := by unfold dOk; decide +kernel
section
variable {v : ZV} {l : Launch} {p : Program} {e : Env} {R : Room} {s : State} {m : MethodId} {args : Array Value} {below : List Frame} {meth : Method} {c : Code} {Q : State → Prop} {res : (Int32 × Hp)} 
set_option maxRecDepth 20000 in
theorem lkJ_M_readsCondition_75 (hi : zInj wM v) (xc : XC wM v) (nx : NXM v) (X : Cx wM v p R s m args c 0 0 cX12_readsCondition 1 RX12 14) (rt : Rt wM v p l e R s m args below meth c 0 0 Q cX12_readsCondition true (some (.int res.1)) res.2) {k40 : Hp → Option (Int32 × Hp)} {s0 : Int32} {σ : Hp}  (hk40 : ∀  (σ : Hp),  k40  σ = some res → Go wM v p l e R s m args below meth c 0 0 Q 1 40 [(0, .ref 0)] [] σ) (h : J_M_readsCondition_75  k40 s0 σ = some res) : Go wM v p l e R s m args below meth c 0 0 Q 1 75 [(0, .ref 0)] [.int s0, .ref 0] σ := by
  unfold J_M_readsCondition_75 at h
  refine go_Vi (As := [.int s0]) (rest := []) X vo_X12_195 (fun q hq => ct_M_opens hi xc nx  hq) (by decide) rfl lM_0 sM_0 rfl rfl (Nat.le_of_ble_eq_true rfl) (dk dt_M_readsCondition_2 6 rfl) h (fun q75 h => ?_)
  refine go_if_ne (tgt := 40) X (dk dt_M_readsCondition_2 7 rfl) (by decide) h (fun h => ?_) (fun h => ?_)
  · exact hk40  _  h
  · refine go_iconst X (dk dt_M_readsCondition_2 8 rfl) ci_0 ?_
    exact go_iret rt (dk dt_M_readsCondition_2 9 rfl) h (by decide)
set_option maxRecDepth 20000 in
theorem lkJ_M_readsCondition_58 (hi : zInj wM v) (xc : XC wM v) (nx : NXM v) (X : Cx wM v p R s m args c 0 0 cX12_readsCondition 1 RX12 14) (rt : Rt wM v p l e R s m args below meth c 0 0 Q cX12_readsCondition true (some (.int res.1)) res.2) {k40 : Hp → Option (Int32 × Hp)}  {σ : Hp}  (hk40 : ∀  (σ : Hp),  k40  σ = some res → Go wM v p l e R s m args below meth c 0 0 Q 1 40 [(0, .ref 0)] [] σ) (h : J_M_readsCondition_58  k40  σ = some res) : Go wM v p l e R s m args below meth c 0 0 Q 1 58 [(0, .ref 0)] [] σ := by
  unfold J_M_readsCondition_58 at h
  refine go_aload_n X 0 (dk dt_M_readsCondition_1 14 rfl) rfl rfl ?_
  refine go_aload_n X 0 (dk dt_M_readsCondition_1 15 rfl) rfl rfl ?_
  refine go_Vi (As := []) (rest := [.ref 0]) X vo_X12_161 (fun q hq => ct_M_here hi xc nx  hq) (by decide) rfl lM_0 sM_0 rfl rfl (Nat.le_of_ble_eq_true rfl) (dk dt_M_readsCondition_2 0 rfl) h (fun q60 h => ?_)
  refine go_bipush X (dk dt_M_readsCondition_2 1 rfl) cb_33 ?_
  refine go_icmp_ne (tgt := 73) X (dk dt_M_readsCondition_2 2 rfl) (by decide) h (fun h => ?_) (fun h => ?_)
  · refine go_bipush X (dk dt_M_readsCondition_2 5 rfl) cb_13 ?_
    exact lkJ_M_readsCondition_75 hi xc nx X rt  hk40 h
  · refine go_bipush X (dk dt_M_readsCondition_2 3 rfl) cb_10 ?_
    refine go_goto (tgt := 75) X (dk dt_M_readsCondition_2 4 rfl) (by decide) ?_
    exact lkJ_M_readsCondition_75 hi xc nx X rt  hk40 h
set_option maxRecDepth 20000 in
theorem lkB_M_readsCondition_92 (hi : zInj wM v) (xc : XC wM v) (nx : NXM v) (X : Cx wM v p R s m args c 0 0 cX12_readsCondition 1 RX12 14) (rt : Rt wM v p l e R s m args below meth c 0 0 Q cX12_readsCondition true (some (.int res.1)) res.2) {k152 : Hp → Option (Int32 × Hp)} {k92 : Hp → Option (Int32 × Hp)}  {σ : Hp}  (hk152 : ∀  (σ : Hp),  k152  σ = some res → Go wM v p l e R s m args below meth c 0 0 Q 1 152 [(0, .ref 0)] [] σ) (hk92 : ∀  (σ : Hp),  k92  σ = some res → Go wM v p l e R s m args below meth c 0 0 Q 1 92 [(0, .ref 0)] [] σ) (h : B_M_readsCondition_92  k152 k92  σ = some res) : Go wM v p l e R s m args below meth c 0 0 Q 1 92 [(0, .ref 0)] [] σ := by
  unfold B_M_readsCondition_92 at h
  refine go_aload_n X 0 (dk dt_M_readsCondition_2 15 rfl) rfl rfl ?_
  refine go_Vi (As := []) (rest := []) X vo_X12_161 (fun q hq => ct_M_here hi xc nx  hq) (by decide) rfl lM_0 sM_0 rfl rfl (Nat.le_of_ble_eq_true rfl) (dk dt_M_readsCondition_3 0 rfl) h (fun q93 h => ?_)
  refine go_bipush X (dk dt_M_readsCondition_3 1 rfl) cb_41 ?_
  refine go_icmp_ne (tgt := 152) X (dk dt_M_readsCondition_3 2 rfl) (by decide) h (fun h => ?_) (fun h => ?_)
  · exact hk152  _  h
  · refine go_aload_n X 0 (dk dt_M_readsCondition_3 3 rfl) rfl rfl ?_
    refine go_iconst X (dk dt_M_readsCondition_3 4 rfl) ci_1 ?_
    refine go_Vv (As := [.int (1 : Int32)]) (rest := []) X vo_X12_227 (fun q hq => ct_M_lands hi xc nx  hq) (by decide) rfl lM_0 sM_0 rfl rfl (Nat.le_of_ble_eq_true rfl) (dk dt_M_readsCondition_3 5 rfl) h (fun q103 h => ?_)
    refine go_aload_n X 0 (dk dt_M_readsCondition_3 6 rfl) rfl rfl ?_
    refine go_aload_n X 0 (dk dt_M_readsCondition_3 7 rfl) rfl rfl ?_
    refine go_geti X fo_X12_185 lM_0 sM_0 fM_0_13 (dk dt_M_readsCondition_3 8 rfl) ?_
    refine go_iconst X (dk dt_M_readsCondition_3 9 rfl) ci_1 ?_
    refine go_isub X (dk dt_M_readsCondition_3 10 rfl) ?_
    refine go_puti X fo_X12_185 pf_12_13 lM_0 sM_0 fM_0_13 (dk dt_M_readsCondition_3 11 rfl) ?_
    refine go_aload_n X 0 (dk dt_M_readsCondition_3 12 rfl) rfl rfl ?_
    refine go_aload_n X 0 (dk dt_M_readsCondition_3 13 rfl) rfl rfl ?_
    refine go_geti X fo_X12_182 lM_0 sM_0 fM_0_11 (dk dt_M_readsCondition_3 14 rfl) ?_
    refine go_iconst X (dk dt_M_readsCondition_3 15 rfl) ci_1 ?_
    refine go_isub X (dk dt_M_readsCondition_4 0 rfl) ?_
    refine go_puti X fo_X12_182 pf_12_11 lM_0 sM_0 fM_0_11 (dk dt_M_readsCondition_4 1 rfl) ?_
    refine go_aload_n X 0 (dk dt_M_readsCondition_4 2 rfl) rfl rfl ?_
    refine go_aload_n X 0 (dk dt_M_readsCondition_4 3 rfl) rfl rfl ?_
    refine go_geti X fo_X12_155 lM_0 sM_0 fM_0_7 (dk dt_M_readsCondition_4 4 rfl) ?_
    refine go_iconst X (dk dt_M_readsCondition_4 5 rfl) ci_1 ?_
    refine go_iadd X (dk dt_M_readsCondition_4 6 rfl) ?_
    refine go_puti X fo_X12_155 pf_12_7 lM_0 sM_0 fM_0_7 (dk dt_M_readsCondition_4 7 rfl) ?_
    refine go_aload_n X 0 (dk dt_M_readsCondition_4 8 rfl) rfl rfl ?_
    refine go_geti X fo_X12_185 lM_0 sM_0 fM_0_13 (dk dt_M_readsCondition_4 9 rfl) ?_
    refine go_if_ne (tgt := 145) X (dk dt_M_readsCondition_4 10 rfl) (by decide) h (fun h => ?_) (fun h => ?_)
    · refine go_aload_n X 0 (dk dt_M_readsCondition_4 13 rfl) rfl rfl ?_
      refine go_Vv (As := []) (rest := []) X vo_X12_221 (fun q hq => ct_M_endsPiece hi xc nx  hq) (by decide) rfl lM_0 sM_0 rfl rfl (Nat.le_of_ble_eq_true rfl) (dk dt_M_readsCondition_4 14 rfl) h (fun q146 h => ?_)
      refine go_goto (tgt := 92) X (dk dt_M_readsCondition_4 15 rfl) (by decide) ?_
      exact hk92  _  h
    · refine go_iconst X (dk dt_M_readsCondition_4 11 rfl) ci_1 ?_
      exact go_iret rt (dk dt_M_readsCondition_4 12 rfl) h (by decide)
set_option maxRecDepth 20000 in
theorem lkL_M_readsCondition_92 (hi : zInj wM v) (xc : XC wM v) (nx : NXM v) (X : Cx wM v p R s m args c 0 0 cX12_readsCondition 1 RX12 14) (rt : Rt wM v p l e R s m args below meth c 0 0 Q cX12_readsCondition true (some (.int res.1)) res.2) {k152 : Hp → Option (Int32 × Hp)} (hk152 : ∀  (σ : Hp),  k152  σ = some res → Go wM v p l e R s m args below meth c 0 0 Q 1 152 [(0, .ref 0)] [] σ) (n : Nat) : ∀  {σ : Hp},  L_M_readsCondition_92  k152 n  σ = some res → Go wM v p l e R s m args below meth c 0 0 Q 1 92 [(0, .ref 0)] [] σ := by
  induction n with
  | zero => intro  σ  h; cases h
  | succ n ih =>
    intro  σ  h
    exact lkB_M_readsCondition_92 hi xc nx X rt  hk152 (fun  _  hh => ih  hh) h
set_option maxRecDepth 20000 in
theorem lkJ_M_readsCondition_215 (hi : zInj wM v) (xc : XC wM v) (nx : NXM v) (X : Cx wM v p R s m args c 0 0 cX12_readsCondition 1 RX12 14) (rt : Rt wM v p l e R s m args below meth c 0 0 Q cX12_readsCondition true (some (.int res.1)) res.2) {k40 : Hp → Option (Int32 × Hp)} {s0 : Int32} {σ : Hp}  (hk40 : ∀  (σ : Hp),  k40  σ = some res → Go wM v p l e R s m args below meth c 0 0 Q 1 40 [(0, .ref 0)] [] σ) (h : J_M_readsCondition_215  k40 s0 σ = some res) : Go wM v p l e R s m args below meth c 0 0 Q 1 215 [(0, .ref 0)] [.int s0, .ref 0] σ := by
  unfold J_M_readsCondition_215 at h
  refine go_Vv (As := [.int s0]) (rest := []) X vo_X12_230 (fun q hq => ct_M_jumps hi xc nx  hq) (by decide) rfl lM_0 sM_0 rfl rfl (Nat.le_of_ble_eq_true rfl) (dk dt_M_readsCondition_6 15 rfl) h (fun q215 h => ?_)
  refine go_goto (tgt := 40) X (dk dt_M_readsCondition_7 0 rfl) (by decide) ?_
  exact hk40  _  h
set_option maxRecDepth 20000 in
theorem lkJ_M_readsCondition_195 (hi : zInj wM v) (xc : XC wM v) (nx : NXM v) (X : Cx wM v p R s m args c 0 0 cX12_readsCondition 1 RX12 14) (rt : Rt wM v p l e R s m args below meth c 0 0 Q cX12_readsCondition true (some (.int res.1)) res.2) {k40 : Hp → Option (Int32 × Hp)} {s0 : Int32} {σ : Hp}  (hk40 : ∀  (σ : Hp),  k40  σ = some res → Go wM v p l e R s m args below meth c 0 0 Q 1 40 [(0, .ref 0)] [] σ) (h : J_M_readsCondition_195  k40 s0 σ = some res) : Go wM v p l e R s m args below meth c 0 0 Q 1 195 [(0, .ref 0)] [.int s0, .ref 0] σ := by
  unfold J_M_readsCondition_195 at h
  refine go_Vv (As := [.int s0]) (rest := []) X vo_X12_227 (fun q hq => ct_M_lands hi xc nx  hq) (by decide) rfl lM_0 sM_0 rfl rfl (Nat.le_of_ble_eq_true rfl) (dk dt_M_readsCondition_6 6 rfl) h (fun q195 h => ?_)
  refine go_aload_n X 0 (dk dt_M_readsCondition_6 7 rfl) rfl rfl ?_
  refine go_aload_n X 0 (dk dt_M_readsCondition_6 8 rfl) rfl rfl ?_
  refine go_Vi (As := []) (rest := [.ref 0]) X vo_X12_161 (fun q hq => ct_M_here hi xc nx  hq) (by decide) rfl lM_0 sM_0 rfl rfl (Nat.le_of_ble_eq_true rfl) (dk dt_M_readsCondition_6 9 rfl) h (fun q200 h => ?_)
  refine go_bipush X (dk dt_M_readsCondition_6 10 rfl) cb_38 ?_
  refine go_icmp_ne (tgt := 213) X (dk dt_M_readsCondition_6 11 rfl) (by decide) h (fun h => ?_) (fun h => ?_)
  · refine go_bipush X (dk dt_M_readsCondition_6 14 rfl) cb_12 ?_
    exact lkJ_M_readsCondition_215 hi xc nx X rt  hk40 h
  · refine go_bipush X (dk dt_M_readsCondition_6 12 rfl) cb_11 ?_
    refine go_goto (tgt := 215) X (dk dt_M_readsCondition_6 13 rfl) (by decide) ?_
    exact lkJ_M_readsCondition_215 hi xc nx X rt  hk40 h
set_option maxRecDepth 20000 in
theorem lkJ_M_readsCondition_180 (hi : zInj wM v) (xc : XC wM v) (nx : NXM v) (X : Cx wM v p R s m args c 0 0 cX12_readsCondition 1 RX12 14) (rt : Rt wM v p l e R s m args below meth c 0 0 Q cX12_readsCondition true (some (.int res.1)) res.2) {k40 : Hp → Option (Int32 × Hp)}  {σ : Hp}  (hk40 : ∀  (σ : Hp),  k40  σ = some res → Go wM v p l e R s m args below meth c 0 0 Q 1 40 [(0, .ref 0)] [] σ) (h : J_M_readsCondition_180  k40  σ = some res) : Go wM v p l e R s m args below meth c 0 0 Q 1 180 [(0, .ref 0)] [] σ := by
  unfold J_M_readsCondition_180 at h
  refine go_aload_n X 0 (dk dt_M_readsCondition_5 14 rfl) rfl rfl ?_
  refine go_aload_n X 0 (dk dt_M_readsCondition_5 15 rfl) rfl rfl ?_
  refine go_Vi (As := []) (rest := [.ref 0]) X vo_X12_161 (fun q hq => ct_M_here hi xc nx  hq) (by decide) rfl lM_0 sM_0 rfl rfl (Nat.le_of_ble_eq_true rfl) (dk dt_M_readsCondition_6 0 rfl) h (fun q182 h => ?_)
  refine go_bipush X (dk dt_M_readsCondition_6 1 rfl) cb_124 ?_
  refine go_icmp_ne (tgt := 194) X (dk dt_M_readsCondition_6 2 rfl) (by decide) h (fun h => ?_) (fun h => ?_)
  · refine go_iconst X (dk dt_M_readsCondition_6 5 rfl) ci_0 ?_
    exact lkJ_M_readsCondition_195 hi xc nx X rt  hk40 h
  · refine go_iconst X (dk dt_M_readsCondition_6 3 rfl) ci_1 ?_
    refine go_goto (tgt := 195) X (dk dt_M_readsCondition_6 4 rfl) (by decide) ?_
    exact lkJ_M_readsCondition_195 hi xc nx X rt  hk40 h
set_option maxRecDepth 20000 in
theorem lkJ_M_readsCondition_152 (hi : zInj wM v) (xc : XC wM v) (nx : NXM v) (X : Cx wM v p R s m args c 0 0 cX12_readsCondition 1 RX12 14) (rt : Rt wM v p l e R s m args below meth c 0 0 Q cX12_readsCondition true (some (.int res.1)) res.2) {k40 : Hp → Option (Int32 × Hp)} {k170 : Hp → Option (Int32 × Hp)}  {σ : Hp}  (hk40 : ∀  (σ : Hp),  k40  σ = some res → Go wM v p l e R s m args below meth c 0 0 Q 1 40 [(0, .ref 0)] [] σ) (hk170 : ∀  (σ : Hp),  k170  σ = some res → Go wM v p l e R s m args below meth c 0 0 Q 1 170 [(0, .ref 0)] [] σ) (h : J_M_readsCondition_152  k40 k170  σ = some res) : Go wM v p l e R s m args below meth c 0 0 Q 1 152 [(0, .ref 0)] [] σ := by
  unfold J_M_readsCondition_152 at h
  refine go_aload_n X 0 (dk dt_M_readsCondition_5 0 rfl) rfl rfl ?_
  refine go_Vi (As := []) (rest := []) X vo_X12_161 (fun q hq => ct_M_here hi xc nx  hq) (by decide) rfl lM_0 sM_0 rfl rfl (Nat.le_of_ble_eq_true rfl) (dk dt_M_readsCondition_5 1 rfl) h (fun q153 h => ?_)
  refine go_bipush X (dk dt_M_readsCondition_5 2 rfl) cb_38 ?_
  refine go_icmp_eq (tgt := 180) X (dk dt_M_readsCondition_5 3 rfl) (by decide) h (fun h => ?_) (fun h => ?_)
  · exact lkJ_M_readsCondition_180 hi xc nx X rt  hk40 h
  · refine go_aload_n X 0 (dk dt_M_readsCondition_5 4 rfl) rfl rfl ?_
    refine go_Vi (As := []) (rest := []) X vo_X12_161 (fun q hq => ct_M_here hi xc nx  hq) (by decide) rfl lM_0 sM_0 rfl rfl (Nat.le_of_ble_eq_true rfl) (dk dt_M_readsCondition_5 5 rfl) h (fun q162 h => ?_)
    refine go_bipush X (dk dt_M_readsCondition_5 6 rfl) cb_124 ?_
    refine go_icmp_eq (tgt := 180) X (dk dt_M_readsCondition_5 7 rfl) (by decide) h (fun h => ?_) (fun h => ?_)
    · exact lkJ_M_readsCondition_180 hi xc nx X rt  hk40 h
    · exact hk170  _  h
set_option maxRecDepth 20000 in
theorem lkB_M_readsCondition_40 (hi : zInj wM v) (xc : XC wM v) (nx : NXM v) (X : Cx wM v p R s m args c 0 0 cX12_readsCondition 1 RX12 14) (rt : Rt wM v p l e R s m args below meth c 0 0 Q cX12_readsCondition true (some (.int res.1)) res.2) {k40 : Hp → Option (Int32 × Hp)} {k170 : Hp → Option (Int32 × Hp)}  {σ : Hp}  (hk40 : ∀  (σ : Hp),  k40  σ = some res → Go wM v p l e R s m args below meth c 0 0 Q 1 40 [(0, .ref 0)] [] σ) (hk170 : ∀  (σ : Hp),  k170  σ = some res → Go wM v p l e R s m args below meth c 0 0 Q 1 170 [(0, .ref 0)] [] σ) (h : B_M_readsCondition_40  k40 k170  σ = some res) : Go wM v p l e R s m args below meth c 0 0 Q 1 40 [(0, .ref 0)] [] σ := by
  unfold B_M_readsCondition_40 at h
  refine go_aload_n X 0 (dk dt_M_readsCondition_1 6 rfl) rfl rfl ?_
  refine go_Vi (As := []) (rest := []) X vo_X12_161 (fun q hq => ct_M_here hi xc nx  hq) (by decide) rfl lM_0 sM_0 rfl rfl (Nat.le_of_ble_eq_true rfl) (dk dt_M_readsCondition_1 7 rfl) h (fun q41 h => ?_)
  refine go_bipush X (dk dt_M_readsCondition_1 8 rfl) cb_33 ?_
  refine go_icmp_eq (tgt := 58) X (dk dt_M_readsCondition_1 9 rfl) (by decide) h (fun h => ?_) (fun h => ?_)
  · exact lkJ_M_readsCondition_58 hi xc nx X rt  hk40 h
  · refine go_aload_n X 0 (dk dt_M_readsCondition_1 10 rfl) rfl rfl ?_
    refine go_Vi (As := []) (rest := []) X vo_X12_161 (fun q hq => ct_M_here hi xc nx  hq) (by decide) rfl lM_0 sM_0 rfl rfl (Nat.le_of_ble_eq_true rfl) (dk dt_M_readsCondition_1 11 rfl) h (fun q50 h => ?_)
    refine go_bipush X (dk dt_M_readsCondition_1 12 rfl) cb_40 ?_
    refine go_icmp_ne (tgt := 83) X (dk dt_M_readsCondition_1 13 rfl) (by decide) h (fun h => ?_) (fun h => ?_)
    · refine go_aload_n X 0 (dk dt_M_readsCondition_2 10 rfl) rfl rfl ?_
      refine go_Vi (As := []) (rest := []) X vo_X12_224 (fun q hq => ct_M_readsCompared hi xc nx  hq) (by decide) rfl lM_0 sM_0 rfl rfl (Nat.le_of_ble_eq_true rfl) (dk dt_M_readsCondition_2 11 rfl) h (fun q84 h => ?_)
      refine go_if_ne (tgt := 92) X (dk dt_M_readsCondition_2 12 rfl) (by decide) h (fun h => ?_) (fun h => ?_)
      · exact lkL_M_readsCondition_92 hi xc nx X rt (fun  _  hh => lkJ_M_readsCondition_152 hi xc nx X rt  hk40 hk170 hh) FU  h
      · refine go_iconst X (dk dt_M_readsCondition_2 13 rfl) ci_0 ?_
        exact go_iret rt (dk dt_M_readsCondition_2 14 rfl) h (by decide)
    · exact lkJ_M_readsCondition_58 hi xc nx X rt  hk40 h
set_option maxRecDepth 20000 in
theorem lkL_M_readsCondition_40 (hi : zInj wM v) (xc : XC wM v) (nx : NXM v) (X : Cx wM v p R s m args c 0 0 cX12_readsCondition 1 RX12 14) (rt : Rt wM v p l e R s m args below meth c 0 0 Q cX12_readsCondition true (some (.int res.1)) res.2) {k170 : Hp → Option (Int32 × Hp)} (hk170 : ∀  (σ : Hp),  k170  σ = some res → Go wM v p l e R s m args below meth c 0 0 Q 1 170 [(0, .ref 0)] [] σ) (n : Nat) : ∀  {σ : Hp},  L_M_readsCondition_40  k170 n  σ = some res → Go wM v p l e R s m args below meth c 0 0 Q 1 40 [(0, .ref 0)] [] σ := by
  induction n with
  | zero => intro  σ  h; cases h
  | succ n ih =>
    intro  σ  h
    exact lkB_M_readsCondition_40 hi xc nx X rt  (fun  _  hh => ih  hh) hk170 h
set_option maxRecDepth 20000 in
theorem lkJ_M_readsCondition_170 (hi : zInj wM v) (xc : XC wM v) (nx : NXM v) (X : Cx wM v p R s m args c 0 0 cX12_readsCondition 1 RX12 14) (rt : Rt wM v p l e R s m args below meth c 0 0 Q cX12_readsCondition true (some (.int res.1)) res.2)   {σ : Hp}   (h : J_M_readsCondition_170    σ = some res) : Go wM v p l e R s m args below meth c 0 0 Q 1 170 [(0, .ref 0)] [] σ := by
  unfold J_M_readsCondition_170 at h
  refine go_aload_n X 0 (dk dt_M_readsCondition_5 8 rfl) rfl rfl ?_
  refine go_iconst X (dk dt_M_readsCondition_5 9 rfl) ci_1 ?_
  refine go_aload_n X 0 (dk dt_M_readsCondition_5 10 rfl) rfl rfl ?_
  refine go_geti X fo_X12_155 lM_0 sM_0 fM_0_7 (dk dt_M_readsCondition_5 11 rfl) ?_
  refine go_Vi (As := [.int (1 : Int32), .int (σ 0 7)]) (rest := []) X vo_X12_168 (fun q hq => ct_M_wrongAt hi xc nx  hq) (by decide) rfl lM_0 sM_0 rfl rfl (Nat.le_of_ble_eq_true rfl) (dk dt_M_readsCondition_5 12 rfl) h (fun q176 h => ?_)
  exact go_zret rt (dk dt_M_readsCondition_5 13 rfl) h
set_option maxRecDepth 20000 in
theorem lkF_M_readsCondition (hi : zInj wM v) (xc : XC wM v) (nx : NXM v) (X : Cx wM v p R s m args c 0 0 cX12_readsCondition 1 RX12 14) (rt : Rt wM v p l e R s m args below meth c 0 0 Q cX12_readsCondition true (some (.int res.1)) res.2)  {σ : Hp}  (h : F_M_readsCondition   σ = some res) : Go wM v p l e R s m args below meth c 0 0 Q 1 0 [(0, .ref 0)] [] σ := by
  unfold F_M_readsCondition at h
  refine go_aload_n X 0 (dk dt_M_readsCondition_0 0 rfl) rfl rfl ?_
  refine go_Vi (As := []) (rest := []) X vo_X12_161 (fun q hq => ct_M_here hi xc nx  hq) (by decide) rfl lM_0 sM_0 rfl rfl (Nat.le_of_ble_eq_true rfl) (dk dt_M_readsCondition_0 1 rfl) h (fun q1 h => ?_)
  refine go_bipush X (dk dt_M_readsCondition_0 2 rfl) cb_40 ?_
  refine go_icmp_eq (tgt := 19) X (dk dt_M_readsCondition_0 3 rfl) (by decide) h (fun h => ?_) (fun h => ?_)
  · refine go_aload_n X 0 (dk dt_M_readsCondition_0 10 rfl) rfl rfl ?_
    refine go_iconst X (dk dt_M_readsCondition_0 11 rfl) ci_0 ?_
    refine go_puti X fo_X12_182 pf_12_11 lM_0 sM_0 fM_0_11 (dk dt_M_readsCondition_0 12 rfl) ?_
    refine go_aload_n X 0 (dk dt_M_readsCondition_0 13 rfl) rfl rfl ?_
    refine go_iconst X (dk dt_M_readsCondition_0 14 rfl) ci_0 ?_
    refine go_puti X fo_X12_185 pf_12_13 lM_0 sM_0 fM_0_13 (dk dt_M_readsCondition_0 15 rfl) ?_
    refine go_aload_n X 0 (dk dt_M_readsCondition_1 0 rfl) rfl rfl ?_
    refine go_bipush X (dk dt_M_readsCondition_1 1 rfl) cb_13 ?_
    refine go_Vi (As := [.int (13 : Int32)]) (rest := []) X vo_X12_195 (fun q hq => ct_M_opens hi xc nx  hq) (by decide) rfl lM_0 sM_0 rfl rfl (Nat.le_of_ble_eq_true rfl) (dk dt_M_readsCondition_1 2 rfl) h (fun q32 h => ?_)
    refine go_if_ne (tgt := 40) X (dk dt_M_readsCondition_1 3 rfl) (by decide) h (fun h => ?_) (fun h => ?_)
    · exact lkL_M_readsCondition_40 hi xc nx X rt (fun  _  hh => lkJ_M_readsCondition_170 hi xc nx X rt   hh) FU  h
    · refine go_iconst X (dk dt_M_readsCondition_1 4 rfl) ci_0 ?_
      exact go_iret rt (dk dt_M_readsCondition_1 5 rfl) h (by decide)
  · refine go_aload_n X 0 (dk dt_M_readsCondition_0 4 rfl) rfl rfl ?_
    refine go_iconst X (dk dt_M_readsCondition_0 5 rfl) ci_1 ?_
    refine go_aload_n X 0 (dk dt_M_readsCondition_0 6 rfl) rfl rfl ?_
    refine go_geti X fo_X12_155 lM_0 sM_0 fM_0_7 (dk dt_M_readsCondition_0 7 rfl) ?_
    refine go_Vi (As := [.int (1 : Int32), .int (q1.2 0 7)]) (rest := []) X vo_X12_168 (fun q hq => ct_M_wrongAt hi xc nx  hq) (by decide) rfl lM_0 sM_0 rfl rfl (Nat.le_of_ble_eq_true rfl) (dk dt_M_readsCondition_0 8 rfl) h (fun q15 h => ?_)
    exact go_zret rt (dk dt_M_readsCondition_0 9 rfl) h
set_option maxRecDepth 20000 in
theorem ct_M_readsCondition (hi : zInj wM v) (xc : XC wM v) (nx : NXM v)   {σ : Hp}  {q : (Int32 × Hp)} (h : F_M_readsCondition   σ = some q) : Ct wM v l yX12_readsCondition cX12_readsCondition 1 (some .boolean) 14 [.ref 0] σ (some (.int q.1)) q.2 :=
  Ct.intro true (by decide) hi xc (Nat.le_of_ble_eq_true rfl) rfl (fun p e R s m args below meth c Q X rt => lkF_M_readsCondition hi xc nx X rt  h)
end
def T_M_readsRule_0 : DT := [(0, .aload_n 0, 1), (1, .invokevirtual 161, 3), (4, .istore_n 1, 1), (5, .iload_n 1, 1), (6, .bipush 98, 2), (8, .if_icmp .eq 31, 3), (11, .iload_n 1, 1), (12, .bipush 116, 2), (14, .if_icmp .eq 25, 3), (17, .iload_n 1, 1), (18, .bipush 119, 2), (20, .if_icmp .eq 19, 3), (23, .iload_n 1, 1), (24, .bipush 120, 2), (26, .if_icmp .eq 13, 3), (29, .aload_n 0, 1)]
theorem dt_M_readsRule_0 : dOk cX12_readsRule T_M_readsRule_0 := by unfold dOk; decide +kernel
def T_M_readsRule_1 : DT := [(30, .iconst 1, 1), (31, .aload_n 0, 1), (32, .getfield 155, 3), (35, .invokevirtual 168, 3), (38, .ireturn, 1), (39, .aload_n 0, 1), (40, .getfield 233, 3), (43, .bipush 16, 2), (45, .if_icmp .ne 13, 3), (48, .aload_n 0, 1), (49, .iconst 4, 1), (50, .aload_n 0, 1), (51, .getfield 155, 3), (54, .invokevirtual 168, 3), (57, .ireturn, 1), (58, .aload_n 0, 1)]
theorem dt_M_readsRule_1 : dOk cX12_readsRule T_M_readsRule_1 := by unfold dOk; decide +kernel
def T_M_readsRule_2 : DT := [(59, .getfield 35, 3), (62, .aload_n 0, 1), (63, .getfield 233, 3), (66, .iload_n 1, 1), (67, .iastore, 1), (68, .aload_n 0, 1), (69, .aload_n 0, 1), (70, .getfield 155, 3), (73, .iconst 1, 1), (74, .iadd, 1), (75, .putfield 155, 3), (78, .aload_n 0, 1), (79, .getfield 38, 3), (82, .aload_n 0, 1), (83, .getfield 233, 3), (86, .aload_n 0, 1)]
theorem dt_M_readsRule_2 : dOk cX12_readsRule T_M_readsRule_2 := by unfold dOk; decide +kernel
def T_M_readsRule_3 : DT := [(87, .getfield 178, 3), (90, .iastore, 1), (91, .aload_n 0, 1), (92, .iconst 0, 1), (93, .putfield 182, 3), (96, .aload_n 0, 1), (97, .iconst 0, 1), (98, .putfield 185, 3), (101, .iload_n 1, 1), (102, .bipush 120, 2), (104, .if_icmp .eq 12, 3), (107, .aload_n 0, 1), (108, .invokevirtual 218, 3), (111, .ifCond .ne 5, 3), (114, .iconst 0, 1), (115, .ireturn, 1)]
theorem dt_M_readsRule_3 : dOk cX12_readsRule T_M_readsRule_3 := by unfold dOk; decide +kernel
def T_M_readsRule_4 : DT := [(116, .aload_n 0, 1), (117, .getfield 41, 3), (120, .aload_n 0, 1), (121, .getfield 233, 3), (124, .aload_n 0, 1), (125, .getfield 178, 3), (128, .iastore, 1), (129, .aload_n 0, 1), (130, .invokevirtual 236, 3), (133, .ifCond .ne 5, 3), (136, .iconst 0, 1), (137, .ireturn, 1), (138, .aload_n 0, 1), (139, .getfield 44, 3), (142, .aload_n 0, 1), (143, .getfield 233, 3)]
theorem dt_M_readsRule_4 : dOk cX12_readsRule T_M_readsRule_4 := by unfold dOk; decide +kernel
def T_M_readsRule_5 : DT := [(146, .aload_n 0, 1), (147, .getfield 178, 3), (150, .iastore, 1), (151, .aload_n 0, 1), (152, .aload_n 0, 1), (153, .getfield 233, 3), (156, .iconst 1, 1), (157, .iadd, 1), (158, .putfield 233, 3), (161, .iconst 1, 1), (162, .ireturn, 1)]
theorem dt_M_readsRule_5 : dOk cX12_readsRule T_M_readsRule_5 := by unfold dOk; decide +kernel
section
variable {v : ZV} {l : Launch} {p : Program} {e : Env} {R : Room} {s : State} {m : MethodId} {args : Array Value} {below : List Frame} {meth : Method} {c : Code} {Q : State → Prop} {res : (Int32 × Hp)} 
set_option maxRecDepth 20000 in
theorem lkJ_M_readsRule_116 (hi : zInj wM v) (xc : XC wM v) (nx : NXM v) (X : Cx wM v p R s m args c 0 0 cX12_readsRule 2 RX12 16) (rt : Rt wM v p l e R s m args below meth c 0 0 Q cX12_readsRule true (some (.int res.1)) res.2)   {σ : Hp}   (h : J_M_readsRule_116    σ = some res) : Go wM v p l e R s m args below meth c 0 0 Q 2 116 [(0, .ref 0)] [] σ := by
  unfold J_M_readsRule_116 at h
  refine go_aload_n X 0 (dk dt_M_readsRule_4 0 rfl) rfl rfl ?_
  refine go_getr X fo_X12_41 lM_0 sM_0 fM_0_20 (dk dt_M_readsRule_4 1 rfl) ?_
  refine go_aload_n X 0 (dk dt_M_readsRule_4 2 rfl) rfl rfl ?_
  refine go_geti X fo_X12_233 lM_0 sM_0 fM_0_14 (dk dt_M_readsRule_4 3 rfl) ?_
  refine go_aload_n X 0 (dk dt_M_readsRule_4 4 rfl) rfl rfl ?_
  refine go_geti X fo_X12_178 lM_0 sM_0 fM_0_12 (dk dt_M_readsRule_4 5 rfl) ?_
  refine go_iast X lM_11 sM_11 (dk dt_M_readsRule_4 6 rfl) h (fun h => ?_)
  refine go_aload_n X 0 (dk dt_M_readsRule_4 7 rfl) rfl rfl ?_
  refine go_Vi (As := []) (rest := []) X vo_X12_236 (fun q hq => ct_M_readsCondition hi xc nx  hq) (by decide) rfl lM_0 sM_0 rfl rfl (Nat.le_of_ble_eq_true rfl) (dk dt_M_readsRule_4 8 rfl) h (fun q130 h => ?_)
  refine go_if_ne (tgt := 138) X (dk dt_M_readsRule_4 9 rfl) (by decide) h (fun h => ?_) (fun h => ?_)
  · refine go_aload_n X 0 (dk dt_M_readsRule_4 12 rfl) rfl rfl ?_
    refine go_getr X fo_X12_44 lM_0 sM_0 fM_0_21 (dk dt_M_readsRule_4 13 rfl) ?_
    refine go_aload_n X 0 (dk dt_M_readsRule_4 14 rfl) rfl rfl ?_
    refine go_geti X fo_X12_233 lM_0 sM_0 fM_0_14 (dk dt_M_readsRule_4 15 rfl) ?_
    refine go_aload_n X 0 (dk dt_M_readsRule_5 0 rfl) rfl rfl ?_
    refine go_geti X fo_X12_178 lM_0 sM_0 fM_0_12 (dk dt_M_readsRule_5 1 rfl) ?_
    refine go_iast X lM_12 sM_12 (dk dt_M_readsRule_5 2 rfl) h (fun h => ?_)
    refine go_aload_n X 0 (dk dt_M_readsRule_5 3 rfl) rfl rfl ?_
    refine go_aload_n X 0 (dk dt_M_readsRule_5 4 rfl) rfl rfl ?_
    refine go_geti X fo_X12_233 lM_0 sM_0 fM_0_14 (dk dt_M_readsRule_5 5 rfl) ?_
    refine go_iconst X (dk dt_M_readsRule_5 6 rfl) ci_1 ?_
    refine go_iadd X (dk dt_M_readsRule_5 7 rfl) ?_
    refine go_puti X fo_X12_233 pf_12_14 lM_0 sM_0 fM_0_14 (dk dt_M_readsRule_5 8 rfl) ?_
    refine go_iconst X (dk dt_M_readsRule_5 9 rfl) ci_1 ?_
    exact go_iret rt (dk dt_M_readsRule_5 10 rfl) h (by decide)
  · refine go_iconst X (dk dt_M_readsRule_4 10 rfl) ci_0 ?_
    exact go_iret rt (dk dt_M_readsRule_4 11 rfl) h (by decide)
set_option maxRecDepth 20000 in
theorem lkJ_M_readsRule_39 (hi : zInj wM v) (xc : XC wM v) (nx : NXM v) (X : Cx wM v p R s m args c 0 0 cX12_readsRule 2 RX12 16) (rt : Rt wM v p l e R s m args below meth c 0 0 Q cX12_readsRule true (some (.int res.1)) res.2)  {x1 : Int32} {σ : Hp}   (h : J_M_readsRule_39   x1 σ = some res) : Go wM v p l e R s m args below meth c 0 0 Q 2 39 [(0, .ref 0), (1, .int x1)] [] σ := by
  unfold J_M_readsRule_39 at h
  refine go_aload_n X 0 (dk dt_M_readsRule_1 5 rfl) rfl rfl ?_
  refine go_geti X fo_X12_233 lM_0 sM_0 fM_0_14 (dk dt_M_readsRule_1 6 rfl) ?_
  refine go_bipush X (dk dt_M_readsRule_1 7 rfl) cb_16 ?_
  refine go_icmp_ne (tgt := 58) X (dk dt_M_readsRule_1 8 rfl) (by decide) h (fun h => ?_) (fun h => ?_)
  · refine go_aload_n X 0 (dk dt_M_readsRule_1 15 rfl) rfl rfl ?_
    refine go_getr X fo_X12_35 lM_0 sM_0 fM_0_18 (dk dt_M_readsRule_2 0 rfl) ?_
    refine go_aload_n X 0 (dk dt_M_readsRule_2 1 rfl) rfl rfl ?_
    refine go_geti X fo_X12_233 lM_0 sM_0 fM_0_14 (dk dt_M_readsRule_2 2 rfl) ?_
    refine go_iload_n X 1 (dk dt_M_readsRule_2 3 rfl) rfl rfl ?_
    refine go_iast X lM_9 sM_9 (dk dt_M_readsRule_2 4 rfl) h (fun h => ?_)
    refine go_aload_n X 0 (dk dt_M_readsRule_2 5 rfl) rfl rfl ?_
    refine go_aload_n X 0 (dk dt_M_readsRule_2 6 rfl) rfl rfl ?_
    refine go_geti X fo_X12_155 lM_0 sM_0 fM_0_7 (dk dt_M_readsRule_2 7 rfl) ?_
    refine go_iconst X (dk dt_M_readsRule_2 8 rfl) ci_1 ?_
    refine go_iadd X (dk dt_M_readsRule_2 9 rfl) ?_
    refine go_puti X fo_X12_155 pf_12_7 lM_0 sM_0 fM_0_7 (dk dt_M_readsRule_2 10 rfl) ?_
    refine go_aload_n X 0 (dk dt_M_readsRule_2 11 rfl) rfl rfl ?_
    refine go_getr X fo_X12_38 lM_0 sM_0 fM_0_19 (dk dt_M_readsRule_2 12 rfl) ?_
    refine go_aload_n X 0 (dk dt_M_readsRule_2 13 rfl) rfl rfl ?_
    refine go_geti X fo_X12_233 lM_0 sM_0 fM_0_14 (dk dt_M_readsRule_2 14 rfl) ?_
    refine go_aload_n X 0 (dk dt_M_readsRule_2 15 rfl) rfl rfl ?_
    refine go_geti X fo_X12_178 lM_0 sM_0 fM_0_12 (dk dt_M_readsRule_3 0 rfl) ?_
    refine go_iast X lM_10 sM_10 (dk dt_M_readsRule_3 1 rfl) h (fun h => ?_)
    refine go_aload_n X 0 (dk dt_M_readsRule_3 2 rfl) rfl rfl ?_
    refine go_iconst X (dk dt_M_readsRule_3 3 rfl) ci_0 ?_
    refine go_puti X fo_X12_182 pf_12_11 lM_0 sM_0 fM_0_11 (dk dt_M_readsRule_3 4 rfl) ?_
    refine go_aload_n X 0 (dk dt_M_readsRule_3 5 rfl) rfl rfl ?_
    refine go_iconst X (dk dt_M_readsRule_3 6 rfl) ci_0 ?_
    refine go_puti X fo_X12_185 pf_12_13 lM_0 sM_0 fM_0_13 (dk dt_M_readsRule_3 7 rfl) ?_
    refine go_iload_n X 1 (dk dt_M_readsRule_3 8 rfl) rfl rfl ?_
    refine go_bipush X (dk dt_M_readsRule_3 9 rfl) cb_120 ?_
    refine go_icmp_eq (tgt := 116) X (dk dt_M_readsRule_3 10 rfl) (by decide) h (fun h => ?_) (fun h => ?_)
    · refine go_sub [0] rfl ?_
      exact lkJ_M_readsRule_116 hi xc nx X rt   h
    · refine go_aload_n X 0 (dk dt_M_readsRule_3 11 rfl) rfl rfl ?_
      refine go_Vi (As := []) (rest := []) X vo_X12_218 (fun q hq => ct_M_readsSum hi xc nx  hq) (by decide) rfl lM_0 sM_0 rfl rfl (Nat.le_of_ble_eq_true rfl) (dk dt_M_readsRule_3 12 rfl) h (fun q108 h => ?_)
      refine go_if_ne (tgt := 116) X (dk dt_M_readsRule_3 13 rfl) (by decide) h (fun h => ?_) (fun h => ?_)
      · refine go_sub [0] rfl ?_
        exact lkJ_M_readsRule_116 hi xc nx X rt   h
      · refine go_iconst X (dk dt_M_readsRule_3 14 rfl) ci_0 ?_
        exact go_iret rt (dk dt_M_readsRule_3 15 rfl) h (by decide)
  · refine go_aload_n X 0 (dk dt_M_readsRule_1 9 rfl) rfl rfl ?_
    refine go_iconst X (dk dt_M_readsRule_1 10 rfl) ci_4 ?_
    refine go_aload_n X 0 (dk dt_M_readsRule_1 11 rfl) rfl rfl ?_
    refine go_geti X fo_X12_155 lM_0 sM_0 fM_0_7 (dk dt_M_readsRule_1 12 rfl) ?_
    refine go_Vi (As := [.int (4 : Int32), .int (σ 0 7)]) (rest := []) X vo_X12_168 (fun q hq => ct_M_wrongAt hi xc nx  hq) (by decide) rfl lM_0 sM_0 rfl rfl (Nat.le_of_ble_eq_true rfl) (dk dt_M_readsRule_1 13 rfl) h (fun q54 h => ?_)
    exact go_zret rt (dk dt_M_readsRule_1 14 rfl) h
set_option maxRecDepth 20000 in
theorem lkF_M_readsRule (hi : zInj wM v) (xc : XC wM v) (nx : NXM v) (X : Cx wM v p R s m args c 0 0 cX12_readsRule 2 RX12 16) (rt : Rt wM v p l e R s m args below meth c 0 0 Q cX12_readsRule true (some (.int res.1)) res.2)  {σ : Hp}  (h : F_M_readsRule   σ = some res) : Go wM v p l e R s m args below meth c 0 0 Q 2 0 [(0, .ref 0)] [] σ := by
  unfold F_M_readsRule at h
  refine go_aload_n X 0 (dk dt_M_readsRule_0 0 rfl) rfl rfl ?_
  refine go_Vi (As := []) (rest := []) X vo_X12_161 (fun q hq => ct_M_here hi xc nx  hq) (by decide) rfl lM_0 sM_0 rfl rfl (Nat.le_of_ble_eq_true rfl) (dk dt_M_readsRule_0 1 rfl) h (fun q1 h => ?_)
  refine go_istore_n (lv' := [(1, .int q1.1), (0, .ref 0)]) X (dk dt_M_readsRule_0 2 rfl) rfl (by decide) rfl ?_
  refine go_iload_n X 0 (dk dt_M_readsRule_0 3 rfl) rfl rfl ?_
  refine go_bipush X (dk dt_M_readsRule_0 4 rfl) cb_98 ?_
  refine go_icmp_eq (tgt := 39) X (dk dt_M_readsRule_0 5 rfl) (by decide) h (fun h => ?_) (fun h => ?_)
  · refine go_sub [1, 0] rfl ?_
    exact lkJ_M_readsRule_39 hi xc nx X rt   h
  · refine go_iload_n X 0 (dk dt_M_readsRule_0 6 rfl) rfl rfl ?_
    refine go_bipush X (dk dt_M_readsRule_0 7 rfl) cb_116 ?_
    refine go_icmp_eq (tgt := 39) X (dk dt_M_readsRule_0 8 rfl) (by decide) h (fun h => ?_) (fun h => ?_)
    · refine go_sub [1, 0] rfl ?_
      exact lkJ_M_readsRule_39 hi xc nx X rt   h
    · refine go_iload_n X 0 (dk dt_M_readsRule_0 9 rfl) rfl rfl ?_
      refine go_bipush X (dk dt_M_readsRule_0 10 rfl) cb_119 ?_
      refine go_icmp_eq (tgt := 39) X (dk dt_M_readsRule_0 11 rfl) (by decide) h (fun h => ?_) (fun h => ?_)
      · refine go_sub [1, 0] rfl ?_
        exact lkJ_M_readsRule_39 hi xc nx X rt   h
      · refine go_iload_n X 0 (dk dt_M_readsRule_0 12 rfl) rfl rfl ?_
        refine go_bipush X (dk dt_M_readsRule_0 13 rfl) cb_120 ?_
        refine go_icmp_eq (tgt := 39) X (dk dt_M_readsRule_0 14 rfl) (by decide) h (fun h => ?_) (fun h => ?_)
        · refine go_sub [1, 0] rfl ?_
          exact lkJ_M_readsRule_39 hi xc nx X rt   h
        · refine go_aload_n X 1 (dk dt_M_readsRule_0 15 rfl) rfl rfl ?_
          refine go_iconst X (dk dt_M_readsRule_1 0 rfl) ci_1 ?_
          refine go_aload_n X 1 (dk dt_M_readsRule_1 1 rfl) rfl rfl ?_
          refine go_geti X fo_X12_155 lM_0 sM_0 fM_0_7 (dk dt_M_readsRule_1 2 rfl) ?_
          refine go_Vi (As := [.int (1 : Int32), .int (q1.2 0 7)]) (rest := []) X vo_X12_168 (fun q hq => ct_M_wrongAt hi xc nx  hq) (by decide) rfl lM_0 sM_0 rfl rfl (Nat.le_of_ble_eq_true rfl) (dk dt_M_readsRule_1 3 rfl) h (fun q35 h => ?_)
          exact go_zret rt (dk dt_M_readsRule_1 4 rfl) h
set_option maxRecDepth 20000 in
theorem ct_M_readsRule (hi : zInj wM v) (xc : XC wM v) (nx : NXM v)   {σ : Hp}  {q : (Int32 × Hp)} (h : F_M_readsRule   σ = some q) : Ct wM v l yX12_readsRule cX12_readsRule 2 (some .boolean) 16 [.ref 0] σ (some (.int q.1)) q.2 :=
  Ct.intro true (by decide) hi xc (Nat.le_of_ble_eq_true rfl) rfl (fun p e R s m args below meth c Q X rt => lkF_M_readsRule hi xc nx X rt  h)
end
def T_M_takes_0 : DT := [(0, .aload_n 0, 1), (1, .invokevirtual 161, 3), (4, .iload_n 1, 1), (5, .if_icmp .eq 13, 3), (8, .aload_n 0, 1), (9, .iconst 1, 1), (10, .aload_n 0, 1), (11, .getfield 155, 3), (14, .invokevirtual 168, 3), (17, .ireturn, 1), (18, .aload_n 0, 1), (19, .aload_n 0, 1), (20, .getfield 155, 3), (23, .iconst 1, 1), (24, .iadd, 1), (25, .putfield 155, 3)]
theorem dt_M_takes_0 : dOk cX12_takes T_M_takes_0 := by unfold dOk; decide +kernel
def T_M_takes_1 : DT := [(28, .iconst 1, 1), (29, .ireturn, 1)]
theorem dt_M_takes_1 : dOk cX12_takes T_M_takes_1 := by unfold dOk; decide +kernel
section
variable {v : ZV} {l : Launch} {p : Program} {e : Env} {R : Room} {s : State} {m : MethodId} {args : Array Value} {below : List Frame} {meth : Method} {c : Code} {Q : State → Prop} {res : (Int32 × Hp)} 
set_option maxRecDepth 20000 in
theorem lkF_M_takes (hi : zInj wM v) (xc : XC wM v) (nx : NXM v) (X : Cx wM v p R s m args c 0 0 cX12_takes 2 RX12 4) (rt : Rt wM v p l e R s m args below meth c 0 0 Q cX12_takes true (some (.int res.1)) res.2) {a1 : Int32} {σ : Hp}  (h : F_M_takes  a1 σ = some res) : Go wM v p l e R s m args below meth c 0 0 Q 2 0 [(0, .ref 0), (1, .int a1)] [] σ := by
  unfold F_M_takes at h
  refine go_aload_n X 0 (dk dt_M_takes_0 0 rfl) rfl rfl ?_
  refine go_Vi (As := []) (rest := []) X vo_X12_161 (fun q hq => ct_M_here hi xc nx  hq) (by decide) rfl lM_0 sM_0 rfl rfl (Nat.le_of_ble_eq_true rfl) (dk dt_M_takes_0 1 rfl) h (fun q1 h => ?_)
  refine go_iload_n X 1 (dk dt_M_takes_0 2 rfl) rfl rfl ?_
  refine go_icmp_eq (tgt := 18) X (dk dt_M_takes_0 3 rfl) (by decide) h (fun h => ?_) (fun h => ?_)
  · refine go_aload_n X 0 (dk dt_M_takes_0 10 rfl) rfl rfl ?_
    refine go_aload_n X 0 (dk dt_M_takes_0 11 rfl) rfl rfl ?_
    refine go_geti X fo_X12_155 lM_0 sM_0 fM_0_7 (dk dt_M_takes_0 12 rfl) ?_
    refine go_iconst X (dk dt_M_takes_0 13 rfl) ci_1 ?_
    refine go_iadd X (dk dt_M_takes_0 14 rfl) ?_
    refine go_puti X fo_X12_155 pf_12_7 lM_0 sM_0 fM_0_7 (dk dt_M_takes_0 15 rfl) ?_
    refine go_iconst X (dk dt_M_takes_1 0 rfl) ci_1 ?_
    exact go_iret rt (dk dt_M_takes_1 1 rfl) h (by decide)
  · refine go_aload_n X 0 (dk dt_M_takes_0 4 rfl) rfl rfl ?_
    refine go_iconst X (dk dt_M_takes_0 5 rfl) ci_1 ?_
    refine go_aload_n X 0 (dk dt_M_takes_0 6 rfl) rfl rfl ?_
    refine go_geti X fo_X12_155 lM_0 sM_0 fM_0_7 (dk dt_M_takes_0 7 rfl) ?_
    refine go_Vi (As := [.int (1 : Int32), .int (q1.2 0 7)]) (rest := []) X vo_X12_168 (fun q hq => ct_M_wrongAt hi xc nx  hq) (by decide) rfl lM_0 sM_0 rfl rfl (Nat.le_of_ble_eq_true rfl) (dk dt_M_takes_0 8 rfl) h (fun q14 h => ?_)
    exact go_zret rt (dk dt_M_takes_0 9 rfl) h
set_option maxRecDepth 20000 in
theorem ct_M_takes (hi : zInj wM v) (xc : XC wM v) (nx : NXM v)  {a1 : Int32} {σ : Hp}  {q : (Int32 × Hp)} (h : F_M_takes  a1 σ = some q) : Ct wM v l yX12_takes cX12_takes 2 (some .boolean) 4 [.ref 0, .int a1] σ (some (.int q.1)) q.2 :=
  Ct.intro true (by decide) hi xc (Nat.le_of_ble_eq_true rfl) rfl (fun p e R s m args below meth c Q X rt => lkF_M_takes hi xc nx X rt  h)
end
def T_M_law_0 : DT := [(0, .iload_n 1, 1), (1, .iconst 1, 1), (2, .sipush 240, 3), (5, .invokestatic 122, 3), (8, .ifCond .eq 11, 3), (11, .iload_n 1, 1), (12, .aload_n 0, 1), (13, .getfield 147, 3), (16, .if_icmp .le 5, 3), (19, .iconst (-1), 1), (20, .ireturn, 1), (21, .aload_n 0, 1), (22, .iload_n 1, 1), (23, .invokevirtual 239, 3), (26, .aload_n 0, 1), (27, .invokevirtual 242, 3)]
theorem dt_M_law_0 : dOk cX12_law T_M_law_0 := by unfold dOk; decide +kernel
def T_M_law_1 : DT := [(30, .istore_n 2, 1), (31, .iload_n 2, 1), (32, .ifCond .eq 39, 3), (35, .aload_n 0, 1), (36, .getfield 155, 3), (39, .aload_n 0, 1), (40, .getfield 158, 3), (43, .if_icmp .ge 28, 3), (46, .aload_n 0, 1), (47, .bipush 59, 2), (49, .invokevirtual 245, 3), (52, .ifCond .eq 14, 3), (55, .aload_n 0, 1), (56, .invokevirtual 242, 3), (59, .ifCond .eq 7, 3), (62, .iconst 1, 1)]
theorem dt_M_law_1 : dOk cX12_law T_M_law_1 := by unfold dOk; decide +kernel
def T_M_law_2 : DT := [(63, .goto 4, 3), (66, .iconst 0, 1), (67, .istore_n 2, 1), (68, .goto (-37), 3), (71, .aload_n 0, 1), (72, .iconst 0, 1), (73, .putfield 147, 3), (76, .iload_n 2, 1), (77, .ifCond .ne 8, 3), (80, .aload_n 0, 1), (81, .getfield 165, 3), (84, .ireturn, 1), (85, .aload_n 0, 1), (86, .aload_n 0, 1), (87, .getfield 233, 3), (90, .putfield 248, 3)]
theorem dt_M_law_2 : dOk cX12_law T_M_law_2 := by unfold dOk; decide +kernel
def T_M_law_3 : DT := [(93, .iconst 0, 1), (94, .istore_n 3, 1), (95, .iload_n 3, 1), (96, .aload_n 0, 1), (97, .getfield 178, 3), (100, .if_icmp .ge 21, 3), (103, .aload_n 0, 1), (104, .getfield 47, 3), (107, .iload_n 3, 1), (108, .aload_n 0, 1), (109, .getfield 29, 3), (112, .iload_n 3, 1), (113, .iaload, 1), (114, .iastore, 1), (115, .iinc 3 1, 3), (118, .goto (-23), 3)]
theorem dt_M_law_3 : dOk cX12_law T_M_law_3 := by unfold dOk; decide +kernel
def T_M_law_4 : DT := [(121, .iconst 0, 1), (122, .istore_n 3, 1), (123, .iload_n 3, 1), (124, .aload_n 0, 1), (125, .getfield 233, 3), (128, .if_icmp .ge 57, 3), (131, .aload_n 0, 1), (132, .getfield 50, 3), (135, .iload_n 3, 1), (136, .aload_n 0, 1), (137, .getfield 35, 3), (140, .iload_n 3, 1), (141, .iaload, 1), (142, .iastore, 1), (143, .aload_n 0, 1), (144, .getfield 53, 3)]
theorem dt_M_law_4 : dOk cX12_law T_M_law_4 := by unfold dOk; decide +kernel
def T_M_law_5 : DT := [(147, .iload_n 3, 1), (148, .aload_n 0, 1), (149, .getfield 38, 3), (152, .iload_n 3, 1), (153, .iaload, 1), (154, .iastore, 1), (155, .aload_n 0, 1), (156, .getfield 56, 3), (159, .iload_n 3, 1), (160, .aload_n 0, 1), (161, .getfield 41, 3), (164, .iload_n 3, 1), (165, .iaload, 1), (166, .iastore, 1), (167, .aload_n 0, 1), (168, .getfield 59, 3)]
theorem dt_M_law_5 : dOk cX12_law T_M_law_5 := by unfold dOk; decide +kernel
def T_M_law_6 : DT := [(171, .iload_n 3, 1), (172, .aload_n 0, 1), (173, .getfield 44, 3), (176, .iload_n 3, 1), (177, .iaload, 1), (178, .iastore, 1), (179, .iinc 3 1, 3), (182, .goto (-59), 3), (185, .aload_n 0, 1), (186, .getfield 233, 3), (189, .ireturn, 1)]
theorem dt_M_law_6 : dOk cX12_law T_M_law_6 := by unfold dOk; decide +kernel
section
variable {v : ZV} {l : Launch} {p : Program} {e : Env} {R : Room} {s : State} {m : MethodId} {args : Array Value} {below : List Frame} {meth : Method} {c : Code} {Q : State → Prop} {res : (Int32 × Hp)} 
set_option maxRecDepth 20000 in
theorem lkB_M_law_31 (hi : zInj wM v) (xc : XC wM v) (nx : NXM v) (X : Cx wM v p R s m args c 0 0 cX12_law 4 RX12 18) (rt : Rt wM v p l e R s m args below meth c 0 0 Q cX12_law false (some (.int res.1)) res.2) {k71 : Int32 → Hp → Option (Int32 × Hp)} {k31 : Int32 → Hp → Option (Int32 × Hp)} {x2 : Int32} {σ : Hp}  (hk71 : ∀ (x2 : Int32) (σ : Hp),  k71 x2 σ = some res → Go wM v p l e R s m args below meth c 0 0 Q 4 71 [(0, .ref 0), (2, .int x2)] [] σ) (hk31 : ∀ (x2 : Int32) (σ : Hp),  k31 x2 σ = some res → Go wM v p l e R s m args below meth c 0 0 Q 4 31 [(0, .ref 0), (2, .int x2)] [] σ) (h : B_M_law_31  k71 k31 x2 σ = some res) : Go wM v p l e R s m args below meth c 0 0 Q 4 31 [(0, .ref 0), (2, .int x2)] [] σ := by
  unfold B_M_law_31 at h
  refine go_iload_n X 1 (dk dt_M_law_1 1 rfl) rfl rfl ?_
  refine go_if_eq (tgt := 71) X (dk dt_M_law_1 2 rfl) (by decide) h (fun h => ?_) (fun h => ?_)
  · exact hk71 _ _  h
  · refine go_aload_n X 0 (dk dt_M_law_1 3 rfl) rfl rfl ?_
    refine go_geti X fo_X12_155 lM_0 sM_0 fM_0_7 (dk dt_M_law_1 4 rfl) ?_
    refine go_aload_n X 0 (dk dt_M_law_1 5 rfl) rfl rfl ?_
    refine go_geti X fo_X12_158 lM_0 sM_0 fM_0_8 (dk dt_M_law_1 6 rfl) ?_
    refine go_icmp_ge (tgt := 71) X (dk dt_M_law_1 7 rfl) (by decide) h (fun h => ?_) (fun h => ?_)
    · exact hk71 _ _  h
    · refine go_aload_n X 0 (dk dt_M_law_1 8 rfl) rfl rfl ?_
      refine go_bipush X (dk dt_M_law_1 9 rfl) cb_59 ?_
      refine go_Vi (As := [.int (59 : Int32)]) (rest := []) X vo_X12_245 (fun q hq => ct_M_takes hi xc nx  hq) (by decide) rfl lM_0 sM_0 rfl rfl (Nat.le_of_ble_eq_true rfl) (dk dt_M_law_1 10 rfl) h (fun q49 h => ?_)
      refine go_if_eq (tgt := 66) X (dk dt_M_law_1 11 rfl) (by decide) h (fun h => ?_) (fun h => ?_)
      · refine go_iconst X (dk dt_M_law_2 1 rfl) ci_0 ?_
        refine go_istore_n (lv' := [(2, .int (0 : Int32)), (0, .ref 0)]) X (dk dt_M_law_2 2 rfl) rfl (by decide) rfl ?_
        refine go_goto (tgt := 31) X (dk dt_M_law_2 3 rfl) (by decide) ?_
        refine go_sub [1, 0] rfl ?_
        exact hk31 _ _  h
      · refine go_aload_n X 0 (dk dt_M_law_1 12 rfl) rfl rfl ?_
        refine go_Vi (As := []) (rest := []) X vo_X12_242 (fun q hq => ct_M_readsRule hi xc nx  hq) (by decide) rfl lM_0 sM_0 rfl rfl (Nat.le_of_ble_eq_true rfl) (dk dt_M_law_1 13 rfl) h (fun q56 h => ?_)
        refine go_if_eq (tgt := 66) X (dk dt_M_law_1 14 rfl) (by decide) h (fun h => ?_) (fun h => ?_)
        · refine go_iconst X (dk dt_M_law_2 1 rfl) ci_0 ?_
          refine go_istore_n (lv' := [(2, .int (0 : Int32)), (0, .ref 0)]) X (dk dt_M_law_2 2 rfl) rfl (by decide) rfl ?_
          refine go_goto (tgt := 31) X (dk dt_M_law_2 3 rfl) (by decide) ?_
          refine go_sub [1, 0] rfl ?_
          exact hk31 _ _  h
        · refine go_iconst X (dk dt_M_law_1 15 rfl) ci_1 ?_
          refine go_goto (tgt := 67) X (dk dt_M_law_2 0 rfl) (by decide) ?_
          refine go_istore_n (lv' := [(2, .int (1 : Int32)), (0, .ref 0)]) X (dk dt_M_law_2 2 rfl) rfl (by decide) rfl ?_
          refine go_goto (tgt := 31) X (dk dt_M_law_2 3 rfl) (by decide) ?_
          refine go_sub [1, 0] rfl ?_
          exact hk31 _ _  h
set_option maxRecDepth 20000 in
theorem lkL_M_law_31 (hi : zInj wM v) (xc : XC wM v) (nx : NXM v) (X : Cx wM v p R s m args c 0 0 cX12_law 4 RX12 18) (rt : Rt wM v p l e R s m args below meth c 0 0 Q cX12_law false (some (.int res.1)) res.2) {k71 : Int32 → Hp → Option (Int32 × Hp)} (hk71 : ∀ (x2 : Int32) (σ : Hp),  k71 x2 σ = some res → Go wM v p l e R s m args below meth c 0 0 Q 4 71 [(0, .ref 0), (2, .int x2)] [] σ) (n : Nat) : ∀ {x2 : Int32} {σ : Hp},  L_M_law_31  k71 n x2 σ = some res → Go wM v p l e R s m args below meth c 0 0 Q 4 31 [(0, .ref 0), (2, .int x2)] [] σ := by
  induction n with
  | zero => intro x2 σ  h; cases h
  | succ n ih =>
    intro x2 σ  h
    exact lkB_M_law_31 hi xc nx X rt  hk71 (fun _ _  hh => ih  hh) h
set_option maxRecDepth 20000 in
theorem lkB_M_law_95 (hi : zInj wM v) (xc : XC wM v) (nx : NXM v) (X : Cx wM v p R s m args c 0 0 cX12_law 4 RX12 18) (rt : Rt wM v p l e R s m args below meth c 0 0 Q cX12_law false (some (.int res.1)) res.2) {k121 : Hp → Option (Int32 × Hp)} {k95 : Int32 → Hp → Option (Int32 × Hp)} {x3 : Int32} {σ : Hp}  (hk121 : ∀  (σ : Hp),  k121  σ = some res → Go wM v p l e R s m args below meth c 0 0 Q 4 121 [(0, .ref 0)] [] σ) (hk95 : ∀ (x3 : Int32) (σ : Hp),  k95 x3 σ = some res → Go wM v p l e R s m args below meth c 0 0 Q 4 95 [(0, .ref 0), (3, .int x3)] [] σ) (h : B_M_law_95  k121 k95 x3 σ = some res) : Go wM v p l e R s m args below meth c 0 0 Q 4 95 [(0, .ref 0), (3, .int x3)] [] σ := by
  unfold B_M_law_95 at h
  refine go_iload_n X 1 (dk dt_M_law_3 2 rfl) rfl rfl ?_
  refine go_aload_n X 0 (dk dt_M_law_3 3 rfl) rfl rfl ?_
  refine go_geti X fo_X12_178 lM_0 sM_0 fM_0_12 (dk dt_M_law_3 4 rfl) ?_
  refine go_icmp_ge (tgt := 121) X (dk dt_M_law_3 5 rfl) (by decide) h (fun h => ?_) (fun h => ?_)
  · refine go_sub [0] rfl ?_
    exact hk121  _  h
  · refine go_aload_n X 0 (dk dt_M_law_3 6 rfl) rfl rfl ?_
    refine go_getr X fo_X12_47 lM_0 sM_0 fM_0_22 (dk dt_M_law_3 7 rfl) ?_
    refine go_iload_n X 1 (dk dt_M_law_3 8 rfl) rfl rfl ?_
    refine go_aload_n X 0 (dk dt_M_law_3 9 rfl) rfl rfl ?_
    refine go_getr X fo_X12_29 lM_0 sM_0 fM_0_16 (dk dt_M_law_3 10 rfl) ?_
    refine go_iload_n X 1 (dk dt_M_law_3 11 rfl) rfl rfl ?_
    refine go_iald X lM_7 sM_7 (dk dt_M_law_3 12 rfl) h (fun h => ?_)
    refine go_iast X lM_13 sM_13 (dk dt_M_law_3 13 rfl) h (fun h => ?_)
    refine go_iinc (lv' := [(3, .int (x3 + (1 : Int32))), (0, .ref 0)]) X 1 (dk dt_M_law_3 14 rfl) rfl ci_1 (by decide) rfl ?_
    refine go_goto (tgt := 95) X (dk dt_M_law_3 15 rfl) (by decide) ?_
    refine go_sub [1, 0] rfl ?_
    exact hk95 _ _  h
set_option maxRecDepth 20000 in
theorem lkL_M_law_95 (hi : zInj wM v) (xc : XC wM v) (nx : NXM v) (X : Cx wM v p R s m args c 0 0 cX12_law 4 RX12 18) (rt : Rt wM v p l e R s m args below meth c 0 0 Q cX12_law false (some (.int res.1)) res.2) {k121 : Hp → Option (Int32 × Hp)} (hk121 : ∀  (σ : Hp),  k121  σ = some res → Go wM v p l e R s m args below meth c 0 0 Q 4 121 [(0, .ref 0)] [] σ) (n : Nat) : ∀ {x3 : Int32} {σ : Hp},  L_M_law_95  k121 n x3 σ = some res → Go wM v p l e R s m args below meth c 0 0 Q 4 95 [(0, .ref 0), (3, .int x3)] [] σ := by
  induction n with
  | zero => intro x3 σ  h; cases h
  | succ n ih =>
    intro x3 σ  h
    exact lkB_M_law_95 hi xc nx X rt  hk121 (fun _ _  hh => ih  hh) h
set_option maxRecDepth 20000 in
theorem lkB_M_law_123 (hi : zInj wM v) (xc : XC wM v) (nx : NXM v) (X : Cx wM v p R s m args c 0 0 cX12_law 4 RX12 18) (rt : Rt wM v p l e R s m args below meth c 0 0 Q cX12_law false (some (.int res.1)) res.2) {k123 : Int32 → Hp → Option (Int32 × Hp)} {x3 : Int32} {σ : Hp}  (hk123 : ∀ (x3 : Int32) (σ : Hp),  k123 x3 σ = some res → Go wM v p l e R s m args below meth c 0 0 Q 4 123 [(0, .ref 0), (3, .int x3)] [] σ) (h : B_M_law_123  k123 x3 σ = some res) : Go wM v p l e R s m args below meth c 0 0 Q 4 123 [(0, .ref 0), (3, .int x3)] [] σ := by
  unfold B_M_law_123 at h
  refine go_iload_n X 1 (dk dt_M_law_4 2 rfl) rfl rfl ?_
  refine go_aload_n X 0 (dk dt_M_law_4 3 rfl) rfl rfl ?_
  refine go_geti X fo_X12_233 lM_0 sM_0 fM_0_14 (dk dt_M_law_4 4 rfl) ?_
  refine go_icmp_ge (tgt := 185) X (dk dt_M_law_4 5 rfl) (by decide) h (fun h => ?_) (fun h => ?_)
  · refine go_aload_n X 0 (dk dt_M_law_6 8 rfl) rfl rfl ?_
    refine go_geti X fo_X12_233 lM_0 sM_0 fM_0_14 (dk dt_M_law_6 9 rfl) ?_
    exact go_iret rt (dk dt_M_law_6 10 rfl) h (fun hh => nomatch hh)
  · refine go_aload_n X 0 (dk dt_M_law_4 6 rfl) rfl rfl ?_
    refine go_getr X fo_X12_50 lM_0 sM_0 fM_0_23 (dk dt_M_law_4 7 rfl) ?_
    refine go_iload_n X 1 (dk dt_M_law_4 8 rfl) rfl rfl ?_
    refine go_aload_n X 0 (dk dt_M_law_4 9 rfl) rfl rfl ?_
    refine go_getr X fo_X12_35 lM_0 sM_0 fM_0_18 (dk dt_M_law_4 10 rfl) ?_
    refine go_iload_n X 1 (dk dt_M_law_4 11 rfl) rfl rfl ?_
    refine go_iald X lM_9 sM_9 (dk dt_M_law_4 12 rfl) h (fun h => ?_)
    refine go_iast X lM_14 sM_14 (dk dt_M_law_4 13 rfl) h (fun h => ?_)
    refine go_aload_n X 0 (dk dt_M_law_4 14 rfl) rfl rfl ?_
    refine go_getr X fo_X12_53 lM_0 sM_0 fM_0_24 (dk dt_M_law_4 15 rfl) ?_
    refine go_iload_n X 1 (dk dt_M_law_5 0 rfl) rfl rfl ?_
    refine go_aload_n X 0 (dk dt_M_law_5 1 rfl) rfl rfl ?_
    refine go_getr X fo_X12_38 lM_0 sM_0 fM_0_19 (dk dt_M_law_5 2 rfl) ?_
    refine go_iload_n X 1 (dk dt_M_law_5 3 rfl) rfl rfl ?_
    refine go_iald X lM_10 sM_10 (dk dt_M_law_5 4 rfl) h (fun h => ?_)
    refine go_iast X lM_15 sM_15 (dk dt_M_law_5 5 rfl) h (fun h => ?_)
    refine go_aload_n X 0 (dk dt_M_law_5 6 rfl) rfl rfl ?_
    refine go_getr X fo_X12_56 lM_0 sM_0 fM_0_25 (dk dt_M_law_5 7 rfl) ?_
    refine go_iload_n X 1 (dk dt_M_law_5 8 rfl) rfl rfl ?_
    refine go_aload_n X 0 (dk dt_M_law_5 9 rfl) rfl rfl ?_
    refine go_getr X fo_X12_41 lM_0 sM_0 fM_0_20 (dk dt_M_law_5 10 rfl) ?_
    refine go_iload_n X 1 (dk dt_M_law_5 11 rfl) rfl rfl ?_
    refine go_iald X lM_11 sM_11 (dk dt_M_law_5 12 rfl) h (fun h => ?_)
    refine go_iast X lM_16 sM_16 (dk dt_M_law_5 13 rfl) h (fun h => ?_)
    refine go_aload_n X 0 (dk dt_M_law_5 14 rfl) rfl rfl ?_
    refine go_getr X fo_X12_59 lM_0 sM_0 fM_0_26 (dk dt_M_law_5 15 rfl) ?_
    refine go_iload_n X 1 (dk dt_M_law_6 0 rfl) rfl rfl ?_
    refine go_aload_n X 0 (dk dt_M_law_6 1 rfl) rfl rfl ?_
    refine go_getr X fo_X12_44 lM_0 sM_0 fM_0_21 (dk dt_M_law_6 2 rfl) ?_
    refine go_iload_n X 1 (dk dt_M_law_6 3 rfl) rfl rfl ?_
    refine go_iald X lM_12 sM_12 (dk dt_M_law_6 4 rfl) h (fun h => ?_)
    refine go_iast X lM_17 sM_17 (dk dt_M_law_6 5 rfl) h (fun h => ?_)
    refine go_iinc (lv' := [(3, .int (x3 + (1 : Int32))), (0, .ref 0)]) X 1 (dk dt_M_law_6 6 rfl) rfl ci_1 (by decide) rfl ?_
    refine go_goto (tgt := 123) X (dk dt_M_law_6 7 rfl) (by decide) ?_
    refine go_sub [1, 0] rfl ?_
    exact hk123 _ _  h
set_option maxRecDepth 20000 in
theorem lkL_M_law_123 (hi : zInj wM v) (xc : XC wM v) (nx : NXM v) (X : Cx wM v p R s m args c 0 0 cX12_law 4 RX12 18) (rt : Rt wM v p l e R s m args below meth c 0 0 Q cX12_law false (some (.int res.1)) res.2)   (n : Nat) : ∀ {x3 : Int32} {σ : Hp},  L_M_law_123   n x3 σ = some res → Go wM v p l e R s m args below meth c 0 0 Q 4 123 [(0, .ref 0), (3, .int x3)] [] σ := by
  induction n with
  | zero => intro x3 σ  h; cases h
  | succ n ih =>
    intro x3 σ  h
    exact lkB_M_law_123 hi xc nx X rt  (fun _ _  hh => ih  hh) h
set_option maxRecDepth 20000 in
theorem lkJ_M_law_121 (hi : zInj wM v) (xc : XC wM v) (nx : NXM v) (X : Cx wM v p R s m args c 0 0 cX12_law 4 RX12 18) (rt : Rt wM v p l e R s m args below meth c 0 0 Q cX12_law false (some (.int res.1)) res.2)   {σ : Hp}   (h : J_M_law_121    σ = some res) : Go wM v p l e R s m args below meth c 0 0 Q 4 121 [(0, .ref 0)] [] σ := by
  unfold J_M_law_121 at h
  refine go_iconst X (dk dt_M_law_4 0 rfl) ci_0 ?_
  refine go_istore_n (lv' := [(3, .int (0 : Int32)), (0, .ref 0)]) X (dk dt_M_law_4 1 rfl) rfl (by decide) rfl ?_
  refine go_sub [1, 0] rfl ?_
  exact lkL_M_law_123 hi xc nx X rt  FU  h
set_option maxRecDepth 20000 in
theorem lkJ_M_law_71 (hi : zInj wM v) (xc : XC wM v) (nx : NXM v) (X : Cx wM v p R s m args c 0 0 cX12_law 4 RX12 18) (rt : Rt wM v p l e R s m args below meth c 0 0 Q cX12_law false (some (.int res.1)) res.2)  {x2 : Int32} {σ : Hp}   (h : J_M_law_71   x2 σ = some res) : Go wM v p l e R s m args below meth c 0 0 Q 4 71 [(0, .ref 0), (2, .int x2)] [] σ := by
  unfold J_M_law_71 at h
  refine go_aload_n X 0 (dk dt_M_law_2 4 rfl) rfl rfl ?_
  refine go_iconst X (dk dt_M_law_2 5 rfl) ci_0 ?_
  refine go_puti X fo_X12_147 pf_12_6 lM_0 sM_0 fM_0_6 (dk dt_M_law_2 6 rfl) ?_
  refine go_iload_n X 1 (dk dt_M_law_2 7 rfl) rfl rfl ?_
  refine go_if_ne (tgt := 85) X (dk dt_M_law_2 8 rfl) (by decide) h (fun h => ?_) (fun h => ?_)
  · refine go_aload_n X 0 (dk dt_M_law_2 12 rfl) rfl rfl ?_
    refine go_aload_n X 0 (dk dt_M_law_2 13 rfl) rfl rfl ?_
    refine go_geti X fo_X12_233 lM_0 sM_0 fM_0_14 (dk dt_M_law_2 14 rfl) ?_
    refine go_puti X fo_X12_248 pf_12_15 lM_0 sM_0 fM_0_15 (dk dt_M_law_2 15 rfl) ?_
    refine go_iconst X (dk dt_M_law_3 0 rfl) ci_0 ?_
    refine go_istore_n (lv' := [(3, .int (0 : Int32)), (0, .ref 0), (2, .int x2)]) X (dk dt_M_law_3 1 rfl) rfl (by decide) rfl ?_
    refine go_sub [1, 0] rfl ?_
    exact lkL_M_law_95 hi xc nx X rt (fun  _  hh => lkJ_M_law_121 hi xc nx X rt   hh) FU  h
  · refine go_aload_n X 0 (dk dt_M_law_2 9 rfl) rfl rfl ?_
    refine go_geti X fo_X12_165 lM_0 sM_0 fM_0_9 (dk dt_M_law_2 10 rfl) ?_
    exact go_iret rt (dk dt_M_law_2 11 rfl) h (fun hh => nomatch hh)
set_option maxRecDepth 20000 in
theorem lkF_M_law (hi : zInj wM v) (xc : XC wM v) (nx : NXM v) (X : Cx wM v p R s m args c 0 0 cX12_law 4 RX12 18) (rt : Rt wM v p l e R s m args below meth c 0 0 Q cX12_law false (some (.int res.1)) res.2) {a1 : Int32} {σ : Hp}  (h : F_M_law  a1 σ = some res) : Go wM v p l e R s m args below meth c 0 0 Q 4 0 [(0, .ref 0), (1, .int a1)] [] σ := by
  unfold F_M_law at h
  refine go_iload_n X 1 (dk dt_M_law_0 0 rfl) rfl rfl ?_
  refine go_iconst X (dk dt_M_law_0 1 rfl) ci_1 ?_
  refine go_sipush X (dk dt_M_law_0 2 rfl) cs_240 ?_
  refine go_Si (As := [.int a1, .int (1 : Int32), .int (240 : Int32)]) (rest := []) X so_X12_122 (fun q hq => ct_M_in hi xc nx  hq) (by decide) rfl rfl (Nat.le_of_ble_eq_true rfl) (dk dt_M_law_0 3 rfl) h (fun q5 h => ?_)
  refine go_if_eq (tgt := 19) X (dk dt_M_law_0 4 rfl) (by decide) h (fun h => ?_) (fun h => ?_)
  · refine go_iconst X (dk dt_M_law_0 9 rfl) ci_m1 ?_
    exact go_iret rt (dk dt_M_law_0 10 rfl) h (fun hh => nomatch hh)
  · refine go_iload_n X 1 (dk dt_M_law_0 5 rfl) rfl rfl ?_
    refine go_aload_n X 0 (dk dt_M_law_0 6 rfl) rfl rfl ?_
    refine go_geti X fo_X12_147 lM_0 sM_0 fM_0_6 (dk dt_M_law_0 7 rfl) ?_
    refine go_icmp_le (tgt := 21) X (dk dt_M_law_0 8 rfl) (by decide) h (fun h => ?_) (fun h => ?_)
    · refine go_aload_n X 0 (dk dt_M_law_0 11 rfl) rfl rfl ?_
      refine go_iload_n X 1 (dk dt_M_law_0 12 rfl) rfl rfl ?_
      refine go_Vv (As := [.int a1]) (rest := []) X vo_X12_239 (fun q hq => ct_M_beginsText hi xc nx  hq) (by decide) rfl lM_0 sM_0 rfl rfl (Nat.le_of_ble_eq_true rfl) (dk dt_M_law_0 13 rfl) h (fun q23 h => ?_)
      refine go_aload_n X 0 (dk dt_M_law_0 14 rfl) rfl rfl ?_
      refine go_Vi (As := []) (rest := []) X vo_X12_242 (fun q hq => ct_M_readsRule hi xc nx  hq) (by decide) rfl lM_0 sM_0 rfl rfl (Nat.le_of_ble_eq_true rfl) (dk dt_M_law_0 15 rfl) h (fun q27 h => ?_)
      refine go_istore_n (lv' := [(2, .int q27.1), (0, .ref 0), (1, .int a1)]) X (dk dt_M_law_1 0 rfl) rfl (by decide) rfl ?_
      refine go_sub [1, 0] rfl ?_
      exact lkL_M_law_31 hi xc nx X rt (fun _ _  hh => lkJ_M_law_71 hi xc nx X rt   hh) FU  h
    · refine go_iconst X (dk dt_M_law_0 9 rfl) ci_m1 ?_
      exact go_iret rt (dk dt_M_law_0 10 rfl) h (fun hh => nomatch hh)
set_option maxRecDepth 20000 in
theorem ct_M_law (hi : zInj wM v) (xc : XC wM v) (nx : NXM v)  {a1 : Int32} {σ : Hp}  {q : (Int32 × Hp)} (h : F_M_law  a1 σ = some q) : Ct wM v l yX12_law cX12_law 4 (some .int) 18 [.ref 0, .int a1] σ (some (.int q.1)) q.2 :=
  Ct.intro false (by decide) hi xc (Nat.le_of_ble_eq_true rfl) rfl (fun p e R s m args below meth c Q X rt => lkF_M_law hi xc nx X rt  h)
end
def T_M_loses_0 : DT := [(0, .iload_n 1, 1), (1, .iconst 1, 1), (2, .bipush 120, 2), (4, .invokestatic 122, 3), (7, .ifCond .eq 12, 3), (10, .iload_n 2, 1), (11, .iconst 0, 1), (12, .iconst 1, 1), (13, .invokestatic 122, 3), (16, .ifCond .ne 5, 3), (19, .iconst (-1), 1), (20, .ireturn, 1), (21, .aload_n 0, 1), (22, .iload_n 1, 1), (23, .invokevirtual 371, 3), (26, .aload_n 0, 1)]
theorem dt_M_loses_0 : dOk cX12_loses T_M_loses_0 := by unfold dOk; decide +kernel
def T_M_loses_1 : DT := [(27, .getfield 7, 3), (30, .bipush 98, 2), (32, .iaload, 1), (33, .istore_n 3, 1), (34, .aload_n 0, 1), (35, .getfield 13, 3), (38, .aload_n 0, 1), (39, .getfield 7, 3), (42, .invokestatic 291, 3), (45, .iload_n 2, 1), (46, .ifCond .ne 7, 3), (49, .iload_n 3, 1), (50, .goto 16, 3), (53, .iload_n 3, 1), (54, .ifCond .ne 8, 3), (57, .bipush (-2), 2)]
theorem dt_M_loses_1 : dOk cX12_loses T_M_loses_1 := by unfold dOk; decide +kernel
def T_M_loses_2 : DT := [(59, .goto 7, 3), (62, .aload_n 0, 1), (63, .getfield 322, 3), (66, .ireturn, 1)]
theorem dt_M_loses_2 : dOk cX12_loses T_M_loses_2 := by unfold dOk; decide +kernel
section
variable {v : ZV} {l : Launch} {p : Program} {e : Env} {R : Room} {s : State} {m : MethodId} {args : Array Value} {below : List Frame} {meth : Method} {c : Code} {Q : State → Prop} {res : (Int32 × Hp)} 
set_option maxRecDepth 20000 in
theorem lkF_M_loses (hi : zInj wM v) (xc : XC wM v) (nx : NXM v) (X : Cx wM v p R s m args c 0 0 cX12_loses 4 RX12 18) (rt : Rt wM v p l e R s m args below meth c 0 0 Q cX12_loses false (some (.int res.1)) res.2) {a1 : Int32} {a2 : Int32} {σ : Hp}  (h : F_M_loses  a1 a2 σ = some res) : Go wM v p l e R s m args below meth c 0 0 Q 4 0 [(0, .ref 0), (1, .int a1), (2, .int a2)] [] σ := by
  unfold F_M_loses at h
  refine go_iload_n X 1 (dk dt_M_loses_0 0 rfl) rfl rfl ?_
  refine go_iconst X (dk dt_M_loses_0 1 rfl) ci_1 ?_
  refine go_bipush X (dk dt_M_loses_0 2 rfl) cb_120 ?_
  refine go_Si (As := [.int a1, .int (1 : Int32), .int (120 : Int32)]) (rest := []) X so_X12_122 (fun q hq => ct_M_in hi xc nx  hq) (by decide) rfl rfl (Nat.le_of_ble_eq_true rfl) (dk dt_M_loses_0 3 rfl) h (fun q4 h => ?_)
  refine go_if_eq (tgt := 19) X (dk dt_M_loses_0 4 rfl) (by decide) h (fun h => ?_) (fun h => ?_)
  · refine go_iconst X (dk dt_M_loses_0 10 rfl) ci_m1 ?_
    exact go_iret rt (dk dt_M_loses_0 11 rfl) h (fun hh => nomatch hh)
  · refine go_iload_n X 2 (dk dt_M_loses_0 5 rfl) rfl rfl ?_
    refine go_iconst X (dk dt_M_loses_0 6 rfl) ci_0 ?_
    refine go_iconst X (dk dt_M_loses_0 7 rfl) ci_1 ?_
    refine go_Si (As := [.int a2, .int (0 : Int32), .int (1 : Int32)]) (rest := []) X so_X12_122 (fun q hq => ct_M_in hi xc nx  hq) (by decide) rfl rfl (Nat.le_of_ble_eq_true rfl) (dk dt_M_loses_0 8 rfl) h (fun q13 h => ?_)
    refine go_if_ne (tgt := 21) X (dk dt_M_loses_0 9 rfl) (by decide) h (fun h => ?_) (fun h => ?_)
    · refine go_aload_n X 0 (dk dt_M_loses_0 12 rfl) rfl rfl ?_
      refine go_iload_n X 1 (dk dt_M_loses_0 13 rfl) rfl rfl ?_
      refine go_Vv (As := [.int a1]) (rest := []) X vo_X12_371 (fun q hq => ct_M_triesWatches hi xc nx  hq) (by decide) rfl lM_0 sM_0 rfl rfl (Nat.le_of_ble_eq_true rfl) (dk dt_M_loses_0 14 rfl) h (fun q23 h => ?_)
      refine go_aload_n X 0 (dk dt_M_loses_0 15 rfl) rfl rfl ?_
      refine go_getr X fo_X12_7 lM_0 sM_0 fM_0_0 (dk dt_M_loses_1 0 rfl) ?_
      refine go_bipush X (dk dt_M_loses_1 1 rfl) cb_98 ?_
      refine go_iald X lM_1 sM_1 (dk dt_M_loses_1 2 rfl) h (fun h => ?_)
      refine go_istore_n (lv' := [(3, .int (q23 1 (Int32.toNatClampNeg (98 : Int32)))), (0, .ref 0), (1, .int a1), (2, .int a2)]) X (dk dt_M_loses_1 3 rfl) rfl (by decide) rfl ?_
      refine go_aload_n X 1 (dk dt_M_loses_1 4 rfl) rfl rfl ?_
      refine go_getr X fo_X12_13 lM_0 sM_0 fM_0_1 (dk dt_M_loses_1 5 rfl) ?_
      refine go_aload_n X 1 (dk dt_M_loses_1 6 rfl) rfl rfl ?_
      refine go_getr X fo_X12_7 lM_0 sM_0 fM_0_0 (dk dt_M_loses_1 7 rfl) ?_
      refine go_Sv (As := [.ref 2, .ref 1]) (rest := []) X so_X12_291 (fun q hq => ct_M_copies hi xc nx lM_2 sM_2 lM_1 sM_1 hq) (by decide) rfl rfl (Nat.le_of_ble_eq_true rfl) (dk dt_M_loses_1 8 rfl) h (fun q42 h => ?_)
      refine go_iload_n X 3 (dk dt_M_loses_1 9 rfl) rfl rfl ?_
      refine go_if_ne (tgt := 53) X (dk dt_M_loses_1 10 rfl) (by decide) h (fun h => ?_) (fun h => ?_)
      · refine go_iload_n X 0 (dk dt_M_loses_1 13 rfl) rfl rfl ?_
        refine go_if_ne (tgt := 62) X (dk dt_M_loses_1 14 rfl) (by decide) h (fun h => ?_) (fun h => ?_)
        · refine go_aload_n X 1 (dk dt_M_loses_2 1 rfl) rfl rfl ?_
          refine go_geti X fo_X12_322 lM_0 sM_0 fM_0_45 (dk dt_M_loses_2 2 rfl) ?_
          exact go_iret rt (dk dt_M_loses_2 3 rfl) h (fun hh => nomatch hh)
        · refine go_bipush X (dk dt_M_loses_1 15 rfl) cb_m2 ?_
          refine go_goto (tgt := 66) X (dk dt_M_loses_2 0 rfl) (by decide) ?_
          exact go_iret rt (dk dt_M_loses_2 3 rfl) h (fun hh => nomatch hh)
      · refine go_iload_n X 0 (dk dt_M_loses_1 11 rfl) rfl rfl ?_
        refine go_goto (tgt := 66) X (dk dt_M_loses_1 12 rfl) (by decide) ?_
        exact go_iret rt (dk dt_M_loses_2 3 rfl) h (fun hh => nomatch hh)
    · refine go_iconst X (dk dt_M_loses_0 10 rfl) ci_m1 ?_
      exact go_iret rt (dk dt_M_loses_0 11 rfl) h (fun hh => nomatch hh)
set_option maxRecDepth 20000 in
theorem ct_M_loses (hi : zInj wM v) (xc : XC wM v) (nx : NXM v)  {a1 : Int32} {a2 : Int32} {σ : Hp}  {q : (Int32 × Hp)} (h : F_M_loses  a1 a2 σ = some q) : Ct wM v l yX12_loses cX12_loses 4 (some .int) 18 [.ref 0, .int a1, .int a2] σ (some (.int q.1)) q.2 :=
  Ct.intro false (by decide) hi xc (Nat.le_of_ble_eq_true rfl) rfl (fun p e R s m args below meth c Q X rt => lkF_M_loses hi xc nx X rt  h)
end
def T_M_march_0 : DT := [(0, .iload_n 1, 1), (1, .iconst 0, 1), (2, .iconst 1, 1), (3, .invokestatic 122, 3), (6, .ifCond .ne 5, 3), (9, .iconst (-1), 1), (10, .ireturn, 1), (11, .aload_n 0, 1), (12, .iload_n 1, 1), (13, .invokevirtual 356, 3), (16, .istore_n 2, 1), (17, .iconst 0, 1), (18, .istore_n 3, 1), (19, .iconst 0, 1), (20, .istore 4, 2), (22, .iload 4, 2)]
theorem dt_M_march_0 : dOk cX12_march T_M_march_0 := by unfold dOk; decide +kernel
def T_M_march_1 : DT := [(24, .bipush 8, 2), (26, .if_icmp .ge 83, 3), (29, .iload 4, 2), (31, .iconst 1, 1), (32, .iadd, 1), (33, .istore 5, 2), (35, .iload 5, 2), (37, .bipush 8, 2), (39, .if_icmp .ge 64, 3), (42, .iload_n 2, 1), (43, .iload 4, 2), (45, .invokestatic 141, 3), (48, .ifCond .eq 49, 3), (51, .iload_n 2, 1), (52, .iload 5, 2), (54, .invokestatic 141, 3)]
theorem dt_M_march_1 : dOk cX12_march T_M_march_1 := by unfold dOk; decide +kernel
def T_M_march_2 : DT := [(57, .ifCond .eq 40, 3), (60, .aload_n 0, 1), (61, .getfield 7, 3), (64, .bipush 16, 2), (66, .bipush 8, 2), (68, .iload_n 1, 1), (69, .imul, 1), (70, .iadd, 1), (71, .iload 4, 2), (73, .iadd, 1), (74, .iaload, 1), (75, .aload_n 0, 1), (76, .getfield 7, 3), (79, .bipush 16, 2), (81, .bipush 8, 2), (83, .iload_n 1, 1)]
theorem dt_M_march_2 : dOk cX12_march T_M_march_2 := by unfold dOk; decide +kernel
def T_M_march_3 : DT := [(84, .imul, 1), (85, .iadd, 1), (86, .iload 5, 2), (88, .iadd, 1), (89, .iaload, 1), (90, .if_icmp .le 7, 3), (93, .iload_n 3, 1), (94, .iconst 1, 1), (95, .iadd, 1), (96, .istore_n 3, 1), (97, .iinc 5 1, 3), (100, .goto (-65), 3), (103, .iinc 4 1, 3), (106, .goto (-84), 3), (109, .iload_n 3, 1), (110, .ireturn, 1)]
theorem dt_M_march_3 : dOk cX12_march T_M_march_3 := by unfold dOk; decide +kernel
section
variable {v : ZV} {l : Launch} {p : Program} {e : Env} {R : Room} {s : State} {m : MethodId} {args : Array Value} {below : List Frame} {meth : Method} {c : Code} {Q : State → Prop} {res : (Int32 × Hp)} 
set_option maxRecDepth 20000 in
theorem lkB_M_march_35 (hi : zInj wM v) (xc : XC wM v) (nx : NXM v) (X : Cx wM v p R s m args c 0 0 cX12_march 6 RX12 6) (rt : Rt wM v p l e R s m args below meth c 0 0 Q cX12_march false (some (.int res.1)) res.2) {k103 : Int32 → Int32 → Int32 → Int32 → Hp → Option (Int32 × Hp)} {k35 : Int32 → Int32 → Int32 → Int32 → Int32 → Hp → Option (Int32 × Hp)} {x1 : Int32} {x2 : Int32} {x3 : Int32} {x4 : Int32} {x5 : Int32} {σ : Hp}  (hk103 : ∀ (x1 : Int32) (x2 : Int32) (x3 : Int32) (x4 : Int32) (σ : Hp),  k103 x1 x2 x3 x4 σ = some res → Go wM v p l e R s m args below meth c 0 0 Q 6 103 [(0, .ref 0), (1, .int x1), (2, .int x2), (3, .int x3), (4, .int x4)] [] σ) (hk35 : ∀ (x1 : Int32) (x2 : Int32) (x3 : Int32) (x4 : Int32) (x5 : Int32) (σ : Hp),  k35 x1 x2 x3 x4 x5 σ = some res → Go wM v p l e R s m args below meth c 0 0 Q 6 35 [(0, .ref 0), (1, .int x1), (2, .int x2), (3, .int x3), (4, .int x4), (5, .int x5)] [] σ) (h : B_M_march_35  k103 k35 x1 x2 x3 x4 x5 σ = some res) : Go wM v p l e R s m args below meth c 0 0 Q 6 35 [(0, .ref 0), (1, .int x1), (2, .int x2), (3, .int x3), (4, .int x4), (5, .int x5)] [] σ := by
  unfold B_M_march_35 at h
  refine go_iload X 5 (dk dt_M_march_1 6 rfl) rfl ?_
  refine go_bipush X (dk dt_M_march_1 7 rfl) cb_8 ?_
  refine go_icmp_ge (tgt := 103) X (dk dt_M_march_1 8 rfl) (by decide) h (fun h => ?_) (fun h => ?_)
  · refine go_sub [0, 1, 2, 3, 4] rfl ?_
    exact hk103 _ _ _ _ _  h
  · refine go_iload_n X 2 (dk dt_M_march_1 9 rfl) rfl rfl ?_
    refine go_iload X 4 (dk dt_M_march_1 10 rfl) rfl ?_
    refine go_Si (As := [.int x2, .int x4]) (rest := []) X so_X12_141 (fun q hq => ct_M_has hi xc nx  hq) (by decide) rfl rfl (Nat.le_of_ble_eq_true rfl) (dk dt_M_march_1 11 rfl) h (fun q45 h => ?_)
    refine go_if_eq (tgt := 97) X (dk dt_M_march_1 12 rfl) (by decide) h (fun h => ?_) (fun h => ?_)
    · refine go_iinc (lv' := [(5, .int (x5 + (1 : Int32))), (0, .ref 0), (1, .int x1), (2, .int x2), (3, .int x3), (4, .int x4)]) X 5 (dk dt_M_march_3 10 rfl) rfl ci_1 (by decide) rfl ?_
      refine go_goto (tgt := 35) X (dk dt_M_march_3 11 rfl) (by decide) ?_
      refine go_sub [1, 2, 3, 4, 5, 0] rfl ?_
      exact hk35 _ _ _ _ _ _  h
    · refine go_iload_n X 2 (dk dt_M_march_1 13 rfl) rfl rfl ?_
      refine go_iload X 5 (dk dt_M_march_1 14 rfl) rfl ?_
      refine go_Si (As := [.int x2, .int x5]) (rest := []) X so_X12_141 (fun q hq => ct_M_has hi xc nx  hq) (by decide) rfl rfl (Nat.le_of_ble_eq_true rfl) (dk dt_M_march_1 15 rfl) h (fun q54 h => ?_)
      refine go_if_eq (tgt := 97) X (dk dt_M_march_2 0 rfl) (by decide) h (fun h => ?_) (fun h => ?_)
      · refine go_iinc (lv' := [(5, .int (x5 + (1 : Int32))), (0, .ref 0), (1, .int x1), (2, .int x2), (3, .int x3), (4, .int x4)]) X 5 (dk dt_M_march_3 10 rfl) rfl ci_1 (by decide) rfl ?_
        refine go_goto (tgt := 35) X (dk dt_M_march_3 11 rfl) (by decide) ?_
        refine go_sub [1, 2, 3, 4, 5, 0] rfl ?_
        exact hk35 _ _ _ _ _ _  h
      · refine go_aload_n X 0 (dk dt_M_march_2 1 rfl) rfl rfl ?_
        refine go_getr X fo_X12_7 lM_0 sM_0 fM_0_0 (dk dt_M_march_2 2 rfl) ?_
        refine go_bipush X (dk dt_M_march_2 3 rfl) cb_16 ?_
        refine go_bipush X (dk dt_M_march_2 4 rfl) cb_8 ?_
        refine go_iload_n X 1 (dk dt_M_march_2 5 rfl) rfl rfl ?_
        refine go_imul X (dk dt_M_march_2 6 rfl) ?_
        refine go_iadd X (dk dt_M_march_2 7 rfl) ?_
        refine go_iload X 4 (dk dt_M_march_2 8 rfl) rfl ?_
        refine go_iadd X (dk dt_M_march_2 9 rfl) ?_
        refine go_iald X lM_1 sM_1 (dk dt_M_march_2 10 rfl) h (fun h => ?_)
        refine go_aload_n X 0 (dk dt_M_march_2 11 rfl) rfl rfl ?_
        refine go_getr X fo_X12_7 lM_0 sM_0 fM_0_0 (dk dt_M_march_2 12 rfl) ?_
        refine go_bipush X (dk dt_M_march_2 13 rfl) cb_16 ?_
        refine go_bipush X (dk dt_M_march_2 14 rfl) cb_8 ?_
        refine go_iload_n X 1 (dk dt_M_march_2 15 rfl) rfl rfl ?_
        refine go_imul X (dk dt_M_march_3 0 rfl) ?_
        refine go_iadd X (dk dt_M_march_3 1 rfl) ?_
        refine go_iload X 5 (dk dt_M_march_3 2 rfl) rfl ?_
        refine go_iadd X (dk dt_M_march_3 3 rfl) ?_
        refine go_iald X lM_1 sM_1 (dk dt_M_march_3 4 rfl) h (fun h => ?_)
        refine go_icmp_le (tgt := 97) X (dk dt_M_march_3 5 rfl) (by decide) h (fun h => ?_) (fun h => ?_)
        · refine go_iinc (lv' := [(5, .int (x5 + (1 : Int32))), (0, .ref 0), (1, .int x1), (2, .int x2), (3, .int x3), (4, .int x4)]) X 5 (dk dt_M_march_3 10 rfl) rfl ci_1 (by decide) rfl ?_
          refine go_goto (tgt := 35) X (dk dt_M_march_3 11 rfl) (by decide) ?_
          refine go_sub [1, 2, 3, 4, 5, 0] rfl ?_
          exact hk35 _ _ _ _ _ _  h
        · refine go_iload_n X 3 (dk dt_M_march_3 6 rfl) rfl rfl ?_
          refine go_iconst X (dk dt_M_march_3 7 rfl) ci_1 ?_
          refine go_iadd X (dk dt_M_march_3 8 rfl) ?_
          refine go_istore_n (lv' := [(3, .int (x3 + (1 : Int32))), (0, .ref 0), (1, .int x1), (2, .int x2), (4, .int x4), (5, .int x5)]) X (dk dt_M_march_3 9 rfl) rfl (by decide) rfl ?_
          refine go_iinc (lv' := [(5, .int (x5 + (1 : Int32))), (3, .int (x3 + (1 : Int32))), (0, .ref 0), (1, .int x1), (2, .int x2), (4, .int x4)]) X 5 (dk dt_M_march_3 10 rfl) rfl ci_1 (by decide) rfl ?_
          refine go_goto (tgt := 35) X (dk dt_M_march_3 11 rfl) (by decide) ?_
          refine go_sub [2, 3, 4, 1, 5, 0] rfl ?_
          exact hk35 _ _ _ _ _ _  h
set_option maxRecDepth 20000 in
theorem lkL_M_march_35 (hi : zInj wM v) (xc : XC wM v) (nx : NXM v) (X : Cx wM v p R s m args c 0 0 cX12_march 6 RX12 6) (rt : Rt wM v p l e R s m args below meth c 0 0 Q cX12_march false (some (.int res.1)) res.2) {k103 : Int32 → Int32 → Int32 → Int32 → Hp → Option (Int32 × Hp)} (hk103 : ∀ (x1 : Int32) (x2 : Int32) (x3 : Int32) (x4 : Int32) (σ : Hp),  k103 x1 x2 x3 x4 σ = some res → Go wM v p l e R s m args below meth c 0 0 Q 6 103 [(0, .ref 0), (1, .int x1), (2, .int x2), (3, .int x3), (4, .int x4)] [] σ) (n : Nat) : ∀ {x1 : Int32} {x2 : Int32} {x3 : Int32} {x4 : Int32} {x5 : Int32} {σ : Hp},  L_M_march_35  k103 n x1 x2 x3 x4 x5 σ = some res → Go wM v p l e R s m args below meth c 0 0 Q 6 35 [(0, .ref 0), (1, .int x1), (2, .int x2), (3, .int x3), (4, .int x4), (5, .int x5)] [] σ := by
  induction n with
  | zero => intro x1 x2 x3 x4 x5 σ  h; cases h
  | succ n ih =>
    intro x1 x2 x3 x4 x5 σ  h
    exact lkB_M_march_35 hi xc nx X rt  hk103 (fun _ _ _ _ _ _  hh => ih  hh) h
set_option maxRecDepth 20000 in
theorem lkJ_M_march_103 (hi : zInj wM v) (xc : XC wM v) (nx : NXM v) (X : Cx wM v p R s m args c 0 0 cX12_march 6 RX12 6) (rt : Rt wM v p l e R s m args below meth c 0 0 Q cX12_march false (some (.int res.1)) res.2) {k22 : Int32 → Int32 → Int32 → Int32 → Hp → Option (Int32 × Hp)} {x1 : Int32} {x2 : Int32} {x3 : Int32} {x4 : Int32} {σ : Hp}  (hk22 : ∀ (x1 : Int32) (x2 : Int32) (x3 : Int32) (x4 : Int32) (σ : Hp),  k22 x1 x2 x3 x4 σ = some res → Go wM v p l e R s m args below meth c 0 0 Q 6 22 [(0, .ref 0), (1, .int x1), (2, .int x2), (3, .int x3), (4, .int x4)] [] σ) (h : J_M_march_103  k22 x1 x2 x3 x4 σ = some res) : Go wM v p l e R s m args below meth c 0 0 Q 6 103 [(0, .ref 0), (1, .int x1), (2, .int x2), (3, .int x3), (4, .int x4)] [] σ := by
  unfold J_M_march_103 at h
  refine go_iinc (lv' := [(4, .int (x4 + (1 : Int32))), (0, .ref 0), (1, .int x1), (2, .int x2), (3, .int x3)]) X 4 (dk dt_M_march_3 12 rfl) rfl ci_1 (by decide) rfl ?_
  refine go_goto (tgt := 22) X (dk dt_M_march_3 13 rfl) (by decide) ?_
  refine go_sub [1, 2, 3, 4, 0] rfl ?_
  exact hk22 _ _ _ _ _  h
set_option maxRecDepth 20000 in
theorem lkB_M_march_22 (hi : zInj wM v) (xc : XC wM v) (nx : NXM v) (X : Cx wM v p R s m args c 0 0 cX12_march 6 RX12 6) (rt : Rt wM v p l e R s m args below meth c 0 0 Q cX12_march false (some (.int res.1)) res.2) {k22 : Int32 → Int32 → Int32 → Int32 → Hp → Option (Int32 × Hp)} {x1 : Int32} {x2 : Int32} {x3 : Int32} {x4 : Int32} {σ : Hp}  (hk22 : ∀ (x1 : Int32) (x2 : Int32) (x3 : Int32) (x4 : Int32) (σ : Hp),  k22 x1 x2 x3 x4 σ = some res → Go wM v p l e R s m args below meth c 0 0 Q 6 22 [(0, .ref 0), (1, .int x1), (2, .int x2), (3, .int x3), (4, .int x4)] [] σ) (h : B_M_march_22  k22 x1 x2 x3 x4 σ = some res) : Go wM v p l e R s m args below meth c 0 0 Q 6 22 [(0, .ref 0), (1, .int x1), (2, .int x2), (3, .int x3), (4, .int x4)] [] σ := by
  unfold B_M_march_22 at h
  refine go_iload X 4 (dk dt_M_march_0 15 rfl) rfl ?_
  refine go_bipush X (dk dt_M_march_1 0 rfl) cb_8 ?_
  refine go_icmp_ge (tgt := 109) X (dk dt_M_march_1 1 rfl) (by decide) h (fun h => ?_) (fun h => ?_)
  · refine go_iload_n X 3 (dk dt_M_march_3 14 rfl) rfl rfl ?_
    exact go_iret rt (dk dt_M_march_3 15 rfl) h (fun hh => nomatch hh)
  · refine go_iload X 4 (dk dt_M_march_1 2 rfl) rfl ?_
    refine go_iconst X (dk dt_M_march_1 3 rfl) ci_1 ?_
    refine go_iadd X (dk dt_M_march_1 4 rfl) ?_
    refine go_istore (lv' := [(5, .int (x4 + (1 : Int32))), (0, .ref 0), (1, .int x1), (2, .int x2), (3, .int x3), (4, .int x4)]) X (dk dt_M_march_1 5 rfl) (by decide) rfl ?_
    refine go_sub [1, 2, 3, 4, 5, 0] rfl ?_
    exact lkL_M_march_35 hi xc nx X rt (fun _ _ _ _ _  hh => lkJ_M_march_103 hi xc nx X rt  hk22 hh) FU  h
set_option maxRecDepth 20000 in
theorem lkL_M_march_22 (hi : zInj wM v) (xc : XC wM v) (nx : NXM v) (X : Cx wM v p R s m args c 0 0 cX12_march 6 RX12 6) (rt : Rt wM v p l e R s m args below meth c 0 0 Q cX12_march false (some (.int res.1)) res.2)   (n : Nat) : ∀ {x1 : Int32} {x2 : Int32} {x3 : Int32} {x4 : Int32} {σ : Hp},  L_M_march_22   n x1 x2 x3 x4 σ = some res → Go wM v p l e R s m args below meth c 0 0 Q 6 22 [(0, .ref 0), (1, .int x1), (2, .int x2), (3, .int x3), (4, .int x4)] [] σ := by
  induction n with
  | zero => intro x1 x2 x3 x4 σ  h; cases h
  | succ n ih =>
    intro x1 x2 x3 x4 σ  h
    exact lkB_M_march_22 hi xc nx X rt  (fun _ _ _ _ _  hh => ih  hh) h
set_option maxRecDepth 20000 in
theorem lkF_M_march (hi : zInj wM v) (xc : XC wM v) (nx : NXM v) (X : Cx wM v p R s m args c 0 0 cX12_march 6 RX12 6) (rt : Rt wM v p l e R s m args below meth c 0 0 Q cX12_march false (some (.int res.1)) res.2) {a1 : Int32} {σ : Hp}  (h : F_M_march  a1 σ = some res) : Go wM v p l e R s m args below meth c 0 0 Q 6 0 [(0, .ref 0), (1, .int a1)] [] σ := by
  unfold F_M_march at h
  refine go_iload_n X 1 (dk dt_M_march_0 0 rfl) rfl rfl ?_
  refine go_iconst X (dk dt_M_march_0 1 rfl) ci_0 ?_
  refine go_iconst X (dk dt_M_march_0 2 rfl) ci_1 ?_
  refine go_Si (As := [.int a1, .int (0 : Int32), .int (1 : Int32)]) (rest := []) X so_X12_122 (fun q hq => ct_M_in hi xc nx  hq) (by decide) rfl rfl (Nat.le_of_ble_eq_true rfl) (dk dt_M_march_0 3 rfl) h (fun q3 h => ?_)
  refine go_if_ne (tgt := 11) X (dk dt_M_march_0 4 rfl) (by decide) h (fun h => ?_) (fun h => ?_)
  · refine go_aload_n X 0 (dk dt_M_march_0 7 rfl) rfl rfl ?_
    refine go_iload_n X 1 (dk dt_M_march_0 8 rfl) rfl rfl ?_
    refine go_Vi (As := [.int a1]) (rest := []) X vo_X12_356 (fun q hq => ct_M_outside hi xc nx  hq) (by decide) rfl lM_0 sM_0 rfl rfl (Nat.le_of_ble_eq_true rfl) (dk dt_M_march_0 9 rfl) h (fun q13 h => ?_)
    refine go_istore_n (lv' := [(2, .int q13.1), (0, .ref 0), (1, .int a1)]) X (dk dt_M_march_0 10 rfl) rfl (by decide) rfl ?_
    refine go_iconst X (dk dt_M_march_0 11 rfl) ci_0 ?_
    refine go_istore_n (lv' := [(3, .int (0 : Int32)), (2, .int q13.1), (0, .ref 0), (1, .int a1)]) X (dk dt_M_march_0 12 rfl) rfl (by decide) rfl ?_
    refine go_iconst X (dk dt_M_march_0 13 rfl) ci_0 ?_
    refine go_istore (lv' := [(4, .int (0 : Int32)), (3, .int (0 : Int32)), (2, .int q13.1), (0, .ref 0), (1, .int a1)]) X (dk dt_M_march_0 14 rfl) (by decide) rfl ?_
    refine go_sub [3, 4, 2, 1, 0] rfl ?_
    exact lkL_M_march_22 hi xc nx X rt  FU  h
  · refine go_iconst X (dk dt_M_march_0 5 rfl) ci_m1 ?_
    exact go_iret rt (dk dt_M_march_0 6 rfl) h (fun hh => nomatch hh)
set_option maxRecDepth 20000 in
theorem ct_M_march (hi : zInj wM v) (xc : XC wM v) (nx : NXM v)  {a1 : Int32} {σ : Hp}  {q : (Int32 × Hp)} (h : F_M_march  a1 σ = some q) : Ct wM v l yX12_march cX12_march 6 (some .int) 6 [.ref 0, .int a1] σ (some (.int q.1)) q.2 :=
  Ct.intro false (by decide) hi xc (Nat.le_of_ble_eq_true rfl) rfl (fun p e R s m args below meth c Q X rt => lkF_M_march hi xc nx X rt  h)
end
def T_M_readsPlace_0 : DT := [(0, .aload_n 0, 1), (1, .invokevirtual 161, 3), (4, .bipush 48, 2), (6, .bipush 55, 2), (8, .invokestatic 122, 3), (11, .ifCond .ne 13, 3), (14, .aload_n 0, 1), (15, .iconst 1, 1), (16, .aload_n 0, 1), (17, .getfield 155, 3), (20, .invokevirtual 168, 3), (23, .ireturn, 1), (24, .aload_n 0, 1), (25, .aload_n 0, 1), (26, .invokevirtual 161, 3), (29, .bipush 48, 2)]
theorem dt_M_readsPlace_0 : dOk cX12_readsPlace T_M_readsPlace_0 := by unfold dOk; decide +kernel
def T_M_readsPlace_1 : DT := [(31, .isub, 1), (32, .putfield 171, 3), (35, .iconst 1, 1), (36, .ireturn, 1)]
theorem dt_M_readsPlace_1 : dOk cX12_readsPlace T_M_readsPlace_1 := by unfold dOk; decide +kernel
section
variable {v : ZV} {l : Launch} {p : Program} {e : Env} {R : Room} {s : State} {m : MethodId} {args : Array Value} {below : List Frame} {meth : Method} {c : Code} {Q : State → Prop} {res : (Int32 × Hp)} 
set_option maxRecDepth 20000 in
theorem lkF_M_readsPlace (hi : zInj wM v) (xc : XC wM v) (nx : NXM v) (X : Cx wM v p R s m args c 0 0 cX12_readsPlace 1 RX12 4) (rt : Rt wM v p l e R s m args below meth c 0 0 Q cX12_readsPlace true (some (.int res.1)) res.2)  {σ : Hp}  (h : F_M_readsPlace   σ = some res) : Go wM v p l e R s m args below meth c 0 0 Q 1 0 [(0, .ref 0)] [] σ := by
  unfold F_M_readsPlace at h
  refine go_aload_n X 0 (dk dt_M_readsPlace_0 0 rfl) rfl rfl ?_
  refine go_Vi (As := []) (rest := []) X vo_X12_161 (fun q hq => ct_M_here hi xc nx  hq) (by decide) rfl lM_0 sM_0 rfl rfl (Nat.le_of_ble_eq_true rfl) (dk dt_M_readsPlace_0 1 rfl) h (fun q1 h => ?_)
  refine go_bipush X (dk dt_M_readsPlace_0 2 rfl) cb_48 ?_
  refine go_bipush X (dk dt_M_readsPlace_0 3 rfl) cb_55 ?_
  refine go_Si (As := [.int q1.1, .int (48 : Int32), .int (55 : Int32)]) (rest := []) X so_X12_122 (fun q hq => ct_M_in hi xc nx  hq) (by decide) rfl rfl (Nat.le_of_ble_eq_true rfl) (dk dt_M_readsPlace_0 4 rfl) h (fun q8 h => ?_)
  refine go_if_ne (tgt := 24) X (dk dt_M_readsPlace_0 5 rfl) (by decide) h (fun h => ?_) (fun h => ?_)
  · refine go_aload_n X 0 (dk dt_M_readsPlace_0 12 rfl) rfl rfl ?_
    refine go_aload_n X 0 (dk dt_M_readsPlace_0 13 rfl) rfl rfl ?_
    refine go_Vi (As := []) (rest := [.ref 0]) X vo_X12_161 (fun q hq => ct_M_here hi xc nx  hq) (by decide) rfl lM_0 sM_0 rfl rfl (Nat.le_of_ble_eq_true rfl) (dk dt_M_readsPlace_0 14 rfl) h (fun q26 h => ?_)
    refine go_bipush X (dk dt_M_readsPlace_0 15 rfl) cb_48 ?_
    refine go_isub X (dk dt_M_readsPlace_1 0 rfl) ?_
    refine go_puti X fo_X12_171 pf_12_10 lM_0 sM_0 fM_0_10 (dk dt_M_readsPlace_1 1 rfl) ?_
    refine go_iconst X (dk dt_M_readsPlace_1 2 rfl) ci_1 ?_
    exact go_iret rt (dk dt_M_readsPlace_1 3 rfl) h (by decide)
  · refine go_aload_n X 0 (dk dt_M_readsPlace_0 6 rfl) rfl rfl ?_
    refine go_iconst X (dk dt_M_readsPlace_0 7 rfl) ci_1 ?_
    refine go_aload_n X 0 (dk dt_M_readsPlace_0 8 rfl) rfl rfl ?_
    refine go_geti X fo_X12_155 lM_0 sM_0 fM_0_7 (dk dt_M_readsPlace_0 9 rfl) ?_
    refine go_Vi (As := [.int (1 : Int32), .int (q8.2 0 7)]) (rest := []) X vo_X12_168 (fun q hq => ct_M_wrongAt hi xc nx  hq) (by decide) rfl lM_0 sM_0 rfl rfl (Nat.le_of_ble_eq_true rfl) (dk dt_M_readsPlace_0 10 rfl) h (fun q20 h => ?_)
    exact go_zret rt (dk dt_M_readsPlace_0 11 rfl) h
set_option maxRecDepth 20000 in
theorem ct_M_readsPlace (hi : zInj wM v) (xc : XC wM v) (nx : NXM v)   {σ : Hp}  {q : (Int32 × Hp)} (h : F_M_readsPlace   σ = some q) : Ct wM v l yX12_readsPlace cX12_readsPlace 1 (some .boolean) 4 [.ref 0] σ (some (.int q.1)) q.2 :=
  Ct.intro true (by decide) hi xc (Nat.le_of_ble_eq_true rfl) rfl (fun p e R s m args below meth c Q X rt => lkF_M_readsPlace hi xc nx X rt  h)
end
def T_M_readsAmount_0 : DT := [(0, .aload_n 0, 1), (1, .getfield 155, 3), (4, .istore_n 1, 1), (5, .aload_n 0, 1), (6, .invokevirtual 174, 3), (9, .ifCond .ne 13, 3), (12, .aload_n 0, 1), (13, .iconst 1, 1), (14, .aload_n 0, 1), (15, .getfield 155, 3), (18, .invokevirtual 168, 3), (21, .ireturn, 1), (22, .aload_n 0, 1), (23, .iconst 0, 1), (24, .putfield 171, 3), (27, .aload_n 0, 1)]
theorem dt_M_readsAmount_0 : dOk cX12_readsAmount T_M_readsAmount_0 := by unfold dOk; decide +kernel
def T_M_readsAmount_1 : DT := [(28, .invokevirtual 174, 3), (31, .ifCond .eq 55, 3), (34, .aload_n 0, 1), (35, .getfield 155, 3), (38, .iload_n 1, 1), (39, .iconst 2, 1), (40, .iadd, 1), (41, .if_icmp .ne 13, 3), (44, .aload_n 0, 1), (45, .iconst 2, 1), (46, .aload_n 0, 1), (47, .getfield 155, 3), (50, .invokevirtual 168, 3), (53, .ireturn, 1), (54, .aload_n 0, 1), (55, .bipush 10, 2)]
theorem dt_M_readsAmount_1 : dOk cX12_readsAmount T_M_readsAmount_1 := by unfold dOk; decide +kernel
def T_M_readsAmount_2 : DT := [(57, .aload_n 0, 1), (58, .getfield 171, 3), (61, .imul, 1), (62, .aload_n 0, 1), (63, .invokevirtual 161, 3), (66, .iadd, 1), (67, .bipush 48, 2), (69, .isub, 1), (70, .putfield 171, 3), (73, .aload_n 0, 1), (74, .aload_n 0, 1), (75, .getfield 155, 3), (78, .iconst 1, 1), (79, .iadd, 1), (80, .putfield 155, 3), (83, .goto (-56), 3)]
theorem dt_M_readsAmount_2 : dOk cX12_readsAmount T_M_readsAmount_2 := by unfold dOk; decide +kernel
def T_M_readsAmount_3 : DT := [(86, .iconst 1, 1), (87, .ireturn, 1)]
theorem dt_M_readsAmount_3 : dOk cX12_readsAmount T_M_readsAmount_3 := by unfold dOk; decide +kernel
section
variable {v : ZV} {l : Launch} {p : Program} {e : Env} {R : Room} {s : State} {m : MethodId} {args : Array Value} {below : List Frame} {meth : Method} {c : Code} {Q : State → Prop} {res : (Int32 × Hp)} 
set_option maxRecDepth 20000 in
theorem lkB_M_readsAmount_27 (hi : zInj wM v) (xc : XC wM v) (nx : NXM v) (X : Cx wM v p R s m args c 0 0 cX12_readsAmount 2 RX12 6) (rt : Rt wM v p l e R s m args below meth c 0 0 Q cX12_readsAmount true (some (.int res.1)) res.2) {k27 : Int32 → Hp → Option (Int32 × Hp)} {k44 : Hp → Option (Int32 × Hp)} {x1 : Int32} {σ : Hp}  (hk27 : ∀ (x1 : Int32) (σ : Hp),  k27 x1 σ = some res → Go wM v p l e R s m args below meth c 0 0 Q 2 27 [(0, .ref 0), (1, .int x1)] [] σ) (hk44 : ∀  (σ : Hp),  k44  σ = some res → Go wM v p l e R s m args below meth c 0 0 Q 2 44 [(0, .ref 0)] [] σ) (h : B_M_readsAmount_27  k27 k44 x1 σ = some res) : Go wM v p l e R s m args below meth c 0 0 Q 2 27 [(0, .ref 0), (1, .int x1)] [] σ := by
  unfold B_M_readsAmount_27 at h
  refine go_aload_n X 0 (dk dt_M_readsAmount_0 15 rfl) rfl rfl ?_
  refine go_Vi (As := []) (rest := []) X vo_X12_174 (fun q hq => ct_M_isDigit hi xc nx  hq) (by decide) rfl lM_0 sM_0 rfl rfl (Nat.le_of_ble_eq_true rfl) (dk dt_M_readsAmount_1 0 rfl) h (fun q28 h => ?_)
  refine go_if_eq (tgt := 86) X (dk dt_M_readsAmount_1 1 rfl) (by decide) h (fun h => ?_) (fun h => ?_)
  · refine go_iconst X (dk dt_M_readsAmount_3 0 rfl) ci_1 ?_
    exact go_iret rt (dk dt_M_readsAmount_3 1 rfl) h (by decide)
  · refine go_aload_n X 0 (dk dt_M_readsAmount_1 2 rfl) rfl rfl ?_
    refine go_geti X fo_X12_155 lM_0 sM_0 fM_0_7 (dk dt_M_readsAmount_1 3 rfl) ?_
    refine go_iload_n X 1 (dk dt_M_readsAmount_1 4 rfl) rfl rfl ?_
    refine go_iconst X (dk dt_M_readsAmount_1 5 rfl) ci_2 ?_
    refine go_iadd X (dk dt_M_readsAmount_1 6 rfl) ?_
    refine go_icmp_ne (tgt := 54) X (dk dt_M_readsAmount_1 7 rfl) (by decide) h (fun h => ?_) (fun h => ?_)
    · refine go_aload_n X 0 (dk dt_M_readsAmount_1 14 rfl) rfl rfl ?_
      refine go_bipush X (dk dt_M_readsAmount_1 15 rfl) cb_10 ?_
      refine go_aload_n X 0 (dk dt_M_readsAmount_2 0 rfl) rfl rfl ?_
      refine go_geti X fo_X12_171 lM_0 sM_0 fM_0_10 (dk dt_M_readsAmount_2 1 rfl) ?_
      refine go_imul X (dk dt_M_readsAmount_2 2 rfl) ?_
      refine go_aload_n X 0 (dk dt_M_readsAmount_2 3 rfl) rfl rfl ?_
      refine go_Vi (As := []) (rest := [.int ((10 : Int32) * (q28.2 0 10)), .ref 0]) X vo_X12_161 (fun q hq => ct_M_here hi xc nx  hq) (by decide) rfl lM_0 sM_0 rfl rfl (Nat.le_of_ble_eq_true rfl) (dk dt_M_readsAmount_2 4 rfl) h (fun q63 h => ?_)
      refine go_iadd X (dk dt_M_readsAmount_2 5 rfl) ?_
      refine go_bipush X (dk dt_M_readsAmount_2 6 rfl) cb_48 ?_
      refine go_isub X (dk dt_M_readsAmount_2 7 rfl) ?_
      refine go_puti X fo_X12_171 pf_12_10 lM_0 sM_0 fM_0_10 (dk dt_M_readsAmount_2 8 rfl) ?_
      refine go_aload_n X 0 (dk dt_M_readsAmount_2 9 rfl) rfl rfl ?_
      refine go_aload_n X 0 (dk dt_M_readsAmount_2 10 rfl) rfl rfl ?_
      refine go_geti X fo_X12_155 lM_0 sM_0 fM_0_7 (dk dt_M_readsAmount_2 11 rfl) ?_
      refine go_iconst X (dk dt_M_readsAmount_2 12 rfl) ci_1 ?_
      refine go_iadd X (dk dt_M_readsAmount_2 13 rfl) ?_
      refine go_puti X fo_X12_155 pf_12_7 lM_0 sM_0 fM_0_7 (dk dt_M_readsAmount_2 14 rfl) ?_
      refine go_goto (tgt := 27) X (dk dt_M_readsAmount_2 15 rfl) (by decide) ?_
      exact hk27 _ _  h
    · refine go_sub [0] rfl ?_
      exact hk44  _  h
set_option maxRecDepth 20000 in
theorem lkL_M_readsAmount_27 (hi : zInj wM v) (xc : XC wM v) (nx : NXM v) (X : Cx wM v p R s m args c 0 0 cX12_readsAmount 2 RX12 6) (rt : Rt wM v p l e R s m args below meth c 0 0 Q cX12_readsAmount true (some (.int res.1)) res.2) {k44 : Hp → Option (Int32 × Hp)} (hk44 : ∀  (σ : Hp),  k44  σ = some res → Go wM v p l e R s m args below meth c 0 0 Q 2 44 [(0, .ref 0)] [] σ) (n : Nat) : ∀ {x1 : Int32} {σ : Hp},  L_M_readsAmount_27  k44 n x1 σ = some res → Go wM v p l e R s m args below meth c 0 0 Q 2 27 [(0, .ref 0), (1, .int x1)] [] σ := by
  induction n with
  | zero => intro x1 σ  h; cases h
  | succ n ih =>
    intro x1 σ  h
    exact lkB_M_readsAmount_27 hi xc nx X rt  (fun _ _  hh => ih  hh) hk44 h
set_option maxRecDepth 20000 in
theorem lkJ_M_readsAmount_44 (hi : zInj wM v) (xc : XC wM v) (nx : NXM v) (X : Cx wM v p R s m args c 0 0 cX12_readsAmount 2 RX12 6) (rt : Rt wM v p l e R s m args below meth c 0 0 Q cX12_readsAmount true (some (.int res.1)) res.2)   {σ : Hp}   (h : J_M_readsAmount_44    σ = some res) : Go wM v p l e R s m args below meth c 0 0 Q 2 44 [(0, .ref 0)] [] σ := by
  unfold J_M_readsAmount_44 at h
  refine go_aload_n X 0 (dk dt_M_readsAmount_1 8 rfl) rfl rfl ?_
  refine go_iconst X (dk dt_M_readsAmount_1 9 rfl) ci_2 ?_
  refine go_aload_n X 0 (dk dt_M_readsAmount_1 10 rfl) rfl rfl ?_
  refine go_geti X fo_X12_155 lM_0 sM_0 fM_0_7 (dk dt_M_readsAmount_1 11 rfl) ?_
  refine go_Vi (As := [.int (2 : Int32), .int (σ 0 7)]) (rest := []) X vo_X12_168 (fun q hq => ct_M_wrongAt hi xc nx  hq) (by decide) rfl lM_0 sM_0 rfl rfl (Nat.le_of_ble_eq_true rfl) (dk dt_M_readsAmount_1 12 rfl) h (fun q50 h => ?_)
  exact go_zret rt (dk dt_M_readsAmount_1 13 rfl) h
set_option maxRecDepth 20000 in
theorem lkF_M_readsAmount (hi : zInj wM v) (xc : XC wM v) (nx : NXM v) (X : Cx wM v p R s m args c 0 0 cX12_readsAmount 2 RX12 6) (rt : Rt wM v p l e R s m args below meth c 0 0 Q cX12_readsAmount true (some (.int res.1)) res.2)  {σ : Hp}  (h : F_M_readsAmount   σ = some res) : Go wM v p l e R s m args below meth c 0 0 Q 2 0 [(0, .ref 0)] [] σ := by
  unfold F_M_readsAmount at h
  refine go_aload_n X 0 (dk dt_M_readsAmount_0 0 rfl) rfl rfl ?_
  refine go_geti X fo_X12_155 lM_0 sM_0 fM_0_7 (dk dt_M_readsAmount_0 1 rfl) ?_
  refine go_istore_n (lv' := [(1, .int (σ 0 7)), (0, .ref 0)]) X (dk dt_M_readsAmount_0 2 rfl) rfl (by decide) rfl ?_
  refine go_aload_n X 1 (dk dt_M_readsAmount_0 3 rfl) rfl rfl ?_
  refine go_Vi (As := []) (rest := []) X vo_X12_174 (fun q hq => ct_M_isDigit hi xc nx  hq) (by decide) rfl lM_0 sM_0 rfl rfl (Nat.le_of_ble_eq_true rfl) (dk dt_M_readsAmount_0 4 rfl) h (fun q6 h => ?_)
  refine go_if_ne (tgt := 22) X (dk dt_M_readsAmount_0 5 rfl) (by decide) h (fun h => ?_) (fun h => ?_)
  · refine go_aload_n X 1 (dk dt_M_readsAmount_0 12 rfl) rfl rfl ?_
    refine go_iconst X (dk dt_M_readsAmount_0 13 rfl) ci_0 ?_
    refine go_puti X fo_X12_171 pf_12_10 lM_0 sM_0 fM_0_10 (dk dt_M_readsAmount_0 14 rfl) ?_
    refine go_sub [1, 0] rfl ?_
    exact lkL_M_readsAmount_27 hi xc nx X rt (fun  _  hh => lkJ_M_readsAmount_44 hi xc nx X rt   hh) FU  h
  · refine go_aload_n X 1 (dk dt_M_readsAmount_0 6 rfl) rfl rfl ?_
    refine go_iconst X (dk dt_M_readsAmount_0 7 rfl) ci_1 ?_
    refine go_aload_n X 1 (dk dt_M_readsAmount_0 8 rfl) rfl rfl ?_
    refine go_geti X fo_X12_155 lM_0 sM_0 fM_0_7 (dk dt_M_readsAmount_0 9 rfl) ?_
    refine go_Vi (As := [.int (1 : Int32), .int (q6.2 0 7)]) (rest := []) X vo_X12_168 (fun q hq => ct_M_wrongAt hi xc nx  hq) (by decide) rfl lM_0 sM_0 rfl rfl (Nat.le_of_ble_eq_true rfl) (dk dt_M_readsAmount_0 10 rfl) h (fun q18 h => ?_)
    exact go_zret rt (dk dt_M_readsAmount_0 11 rfl) h
set_option maxRecDepth 20000 in
theorem ct_M_readsAmount (hi : zInj wM v) (xc : XC wM v) (nx : NXM v)   {σ : Hp}  {q : (Int32 × Hp)} (h : F_M_readsAmount   σ = some q) : Ct wM v l yX12_readsAmount cX12_readsAmount 2 (some .boolean) 6 [.ref 0] σ (some (.int q.1)) q.2 :=
  Ct.intro true (by decide) hi xc (Nat.le_of_ble_eq_true rfl) rfl (fun p e R s m args below meth c Q X rt => lkF_M_readsAmount hi xc nx X rt  h)
end
def T_M_readsDeed_0 : DT := [(0, .aload_n 0, 1), (1, .invokevirtual 161, 3), (4, .istore_n 2, 1), (5, .iload_n 2, 1), (6, .bipush 76, 2), (8, .if_icmp .eq 37, 3), (11, .iload_n 2, 1), (12, .bipush 67, 2), (14, .if_icmp .eq 31, 3), (17, .iload_n 2, 1), (18, .bipush 71, 2), (20, .if_icmp .eq 25, 3), (23, .iload_n 2, 1), (24, .bipush 73, 2), (26, .if_icmp .eq 19, 3), (29, .iload_n 2, 1)]
theorem dt_M_readsDeed_0 : dOk cX12_readsDeed T_M_readsDeed_0 := by unfold dOk; decide +kernel
def T_M_readsDeed_1 : DT := [(30, .bipush 79, 2), (32, .if_icmp .eq 13, 3), (35, .aload_n 0, 1), (36, .iconst 1, 1), (37, .aload_n 0, 1), (38, .getfield 155, 3), (41, .invokevirtual 168, 3), (44, .ireturn, 1), (45, .aload_n 0, 1), (46, .aload_n 0, 1), (47, .getfield 155, 3), (50, .iconst 1, 1), (51, .iadd, 1), (52, .putfield 155, 3), (55, .aload_n 0, 1), (56, .getfield 155, 3)]
theorem dt_M_readsDeed_1 : dOk cX12_readsDeed T_M_readsDeed_1 := by unfold dOk; decide +kernel
def T_M_readsDeed_2 : DT := [(59, .istore_n 3, 1), (60, .iload_n 2, 1), (61, .bipush 76, 2), (63, .if_icmp .eq 9, 3), (66, .iload_n 2, 1), (67, .bipush 67, 2), (69, .if_icmp .ne 87, 3), (72, .aload_n 0, 1), (73, .invokevirtual 267, 3), (76, .ifCond .ne 5, 3), (79, .iconst 0, 1), (80, .ireturn, 1), (81, .iload_n 2, 1), (82, .bipush 67, 2), (84, .if_icmp .ne 19, 3), (87, .aload_n 0, 1)]
theorem dt_M_readsDeed_2 : dOk cX12_readsDeed T_M_readsDeed_2 := by unfold dOk; decide +kernel
def T_M_readsDeed_3 : DT := [(88, .getfield 171, 3), (91, .bipush 9, 2), (93, .if_icmp .le 10, 3), (96, .aload_n 0, 1), (97, .iconst 3, 1), (98, .iload_n 3, 1), (99, .invokevirtual 168, 3), (102, .ireturn, 1), (103, .iload_n 2, 1), (104, .bipush 67, 2), (106, .if_icmp .ne 19, 3), (109, .aload_n 0, 1), (110, .getfield 7, 3), (113, .bipush 64, 2), (115, .iload_n 1, 1), (116, .iadd, 1)]
theorem dt_M_readsDeed_3 : dOk cX12_readsDeed T_M_readsDeed_3 := by unfold dOk; decide +kernel
def T_M_readsDeed_4 : DT := [(117, .aload_n 0, 1), (118, .getfield 171, 3), (121, .iastore, 1), (122, .goto 103, 3), (125, .aload_n 0, 1), (126, .getfield 7, 3), (129, .bipush 48, 2), (131, .iload_n 1, 1), (132, .iadd, 1), (133, .bipush 99, 2), (135, .aload_n 0, 1), (136, .getfield 7, 3), (139, .bipush 48, 2), (141, .iload_n 1, 1), (142, .iadd, 1), (143, .iaload, 1)]
theorem dt_M_readsDeed_4 : dOk cX12_readsDeed T_M_readsDeed_4 := by unfold dOk; decide +kernel
def T_M_readsDeed_5 : DT := [(144, .aload_n 0, 1), (145, .getfield 171, 3), (148, .iadd, 1), (149, .invokestatic 270, 3), (152, .iastore, 1), (153, .goto 72, 3), (156, .iload_n 2, 1), (157, .bipush 71, 2), (159, .if_icmp .ne 42, 3), (162, .aload_n 0, 1), (163, .invokevirtual 273, 3), (166, .ifCond .ne 5, 3), (169, .iconst 0, 1), (170, .ireturn, 1), (171, .aload_n 0, 1), (172, .aload_n 0, 1)]
theorem dt_M_readsDeed_5 : dOk cX12_readsDeed T_M_readsDeed_5 := by unfold dOk; decide +kernel
def T_M_readsDeed_6 : DT := [(173, .getfield 155, 3), (176, .iconst 1, 1), (177, .iadd, 1), (178, .putfield 155, 3), (181, .aload_n 0, 1), (182, .iload_n 1, 1), (183, .iload_n 1, 1), (184, .bipush 8, 2), (186, .idiv, 1), (187, .bipush 8, 2), (189, .imul, 1), (190, .aload_n 0, 1), (191, .getfield 171, 3), (194, .iadd, 1), (195, .invokevirtual 276, 3), (198, .goto 27, 3)]
theorem dt_M_readsDeed_6 : dOk cX12_readsDeed T_M_readsDeed_6 := by unfold dOk; decide +kernel
def T_M_readsDeed_7 : DT := [(201, .iload_n 2, 1), (202, .bipush 73, 2), (204, .if_icmp .ne 16, 3), (207, .aload_n 0, 1), (208, .getfield 7, 3), (211, .bipush 80, 2), (213, .iload_n 1, 1), (214, .iadd, 1), (215, .iconst 2, 1), (216, .iastore, 1), (217, .goto 8, 3), (220, .aload_n 0, 1), (221, .iload_n 1, 1), (222, .invokevirtual 279, 3), (225, .iconst 1, 1), (226, .ireturn, 1)]
theorem dt_M_readsDeed_7 : dOk cX12_readsDeed T_M_readsDeed_7 := by unfold dOk; decide +kernel
section
variable {v : ZV} {l : Launch} {p : Program} {e : Env} {R : Room} {s : State} {m : MethodId} {args : Array Value} {below : List Frame} {meth : Method} {c : Code} {Q : State → Prop} {res : (Int32 × Hp)} 
set_option maxRecDepth 20000 in
theorem lkJ_M_readsDeed_103 (hi : zInj wM v) (xc : XC wM v) (nx : NXM v) (X : Cx wM v p R s m args c 0 0 cX12_readsDeed 4 RX12 8) (rt : Rt wM v p l e R s m args below meth c 0 0 Q cX12_readsDeed true (some (.int res.1)) res.2)  {x1 : Int32} {x2 : Int32} {σ : Hp}   (h : J_M_readsDeed_103   x1 x2 σ = some res) : Go wM v p l e R s m args below meth c 0 0 Q 4 103 [(0, .ref 0), (1, .int x1), (2, .int x2)] [] σ := by
  unfold J_M_readsDeed_103 at h
  refine go_iload_n X 2 (dk dt_M_readsDeed_3 8 rfl) rfl rfl ?_
  refine go_bipush X (dk dt_M_readsDeed_3 9 rfl) cb_67 ?_
  refine go_icmp_ne (tgt := 125) X (dk dt_M_readsDeed_3 10 rfl) (by decide) h (fun h => ?_) (fun h => ?_)
  · refine go_aload_n X 0 (dk dt_M_readsDeed_4 4 rfl) rfl rfl ?_
    refine go_getr X fo_X12_7 lM_0 sM_0 fM_0_0 (dk dt_M_readsDeed_4 5 rfl) ?_
    refine go_bipush X (dk dt_M_readsDeed_4 6 rfl) cb_48 ?_
    refine go_iload_n X 1 (dk dt_M_readsDeed_4 7 rfl) rfl rfl ?_
    refine go_iadd X (dk dt_M_readsDeed_4 8 rfl) ?_
    refine go_bipush X (dk dt_M_readsDeed_4 9 rfl) cb_99 ?_
    refine go_aload_n X 0 (dk dt_M_readsDeed_4 10 rfl) rfl rfl ?_
    refine go_getr X fo_X12_7 lM_0 sM_0 fM_0_0 (dk dt_M_readsDeed_4 11 rfl) ?_
    refine go_bipush X (dk dt_M_readsDeed_4 12 rfl) cb_48 ?_
    refine go_iload_n X 1 (dk dt_M_readsDeed_4 13 rfl) rfl rfl ?_
    refine go_iadd X (dk dt_M_readsDeed_4 14 rfl) ?_
    refine go_iald X lM_1 sM_1 (dk dt_M_readsDeed_4 15 rfl) h (fun h => ?_)
    refine go_aload_n X 0 (dk dt_M_readsDeed_5 0 rfl) rfl rfl ?_
    refine go_geti X fo_X12_171 lM_0 sM_0 fM_0_10 (dk dt_M_readsDeed_5 1 rfl) ?_
    refine go_iadd X (dk dt_M_readsDeed_5 2 rfl) ?_
    refine go_Si (As := [.int (99 : Int32), .int ((σ 1 (Int32.toNatClampNeg ((48 : Int32) + x1))) + (σ 0 10))]) (rest := [.int ((48 : Int32) + x1), .ref 1]) X so_X12_270 (fun q hq => ct_M_min hi xc nx  hq) (by decide) rfl rfl (Nat.le_of_ble_eq_true rfl) (dk dt_M_readsDeed_5 3 rfl) h (fun q149 h => ?_)
    refine go_iast X lM_1 sM_1 (dk dt_M_readsDeed_5 4 rfl) h (fun h => ?_)
    refine go_goto (tgt := 225) X (dk dt_M_readsDeed_5 5 rfl) (by decide) ?_
    refine go_iconst X (dk dt_M_readsDeed_7 14 rfl) ci_1 ?_
    exact go_iret rt (dk dt_M_readsDeed_7 15 rfl) h (by decide)
  · refine go_aload_n X 0 (dk dt_M_readsDeed_3 11 rfl) rfl rfl ?_
    refine go_getr X fo_X12_7 lM_0 sM_0 fM_0_0 (dk dt_M_readsDeed_3 12 rfl) ?_
    refine go_bipush X (dk dt_M_readsDeed_3 13 rfl) cb_64 ?_
    refine go_iload_n X 1 (dk dt_M_readsDeed_3 14 rfl) rfl rfl ?_
    refine go_iadd X (dk dt_M_readsDeed_3 15 rfl) ?_
    refine go_aload_n X 0 (dk dt_M_readsDeed_4 0 rfl) rfl rfl ?_
    refine go_geti X fo_X12_171 lM_0 sM_0 fM_0_10 (dk dt_M_readsDeed_4 1 rfl) ?_
    refine go_iast X lM_1 sM_1 (dk dt_M_readsDeed_4 2 rfl) h (fun h => ?_)
    refine go_goto (tgt := 225) X (dk dt_M_readsDeed_4 3 rfl) (by decide) ?_
    refine go_iconst X (dk dt_M_readsDeed_7 14 rfl) ci_1 ?_
    exact go_iret rt (dk dt_M_readsDeed_7 15 rfl) h (by decide)
set_option maxRecDepth 20000 in
theorem lkJ_M_readsDeed_72 (hi : zInj wM v) (xc : XC wM v) (nx : NXM v) (X : Cx wM v p R s m args c 0 0 cX12_readsDeed 4 RX12 8) (rt : Rt wM v p l e R s m args below meth c 0 0 Q cX12_readsDeed true (some (.int res.1)) res.2)  {x1 : Int32} {x2 : Int32} {x3 : Int32} {σ : Hp}   (h : J_M_readsDeed_72   x1 x2 x3 σ = some res) : Go wM v p l e R s m args below meth c 0 0 Q 4 72 [(0, .ref 0), (1, .int x1), (2, .int x2), (3, .int x3)] [] σ := by
  unfold J_M_readsDeed_72 at h
  refine go_aload_n X 0 (dk dt_M_readsDeed_2 7 rfl) rfl rfl ?_
  refine go_Vi (As := []) (rest := []) X vo_X12_267 (fun q hq => ct_M_readsAmount hi xc nx  hq) (by decide) rfl lM_0 sM_0 rfl rfl (Nat.le_of_ble_eq_true rfl) (dk dt_M_readsDeed_2 8 rfl) h (fun q73 h => ?_)
  refine go_if_ne (tgt := 81) X (dk dt_M_readsDeed_2 9 rfl) (by decide) h (fun h => ?_) (fun h => ?_)
  · refine go_iload_n X 2 (dk dt_M_readsDeed_2 12 rfl) rfl rfl ?_
    refine go_bipush X (dk dt_M_readsDeed_2 13 rfl) cb_67 ?_
    refine go_icmp_ne (tgt := 103) X (dk dt_M_readsDeed_2 14 rfl) (by decide) h (fun h => ?_) (fun h => ?_)
    · refine go_sub [0, 1, 2] rfl ?_
      exact lkJ_M_readsDeed_103 hi xc nx X rt   h
    · refine go_aload_n X 0 (dk dt_M_readsDeed_2 15 rfl) rfl rfl ?_
      refine go_geti X fo_X12_171 lM_0 sM_0 fM_0_10 (dk dt_M_readsDeed_3 0 rfl) ?_
      refine go_bipush X (dk dt_M_readsDeed_3 1 rfl) cb_9 ?_
      refine go_icmp_le (tgt := 103) X (dk dt_M_readsDeed_3 2 rfl) (by decide) h (fun h => ?_) (fun h => ?_)
      · refine go_sub [0, 1, 2] rfl ?_
        exact lkJ_M_readsDeed_103 hi xc nx X rt   h
      · refine go_aload_n X 0 (dk dt_M_readsDeed_3 3 rfl) rfl rfl ?_
        refine go_iconst X (dk dt_M_readsDeed_3 4 rfl) ci_3 ?_
        refine go_iload_n X 3 (dk dt_M_readsDeed_3 5 rfl) rfl rfl ?_
        refine go_Vi (As := [.int (3 : Int32), .int x3]) (rest := []) X vo_X12_168 (fun q hq => ct_M_wrongAt hi xc nx  hq) (by decide) rfl lM_0 sM_0 rfl rfl (Nat.le_of_ble_eq_true rfl) (dk dt_M_readsDeed_3 6 rfl) h (fun q99 h => ?_)
        exact go_zret rt (dk dt_M_readsDeed_3 7 rfl) h
  · refine go_iconst X (dk dt_M_readsDeed_2 10 rfl) ci_0 ?_
    exact go_iret rt (dk dt_M_readsDeed_2 11 rfl) h (by decide)
set_option maxRecDepth 20000 in
theorem lkJ_M_readsDeed_45 (hi : zInj wM v) (xc : XC wM v) (nx : NXM v) (X : Cx wM v p R s m args c 0 0 cX12_readsDeed 4 RX12 8) (rt : Rt wM v p l e R s m args below meth c 0 0 Q cX12_readsDeed true (some (.int res.1)) res.2)  {x1 : Int32} {x2 : Int32} {σ : Hp}   (h : J_M_readsDeed_45   x1 x2 σ = some res) : Go wM v p l e R s m args below meth c 0 0 Q 4 45 [(0, .ref 0), (1, .int x1), (2, .int x2)] [] σ := by
  unfold J_M_readsDeed_45 at h
  refine go_aload_n X 0 (dk dt_M_readsDeed_1 8 rfl) rfl rfl ?_
  refine go_aload_n X 0 (dk dt_M_readsDeed_1 9 rfl) rfl rfl ?_
  refine go_geti X fo_X12_155 lM_0 sM_0 fM_0_7 (dk dt_M_readsDeed_1 10 rfl) ?_
  refine go_iconst X (dk dt_M_readsDeed_1 11 rfl) ci_1 ?_
  refine go_iadd X (dk dt_M_readsDeed_1 12 rfl) ?_
  refine go_puti X fo_X12_155 pf_12_7 lM_0 sM_0 fM_0_7 (dk dt_M_readsDeed_1 13 rfl) ?_
  refine go_aload_n X 0 (dk dt_M_readsDeed_1 14 rfl) rfl rfl ?_
  refine go_geti X fo_X12_155 lM_0 sM_0 fM_0_7 (dk dt_M_readsDeed_1 15 rfl) ?_
  refine go_istore_n (lv' := [(3, .int ((zu σ 0 7 ((σ 0 7) + (1 : Int32))) 0 7)), (0, .ref 0), (1, .int x1), (2, .int x2)]) X (dk dt_M_readsDeed_2 0 rfl) rfl (by decide) rfl ?_
  refine go_iload_n X 3 (dk dt_M_readsDeed_2 1 rfl) rfl rfl ?_
  refine go_bipush X (dk dt_M_readsDeed_2 2 rfl) cb_76 ?_
  refine go_icmp_eq (tgt := 72) X (dk dt_M_readsDeed_2 3 rfl) (by decide) h (fun h => ?_) (fun h => ?_)
  · refine go_sub [1, 2, 3, 0] rfl ?_
    exact lkJ_M_readsDeed_72 hi xc nx X rt   h
  · refine go_iload_n X 3 (dk dt_M_readsDeed_2 4 rfl) rfl rfl ?_
    refine go_bipush X (dk dt_M_readsDeed_2 5 rfl) cb_67 ?_
    refine go_icmp_ne (tgt := 156) X (dk dt_M_readsDeed_2 6 rfl) (by decide) h (fun h => ?_) (fun h => ?_)
    · refine go_iload_n X 3 (dk dt_M_readsDeed_5 6 rfl) rfl rfl ?_
      refine go_bipush X (dk dt_M_readsDeed_5 7 rfl) cb_71 ?_
      refine go_icmp_ne (tgt := 201) X (dk dt_M_readsDeed_5 8 rfl) (by decide) h (fun h => ?_) (fun h => ?_)
      · refine go_iload_n X 3 (dk dt_M_readsDeed_7 0 rfl) rfl rfl ?_
        refine go_bipush X (dk dt_M_readsDeed_7 1 rfl) cb_73 ?_
        refine go_icmp_ne (tgt := 220) X (dk dt_M_readsDeed_7 2 rfl) (by decide) h (fun h => ?_) (fun h => ?_)
        · refine go_aload_n X 1 (dk dt_M_readsDeed_7 11 rfl) rfl rfl ?_
          refine go_iload_n X 2 (dk dt_M_readsDeed_7 12 rfl) rfl rfl ?_
          refine go_Vv (As := [.int x1]) (rest := []) X vo_X12_279 (fun q hq => ct_M_comesOut hi xc nx  hq) (by decide) rfl lM_0 sM_0 rfl rfl (Nat.le_of_ble_eq_true rfl) (dk dt_M_readsDeed_7 13 rfl) h (fun q222 h => ?_)
          refine go_iconst X (dk dt_M_readsDeed_7 14 rfl) ci_1 ?_
          exact go_iret rt (dk dt_M_readsDeed_7 15 rfl) h (by decide)
        · refine go_aload_n X 1 (dk dt_M_readsDeed_7 3 rfl) rfl rfl ?_
          refine go_getr X fo_X12_7 lM_0 sM_0 fM_0_0 (dk dt_M_readsDeed_7 4 rfl) ?_
          refine go_bipush X (dk dt_M_readsDeed_7 5 rfl) cb_80 ?_
          refine go_iload_n X 2 (dk dt_M_readsDeed_7 6 rfl) rfl rfl ?_
          refine go_iadd X (dk dt_M_readsDeed_7 7 rfl) ?_
          refine go_iconst X (dk dt_M_readsDeed_7 8 rfl) ci_2 ?_
          refine go_iast X lM_1 sM_1 (dk dt_M_readsDeed_7 9 rfl) h (fun h => ?_)
          refine go_goto (tgt := 225) X (dk dt_M_readsDeed_7 10 rfl) (by decide) ?_
          refine go_iconst X (dk dt_M_readsDeed_7 14 rfl) ci_1 ?_
          exact go_iret rt (dk dt_M_readsDeed_7 15 rfl) h (by decide)
      · refine go_aload_n X 1 (dk dt_M_readsDeed_5 9 rfl) rfl rfl ?_
        refine go_Vi (As := []) (rest := []) X vo_X12_273 (fun q hq => ct_M_readsPlace hi xc nx  hq) (by decide) rfl lM_0 sM_0 rfl rfl (Nat.le_of_ble_eq_true rfl) (dk dt_M_readsDeed_5 10 rfl) h (fun q163 h => ?_)
        refine go_if_ne (tgt := 171) X (dk dt_M_readsDeed_5 11 rfl) (by decide) h (fun h => ?_) (fun h => ?_)
        · refine go_aload_n X 1 (dk dt_M_readsDeed_5 14 rfl) rfl rfl ?_
          refine go_aload_n X 1 (dk dt_M_readsDeed_5 15 rfl) rfl rfl ?_
          refine go_geti X fo_X12_155 lM_0 sM_0 fM_0_7 (dk dt_M_readsDeed_6 0 rfl) ?_
          refine go_iconst X (dk dt_M_readsDeed_6 1 rfl) ci_1 ?_
          refine go_iadd X (dk dt_M_readsDeed_6 2 rfl) ?_
          refine go_puti X fo_X12_155 pf_12_7 lM_0 sM_0 fM_0_7 (dk dt_M_readsDeed_6 3 rfl) ?_
          refine go_aload_n X 1 (dk dt_M_readsDeed_6 4 rfl) rfl rfl ?_
          refine go_iload_n X 2 (dk dt_M_readsDeed_6 5 rfl) rfl rfl ?_
          refine go_iload_n X 2 (dk dt_M_readsDeed_6 6 rfl) rfl rfl ?_
          refine go_bipush X (dk dt_M_readsDeed_6 7 rfl) cb_8 ?_
          refine go_idivL X (dk dt_M_readsDeed_6 8 rfl) (by decide) ?_
          refine go_bipush X (dk dt_M_readsDeed_6 9 rfl) cb_8 ?_
          refine go_imul X (dk dt_M_readsDeed_6 10 rfl) ?_
          refine go_aload_n X 1 (dk dt_M_readsDeed_6 11 rfl) rfl rfl ?_
          refine go_geti X fo_X12_171 lM_0 sM_0 fM_0_10 (dk dt_M_readsDeed_6 12 rfl) ?_
          refine go_iadd X (dk dt_M_readsDeed_6 13 rfl) ?_
          refine go_Vv (As := [.int x1, .int (((x1 / (8 : Int32)) * (8 : Int32)) + ((zu q163.2 0 7 ((q163.2 0 7) + (1 : Int32))) 0 10))]) (rest := []) X vo_X12_276 (fun q hq => ct_M_changes hi xc nx  hq) (by decide) rfl lM_0 sM_0 rfl rfl (Nat.le_of_ble_eq_true rfl) (dk dt_M_readsDeed_6 14 rfl) h (fun q195 h => ?_)
          refine go_goto (tgt := 225) X (dk dt_M_readsDeed_6 15 rfl) (by decide) ?_
          refine go_iconst X (dk dt_M_readsDeed_7 14 rfl) ci_1 ?_
          exact go_iret rt (dk dt_M_readsDeed_7 15 rfl) h (by decide)
        · refine go_iconst X (dk dt_M_readsDeed_5 12 rfl) ci_0 ?_
          exact go_iret rt (dk dt_M_readsDeed_5 13 rfl) h (by decide)
    · refine go_sub [1, 2, 3, 0] rfl ?_
      exact lkJ_M_readsDeed_72 hi xc nx X rt   h
set_option maxRecDepth 20000 in
theorem lkF_M_readsDeed (hi : zInj wM v) (xc : XC wM v) (nx : NXM v) (X : Cx wM v p R s m args c 0 0 cX12_readsDeed 4 RX12 8) (rt : Rt wM v p l e R s m args below meth c 0 0 Q cX12_readsDeed true (some (.int res.1)) res.2) {a1 : Int32} {σ : Hp}  (h : F_M_readsDeed  a1 σ = some res) : Go wM v p l e R s m args below meth c 0 0 Q 4 0 [(0, .ref 0), (1, .int a1)] [] σ := by
  unfold F_M_readsDeed at h
  refine go_aload_n X 0 (dk dt_M_readsDeed_0 0 rfl) rfl rfl ?_
  refine go_Vi (As := []) (rest := []) X vo_X12_161 (fun q hq => ct_M_here hi xc nx  hq) (by decide) rfl lM_0 sM_0 rfl rfl (Nat.le_of_ble_eq_true rfl) (dk dt_M_readsDeed_0 1 rfl) h (fun q1 h => ?_)
  refine go_istore_n (lv' := [(2, .int q1.1), (0, .ref 0), (1, .int a1)]) X (dk dt_M_readsDeed_0 2 rfl) rfl (by decide) rfl ?_
  refine go_iload_n X 0 (dk dt_M_readsDeed_0 3 rfl) rfl rfl ?_
  refine go_bipush X (dk dt_M_readsDeed_0 4 rfl) cb_76 ?_
  refine go_icmp_eq (tgt := 45) X (dk dt_M_readsDeed_0 5 rfl) (by decide) h (fun h => ?_) (fun h => ?_)
  · refine go_sub [1, 2, 0] rfl ?_
    exact lkJ_M_readsDeed_45 hi xc nx X rt   h
  · refine go_iload_n X 0 (dk dt_M_readsDeed_0 6 rfl) rfl rfl ?_
    refine go_bipush X (dk dt_M_readsDeed_0 7 rfl) cb_67 ?_
    refine go_icmp_eq (tgt := 45) X (dk dt_M_readsDeed_0 8 rfl) (by decide) h (fun h => ?_) (fun h => ?_)
    · refine go_sub [1, 2, 0] rfl ?_
      exact lkJ_M_readsDeed_45 hi xc nx X rt   h
    · refine go_iload_n X 0 (dk dt_M_readsDeed_0 9 rfl) rfl rfl ?_
      refine go_bipush X (dk dt_M_readsDeed_0 10 rfl) cb_71 ?_
      refine go_icmp_eq (tgt := 45) X (dk dt_M_readsDeed_0 11 rfl) (by decide) h (fun h => ?_) (fun h => ?_)
      · refine go_sub [1, 2, 0] rfl ?_
        exact lkJ_M_readsDeed_45 hi xc nx X rt   h
      · refine go_iload_n X 0 (dk dt_M_readsDeed_0 12 rfl) rfl rfl ?_
        refine go_bipush X (dk dt_M_readsDeed_0 13 rfl) cb_73 ?_
        refine go_icmp_eq (tgt := 45) X (dk dt_M_readsDeed_0 14 rfl) (by decide) h (fun h => ?_) (fun h => ?_)
        · refine go_sub [1, 2, 0] rfl ?_
          exact lkJ_M_readsDeed_45 hi xc nx X rt   h
        · refine go_iload_n X 0 (dk dt_M_readsDeed_0 15 rfl) rfl rfl ?_
          refine go_bipush X (dk dt_M_readsDeed_1 0 rfl) cb_79 ?_
          refine go_icmp_eq (tgt := 45) X (dk dt_M_readsDeed_1 1 rfl) (by decide) h (fun h => ?_) (fun h => ?_)
          · refine go_sub [1, 2, 0] rfl ?_
            exact lkJ_M_readsDeed_45 hi xc nx X rt   h
          · refine go_aload_n X 1 (dk dt_M_readsDeed_1 2 rfl) rfl rfl ?_
            refine go_iconst X (dk dt_M_readsDeed_1 3 rfl) ci_1 ?_
            refine go_aload_n X 1 (dk dt_M_readsDeed_1 4 rfl) rfl rfl ?_
            refine go_geti X fo_X12_155 lM_0 sM_0 fM_0_7 (dk dt_M_readsDeed_1 5 rfl) ?_
            refine go_Vi (As := [.int (1 : Int32), .int (q1.2 0 7)]) (rest := []) X vo_X12_168 (fun q hq => ct_M_wrongAt hi xc nx  hq) (by decide) rfl lM_0 sM_0 rfl rfl (Nat.le_of_ble_eq_true rfl) (dk dt_M_readsDeed_1 6 rfl) h (fun q41 h => ?_)
            exact go_zret rt (dk dt_M_readsDeed_1 7 rfl) h
set_option maxRecDepth 20000 in
theorem ct_M_readsDeed (hi : zInj wM v) (xc : XC wM v) (nx : NXM v)  {a1 : Int32} {σ : Hp}  {q : (Int32 × Hp)} (h : F_M_readsDeed  a1 σ = some q) : Ct wM v l yX12_readsDeed cX12_readsDeed 4 (some .boolean) 8 [.ref 0, .int a1] σ (some (.int q.1)) q.2 :=
  Ct.intro true (by decide) hi xc (Nat.le_of_ble_eq_true rfl) rfl (fun p e R s m args below meth c Q X rt => lkF_M_readsDeed hi xc nx X rt  h)
end
def T_M_readsLine_0 : DT := [(0, .aload_n 0, 1), (1, .invokevirtual 161, 3), (4, .bipush 60, 2), (6, .if_icmp .ne 7, 3), (9, .iconst 0, 1), (10, .goto 17, 3), (13, .aload_n 0, 1), (14, .invokevirtual 161, 3), (17, .bipush 62, 2), (19, .if_icmp .ne 7, 3), (22, .iconst 1, 1), (23, .goto 4, 3), (26, .iconst (-1), 1), (27, .istore_n 1, 1), (28, .iload_n 1, 1), (29, .iconst (-1), 1)]
theorem dt_M_readsLine_0 : dOk cX12_readsLine T_M_readsLine_0 := by unfold dOk; decide +kernel
def T_M_readsLine_1 : DT := [(30, .if_icmp .ne 13, 3), (33, .aload_n 0, 1), (34, .iconst 1, 1), (35, .aload_n 0, 1), (36, .getfield 155, 3), (39, .invokevirtual 168, 3), (42, .ireturn, 1), (43, .aload_n 0, 1), (44, .getfield 282, 3), (47, .bipush 20, 2), (49, .if_icmp .ne 13, 3), (52, .aload_n 0, 1), (53, .iconst 4, 1), (54, .aload_n 0, 1), (55, .getfield 155, 3), (58, .invokevirtual 168, 3)]
theorem dt_M_readsLine_1 : dOk cX12_readsLine T_M_readsLine_1 := by unfold dOk; decide +kernel
def T_M_readsLine_2 : DT := [(61, .ireturn, 1), (62, .aload_n 0, 1), (63, .aload_n 0, 1), (64, .getfield 155, 3), (67, .iconst 1, 1), (68, .iadd, 1), (69, .putfield 155, 3), (72, .aload_n 0, 1), (73, .invokevirtual 273, 3), (76, .ifCond .ne 5, 3), (79, .iconst 0, 1), (80, .ireturn, 1), (81, .aload_n 0, 1), (82, .iload_n 1, 1), (83, .aload_n 0, 1), (84, .getfield 171, 3)]
theorem dt_M_readsLine_2 : dOk cX12_readsLine T_M_readsLine_2 := by unfold dOk; decide +kernel
def T_M_readsLine_3 : DT := [(87, .invokevirtual 285, 3), (90, .ifCond .ne 14, 3), (93, .aload_n 0, 1), (94, .bipush 7, 2), (96, .aload_n 0, 1), (97, .getfield 155, 3), (100, .invokevirtual 168, 3), (103, .ireturn, 1), (104, .aload_n 0, 1), (105, .aload_n 0, 1), (106, .getfield 155, 3), (109, .iconst 1, 1), (110, .iadd, 1), (111, .putfield 155, 3), (114, .aload_n 0, 1), (115, .aload_n 0, 1)]
theorem dt_M_readsLine_3 : dOk cX12_readsLine T_M_readsLine_3 := by unfold dOk; decide +kernel
def T_M_readsLine_4 : DT := [(116, .getfield 282, 3), (119, .iconst 1, 1), (120, .iadd, 1), (121, .putfield 282, 3), (124, .aload_n 0, 1), (125, .bipush 8, 2), (127, .iload_n 1, 1), (128, .imul, 1), (129, .aload_n 0, 1), (130, .getfield 171, 3), (133, .iadd, 1), (134, .invokevirtual 288, 3), (137, .ireturn, 1)]
theorem dt_M_readsLine_4 : dOk cX12_readsLine T_M_readsLine_4 := by unfold dOk; decide +kernel
section
variable {v : ZV} {l : Launch} {p : Program} {e : Env} {R : Room} {s : State} {m : MethodId} {args : Array Value} {below : List Frame} {meth : Method} {c : Code} {Q : State → Prop} {res : (Int32 × Hp)} 
set_option maxRecDepth 20000 in
theorem lkJ_M_readsLine_27 (hi : zInj wM v) (xc : XC wM v) (nx : NXM v) (X : Cx wM v p R s m args c 0 0 cX12_readsLine 2 RX12 10) (rt : Rt wM v p l e R s m args below meth c 0 0 Q cX12_readsLine true (some (.int res.1)) res.2)  {s0 : Int32} {σ : Hp}   (h : J_M_readsLine_27   s0 σ = some res) : Go wM v p l e R s m args below meth c 0 0 Q 2 27 [(0, .ref 0)] [.int s0] σ := by
  unfold J_M_readsLine_27 at h
  refine go_istore_n (lv' := [(1, .int s0), (0, .ref 0)]) X (dk dt_M_readsLine_0 13 rfl) rfl (by decide) rfl ?_
  refine go_iload_n X 0 (dk dt_M_readsLine_0 14 rfl) rfl rfl ?_
  refine go_iconst X (dk dt_M_readsLine_0 15 rfl) ci_m1 ?_
  refine go_icmp_ne (tgt := 43) X (dk dt_M_readsLine_1 0 rfl) (by decide) h (fun h => ?_) (fun h => ?_)
  · refine go_aload_n X 1 (dk dt_M_readsLine_1 7 rfl) rfl rfl ?_
    refine go_geti X fo_X12_282 lM_0 sM_0 fM_0_29 (dk dt_M_readsLine_1 8 rfl) ?_
    refine go_bipush X (dk dt_M_readsLine_1 9 rfl) cb_20 ?_
    refine go_icmp_ne (tgt := 62) X (dk dt_M_readsLine_1 10 rfl) (by decide) h (fun h => ?_) (fun h => ?_)
    · refine go_aload_n X 1 (dk dt_M_readsLine_2 1 rfl) rfl rfl ?_
      refine go_aload_n X 1 (dk dt_M_readsLine_2 2 rfl) rfl rfl ?_
      refine go_geti X fo_X12_155 lM_0 sM_0 fM_0_7 (dk dt_M_readsLine_2 3 rfl) ?_
      refine go_iconst X (dk dt_M_readsLine_2 4 rfl) ci_1 ?_
      refine go_iadd X (dk dt_M_readsLine_2 5 rfl) ?_
      refine go_puti X fo_X12_155 pf_12_7 lM_0 sM_0 fM_0_7 (dk dt_M_readsLine_2 6 rfl) ?_
      refine go_aload_n X 1 (dk dt_M_readsLine_2 7 rfl) rfl rfl ?_
      refine go_Vi (As := []) (rest := []) X vo_X12_273 (fun q hq => ct_M_readsPlace hi xc nx  hq) (by decide) rfl lM_0 sM_0 rfl rfl (Nat.le_of_ble_eq_true rfl) (dk dt_M_readsLine_2 8 rfl) h (fun q73 h => ?_)
      refine go_if_ne (tgt := 81) X (dk dt_M_readsLine_2 9 rfl) (by decide) h (fun h => ?_) (fun h => ?_)
      · refine go_aload_n X 1 (dk dt_M_readsLine_2 12 rfl) rfl rfl ?_
        refine go_iload_n X 0 (dk dt_M_readsLine_2 13 rfl) rfl rfl ?_
        refine go_aload_n X 1 (dk dt_M_readsLine_2 14 rfl) rfl rfl ?_
        refine go_geti X fo_X12_171 lM_0 sM_0 fM_0_10 (dk dt_M_readsLine_2 15 rfl) ?_
        refine go_Vi (As := [.int s0, .int (q73.2 0 10)]) (rest := []) X vo_X12_285 (fun q hq => ct_M_isThere hi xc nx  hq) (by decide) rfl lM_0 sM_0 rfl rfl (Nat.le_of_ble_eq_true rfl) (dk dt_M_readsLine_3 0 rfl) h (fun q87 h => ?_)
        refine go_if_ne (tgt := 104) X (dk dt_M_readsLine_3 1 rfl) (by decide) h (fun h => ?_) (fun h => ?_)
        · refine go_aload_n X 1 (dk dt_M_readsLine_3 8 rfl) rfl rfl ?_
          refine go_aload_n X 1 (dk dt_M_readsLine_3 9 rfl) rfl rfl ?_
          refine go_geti X fo_X12_155 lM_0 sM_0 fM_0_7 (dk dt_M_readsLine_3 10 rfl) ?_
          refine go_iconst X (dk dt_M_readsLine_3 11 rfl) ci_1 ?_
          refine go_iadd X (dk dt_M_readsLine_3 12 rfl) ?_
          refine go_puti X fo_X12_155 pf_12_7 lM_0 sM_0 fM_0_7 (dk dt_M_readsLine_3 13 rfl) ?_
          refine go_aload_n X 1 (dk dt_M_readsLine_3 14 rfl) rfl rfl ?_
          refine go_aload_n X 1 (dk dt_M_readsLine_3 15 rfl) rfl rfl ?_
          refine go_geti X fo_X12_282 lM_0 sM_0 fM_0_29 (dk dt_M_readsLine_4 0 rfl) ?_
          refine go_iconst X (dk dt_M_readsLine_4 1 rfl) ci_1 ?_
          refine go_iadd X (dk dt_M_readsLine_4 2 rfl) ?_
          refine go_puti X fo_X12_282 pf_12_29 lM_0 sM_0 fM_0_29 (dk dt_M_readsLine_4 3 rfl) ?_
          refine go_aload_n X 1 (dk dt_M_readsLine_4 4 rfl) rfl rfl ?_
          refine go_bipush X (dk dt_M_readsLine_4 5 rfl) cb_8 ?_
          refine go_iload_n X 0 (dk dt_M_readsLine_4 6 rfl) rfl rfl ?_
          refine go_imul X (dk dt_M_readsLine_4 7 rfl) ?_
          refine go_aload_n X 1 (dk dt_M_readsLine_4 8 rfl) rfl rfl ?_
          refine go_geti X fo_X12_171 lM_0 sM_0 fM_0_10 (dk dt_M_readsLine_4 9 rfl) ?_
          refine go_iadd X (dk dt_M_readsLine_4 10 rfl) ?_
          refine go_Vi (As := [.int (((8 : Int32) * s0) + ((zu (zu q87.2 0 7 ((q87.2 0 7) + (1 : Int32))) 0 29 (((zu q87.2 0 7 ((q87.2 0 7) + (1 : Int32))) 0 29) + (1 : Int32))) 0 10))]) (rest := []) X vo_X12_288 (fun q hq => ct_M_readsDeed hi xc nx  hq) (by decide) rfl lM_0 sM_0 rfl rfl (Nat.le_of_ble_eq_true rfl) (dk dt_M_readsLine_4 11 rfl) h (fun q134 h => ?_)
          exact go_zret rt (dk dt_M_readsLine_4 12 rfl) h
        · refine go_aload_n X 1 (dk dt_M_readsLine_3 2 rfl) rfl rfl ?_
          refine go_bipush X (dk dt_M_readsLine_3 3 rfl) cb_7 ?_
          refine go_aload_n X 1 (dk dt_M_readsLine_3 4 rfl) rfl rfl ?_
          refine go_geti X fo_X12_155 lM_0 sM_0 fM_0_7 (dk dt_M_readsLine_3 5 rfl) ?_
          refine go_Vi (As := [.int (7 : Int32), .int (q87.2 0 7)]) (rest := []) X vo_X12_168 (fun q hq => ct_M_wrongAt hi xc nx  hq) (by decide) rfl lM_0 sM_0 rfl rfl (Nat.le_of_ble_eq_true rfl) (dk dt_M_readsLine_3 6 rfl) h (fun q100 h => ?_)
          exact go_zret rt (dk dt_M_readsLine_3 7 rfl) h
      · refine go_iconst X (dk dt_M_readsLine_2 10 rfl) ci_0 ?_
        exact go_iret rt (dk dt_M_readsLine_2 11 rfl) h (by decide)
    · refine go_aload_n X 1 (dk dt_M_readsLine_1 11 rfl) rfl rfl ?_
      refine go_iconst X (dk dt_M_readsLine_1 12 rfl) ci_4 ?_
      refine go_aload_n X 1 (dk dt_M_readsLine_1 13 rfl) rfl rfl ?_
      refine go_geti X fo_X12_155 lM_0 sM_0 fM_0_7 (dk dt_M_readsLine_1 14 rfl) ?_
      refine go_Vi (As := [.int (4 : Int32), .int (σ 0 7)]) (rest := []) X vo_X12_168 (fun q hq => ct_M_wrongAt hi xc nx  hq) (by decide) rfl lM_0 sM_0 rfl rfl (Nat.le_of_ble_eq_true rfl) (dk dt_M_readsLine_1 15 rfl) h (fun q58 h => ?_)
      exact go_zret rt (dk dt_M_readsLine_2 0 rfl) h
  · refine go_aload_n X 1 (dk dt_M_readsLine_1 1 rfl) rfl rfl ?_
    refine go_iconst X (dk dt_M_readsLine_1 2 rfl) ci_1 ?_
    refine go_aload_n X 1 (dk dt_M_readsLine_1 3 rfl) rfl rfl ?_
    refine go_geti X fo_X12_155 lM_0 sM_0 fM_0_7 (dk dt_M_readsLine_1 4 rfl) ?_
    refine go_Vi (As := [.int (1 : Int32), .int (σ 0 7)]) (rest := []) X vo_X12_168 (fun q hq => ct_M_wrongAt hi xc nx  hq) (by decide) rfl lM_0 sM_0 rfl rfl (Nat.le_of_ble_eq_true rfl) (dk dt_M_readsLine_1 5 rfl) h (fun q39 h => ?_)
    exact go_zret rt (dk dt_M_readsLine_1 6 rfl) h
set_option maxRecDepth 20000 in
theorem lkF_M_readsLine (hi : zInj wM v) (xc : XC wM v) (nx : NXM v) (X : Cx wM v p R s m args c 0 0 cX12_readsLine 2 RX12 10) (rt : Rt wM v p l e R s m args below meth c 0 0 Q cX12_readsLine true (some (.int res.1)) res.2)  {σ : Hp}  (h : F_M_readsLine   σ = some res) : Go wM v p l e R s m args below meth c 0 0 Q 2 0 [(0, .ref 0)] [] σ := by
  unfold F_M_readsLine at h
  refine go_aload_n X 0 (dk dt_M_readsLine_0 0 rfl) rfl rfl ?_
  refine go_Vi (As := []) (rest := []) X vo_X12_161 (fun q hq => ct_M_here hi xc nx  hq) (by decide) rfl lM_0 sM_0 rfl rfl (Nat.le_of_ble_eq_true rfl) (dk dt_M_readsLine_0 1 rfl) h (fun q1 h => ?_)
  refine go_bipush X (dk dt_M_readsLine_0 2 rfl) cb_60 ?_
  refine go_icmp_ne (tgt := 13) X (dk dt_M_readsLine_0 3 rfl) (by decide) h (fun h => ?_) (fun h => ?_)
  · refine go_aload_n X 0 (dk dt_M_readsLine_0 6 rfl) rfl rfl ?_
    refine go_Vi (As := []) (rest := []) X vo_X12_161 (fun q hq => ct_M_here hi xc nx  hq) (by decide) rfl lM_0 sM_0 rfl rfl (Nat.le_of_ble_eq_true rfl) (dk dt_M_readsLine_0 7 rfl) h (fun q14 h => ?_)
    refine go_bipush X (dk dt_M_readsLine_0 8 rfl) cb_62 ?_
    refine go_icmp_ne (tgt := 26) X (dk dt_M_readsLine_0 9 rfl) (by decide) h (fun h => ?_) (fun h => ?_)
    · refine go_iconst X (dk dt_M_readsLine_0 12 rfl) ci_m1 ?_
      exact lkJ_M_readsLine_27 hi xc nx X rt   h
    · refine go_iconst X (dk dt_M_readsLine_0 10 rfl) ci_1 ?_
      refine go_goto (tgt := 27) X (dk dt_M_readsLine_0 11 rfl) (by decide) ?_
      exact lkJ_M_readsLine_27 hi xc nx X rt   h
  · refine go_iconst X (dk dt_M_readsLine_0 4 rfl) ci_0 ?_
    refine go_goto (tgt := 27) X (dk dt_M_readsLine_0 5 rfl) (by decide) ?_
    exact lkJ_M_readsLine_27 hi xc nx X rt   h
set_option maxRecDepth 20000 in
theorem ct_M_readsLine (hi : zInj wM v) (xc : XC wM v) (nx : NXM v)   {σ : Hp}  {q : (Int32 × Hp)} (h : F_M_readsLine   σ = some q) : Ct wM v l yX12_readsLine cX12_readsLine 2 (some .boolean) 10 [.ref 0] σ (some (.int q.1)) q.2 :=
  Ct.intro true (by decide) hi xc (Nat.le_of_ble_eq_true rfl) rfl (fun p e R s m args below meth c Q X rt => lkF_M_readsLine hi xc nx X rt  h)
end
