def T_V_isGentleman_0 : DT := [(0, .iload_n 1, 1), (1, .iload_n 2, 1), (2, .invokestatic 115, 3), (5, .ifCond .eq 25, 3), (8, .aload_n 0, 1), (9, .getfield 10, 3), (12, .getfield 198, 3), (15, .iload_n 1, 1), (16, .bipush 8, 2), (18, .imul, 1), (19, .iload_n 2, 1), (20, .iadd, 1), (21, .iaload, 1), (22, .iconst 3, 1), (23, .if_icmp .eq 7, 3), (26, .iconst 1, 1)]
theorem dt_V_isGentleman_0 : dOk cX11_isGentleman T_V_isGentleman_0 := by unfold dOk; decide +kernel
def T_V_isGentleman_1 : DT := [(27, .goto 4, 3), (30, .iconst 0, 1), (31, .ireturn, 1)]
theorem dt_V_isGentleman_1 : dOk cX11_isGentleman T_V_isGentleman_1 := by unfold dOk; decide +kernel
section
variable {v : ZV} {l : Launch} {p : Program} {e : Env} {R : Room} {s : State} {m : MethodId} {args : Array Value} {below : List Frame} {meth : Method} {c : Code} {Q : State → Prop} {res : (Int32 × Hp)} 
set_option maxRecDepth 20000 in
theorem lkF_V_isGentleman (hi : zInj wC v) (xc : XC wC v) (nx : NXC v) (X : Cx wC v p R s m args c 0 0 cX11_isGentleman 3 RX11 6) (rt : Rt wC v p l e R s m args below meth c 0 0 Q cX11_isGentleman true (some (.int res.1)) res.2) {a1 : Int32} {a2 : Int32} {σ : Hp}  (h : F_V_isGentleman  a1 a2 σ = some res) : Go wC v p l e R s m args below meth c 0 0 Q 3 0 [(0, .ref 0), (1, .int a1), (2, .int a2)] [] σ := by
  unfold F_V_isGentleman at h
  refine go_iload_n X 1 (dk dt_V_isGentleman_0 0 rfl) rfl rfl ?_
  refine go_iload_n X 2 (dk dt_V_isGentleman_0 1 rfl) rfl rfl ?_
  refine go_Si (As := [.int a1, .int a2]) (rest := []) X so_X11_115 (fun q hq => ct_V_isChair hi xc nx  hq) (by decide) rfl rfl (Nat.le_of_ble_eq_true rfl) (dk dt_V_isGentleman_0 2 rfl) h (fun q2 h => ?_)
  refine go_if_eq (tgt := 30) X (dk dt_V_isGentleman_0 3 rfl) (by decide) h (fun h => ?_) (fun h => ?_)
  · refine go_iconst X (dk dt_V_isGentleman_1 1 rfl) ci_0 ?_
    exact go_iret rt (dk dt_V_isGentleman_1 2 rfl) h (by decide)
  · refine go_aload_n X 0 (dk dt_V_isGentleman_0 4 rfl) rfl rfl ?_
    refine go_getr X fo_X11_10 lC_0 sC_0 fC_0_0 (dk dt_V_isGentleman_0 5 rfl) ?_
    refine go_getr X fo_X11_198 lC_1 sC_1 fC_1_4 (dk dt_V_isGentleman_0 6 rfl) ?_
    refine go_iload_n X 1 (dk dt_V_isGentleman_0 7 rfl) rfl rfl ?_
    refine go_bipush X (dk dt_V_isGentleman_0 8 rfl) cb_8 ?_
    refine go_imul X (dk dt_V_isGentleman_0 9 rfl) ?_
    refine go_iload_n X 2 (dk dt_V_isGentleman_0 10 rfl) rfl rfl ?_
    refine go_iadd X (dk dt_V_isGentleman_0 11 rfl) ?_
    refine go_iald X lC_6 sC_6 (dk dt_V_isGentleman_0 12 rfl) h (fun h => ?_)
    refine go_iconst X (dk dt_V_isGentleman_0 13 rfl) ci_3 ?_
    refine go_icmp_eq (tgt := 30) X (dk dt_V_isGentleman_0 14 rfl) (by decide) h (fun h => ?_) (fun h => ?_)
    · refine go_iconst X (dk dt_V_isGentleman_1 1 rfl) ci_0 ?_
      exact go_iret rt (dk dt_V_isGentleman_1 2 rfl) h (by decide)
    · refine go_iconst X (dk dt_V_isGentleman_0 15 rfl) ci_1 ?_
      refine go_goto (tgt := 31) X (dk dt_V_isGentleman_1 0 rfl) (by decide) ?_
      exact go_iret rt (dk dt_V_isGentleman_1 2 rfl) h (by decide)
set_option maxRecDepth 20000 in
theorem ct_V_isGentleman (hi : zInj wC v) (xc : XC wC v) (nx : NXC v)  {a1 : Int32} {a2 : Int32} {σ : Hp}  {q : (Int32 × Hp)} (h : F_V_isGentleman  a1 a2 σ = some q) : Ct wC v l yX11_isGentleman cX11_isGentleman 3 (some .boolean) 6 [.ref 0, .int a1, .int a2] σ (some (.int q.1)) q.2 :=
  Ct.intro true (by decide) hi xc (Nat.le_of_ble_eq_true rfl) rfl (fun p e R s m args below meth c Q X rt => lkF_V_isGentleman hi xc nx X rt  h)
end
def T_X9_eye_0 : DT := [(0, .aload_n 0, 1), (1, .getfield 15, 3), (4, .iload_n 1, 1), (5, .iaload, 1), (6, .iconst 5, 1), (7, .iload_n 2, 1), (8, .imul, 1), (9, .iadd, 1), (10, .ireturn, 1)]
theorem dt_X9_eye_0 : dOk cX9_eye T_X9_eye_0 := by unfold dOk; decide +kernel
section
variable {v : ZV} {l : Launch} {p : Program} {e : Env} {R : Room} {s : State} {m : MethodId} {args : Array Value} {below : List Frame} {meth : Method} {c : Code} {Q : State → Prop} {res : (Int32 × Hp)} 
set_option maxRecDepth 20000 in
theorem lkF_X9_eye (hi : zInj wC v) (xc : XC wC v) (nx : NXC v) (X : Cx wC v p R s m args c 0 0 cX9_eye 3 RX9 2) (rt : Rt wC v p l e R s m args below meth c 0 0 Q cX9_eye false (some (.int res.1)) res.2) {a1 : Int32} {a2 : Int32} {σ : Hp}  (h : F_X9_eye  a1 a2 σ = some res) : Go wC v p l e R s m args below meth c 0 0 Q 3 0 [(0, .ref 19), (1, .int a1), (2, .int a2)] [] σ := by
  unfold F_X9_eye at h
  refine go_aload_n X 0 (dk dt_X9_eye_0 0 rfl) rfl rfl ?_
  refine go_getr X fo_X9_15 lC_19 sC_19 fC_19_1 (dk dt_X9_eye_0 1 rfl) ?_
  refine go_iload_n X 1 (dk dt_X9_eye_0 2 rfl) rfl rfl ?_
  refine go_iald X lC_21 sC_21 (dk dt_X9_eye_0 3 rfl) h (fun h => ?_)
  refine go_iconst X (dk dt_X9_eye_0 4 rfl) ci_5 ?_
  refine go_iload_n X 2 (dk dt_X9_eye_0 5 rfl) rfl rfl ?_
  refine go_imul X (dk dt_X9_eye_0 6 rfl) ?_
  refine go_iadd X (dk dt_X9_eye_0 7 rfl) ?_
  exact go_iret rt (dk dt_X9_eye_0 8 rfl) h (fun hh => nomatch hh)
set_option maxRecDepth 20000 in
theorem ct_X9_eye (hi : zInj wC v) (xc : XC wC v) (nx : NXC v)  {a1 : Int32} {a2 : Int32} {σ : Hp}  {q : (Int32 × Hp)} (h : F_X9_eye  a1 a2 σ = some q) : Ct wC v l yX9_eye cX9_eye 3 (some .int) 2 [.ref 19, .int a1, .int a2] σ (some (.int q.1)) q.2 :=
  Ct.intro false (by decide) hi xc (Nat.le_of_ble_eq_true rfl) rfl (fun p e R s m args below meth c Q X rt => lkF_X9_eye hi xc nx X rt  h)
end
def T_X9_isFree_0 : DT := [(0, .iconst 0, 1), (1, .istore 4, 2), (3, .iload 4, 2), (5, .bipush 24, 2), (7, .if_icmp .ge 52, 3), (10, .iload 4, 2), (12, .iload_n 3, 1), (13, .if_icmp .ne 7, 3), (16, .iconst 0, 1), (17, .goto 10, 3), (20, .aload_n 0, 1), (21, .getfield 9, 3), (24, .iload 4, 2), (26, .iaload, 1), (27, .istore 5, 2), (29, .bipush 25, 2)]
theorem dt_X9_isFree_0 : dOk cX9_isFree T_X9_isFree_0 := by unfold dOk; decide +kernel
def T_X9_isFree_1 : DT := [(31, .iload 5, 2), (33, .imul, 1), (34, .bipush 24, 2), (36, .iload 4, 2), (38, .isub, 1), (39, .iload_n 1, 1), (40, .imul, 1), (41, .iload 4, 2), (43, .iconst 1, 1), (44, .iadd, 1), (45, .iload_n 2, 1), (46, .imul, 1), (47, .iadd, 1), (48, .if_icmp .lt 5, 3), (51, .iconst 0, 1), (52, .ireturn, 1)]
theorem dt_X9_isFree_1 : dOk cX9_isFree T_X9_isFree_1 := by unfold dOk; decide +kernel
def T_X9_isFree_2 : DT := [(53, .iinc 4 1, 3), (56, .goto (-53), 3), (59, .iconst 1, 1), (60, .ireturn, 1)]
theorem dt_X9_isFree_2 : dOk cX9_isFree T_X9_isFree_2 := by unfold dOk; decide +kernel
section
variable {v : ZV} {l : Launch} {p : Program} {e : Env} {R : Room} {s : State} {m : MethodId} {args : Array Value} {below : List Frame} {meth : Method} {c : Code} {Q : State → Prop} {res : (Int32 × Hp)} 
set_option maxRecDepth 20000 in
theorem lkJ_X9_isFree_27 (hi : zInj wC v) (xc : XC wC v) (nx : NXC v) (X : Cx wC v p R s m args c 0 0 cX9_isFree 6 RX9 2) (rt : Rt wC v p l e R s m args below meth c 0 0 Q cX9_isFree true (some (.int res.1)) res.2) {k3 : Int32 → Int32 → Int32 → Int32 → Hp → Option (Int32 × Hp)} {x1 : Int32} {x2 : Int32} {x3 : Int32} {x4 : Int32} {s0 : Int32} {σ : Hp}  (hk3 : ∀ (x1 : Int32) (x2 : Int32) (x3 : Int32) (x4 : Int32) (σ : Hp),  k3 x1 x2 x3 x4 σ = some res → Go wC v p l e R s m args below meth c 0 0 Q 6 3 [(0, .ref 19), (1, .int x1), (2, .int x2), (3, .int x3), (4, .int x4)] [] σ) (h : J_X9_isFree_27  k3 x1 x2 x3 x4 s0 σ = some res) : Go wC v p l e R s m args below meth c 0 0 Q 6 27 [(0, .ref 19), (1, .int x1), (2, .int x2), (3, .int x3), (4, .int x4)] [.int s0] σ := by
  unfold J_X9_isFree_27 at h
  refine go_istore (lv' := [(5, .int s0), (0, .ref 19), (1, .int x1), (2, .int x2), (3, .int x3), (4, .int x4)]) X (dk dt_X9_isFree_0 14 rfl) (by decide) rfl ?_
  refine go_bipush X (dk dt_X9_isFree_0 15 rfl) cb_25 ?_
  refine go_iload X 0 (dk dt_X9_isFree_1 0 rfl) rfl ?_
  refine go_imul X (dk dt_X9_isFree_1 1 rfl) ?_
  refine go_bipush X (dk dt_X9_isFree_1 2 rfl) cb_24 ?_
  refine go_iload X 5 (dk dt_X9_isFree_1 3 rfl) rfl ?_
  refine go_isub X (dk dt_X9_isFree_1 4 rfl) ?_
  refine go_iload_n X 2 (dk dt_X9_isFree_1 5 rfl) rfl rfl ?_
  refine go_imul X (dk dt_X9_isFree_1 6 rfl) ?_
  refine go_iload X 5 (dk dt_X9_isFree_1 7 rfl) rfl ?_
  refine go_iconst X (dk dt_X9_isFree_1 8 rfl) ci_1 ?_
  refine go_iadd X (dk dt_X9_isFree_1 9 rfl) ?_
  refine go_iload_n X 3 (dk dt_X9_isFree_1 10 rfl) rfl rfl ?_
  refine go_imul X (dk dt_X9_isFree_1 11 rfl) ?_
  refine go_iadd X (dk dt_X9_isFree_1 12 rfl) ?_
  refine go_icmp_lt (tgt := 53) X (dk dt_X9_isFree_1 13 rfl) (by decide) h (fun h => ?_) (fun h => ?_)
  · refine go_iinc (lv' := [(4, .int (x4 + (1 : Int32))), (5, .int s0), (0, .ref 19), (1, .int x1), (2, .int x2), (3, .int x3)]) X 5 (dk dt_X9_isFree_2 0 rfl) rfl ci_1 (by decide) rfl ?_
    refine go_goto (tgt := 3) X (dk dt_X9_isFree_2 1 rfl) (by decide) ?_
    refine go_sub [2, 3, 4, 5, 0] rfl ?_
    exact hk3 _ _ _ _ _  h
  · refine go_iconst X (dk dt_X9_isFree_1 14 rfl) ci_0 ?_
    exact go_iret rt (dk dt_X9_isFree_1 15 rfl) h (by decide)
set_option maxRecDepth 20000 in
theorem lkB_X9_isFree_3 (hi : zInj wC v) (xc : XC wC v) (nx : NXC v) (X : Cx wC v p R s m args c 0 0 cX9_isFree 6 RX9 2) (rt : Rt wC v p l e R s m args below meth c 0 0 Q cX9_isFree true (some (.int res.1)) res.2) {k3 : Int32 → Int32 → Int32 → Int32 → Hp → Option (Int32 × Hp)} {x1 : Int32} {x2 : Int32} {x3 : Int32} {x4 : Int32} {σ : Hp}  (hk3 : ∀ (x1 : Int32) (x2 : Int32) (x3 : Int32) (x4 : Int32) (σ : Hp),  k3 x1 x2 x3 x4 σ = some res → Go wC v p l e R s m args below meth c 0 0 Q 6 3 [(0, .ref 19), (1, .int x1), (2, .int x2), (3, .int x3), (4, .int x4)] [] σ) (h : B_X9_isFree_3  k3 x1 x2 x3 x4 σ = some res) : Go wC v p l e R s m args below meth c 0 0 Q 6 3 [(0, .ref 19), (1, .int x1), (2, .int x2), (3, .int x3), (4, .int x4)] [] σ := by
  unfold B_X9_isFree_3 at h
  refine go_iload X 4 (dk dt_X9_isFree_0 2 rfl) rfl ?_
  refine go_bipush X (dk dt_X9_isFree_0 3 rfl) cb_24 ?_
  refine go_icmp_ge (tgt := 59) X (dk dt_X9_isFree_0 4 rfl) (by decide) h (fun h => ?_) (fun h => ?_)
  · refine go_iconst X (dk dt_X9_isFree_2 2 rfl) ci_1 ?_
    exact go_iret rt (dk dt_X9_isFree_2 3 rfl) h (by decide)
  · refine go_iload X 4 (dk dt_X9_isFree_0 5 rfl) rfl ?_
    refine go_iload_n X 3 (dk dt_X9_isFree_0 6 rfl) rfl rfl ?_
    refine go_icmp_ne (tgt := 20) X (dk dt_X9_isFree_0 7 rfl) (by decide) h (fun h => ?_) (fun h => ?_)
    · refine go_aload_n X 0 (dk dt_X9_isFree_0 10 rfl) rfl rfl ?_
      refine go_getr X fo_X9_9 lC_19 sC_19 fC_19_0 (dk dt_X9_isFree_0 11 rfl) ?_
      refine go_iload X 4 (dk dt_X9_isFree_0 12 rfl) rfl ?_
      refine go_iald X lC_20 sC_20 (dk dt_X9_isFree_0 13 rfl) h (fun h => ?_)
      exact lkJ_X9_isFree_27 hi xc nx X rt  hk3 h
    · refine go_iconst X (dk dt_X9_isFree_0 8 rfl) ci_0 ?_
      refine go_goto (tgt := 27) X (dk dt_X9_isFree_0 9 rfl) (by decide) ?_
      exact lkJ_X9_isFree_27 hi xc nx X rt  hk3 h
set_option maxRecDepth 20000 in
theorem lkL_X9_isFree_3 (hi : zInj wC v) (xc : XC wC v) (nx : NXC v) (X : Cx wC v p R s m args c 0 0 cX9_isFree 6 RX9 2) (rt : Rt wC v p l e R s m args below meth c 0 0 Q cX9_isFree true (some (.int res.1)) res.2)   (n : Nat) : ∀ {x1 : Int32} {x2 : Int32} {x3 : Int32} {x4 : Int32} {σ : Hp},  L_X9_isFree_3   n x1 x2 x3 x4 σ = some res → Go wC v p l e R s m args below meth c 0 0 Q 6 3 [(0, .ref 19), (1, .int x1), (2, .int x2), (3, .int x3), (4, .int x4)] [] σ := by
  induction n with
  | zero => intro x1 x2 x3 x4 σ  h; cases h
  | succ n ih =>
    intro x1 x2 x3 x4 σ  h
    exact lkB_X9_isFree_3 hi xc nx X rt  (fun _ _ _ _ _  hh => ih  hh) h
set_option maxRecDepth 20000 in
theorem lkF_X9_isFree (hi : zInj wC v) (xc : XC wC v) (nx : NXC v) (X : Cx wC v p R s m args c 0 0 cX9_isFree 6 RX9 2) (rt : Rt wC v p l e R s m args below meth c 0 0 Q cX9_isFree true (some (.int res.1)) res.2) {a1 : Int32} {a2 : Int32} {a3 : Int32} {σ : Hp}  (h : F_X9_isFree  a1 a2 a3 σ = some res) : Go wC v p l e R s m args below meth c 0 0 Q 6 0 [(0, .ref 19), (1, .int a1), (2, .int a2), (3, .int a3)] [] σ := by
  unfold F_X9_isFree at h
  refine go_iconst X (dk dt_X9_isFree_0 0 rfl) ci_0 ?_
  refine go_istore (lv' := [(4, .int (0 : Int32)), (0, .ref 19), (1, .int a1), (2, .int a2), (3, .int a3)]) X (dk dt_X9_isFree_0 1 rfl) (by decide) rfl ?_
  refine go_sub [1, 2, 3, 4, 0] rfl ?_
  exact lkL_X9_isFree_3 hi xc nx X rt  FU  h
set_option maxRecDepth 20000 in
theorem ct_X9_isFree (hi : zInj wC v) (xc : XC wC v) (nx : NXC v)  {a1 : Int32} {a2 : Int32} {a3 : Int32} {σ : Hp}  {q : (Int32 × Hp)} (h : F_X9_isFree  a1 a2 a3 σ = some q) : Ct wC v l yX9_isFree cX9_isFree 6 (some .boolean) 2 [.ref 19, .int a1, .int a2, .int a3] σ (some (.int q.1)) q.2 :=
  Ct.intro true (by decide) hi xc (Nat.le_of_ble_eq_true rfl) rfl (fun p e R s m args below meth c Q X rt => lkF_X9_isFree hi xc nx X rt  h)
end
def T_X9_sighted_0 : DT := [(0, .aload_n 0, 1), (1, .aload_n 0, 1), (2, .iconst 0, 1), (3, .aload_n 1, 1), (4, .getfield 21, 3), (7, .iload_n 2, 1), (8, .iaload, 1), (9, .invokevirtual 26, 3), (12, .aload_n 0, 1), (13, .iconst 1, 1), (14, .aload_n 1, 1), (15, .getfield 21, 3), (18, .bipush 8, 2), (20, .iload_n 3, 1), (21, .iadd, 1), (22, .iaload, 1)]
theorem dt_X9_sighted_0 : dOk cX9_sighted T_X9_sighted_0 := by unfold dOk; decide +kernel
def T_X9_sighted_1 : DT := [(23, .invokevirtual 26, 3), (26, .iconst (-1), 1), (27, .invokevirtual 30, 3), (30, .ireturn, 1)]
theorem dt_X9_sighted_1 : dOk cX9_sighted T_X9_sighted_1 := by unfold dOk; decide +kernel
section
variable {v : ZV} {l : Launch} {p : Program} {e : Env} {R : Room} {s : State} {m : MethodId} {args : Array Value} {below : List Frame} {meth : Method} {c : Code} {Q : State → Prop} {res : (Int32 × Hp)} 
set_option maxRecDepth 20000 in
theorem lkF_X9_sighted (hi : zInj wC v) (xc : XC wC v) (nx : NXC v) (X : Cx wC v p R s m args c 0 0 cX9_sighted 4 RX9 4) (rt : Rt wC v p l e R s m args below meth c 0 0 Q cX9_sighted true (some (.int res.1)) res.2) {a1 : Nat} {a2 : Int32} {a3 : Int32} {σ : Hp} (ha1 : isW a1 = true) (h : F_X9_sighted  a1 a2 a3 σ = some res) : Go wC v p l e R s m args below meth c 0 0 Q 4 0 [(0, .ref 19), (1, .ref a1), (2, .int a2), (3, .int a3)] [] σ := by
  unfold F_X9_sighted at h
  refine go_aload_n X 0 (dk dt_X9_sighted_0 0 rfl) rfl rfl ?_
  refine go_aload_n X 0 (dk dt_X9_sighted_0 1 rfl) rfl rfl ?_
  refine go_iconst X (dk dt_X9_sighted_0 2 rfl) ci_0 ?_
  refine go_aload_n X 1 (dk dt_X9_sighted_0 3 rfl) rfl rfl ?_
  refine go_getr X fo_X9_21 (lW ha1) (sW ha1) (fW_3 ha1) (dk dt_X9_sighted_0 4 rfl) ?_
  refine go_iload_n X 2 (dk dt_X9_sighted_0 5 rfl) rfl rfl ?_
  refine go_iald X (lWa_4 ha1) (sWa_4 ha1) (dk dt_X9_sighted_0 6 rfl) h (fun h => ?_)
  refine go_Vi (As := [.int (0 : Int32), .int (σ (a1 + 4) (Int32.toNatClampNeg a2))]) (rest := [.ref 19]) X vo_X9_26 (fun q hq => ct_X9_eye hi xc nx  hq) (by decide) rfl lC_19 sC_19 rfl rfl (Nat.le_of_ble_eq_true rfl) (dk dt_X9_sighted_0 7 rfl) h (fun q9 h => ?_)
  refine go_aload_n X 0 (dk dt_X9_sighted_0 8 rfl) rfl rfl ?_
  refine go_iconst X (dk dt_X9_sighted_0 9 rfl) ci_1 ?_
  refine go_aload_n X 1 (dk dt_X9_sighted_0 10 rfl) rfl rfl ?_
  refine go_getr X fo_X9_21 (lW ha1) (sW ha1) (fW_3 ha1) (dk dt_X9_sighted_0 11 rfl) ?_
  refine go_bipush X (dk dt_X9_sighted_0 12 rfl) cb_8 ?_
  refine go_iload_n X 3 (dk dt_X9_sighted_0 13 rfl) rfl rfl ?_
  refine go_iadd X (dk dt_X9_sighted_0 14 rfl) ?_
  refine go_iald X (lWa_4 ha1) (sWa_4 ha1) (dk dt_X9_sighted_0 15 rfl) h (fun h => ?_)
  refine go_Vi (As := [.int (1 : Int32), .int (q9.2 (a1 + 4) (Int32.toNatClampNeg ((8 : Int32) + a3)))]) (rest := [.int q9.1, .ref 19]) X vo_X9_26 (fun q hq => ct_X9_eye hi xc nx  hq) (by decide) rfl lC_19 sC_19 rfl rfl (Nat.le_of_ble_eq_true rfl) (dk dt_X9_sighted_1 0 rfl) h (fun q23 h => ?_)
  refine go_iconst X (dk dt_X9_sighted_1 1 rfl) ci_m1 ?_
  refine go_Vi (As := [.int q9.1, .int q23.1, .int (-1 : Int32)]) (rest := []) X vo_X9_30 (fun q hq => ct_X9_isFree hi xc nx  hq) (by decide) rfl lC_19 sC_19 rfl rfl (Nat.le_of_ble_eq_true rfl) (dk dt_X9_sighted_1 2 rfl) h (fun q27 h => ?_)
  exact go_zret rt (dk dt_X9_sighted_1 3 rfl) h
set_option maxRecDepth 20000 in
theorem ct_X9_sighted (hi : zInj wC v) (xc : XC wC v) (nx : NXC v)  {a1 : Nat} {a2 : Int32} {a3 : Int32} {σ : Hp} (ha1 : isW a1 = true) {q : (Int32 × Hp)} (h : F_X9_sighted  a1 a2 a3 σ = some q) : Ct wC v l yX9_sighted cX9_sighted 4 (some .boolean) 4 [.ref 19, .ref a1, .int a2, .int a3] σ (some (.int q.1)) q.2 :=
  Ct.intro true (by decide) hi xc (Nat.le_of_ble_eq_true rfl) rfl (fun p e R s m args below meth c Q X rt => lkF_X9_sighted hi xc nx X rt ha1 h)
end
def T_V_capture_0 : DT := [(0, .aload_n 0, 1), (1, .iload_n 1, 1), (2, .iload_n 2, 1), (3, .invokevirtual 210, 3), (6, .ifCond .eq 25, 3), (9, .aload_n 0, 1), (10, .iconst 1, 1), (11, .iload_n 1, 1), (12, .isub, 1), (13, .iload_n 3, 1), (14, .invokevirtual 210, 3), (17, .ifCond .eq 14, 3), (20, .aload_n 0, 1), (21, .getfield 10, 3), (24, .getfield 255, 3), (27, .iconst 5, 1)]
theorem dt_V_capture_0 : dOk cX11_capture T_V_capture_0 := by unfold dOk; decide +kernel
def T_V_capture_1 : DT := [(28, .if_icmp .eq 5, 3), (31, .iconst 0, 1), (32, .ireturn, 1), (33, .iload_n 1, 1), (34, .bipush 8, 2), (36, .imul, 1), (37, .iload_n 2, 1), (38, .iadd, 1), (39, .istore 4, 2), (41, .iconst 1, 1), (42, .iload_n 1, 1), (43, .isub, 1), (44, .bipush 8, 2), (46, .imul, 1), (47, .iload_n 3, 1), (48, .iadd, 1)]
theorem dt_V_capture_1 : dOk cX11_capture T_V_capture_1 := by unfold dOk; decide +kernel
def T_V_capture_2 : DT := [(49, .istore 5, 2), (51, .aload_n 0, 1), (52, .getfield 10, 3), (55, .getfield 198, 3), (58, .iload 4, 2), (60, .iaload, 1), (61, .ifCond .ne 16, 3), (64, .aload_n 0, 1), (65, .getfield 10, 3), (68, .getfield 198, 3), (71, .iload 5, 2), (73, .iaload, 1), (74, .ifCond .ne 5, 3), (77, .iconst 0, 1), (78, .ireturn, 1), (79, .aload_n 0, 1)]
theorem dt_V_capture_2 : dOk cX11_capture T_V_capture_2 := by unfold dOk; decide +kernel
def T_V_capture_3 : DT := [(80, .getfield 10, 3), (83, .getfield 219, 3), (86, .iload 4, 2), (88, .iaload, 1), (89, .bipush 9, 2), (91, .if_icmp .ge 17, 3), (94, .aload_n 0, 1), (95, .getfield 10, 3), (98, .getfield 219, 3), (101, .iload 5, 2), (103, .iaload, 1), (104, .iconst 1, 1), (105, .if_icmp .ge 5, 3), (108, .iconst 0, 1), (109, .ireturn, 1), (110, .iload_n 1, 1)]
theorem dt_V_capture_3 : dOk cX11_capture T_V_capture_3 := by unfold dOk; decide +kernel
def T_V_capture_4 : DT := [(111, .ifCond .ne 19, 3), (114, .aload_n 0, 1), (115, .getfield 25, 3), (118, .aload_n 0, 1), (119, .getfield 10, 3), (122, .iload_n 2, 1), (123, .iload_n 3, 1), (124, .invokevirtual 235, 3), (127, .goto 16, 3), (130, .aload_n 0, 1), (131, .getfield 25, 3), (134, .aload_n 0, 1), (135, .getfield 10, 3), (138, .iload_n 3, 1), (139, .iload_n 2, 1), (140, .invokevirtual 235, 3)]
theorem dt_V_capture_4 : dOk cX11_capture T_V_capture_4 := by unfold dOk; decide +kernel
def T_V_capture_5 : DT := [(143, .istore 6, 2), (145, .iload 6, 2), (147, .ifCond .ne 5, 3), (150, .iconst 0, 1), (151, .ireturn, 1), (152, .aload_n 0, 1), (153, .getfield 10, 3), (156, .getfield 219, 3), (159, .iload 4, 2), (161, .dup2, 1), (162, .iaload, 1), (163, .iconst 1, 1), (164, .iadd, 1), (165, .iastore, 1), (166, .aload_n 0, 1), (167, .getfield 10, 3)]
theorem dt_V_capture_5 : dOk cX11_capture T_V_capture_5 := by unfold dOk; decide +kernel
def T_V_capture_6 : DT := [(170, .getfield 219, 3), (173, .iload 5, 2), (175, .dup2, 1), (176, .iaload, 1), (177, .iconst 1, 1), (178, .isub, 1), (179, .iastore, 1), (180, .iconst 1, 1), (181, .ireturn, 1)]
theorem dt_V_capture_6 : dOk cX11_capture T_V_capture_6 := by unfold dOk; decide +kernel
section
variable {v : ZV} {l : Launch} {p : Program} {e : Env} {R : Room} {s : State} {m : MethodId} {args : Array Value} {below : List Frame} {meth : Method} {c : Code} {Q : State → Prop} {res : (Int32 × Hp)} 
set_option maxRecDepth 20000 in
theorem lkJ_V_capture_143 (hi : zInj wC v) (xc : XC wC v) (nx : NXC v) (X : Cx wC v p R s m args c 0 0 cX11_capture 7 RX11 8) (rt : Rt wC v p l e R s m args below meth c 0 0 Q cX11_capture true (some (.int res.1)) res.2)  {x4 : Int32} {x5 : Int32} {s0 : Int32} {σ : Hp}   (h : J_V_capture_143   x4 x5 s0 σ = some res) : Go wC v p l e R s m args below meth c 0 0 Q 7 143 [(0, .ref 0), (4, .int x4), (5, .int x5)] [.int s0] σ := by
  unfold J_V_capture_143 at h
  refine go_istore (lv' := [(6, .int s0), (0, .ref 0), (4, .int x4), (5, .int x5)]) X (dk dt_V_capture_5 0 rfl) (by decide) rfl ?_
  refine go_iload X 0 (dk dt_V_capture_5 1 rfl) rfl ?_
  refine go_if_ne (tgt := 152) X (dk dt_V_capture_5 2 rfl) (by decide) h (fun h => ?_) (fun h => ?_)
  · refine go_aload_n X 1 (dk dt_V_capture_5 5 rfl) rfl rfl ?_
    refine go_getr X fo_X11_10 lC_0 sC_0 fC_0_0 (dk dt_V_capture_5 6 rfl) ?_
    refine go_getr X fo_X11_219 lC_1 sC_1 fC_1_3 (dk dt_V_capture_5 7 rfl) ?_
    refine go_iload X 2 (dk dt_V_capture_5 8 rfl) rfl ?_
    refine go_dup2 X (dk dt_V_capture_5 9 rfl) rfl rfl ?_
    refine go_iald X lC_5 sC_5 (dk dt_V_capture_5 10 rfl) h (fun h => ?_)
    refine go_iconst X (dk dt_V_capture_5 11 rfl) ci_1 ?_
    refine go_iadd X (dk dt_V_capture_5 12 rfl) ?_
    refine go_iast X lC_5 sC_5 (dk dt_V_capture_5 13 rfl) h (fun h => ?_)
    refine go_aload_n X 1 (dk dt_V_capture_5 14 rfl) rfl rfl ?_
    refine go_getr X fo_X11_10 lC_0 sC_0 fC_0_0 (dk dt_V_capture_5 15 rfl) ?_
    refine go_getr X fo_X11_219 lC_1 sC_1 fC_1_3 (dk dt_V_capture_6 0 rfl) ?_
    refine go_iload X 3 (dk dt_V_capture_6 1 rfl) rfl ?_
    refine go_dup2 X (dk dt_V_capture_6 2 rfl) rfl rfl ?_
    refine go_iald X lC_5 sC_5 (dk dt_V_capture_6 3 rfl) h (fun h => ?_)
    refine go_iconst X (dk dt_V_capture_6 4 rfl) ci_1 ?_
    refine go_isub X (dk dt_V_capture_6 5 rfl) ?_
    refine go_iast X lC_5 sC_5 (dk dt_V_capture_6 6 rfl) h (fun h => ?_)
    refine go_iconst X (dk dt_V_capture_6 7 rfl) ci_1 ?_
    exact go_iret rt (dk dt_V_capture_6 8 rfl) h (by decide)
  · refine go_iconst X (dk dt_V_capture_5 3 rfl) ci_0 ?_
    exact go_iret rt (dk dt_V_capture_5 4 rfl) h (by decide)
set_option maxRecDepth 20000 in
theorem lkF_V_capture (hi : zInj wC v) (xc : XC wC v) (nx : NXC v) (X : Cx wC v p R s m args c 0 0 cX11_capture 7 RX11 8) (rt : Rt wC v p l e R s m args below meth c 0 0 Q cX11_capture true (some (.int res.1)) res.2) {a1 : Int32} {a2 : Int32} {a3 : Int32} {σ : Hp}  (h : F_V_capture  a1 a2 a3 σ = some res) : Go wC v p l e R s m args below meth c 0 0 Q 7 0 [(0, .ref 0), (1, .int a1), (2, .int a2), (3, .int a3)] [] σ := by
  unfold F_V_capture at h
  refine go_aload_n X 0 (dk dt_V_capture_0 0 rfl) rfl rfl ?_
  refine go_iload_n X 1 (dk dt_V_capture_0 1 rfl) rfl rfl ?_
  refine go_iload_n X 2 (dk dt_V_capture_0 2 rfl) rfl rfl ?_
  refine go_Vi (As := [.int a1, .int a2]) (rest := []) X vo_X11_210 (fun q hq => ct_V_isGentleman hi xc nx  hq) (by decide) rfl lC_0 sC_0 rfl rfl (Nat.le_of_ble_eq_true rfl) (dk dt_V_capture_0 3 rfl) h (fun q3 h => ?_)
  refine go_if_eq (tgt := 31) X (dk dt_V_capture_0 4 rfl) (by decide) h (fun h => ?_) (fun h => ?_)
  · refine go_iconst X (dk dt_V_capture_1 1 rfl) ci_0 ?_
    exact go_iret rt (dk dt_V_capture_1 2 rfl) h (by decide)
  · refine go_aload_n X 0 (dk dt_V_capture_0 5 rfl) rfl rfl ?_
    refine go_iconst X (dk dt_V_capture_0 6 rfl) ci_1 ?_
    refine go_iload_n X 1 (dk dt_V_capture_0 7 rfl) rfl rfl ?_
    refine go_isub X (dk dt_V_capture_0 8 rfl) ?_
    refine go_iload_n X 3 (dk dt_V_capture_0 9 rfl) rfl rfl ?_
    refine go_Vi (As := [.int ((1 : Int32) - a1), .int a3]) (rest := []) X vo_X11_210 (fun q hq => ct_V_isGentleman hi xc nx  hq) (by decide) rfl lC_0 sC_0 rfl rfl (Nat.le_of_ble_eq_true rfl) (dk dt_V_capture_0 10 rfl) h (fun q14 h => ?_)
    refine go_if_eq (tgt := 31) X (dk dt_V_capture_0 11 rfl) (by decide) h (fun h => ?_) (fun h => ?_)
    · refine go_iconst X (dk dt_V_capture_1 1 rfl) ci_0 ?_
      exact go_iret rt (dk dt_V_capture_1 2 rfl) h (by decide)
    · refine go_aload_n X 0 (dk dt_V_capture_0 12 rfl) rfl rfl ?_
      refine go_getr X fo_X11_10 lC_0 sC_0 fC_0_0 (dk dt_V_capture_0 13 rfl) ?_
      refine go_geti X fo_X11_255 lC_1 sC_1 fC_1_5 (dk dt_V_capture_0 14 rfl) ?_
      refine go_iconst X (dk dt_V_capture_0 15 rfl) ci_5 ?_
      refine go_icmp_eq (tgt := 33) X (dk dt_V_capture_1 0 rfl) (by decide) h (fun h => ?_) (fun h => ?_)
      · refine go_iload_n X 1 (dk dt_V_capture_1 3 rfl) rfl rfl ?_
        refine go_bipush X (dk dt_V_capture_1 4 rfl) cb_8 ?_
        refine go_imul X (dk dt_V_capture_1 5 rfl) ?_
        refine go_iload_n X 2 (dk dt_V_capture_1 6 rfl) rfl rfl ?_
        refine go_iadd X (dk dt_V_capture_1 7 rfl) ?_
        refine go_istore (lv' := [(4, .int ((a1 * (8 : Int32)) + a2)), (0, .ref 0), (1, .int a1), (2, .int a2), (3, .int a3)]) X (dk dt_V_capture_1 8 rfl) (by decide) rfl ?_
        refine go_iconst X (dk dt_V_capture_1 9 rfl) ci_1 ?_
        refine go_iload_n X 2 (dk dt_V_capture_1 10 rfl) rfl rfl ?_
        refine go_isub X (dk dt_V_capture_1 11 rfl) ?_
        refine go_bipush X (dk dt_V_capture_1 12 rfl) cb_8 ?_
        refine go_imul X (dk dt_V_capture_1 13 rfl) ?_
        refine go_iload_n X 4 (dk dt_V_capture_1 14 rfl) rfl rfl ?_
        refine go_iadd X (dk dt_V_capture_1 15 rfl) ?_
        refine go_istore (lv' := [(5, .int ((((1 : Int32) - a1) * (8 : Int32)) + a3)), (4, .int ((a1 * (8 : Int32)) + a2)), (0, .ref 0), (1, .int a1), (2, .int a2), (3, .int a3)]) X (dk dt_V_capture_2 0 rfl) (by decide) rfl ?_
        refine go_aload_n X 2 (dk dt_V_capture_2 1 rfl) rfl rfl ?_
        refine go_getr X fo_X11_10 lC_0 sC_0 fC_0_0 (dk dt_V_capture_2 2 rfl) ?_
        refine go_getr X fo_X11_198 lC_1 sC_1 fC_1_4 (dk dt_V_capture_2 3 rfl) ?_
        refine go_iload X 1 (dk dt_V_capture_2 4 rfl) rfl ?_
        refine go_iald X lC_6 sC_6 (dk dt_V_capture_2 5 rfl) h (fun h => ?_)
        refine go_if_ne (tgt := 77) X (dk dt_V_capture_2 6 rfl) (by decide) h (fun h => ?_) (fun h => ?_)
        · refine go_iconst X (dk dt_V_capture_2 13 rfl) ci_0 ?_
          exact go_iret rt (dk dt_V_capture_2 14 rfl) h (by decide)
        · refine go_aload_n X 2 (dk dt_V_capture_2 7 rfl) rfl rfl ?_
          refine go_getr X fo_X11_10 lC_0 sC_0 fC_0_0 (dk dt_V_capture_2 8 rfl) ?_
          refine go_getr X fo_X11_198 lC_1 sC_1 fC_1_4 (dk dt_V_capture_2 9 rfl) ?_
          refine go_iload X 0 (dk dt_V_capture_2 10 rfl) rfl ?_
          refine go_iald X lC_6 sC_6 (dk dt_V_capture_2 11 rfl) h (fun h => ?_)
          refine go_if_ne (tgt := 79) X (dk dt_V_capture_2 12 rfl) (by decide) h (fun h => ?_) (fun h => ?_)
          · refine go_aload_n X 2 (dk dt_V_capture_2 15 rfl) rfl rfl ?_
            refine go_getr X fo_X11_10 lC_0 sC_0 fC_0_0 (dk dt_V_capture_3 0 rfl) ?_
            refine go_getr X fo_X11_219 lC_1 sC_1 fC_1_3 (dk dt_V_capture_3 1 rfl) ?_
            refine go_iload X 1 (dk dt_V_capture_3 2 rfl) rfl ?_
            refine go_iald X lC_5 sC_5 (dk dt_V_capture_3 3 rfl) h (fun h => ?_)
            refine go_bipush X (dk dt_V_capture_3 4 rfl) cb_9 ?_
            refine go_icmp_ge (tgt := 108) X (dk dt_V_capture_3 5 rfl) (by decide) h (fun h => ?_) (fun h => ?_)
            · refine go_iconst X (dk dt_V_capture_3 13 rfl) ci_0 ?_
              exact go_iret rt (dk dt_V_capture_3 14 rfl) h (by decide)
            · refine go_aload_n X 2 (dk dt_V_capture_3 6 rfl) rfl rfl ?_
              refine go_getr X fo_X11_10 lC_0 sC_0 fC_0_0 (dk dt_V_capture_3 7 rfl) ?_
              refine go_getr X fo_X11_219 lC_1 sC_1 fC_1_3 (dk dt_V_capture_3 8 rfl) ?_
              refine go_iload X 0 (dk dt_V_capture_3 9 rfl) rfl ?_
              refine go_iald X lC_5 sC_5 (dk dt_V_capture_3 10 rfl) h (fun h => ?_)
              refine go_iconst X (dk dt_V_capture_3 11 rfl) ci_1 ?_
              refine go_icmp_ge (tgt := 110) X (dk dt_V_capture_3 12 rfl) (by decide) h (fun h => ?_) (fun h => ?_)
              · refine go_iload_n X 3 (dk dt_V_capture_3 15 rfl) rfl rfl ?_
                refine go_if_ne (tgt := 130) X (dk dt_V_capture_4 0 rfl) (by decide) h (fun h => ?_) (fun h => ?_)
                · refine go_aload_n X 2 (dk dt_V_capture_4 9 rfl) rfl rfl ?_
                  refine go_getr X fo_X11_25 lC_0 sC_0 fC_0_3 (dk dt_V_capture_4 10 rfl) ?_
                  refine go_aload_n X 2 (dk dt_V_capture_4 11 rfl) rfl rfl ?_
                  refine go_getr X fo_X11_10 lC_0 sC_0 fC_0_0 (dk dt_V_capture_4 12 rfl) ?_
                  refine go_iload_n X 5 (dk dt_V_capture_4 13 rfl) rfl rfl ?_
                  refine go_iload_n X 4 (dk dt_V_capture_4 14 rfl) rfl rfl ?_
                  refine go_Vi (As := [.ref 1, .int a3, .int a2]) (rest := []) X vo_X11_235 (fun q hq => ct_X9_sighted hi xc nx (by decide : isW 1 = true) hq) (by decide) rfl lC_19 sC_19 rfl rfl (Nat.le_of_ble_eq_true rfl) (dk dt_V_capture_4 15 rfl) h (fun q140 h => ?_)
                  refine go_sub [2, 1, 0] rfl ?_
                  exact lkJ_V_capture_143 hi xc nx X rt   h
                · refine go_aload_n X 2 (dk dt_V_capture_4 1 rfl) rfl rfl ?_
                  refine go_getr X fo_X11_25 lC_0 sC_0 fC_0_3 (dk dt_V_capture_4 2 rfl) ?_
                  refine go_aload_n X 2 (dk dt_V_capture_4 3 rfl) rfl rfl ?_
                  refine go_getr X fo_X11_10 lC_0 sC_0 fC_0_0 (dk dt_V_capture_4 4 rfl) ?_
                  refine go_iload_n X 4 (dk dt_V_capture_4 5 rfl) rfl rfl ?_
                  refine go_iload_n X 5 (dk dt_V_capture_4 6 rfl) rfl rfl ?_
                  refine go_Vi (As := [.ref 1, .int a2, .int a3]) (rest := []) X vo_X11_235 (fun q hq => ct_X9_sighted hi xc nx (by decide : isW 1 = true) hq) (by decide) rfl lC_19 sC_19 rfl rfl (Nat.le_of_ble_eq_true rfl) (dk dt_V_capture_4 7 rfl) h (fun q124 h => ?_)
                  refine go_goto (tgt := 143) X (dk dt_V_capture_4 8 rfl) (by decide) ?_
                  refine go_sub [2, 1, 0] rfl ?_
                  exact lkJ_V_capture_143 hi xc nx X rt   h
              · refine go_iconst X (dk dt_V_capture_3 13 rfl) ci_0 ?_
                exact go_iret rt (dk dt_V_capture_3 14 rfl) h (by decide)
          · refine go_iconst X (dk dt_V_capture_2 13 rfl) ci_0 ?_
            exact go_iret rt (dk dt_V_capture_2 14 rfl) h (by decide)
      · refine go_iconst X (dk dt_V_capture_1 1 rfl) ci_0 ?_
        exact go_iret rt (dk dt_V_capture_1 2 rfl) h (by decide)
set_option maxRecDepth 20000 in
theorem ct_V_capture (hi : zInj wC v) (xc : XC wC v) (nx : NXC v)  {a1 : Int32} {a2 : Int32} {a3 : Int32} {σ : Hp}  {q : (Int32 × Hp)} (h : F_V_capture  a1 a2 a3 σ = some q) : Ct wC v l yX11_capture cX11_capture 7 (some .boolean) 8 [.ref 0, .int a1, .int a2, .int a3] σ (some (.int q.1)) q.2 :=
  Ct.intro true (by decide) hi xc (Nat.le_of_ble_eq_true rfl) rfl (fun p e R s m args below meth c Q X rt => lkF_V_capture hi xc nx X rt  h)
end
def T_X10_seat_0 : DT := [(0, .aload_n 0, 1), (1, .getfield 9, 3), (4, .iload_n 1, 1), (5, .iload_n 2, 1), (6, .iastore, 1), (7, .aload_n 0, 1), (8, .getfield 15, 3), (11, .iload_n 1, 1), (12, .iconst 0, 1), (13, .iastore, 1), (14, .aload_n 0, 1), (15, .getfield 18, 3), (18, .iload_n 1, 1), (19, .iload_n 3, 1), (20, .iastore, 1), (21, .aload_n 0, 1)]
theorem dt_X10_seat_0 : dOk cX10_seat T_X10_seat_0 := by unfold dOk; decide +kernel
def T_X10_seat_1 : DT := [(22, .getfield 21, 3), (25, .iload_n 1, 1), (26, .iload 4, 2), (28, .iastore, 1), (29, .aload_n 0, 1), (30, .getfield 24, 3), (33, .iload_n 1, 1), (34, .iconst 0, 1), (35, .iastore, 1), (36, .return_, 1)]
theorem dt_X10_seat_1 : dOk cX10_seat T_X10_seat_1 := by unfold dOk; decide +kernel
section
variable {v : ZV} {l : Launch} {p : Program} {e : Env} {R : Room} {s : State} {m : MethodId} {args : Array Value} {below : List Frame} {meth : Method} {c : Code} {Q : State → Prop} {res : Hp} 
set_option maxRecDepth 20000 in
theorem lkF_X10_seat (hi : zInj wC v) (xc : XC wC v) (nx : NXC v) (X : Cx wC v p R s m args c 0 0 cX10_seat 5 RX10 2) (rt : Rt wC v p l e R s m args below meth c 0 0 Q cX10_seat false none res) {t : Nat} {a1 : Int32} {a2 : Int32} {a3 : Int32} {a4 : Int32} {σ : Hp} (ht : isW t = true) (h : F_X10_seat  t a1 a2 a3 a4 σ = some res) : Go wC v p l e R s m args below meth c 0 0 Q 5 0 [(0, .ref t), (1, .int a1), (2, .int a2), (3, .int a3), (4, .int a4)] [] σ := by
  unfold F_X10_seat at h
  refine go_aload_n X 0 (dk dt_X10_seat_0 0 rfl) rfl rfl ?_
  refine go_getr X fo_X10_9 (lW ht) (sW ht) (fW_0 ht) (dk dt_X10_seat_0 1 rfl) ?_
  refine go_iload_n X 1 (dk dt_X10_seat_0 2 rfl) rfl rfl ?_
  refine go_iload_n X 2 (dk dt_X10_seat_0 3 rfl) rfl rfl ?_
  refine go_iast X (lWa_1 ht) (sWa_1 ht) (dk dt_X10_seat_0 4 rfl) h (fun h => ?_)
  refine go_aload_n X 0 (dk dt_X10_seat_0 5 rfl) rfl rfl ?_
  refine go_getr X fo_X10_15 (lW ht) (sW ht) (fW_1 ht) (dk dt_X10_seat_0 6 rfl) ?_
  refine go_iload_n X 1 (dk dt_X10_seat_0 7 rfl) rfl rfl ?_
  refine go_iconst X (dk dt_X10_seat_0 8 rfl) ci_0 ?_
  refine go_iast X (lWa_2 ht) (sWa_2 ht) (dk dt_X10_seat_0 9 rfl) h (fun h => ?_)
  refine go_aload_n X 0 (dk dt_X10_seat_0 10 rfl) rfl rfl ?_
  refine go_getr X fo_X10_18 (lW ht) (sW ht) (fW_2 ht) (dk dt_X10_seat_0 11 rfl) ?_
  refine go_iload_n X 1 (dk dt_X10_seat_0 12 rfl) rfl rfl ?_
  refine go_iload_n X 3 (dk dt_X10_seat_0 13 rfl) rfl rfl ?_
  refine go_iast X (lWa_3 ht) (sWa_3 ht) (dk dt_X10_seat_0 14 rfl) h (fun h => ?_)
  refine go_aload_n X 0 (dk dt_X10_seat_0 15 rfl) rfl rfl ?_
  refine go_getr X fo_X10_21 (lW ht) (sW ht) (fW_3 ht) (dk dt_X10_seat_1 0 rfl) ?_
  refine go_iload_n X 1 (dk dt_X10_seat_1 1 rfl) rfl rfl ?_
  refine go_iload X 4 (dk dt_X10_seat_1 2 rfl) rfl ?_
  refine go_iast X (lWa_4 ht) (sWa_4 ht) (dk dt_X10_seat_1 3 rfl) h (fun h => ?_)
  refine go_aload_n X 0 (dk dt_X10_seat_1 4 rfl) rfl rfl ?_
  refine go_getr X fo_X10_24 (lW ht) (sW ht) (fW_4 ht) (dk dt_X10_seat_1 5 rfl) ?_
  refine go_iload_n X 1 (dk dt_X10_seat_1 6 rfl) rfl rfl ?_
  refine go_iconst X (dk dt_X10_seat_1 7 rfl) ci_0 ?_
  refine go_iast X (lWa_5 ht) (sWa_5 ht) (dk dt_X10_seat_1 8 rfl) h (fun h => ?_)
  exact go_vret rt (dk dt_X10_seat_1 9 rfl) h
set_option maxRecDepth 20000 in
theorem ct_X10_seat (hi : zInj wC v) (xc : XC wC v) (nx : NXC v)  {t : Nat} {a1 : Int32} {a2 : Int32} {a3 : Int32} {a4 : Int32} {σ : Hp} (ht : isW t = true) {q : Hp} (h : F_X10_seat  t a1 a2 a3 a4 σ = some q) : Ct wC v l yX10_seat cX10_seat 5 none 2 [.ref t, .int a1, .int a2, .int a3, .int a4] σ none q :=
  Ct.intro false (by decide) hi xc (Nat.le_of_ble_eq_true rfl) rfl (fun p e R s m args below meth c Q X rt => lkF_X10_seat hi xc nx X rt ht h)
end
def T_V_chair_0 : DT := [(0, .iload_n 1, 1), (1, .iload_n 2, 1), (2, .invokestatic 115, 3), (5, .ifCond .eq 35, 3), (8, .iload_n 3, 1), (9, .iconst 0, 1), (10, .bipush 9, 2), (12, .invokestatic 119, 3), (15, .ifCond .eq 25, 3), (18, .iload 4, 2), (20, .iconst 0, 1), (21, .bipush 99, 2), (23, .invokestatic 119, 3), (26, .ifCond .eq 14, 3), (29, .iload 5, 2), (31, .iconst 0, 1)]
theorem dt_V_chair_0 : dOk cX11_chair T_V_chair_0 := by unfold dOk; decide +kernel
def T_V_chair_1 : DT := [(32, .bipush 9, 2), (34, .invokestatic 119, 3), (37, .ifCond .ne 5, 3), (40, .iconst 0, 1), (41, .ireturn, 1), (42, .aload_n 0, 1), (43, .getfield 10, 3), (46, .iload_n 1, 1), (47, .bipush 8, 2), (49, .imul, 1), (50, .iload_n 2, 1), (51, .iadd, 1), (52, .iload_n 3, 1), (53, .iload 4, 2), (55, .iload 5, 2), (57, .invokevirtual 123, 3)]
theorem dt_V_chair_1 : dOk cX11_chair T_V_chair_1 := by unfold dOk; decide +kernel
def T_V_chair_2 : DT := [(60, .aload_n 0, 1), (61, .getfield 10, 3), (64, .iconst 0, 1), (65, .putfield 127, 3), (68, .iconst 1, 1), (69, .ireturn, 1)]
theorem dt_V_chair_2 : dOk cX11_chair T_V_chair_2 := by unfold dOk; decide +kernel
section
variable {v : ZV} {l : Launch} {p : Program} {e : Env} {R : Room} {s : State} {m : MethodId} {args : Array Value} {below : List Frame} {meth : Method} {c : Code} {Q : State → Prop} {res : (Int32 × Hp)} 
set_option maxRecDepth 20000 in
theorem lkF_V_chair (hi : zInj wC v) (xc : XC wC v) (nx : NXC v) (X : Cx wC v p R s m args c 0 0 cX11_chair 6 RX11 6) (rt : Rt wC v p l e R s m args below meth c 0 0 Q cX11_chair true (some (.int res.1)) res.2) {a1 : Int32} {a2 : Int32} {a3 : Int32} {a4 : Int32} {a5 : Int32} {σ : Hp}  (h : F_V_chair  a1 a2 a3 a4 a5 σ = some res) : Go wC v p l e R s m args below meth c 0 0 Q 6 0 [(0, .ref 0), (1, .int a1), (2, .int a2), (3, .int a3), (4, .int a4), (5, .int a5)] [] σ := by
  unfold F_V_chair at h
  refine go_iload_n X 1 (dk dt_V_chair_0 0 rfl) rfl rfl ?_
  refine go_iload_n X 2 (dk dt_V_chair_0 1 rfl) rfl rfl ?_
  refine go_Si (As := [.int a1, .int a2]) (rest := []) X so_X11_115 (fun q hq => ct_V_isChair hi xc nx  hq) (by decide) rfl rfl (Nat.le_of_ble_eq_true rfl) (dk dt_V_chair_0 2 rfl) h (fun q2 h => ?_)
  refine go_if_eq (tgt := 40) X (dk dt_V_chair_0 3 rfl) (by decide) h (fun h => ?_) (fun h => ?_)
  · refine go_iconst X (dk dt_V_chair_1 3 rfl) ci_0 ?_
    exact go_iret rt (dk dt_V_chair_1 4 rfl) h (by decide)
  · refine go_iload_n X 3 (dk dt_V_chair_0 4 rfl) rfl rfl ?_
    refine go_iconst X (dk dt_V_chair_0 5 rfl) ci_0 ?_
    refine go_bipush X (dk dt_V_chair_0 6 rfl) cb_9 ?_
    refine go_Si (As := [.int a3, .int (0 : Int32), .int (9 : Int32)]) (rest := []) X so_X11_119 (fun q hq => ct_V_within hi xc nx  hq) (by decide) rfl rfl (Nat.le_of_ble_eq_true rfl) (dk dt_V_chair_0 7 rfl) h (fun q12 h => ?_)
    refine go_if_eq (tgt := 40) X (dk dt_V_chair_0 8 rfl) (by decide) h (fun h => ?_) (fun h => ?_)
    · refine go_iconst X (dk dt_V_chair_1 3 rfl) ci_0 ?_
      exact go_iret rt (dk dt_V_chair_1 4 rfl) h (by decide)
    · refine go_iload X 4 (dk dt_V_chair_0 9 rfl) rfl ?_
      refine go_iconst X (dk dt_V_chair_0 10 rfl) ci_0 ?_
      refine go_bipush X (dk dt_V_chair_0 11 rfl) cb_99 ?_
      refine go_Si (As := [.int a4, .int (0 : Int32), .int (99 : Int32)]) (rest := []) X so_X11_119 (fun q hq => ct_V_within hi xc nx  hq) (by decide) rfl rfl (Nat.le_of_ble_eq_true rfl) (dk dt_V_chair_0 12 rfl) h (fun q23 h => ?_)
      refine go_if_eq (tgt := 40) X (dk dt_V_chair_0 13 rfl) (by decide) h (fun h => ?_) (fun h => ?_)
      · refine go_iconst X (dk dt_V_chair_1 3 rfl) ci_0 ?_
        exact go_iret rt (dk dt_V_chair_1 4 rfl) h (by decide)
      · refine go_iload X 5 (dk dt_V_chair_0 14 rfl) rfl ?_
        refine go_iconst X (dk dt_V_chair_0 15 rfl) ci_0 ?_
        refine go_bipush X (dk dt_V_chair_1 0 rfl) cb_9 ?_
        refine go_Si (As := [.int a5, .int (0 : Int32), .int (9 : Int32)]) (rest := []) X so_X11_119 (fun q hq => ct_V_within hi xc nx  hq) (by decide) rfl rfl (Nat.le_of_ble_eq_true rfl) (dk dt_V_chair_1 1 rfl) h (fun q34 h => ?_)
        refine go_if_ne (tgt := 42) X (dk dt_V_chair_1 2 rfl) (by decide) h (fun h => ?_) (fun h => ?_)
        · refine go_aload_n X 0 (dk dt_V_chair_1 5 rfl) rfl rfl ?_
          refine go_getr X fo_X11_10 lC_0 sC_0 fC_0_0 (dk dt_V_chair_1 6 rfl) ?_
          refine go_iload_n X 1 (dk dt_V_chair_1 7 rfl) rfl rfl ?_
          refine go_bipush X (dk dt_V_chair_1 8 rfl) cb_8 ?_
          refine go_imul X (dk dt_V_chair_1 9 rfl) ?_
          refine go_iload_n X 2 (dk dt_V_chair_1 10 rfl) rfl rfl ?_
          refine go_iadd X (dk dt_V_chair_1 11 rfl) ?_
          refine go_iload_n X 3 (dk dt_V_chair_1 12 rfl) rfl rfl ?_
          refine go_iload X 4 (dk dt_V_chair_1 13 rfl) rfl ?_
          refine go_iload X 5 (dk dt_V_chair_1 14 rfl) rfl ?_
          refine go_Vv (As := [.int ((a1 * (8 : Int32)) + a2), .int a3, .int a4, .int a5]) (rest := []) X vo_X11_123 (fun q hq => ct_X10_seat hi xc nx (by decide : isW 1 = true) hq) (by decide) rfl lC_1 sC_1 rfl rfl (Nat.le_of_ble_eq_true rfl) (dk dt_V_chair_1 15 rfl) h (fun q57 h => ?_)
          refine go_aload_n X 0 (dk dt_V_chair_2 0 rfl) rfl rfl ?_
          refine go_getr X fo_X11_10 lC_0 sC_0 fC_0_0 (dk dt_V_chair_2 1 rfl) ?_
          refine go_iconst X (dk dt_V_chair_2 2 rfl) ci_0 ?_
          refine go_puti X fo_X11_127 pf_10_8 lC_1 sC_1 fC_1_8 (dk dt_V_chair_2 3 rfl) ?_
          refine go_iconst X (dk dt_V_chair_2 4 rfl) ci_1 ?_
          exact go_iret rt (dk dt_V_chair_2 5 rfl) h (by decide)
        · refine go_iconst X (dk dt_V_chair_1 3 rfl) ci_0 ?_
          exact go_iret rt (dk dt_V_chair_1 4 rfl) h (by decide)
set_option maxRecDepth 20000 in
theorem ct_V_chair (hi : zInj wC v) (xc : XC wC v) (nx : NXC v)  {a1 : Int32} {a2 : Int32} {a3 : Int32} {a4 : Int32} {a5 : Int32} {σ : Hp}  {q : (Int32 × Hp)} (h : F_V_chair  a1 a2 a3 a4 a5 σ = some q) : Ct wC v l yX11_chair cX11_chair 6 (some .boolean) 6 [.ref 0, .int a1, .int a2, .int a3, .int a4, .int a5] σ (some (.int q.1)) q.2 :=
  Ct.intro true (by decide) hi xc (Nat.le_of_ble_eq_true rfl) rfl (fun p e R s m args below meth c Q X rt => lkF_V_chair hi xc nx X rt  h)
end
def T_J7_fill_0 : DT := [(0, .iconst 0, 1), (1, .istore_n 2, 1), (2, .aload_n 0, 1), (3, .arraylength, 1), (4, .istore_n 3, 1), (5, .iload_n 2, 1), (6, .iload_n 3, 1), (7, .if_icmp .ge 13, 3), (10, .aload_n 0, 1), (11, .iload_n 2, 1), (12, .iload_n 1, 1), (13, .iastore, 1), (14, .iinc 2 1, 3), (17, .goto (-12), 3), (20, .return_, 1)]
theorem dt_J7_fill_0 : dOk cJ7_fill_53178 T_J7_fill_0 := by unfold dOk; decide +kernel
section
variable {v : ZV} {l : Launch} {p : Program} {e : Env} {R : Room} {s : State} {m : MethodId} {args : Array Value} {below : List Frame} {meth : Method} {c : Code} {Q : State → Prop} {res : Hp} 
set_option maxRecDepth 20000 in
theorem lkB_J7_fill_5 (hi : zInj wC v) (xc : XC wC v) (nx : NXC v) (X : Cx wC v p R s m args c 0 0 cJ7_fill_53178 4 RJ7 2) (rt : Rt wC v p l e R s m args below meth c 0 0 Q cJ7_fill_53178 false none res) {k5 : Nat → Nat → Int32 → Int32 → Int32 → Hp → Option Hp} {r0 : Nat} {r0n : Nat} {x1 : Int32} {x2 : Int32} {x3 : Int32} {σ : Hp} (hr0 : r0 < wC.1) (hr0n : wC.2.1 r0 = (0, r0n)) (hk5 : ∀ (r0 : Nat) (r0n : Nat) (x1 : Int32) (x2 : Int32) (x3 : Int32) (σ : Hp), (hr0 : r0 < wC.1) → (hr0n : wC.2.1 r0 = (0, r0n)) → k5 r0 r0n x1 x2 x3 σ = some res → Go wC v p l e R s m args below meth c 0 0 Q 4 5 [(0, .ref r0), (1, .int x1), (2, .int x2), (3, .int x3)] [] σ) (h : B_J7_fill_5  k5 r0 r0n x1 x2 x3 σ = some res) : Go wC v p l e R s m args below meth c 0 0 Q 4 5 [(0, .ref r0), (1, .int x1), (2, .int x2), (3, .int x3)] [] σ := by
  unfold B_J7_fill_5 at h
  refine go_iload_n X 2 (dk dt_J7_fill_0 5 rfl) rfl rfl ?_
  refine go_iload_n X 3 (dk dt_J7_fill_0 6 rfl) rfl rfl ?_
  refine go_icmp_ge (tgt := 20) X (dk dt_J7_fill_0 7 rfl) (by decide) h (fun h => ?_) (fun h => ?_)
  · exact go_vret rt (dk dt_J7_fill_0 14 rfl) h
  · refine go_aload_n X 0 (dk dt_J7_fill_0 8 rfl) rfl rfl ?_
    refine go_iload_n X 2 (dk dt_J7_fill_0 9 rfl) rfl rfl ?_
    refine go_iload_n X 1 (dk dt_J7_fill_0 10 rfl) rfl rfl ?_
    refine go_iast X hr0 hr0n (dk dt_J7_fill_0 11 rfl) h (fun h => ?_)
    refine go_iinc (lv' := [(2, .int (x2 + (1 : Int32))), (0, .ref r0), (1, .int x1), (3, .int x3)]) X 2 (dk dt_J7_fill_0 12 rfl) rfl ci_1 (by decide) rfl ?_
    refine go_goto (tgt := 5) X (dk dt_J7_fill_0 13 rfl) (by decide) ?_
    refine go_sub [1, 2, 0, 3] rfl ?_
    exact hk5 _ _ _ _ _ _ hr0 hr0n h
set_option maxRecDepth 20000 in
theorem lkL_J7_fill_5 (hi : zInj wC v) (xc : XC wC v) (nx : NXC v) (X : Cx wC v p R s m args c 0 0 cJ7_fill_53178 4 RJ7 2) (rt : Rt wC v p l e R s m args below meth c 0 0 Q cJ7_fill_53178 false none res)   (n : Nat) : ∀ {r0 : Nat} {r0n : Nat} {x1 : Int32} {x2 : Int32} {x3 : Int32} {σ : Hp}, (hr0 : r0 < wC.1) → (hr0n : wC.2.1 r0 = (0, r0n)) → L_J7_fill_5   n r0 r0n x1 x2 x3 σ = some res → Go wC v p l e R s m args below meth c 0 0 Q 4 5 [(0, .ref r0), (1, .int x1), (2, .int x2), (3, .int x3)] [] σ := by
  induction n with
  | zero => intro r0 r0n x1 x2 x3 σ hr0 hr0n h; cases h
  | succ n ih =>
    intro r0 r0n x1 x2 x3 σ hr0 hr0n h
    exact lkB_J7_fill_5 hi xc nx X rt hr0 hr0n (fun _ _ _ _ _ _ hq0 hq1 hh => ih hq0 hq1 hh) h
set_option maxRecDepth 20000 in
theorem lkF_J7_fill (hi : zInj wC v) (xc : XC wC v) (nx : NXC v) (X : Cx wC v p R s m args c 0 0 cJ7_fill_53178 4 RJ7 2) (rt : Rt wC v p l e R s m args below meth c 0 0 Q cJ7_fill_53178 false none res) {a0 : Nat} {a0n : Nat} {a1 : Int32} {σ : Hp} (ha0 : a0 < wC.1) (ha0n : wC.2.1 a0 = (0, a0n)) (h : F_J7_fill  a0 a0n a1 σ = some res) : Go wC v p l e R s m args below meth c 0 0 Q 4 0 [(0, .ref a0), (1, .int a1)] [] σ := by
  unfold F_J7_fill at h
  refine go_iconst X (dk dt_J7_fill_0 0 rfl) ci_0 ?_
  refine go_istore_n (lv' := [(2, .int (0 : Int32)), (0, .ref a0), (1, .int a1)]) X (dk dt_J7_fill_0 1 rfl) rfl (by decide) rfl ?_
  refine go_aload_n X 1 (dk dt_J7_fill_0 2 rfl) rfl rfl ?_
  refine go_ialen X ha0 ha0n rfl (dk dt_J7_fill_0 3 rfl) ?_
  refine go_istore_n (lv' := [(3, .int (Int32.ofNat a0n)), (2, .int (0 : Int32)), (0, .ref a0), (1, .int a1)]) X (dk dt_J7_fill_0 4 rfl) rfl (by decide) rfl ?_
  refine go_sub [2, 3, 1, 0] rfl ?_
  exact lkL_J7_fill_5 hi xc nx X rt  FU ha0 ha0n h
set_option maxRecDepth 20000 in
theorem ct_J7_fill (hi : zInj wC v) (xc : XC wC v) (nx : NXC v)  {a0 : Nat} {a0n : Nat} {a1 : Int32} {σ : Hp} (ha0 : a0 < wC.1) (ha0n : wC.2.1 a0 = (0, a0n)) {q : Hp} (h : F_J7_fill  a0 a0n a1 σ = some q) : Ct wC v l yJ7_fill_53178 cJ7_fill_53178 4 none 2 [.ref a0, .int a1] σ none q :=
  Ct.intro false (by decide) hi xc (Nat.le_of_ble_eq_true rfl) rfl (fun p e R s m args below meth c Q X rt => lkF_J7_fill hi xc nx X rt ha0 ha0n h)
end
def T_X9_lookAround_0 : DT := [(0, .aload_n 0, 1), (1, .getfield 18, 3), (4, .iconst 0, 1), (5, .invokestatic 34, 3), (8, .iconst 0, 1), (9, .istore_n 2, 1), (10, .iload_n 2, 1), (11, .bipush 8, 2), (13, .if_icmp .ge 95, 3), (16, .iconst 0, 1), (17, .istore_n 3, 1), (18, .iload_n 3, 1), (19, .bipush 8, 2), (21, .if_icmp .ge 81, 3), (24, .aload_n 1, 1), (25, .getfield 40, 3)]
theorem dt_X9_lookAround_0 : dOk cX9_lookAround T_X9_lookAround_0 := by unfold dOk; decide +kernel
def T_X9_lookAround_1 : DT := [(28, .iload_n 2, 1), (29, .iaload, 1), (30, .iconst 3, 1), (31, .if_icmp .eq 20, 3), (34, .aload_n 1, 1), (35, .getfield 40, 3), (38, .bipush 8, 2), (40, .iload_n 3, 1), (41, .iadd, 1), (42, .iaload, 1), (43, .iconst 3, 1), (44, .if_icmp .eq 7, 3), (47, .iconst 1, 1), (48, .goto 4, 3), (51, .iconst 0, 1), (52, .istore 4, 2)]
theorem dt_X9_lookAround_1 : dOk cX9_lookAround T_X9_lookAround_1 := by unfold dOk; decide +kernel
def T_X9_lookAround_2 : DT := [(54, .iload 4, 2), (56, .ifCond .eq 40, 3), (59, .aload_n 0, 1), (60, .aload_n 1, 1), (61, .iload_n 2, 1), (62, .iload_n 3, 1), (63, .invokevirtual 43, 3), (66, .ifCond .eq 30, 3), (69, .aload_n 0, 1), (70, .getfield 18, 3), (73, .iload_n 2, 1), (74, .dup2, 1), (75, .iaload, 1), (76, .iconst 1, 1), (77, .iload_n 3, 1), (78, .ishl, 1)]
theorem dt_X9_lookAround_2 : dOk cX9_lookAround T_X9_lookAround_2 := by unfold dOk; decide +kernel
def T_X9_lookAround_3 : DT := [(79, .ior, 1), (80, .iastore, 1), (81, .aload_n 0, 1), (82, .getfield 18, 3), (85, .bipush 8, 2), (87, .iload_n 3, 1), (88, .iadd, 1), (89, .dup2, 1), (90, .iaload, 1), (91, .iconst 1, 1), (92, .iload_n 2, 1), (93, .ishl, 1), (94, .ior, 1), (95, .iastore, 1), (96, .iinc 3 1, 3), (99, .goto (-81), 3)]
theorem dt_X9_lookAround_3 : dOk cX9_lookAround T_X9_lookAround_3 := by unfold dOk; decide +kernel
def T_X9_lookAround_4 : DT := [(102, .iinc 2 1, 3), (105, .goto (-95), 3), (108, .return_, 1)]
theorem dt_X9_lookAround_4 : dOk cX9_lookAround T_X9_lookAround_4 := by unfold dOk; decide +kernel
section
variable {v : ZV} {l : Launch} {p : Program} {e : Env} {R : Room} {s : State} {m : MethodId} {args : Array Value} {below : List Frame} {meth : Method} {c : Code} {Q : State → Prop} {res : Hp} 
set_option maxRecDepth 20000 in
theorem lkJ_X9_lookAround_52 (hi : zInj wC v) (xc : XC wC v) (nx : NXC v) (X : Cx wC v p R s m args c 0 0 cX9_lookAround 5 RX9 6) (rt : Rt wC v p l e R s m args below meth c 0 0 Q cX9_lookAround false none res) {k18 : Nat → Int32 → Int32 → Hp → Option Hp} {r1 : Nat} {x2 : Int32} {x3 : Int32} {s0 : Int32} {σ : Hp} (hr1 : isW r1 = true) (hk18 : ∀ (r1 : Nat) (x2 : Int32) (x3 : Int32) (σ : Hp), (hr1 : isW r1 = true) → k18 r1 x2 x3 σ = some res → Go wC v p l e R s m args below meth c 0 0 Q 5 18 [(0, .ref 19), (1, .ref r1), (2, .int x2), (3, .int x3)] [] σ) (h : J_X9_lookAround_52  k18 r1 x2 x3 s0 σ = some res) : Go wC v p l e R s m args below meth c 0 0 Q 5 52 [(0, .ref 19), (1, .ref r1), (2, .int x2), (3, .int x3)] [.int s0] σ := by
  unfold J_X9_lookAround_52 at h
  refine go_istore (lv' := [(4, .int s0), (0, .ref 19), (1, .ref r1), (2, .int x2), (3, .int x3)]) X (dk dt_X9_lookAround_1 15 rfl) (by decide) rfl ?_
  refine go_iload X 0 (dk dt_X9_lookAround_2 0 rfl) rfl ?_
  refine go_if_eq (tgt := 96) X (dk dt_X9_lookAround_2 1 rfl) (by decide) h (fun h => ?_) (fun h => ?_)
  · refine go_iinc (lv' := [(3, .int (x3 + (1 : Int32))), (4, .int s0), (0, .ref 19), (1, .ref r1), (2, .int x2)]) X 4 (dk dt_X9_lookAround_3 14 rfl) rfl ci_1 (by decide) rfl ?_
    refine go_goto (tgt := 18) X (dk dt_X9_lookAround_3 15 rfl) (by decide) ?_
    refine go_sub [2, 3, 4, 0] rfl ?_
    exact hk18 _ _ _ _ hr1 h
  · refine go_aload_n X 1 (dk dt_X9_lookAround_2 2 rfl) rfl rfl ?_
    refine go_aload_n X 2 (dk dt_X9_lookAround_2 3 rfl) rfl rfl ?_
    refine go_iload_n X 3 (dk dt_X9_lookAround_2 4 rfl) rfl rfl ?_
    refine go_iload_n X 4 (dk dt_X9_lookAround_2 5 rfl) rfl rfl ?_
    refine go_Vi (As := [.ref r1, .int x2, .int x3]) (rest := []) X vo_X9_43 (fun q hq => ct_X9_sighted hi xc nx hr1 hq) (by decide) rfl lC_19 sC_19 rfl rfl (Nat.le_of_ble_eq_true rfl) (dk dt_X9_lookAround_2 6 rfl) h (fun q63 h => ?_)
    refine go_if_eq (tgt := 96) X (dk dt_X9_lookAround_2 7 rfl) (by decide) h (fun h => ?_) (fun h => ?_)
    · refine go_iinc (lv' := [(3, .int (x3 + (1 : Int32))), (4, .int s0), (0, .ref 19), (1, .ref r1), (2, .int x2)]) X 4 (dk dt_X9_lookAround_3 14 rfl) rfl ci_1 (by decide) rfl ?_
      refine go_goto (tgt := 18) X (dk dt_X9_lookAround_3 15 rfl) (by decide) ?_
      refine go_sub [2, 3, 4, 0] rfl ?_
      exact hk18 _ _ _ _ hr1 h
    · refine go_aload_n X 1 (dk dt_X9_lookAround_2 8 rfl) rfl rfl ?_
      refine go_getr X fo_X9_18 lC_19 sC_19 fC_19_2 (dk dt_X9_lookAround_2 9 rfl) ?_
      refine go_iload_n X 3 (dk dt_X9_lookAround_2 10 rfl) rfl rfl ?_
      refine go_dup2 X (dk dt_X9_lookAround_2 11 rfl) rfl rfl ?_
      refine go_iald X lC_22 sC_22 (dk dt_X9_lookAround_2 12 rfl) h (fun h => ?_)
      refine go_iconst X (dk dt_X9_lookAround_2 13 rfl) ci_1 ?_
      refine go_iload_n X 4 (dk dt_X9_lookAround_2 14 rfl) rfl rfl ?_
      refine go_ishl X (dk dt_X9_lookAround_2 15 rfl) ?_
      refine go_ior X (dk dt_X9_lookAround_3 0 rfl) ?_
      refine go_iast X lC_22 sC_22 (dk dt_X9_lookAround_3 1 rfl) h (fun h => ?_)
      refine go_aload_n X 1 (dk dt_X9_lookAround_3 2 rfl) rfl rfl ?_
      refine go_getr X fo_X9_18 lC_19 sC_19 fC_19_2 (dk dt_X9_lookAround_3 3 rfl) ?_
      refine go_bipush X (dk dt_X9_lookAround_3 4 rfl) cb_8 ?_
      refine go_iload_n X 4 (dk dt_X9_lookAround_3 5 rfl) rfl rfl ?_
      refine go_iadd X (dk dt_X9_lookAround_3 6 rfl) ?_
      refine go_dup2 X (dk dt_X9_lookAround_3 7 rfl) rfl rfl ?_
      refine go_iald X lC_22 sC_22 (dk dt_X9_lookAround_3 8 rfl) h (fun h => ?_)
      refine go_iconst X (dk dt_X9_lookAround_3 9 rfl) ci_1 ?_
      refine go_iload_n X 3 (dk dt_X9_lookAround_3 10 rfl) rfl rfl ?_
      refine go_ishl X (dk dt_X9_lookAround_3 11 rfl) ?_
      refine go_ior X (dk dt_X9_lookAround_3 12 rfl) ?_
      refine go_iast X lC_22 sC_22 (dk dt_X9_lookAround_3 13 rfl) h (fun h => ?_)
      refine go_iinc (lv' := [(3, .int (x3 + (1 : Int32))), (4, .int s0), (0, .ref 19), (1, .ref r1), (2, .int x2)]) X 4 (dk dt_X9_lookAround_3 14 rfl) rfl ci_1 (by decide) rfl ?_
      refine go_goto (tgt := 18) X (dk dt_X9_lookAround_3 15 rfl) (by decide) ?_
      refine go_sub [2, 3, 4, 0] rfl ?_
      exact hk18 _ _ _ _ hr1 h
set_option maxRecDepth 20000 in
theorem lkJ_X9_lookAround_51 (hi : zInj wC v) (xc : XC wC v) (nx : NXC v) (X : Cx wC v p R s m args c 0 0 cX9_lookAround 5 RX9 6) (rt : Rt wC v p l e R s m args below meth c 0 0 Q cX9_lookAround false none res) {k18 : Nat → Int32 → Int32 → Hp → Option Hp} {r1 : Nat} {x2 : Int32} {x3 : Int32} {σ : Hp} (hr1 : isW r1 = true) (hk18 : ∀ (r1 : Nat) (x2 : Int32) (x3 : Int32) (σ : Hp), (hr1 : isW r1 = true) → k18 r1 x2 x3 σ = some res → Go wC v p l e R s m args below meth c 0 0 Q 5 18 [(0, .ref 19), (1, .ref r1), (2, .int x2), (3, .int x3)] [] σ) (h : J_X9_lookAround_51  k18 r1 x2 x3 σ = some res) : Go wC v p l e R s m args below meth c 0 0 Q 5 51 [(0, .ref 19), (1, .ref r1), (2, .int x2), (3, .int x3)] [] σ := by
  unfold J_X9_lookAround_51 at h
  refine go_iconst X (dk dt_X9_lookAround_1 14 rfl) ci_0 ?_
  exact lkJ_X9_lookAround_52 hi xc nx X rt hr1 hk18 h
set_option maxRecDepth 20000 in
theorem lkB_X9_lookAround_18 (hi : zInj wC v) (xc : XC wC v) (nx : NXC v) (X : Cx wC v p R s m args c 0 0 cX9_lookAround 5 RX9 6) (rt : Rt wC v p l e R s m args below meth c 0 0 Q cX9_lookAround false none res) {k102 : Nat → Int32 → Hp → Option Hp} {k18 : Nat → Int32 → Int32 → Hp → Option Hp} {r1 : Nat} {x2 : Int32} {x3 : Int32} {σ : Hp} (hr1 : isW r1 = true) (hk102 : ∀ (r1 : Nat) (x2 : Int32) (σ : Hp), (hr1 : isW r1 = true) → k102 r1 x2 σ = some res → Go wC v p l e R s m args below meth c 0 0 Q 5 102 [(0, .ref 19), (1, .ref r1), (2, .int x2)] [] σ) (hk18 : ∀ (r1 : Nat) (x2 : Int32) (x3 : Int32) (σ : Hp), (hr1 : isW r1 = true) → k18 r1 x2 x3 σ = some res → Go wC v p l e R s m args below meth c 0 0 Q 5 18 [(0, .ref 19), (1, .ref r1), (2, .int x2), (3, .int x3)] [] σ) (h : B_X9_lookAround_18  k102 k18 r1 x2 x3 σ = some res) : Go wC v p l e R s m args below meth c 0 0 Q 5 18 [(0, .ref 19), (1, .ref r1), (2, .int x2), (3, .int x3)] [] σ := by
  unfold B_X9_lookAround_18 at h
  refine go_iload_n X 3 (dk dt_X9_lookAround_0 11 rfl) rfl rfl ?_
  refine go_bipush X (dk dt_X9_lookAround_0 12 rfl) cb_8 ?_
  refine go_icmp_ge (tgt := 102) X (dk dt_X9_lookAround_0 13 rfl) (by decide) h (fun h => ?_) (fun h => ?_)
  · refine go_sub [0, 1, 2] rfl ?_
    exact hk102 _ _ _ hr1 h
  · refine go_aload_n X 1 (dk dt_X9_lookAround_0 14 rfl) rfl rfl ?_
    refine go_getr X fo_X9_40 (lW hr1) (sW hr1) (fW_4 hr1) (dk dt_X9_lookAround_0 15 rfl) ?_
    refine go_iload_n X 2 (dk dt_X9_lookAround_1 0 rfl) rfl rfl ?_
    refine go_iald X (lWa_5 hr1) (sWa_5 hr1) (dk dt_X9_lookAround_1 1 rfl) h (fun h => ?_)
    refine go_iconst X (dk dt_X9_lookAround_1 2 rfl) ci_3 ?_
    refine go_icmp_eq (tgt := 51) X (dk dt_X9_lookAround_1 3 rfl) (by decide) h (fun h => ?_) (fun h => ?_)
    · exact lkJ_X9_lookAround_51 hi xc nx X rt hr1 hk18 h
    · refine go_aload_n X 1 (dk dt_X9_lookAround_1 4 rfl) rfl rfl ?_
      refine go_getr X fo_X9_40 (lW hr1) (sW hr1) (fW_4 hr1) (dk dt_X9_lookAround_1 5 rfl) ?_
      refine go_bipush X (dk dt_X9_lookAround_1 6 rfl) cb_8 ?_
      refine go_iload_n X 3 (dk dt_X9_lookAround_1 7 rfl) rfl rfl ?_
      refine go_iadd X (dk dt_X9_lookAround_1 8 rfl) ?_
      refine go_iald X (lWa_5 hr1) (sWa_5 hr1) (dk dt_X9_lookAround_1 9 rfl) h (fun h => ?_)
      refine go_iconst X (dk dt_X9_lookAround_1 10 rfl) ci_3 ?_
      refine go_icmp_eq (tgt := 51) X (dk dt_X9_lookAround_1 11 rfl) (by decide) h (fun h => ?_) (fun h => ?_)
      · exact lkJ_X9_lookAround_51 hi xc nx X rt hr1 hk18 h
      · refine go_iconst X (dk dt_X9_lookAround_1 12 rfl) ci_1 ?_
        refine go_goto (tgt := 52) X (dk dt_X9_lookAround_1 13 rfl) (by decide) ?_
        exact lkJ_X9_lookAround_52 hi xc nx X rt hr1 hk18 h
set_option maxRecDepth 20000 in
theorem lkL_X9_lookAround_18 (hi : zInj wC v) (xc : XC wC v) (nx : NXC v) (X : Cx wC v p R s m args c 0 0 cX9_lookAround 5 RX9 6) (rt : Rt wC v p l e R s m args below meth c 0 0 Q cX9_lookAround false none res) {k102 : Nat → Int32 → Hp → Option Hp} (hk102 : ∀ (r1 : Nat) (x2 : Int32) (σ : Hp), (hr1 : isW r1 = true) → k102 r1 x2 σ = some res → Go wC v p l e R s m args below meth c 0 0 Q 5 102 [(0, .ref 19), (1, .ref r1), (2, .int x2)] [] σ) (n : Nat) : ∀ {r1 : Nat} {x2 : Int32} {x3 : Int32} {σ : Hp}, (hr1 : isW r1 = true) → L_X9_lookAround_18  k102 n r1 x2 x3 σ = some res → Go wC v p l e R s m args below meth c 0 0 Q 5 18 [(0, .ref 19), (1, .ref r1), (2, .int x2), (3, .int x3)] [] σ := by
  induction n with
  | zero => intro r1 x2 x3 σ hr1 h; cases h
  | succ n ih =>
    intro r1 x2 x3 σ hr1 h
    exact lkB_X9_lookAround_18 hi xc nx X rt hr1 hk102 (fun _ _ _ _ hq0 hh => ih hq0 hh) h
set_option maxRecDepth 20000 in
theorem lkJ_X9_lookAround_102 (hi : zInj wC v) (xc : XC wC v) (nx : NXC v) (X : Cx wC v p R s m args c 0 0 cX9_lookAround 5 RX9 6) (rt : Rt wC v p l e R s m args below meth c 0 0 Q cX9_lookAround false none res) {k10 : Nat → Int32 → Hp → Option Hp} {r1 : Nat} {x2 : Int32} {σ : Hp} (hr1 : isW r1 = true) (hk10 : ∀ (r1 : Nat) (x2 : Int32) (σ : Hp), (hr1 : isW r1 = true) → k10 r1 x2 σ = some res → Go wC v p l e R s m args below meth c 0 0 Q 5 10 [(0, .ref 19), (1, .ref r1), (2, .int x2)] [] σ) (h : J_X9_lookAround_102  k10 r1 x2 σ = some res) : Go wC v p l e R s m args below meth c 0 0 Q 5 102 [(0, .ref 19), (1, .ref r1), (2, .int x2)] [] σ := by
  unfold J_X9_lookAround_102 at h
  refine go_iinc (lv' := [(2, .int (x2 + (1 : Int32))), (0, .ref 19), (1, .ref r1)]) X 2 (dk dt_X9_lookAround_4 0 rfl) rfl ci_1 (by decide) rfl ?_
  refine go_goto (tgt := 10) X (dk dt_X9_lookAround_4 1 rfl) (by decide) ?_
  refine go_sub [1, 2, 0] rfl ?_
  exact hk10 _ _ _ hr1 h
set_option maxRecDepth 20000 in
theorem lkB_X9_lookAround_10 (hi : zInj wC v) (xc : XC wC v) (nx : NXC v) (X : Cx wC v p R s m args c 0 0 cX9_lookAround 5 RX9 6) (rt : Rt wC v p l e R s m args below meth c 0 0 Q cX9_lookAround false none res) {k10 : Nat → Int32 → Hp → Option Hp} {r1 : Nat} {x2 : Int32} {σ : Hp} (hr1 : isW r1 = true) (hk10 : ∀ (r1 : Nat) (x2 : Int32) (σ : Hp), (hr1 : isW r1 = true) → k10 r1 x2 σ = some res → Go wC v p l e R s m args below meth c 0 0 Q 5 10 [(0, .ref 19), (1, .ref r1), (2, .int x2)] [] σ) (h : B_X9_lookAround_10  k10 r1 x2 σ = some res) : Go wC v p l e R s m args below meth c 0 0 Q 5 10 [(0, .ref 19), (1, .ref r1), (2, .int x2)] [] σ := by
  unfold B_X9_lookAround_10 at h
  refine go_iload_n X 2 (dk dt_X9_lookAround_0 6 rfl) rfl rfl ?_
  refine go_bipush X (dk dt_X9_lookAround_0 7 rfl) cb_8 ?_
  refine go_icmp_ge (tgt := 108) X (dk dt_X9_lookAround_0 8 rfl) (by decide) h (fun h => ?_) (fun h => ?_)
  · exact go_vret rt (dk dt_X9_lookAround_4 2 rfl) h
  · refine go_iconst X (dk dt_X9_lookAround_0 9 rfl) ci_0 ?_
    refine go_istore_n (lv' := [(3, .int (0 : Int32)), (0, .ref 19), (1, .ref r1), (2, .int x2)]) X (dk dt_X9_lookAround_0 10 rfl) rfl (by decide) rfl ?_
    refine go_sub [1, 2, 3, 0] rfl ?_
    exact lkL_X9_lookAround_18 hi xc nx X rt (fun _ _ _ hq0 hh => lkJ_X9_lookAround_102 hi xc nx X rt hq0 hk10 hh) FU hr1 h
set_option maxRecDepth 20000 in
theorem lkL_X9_lookAround_10 (hi : zInj wC v) (xc : XC wC v) (nx : NXC v) (X : Cx wC v p R s m args c 0 0 cX9_lookAround 5 RX9 6) (rt : Rt wC v p l e R s m args below meth c 0 0 Q cX9_lookAround false none res)   (n : Nat) : ∀ {r1 : Nat} {x2 : Int32} {σ : Hp}, (hr1 : isW r1 = true) → L_X9_lookAround_10   n r1 x2 σ = some res → Go wC v p l e R s m args below meth c 0 0 Q 5 10 [(0, .ref 19), (1, .ref r1), (2, .int x2)] [] σ := by
  induction n with
  | zero => intro r1 x2 σ hr1 h; cases h
  | succ n ih =>
    intro r1 x2 σ hr1 h
    exact lkB_X9_lookAround_10 hi xc nx X rt hr1 (fun _ _ _ hq0 hh => ih hq0 hh) h
set_option maxRecDepth 20000 in
theorem lkF_X9_lookAround (hi : zInj wC v) (xc : XC wC v) (nx : NXC v) (X : Cx wC v p R s m args c 0 0 cX9_lookAround 5 RX9 6) (rt : Rt wC v p l e R s m args below meth c 0 0 Q cX9_lookAround false none res) {a1 : Nat} {σ : Hp} (ha1 : isW a1 = true) (h : F_X9_lookAround  a1 σ = some res) : Go wC v p l e R s m args below meth c 0 0 Q 5 0 [(0, .ref 19), (1, .ref a1)] [] σ := by
  unfold F_X9_lookAround at h
  refine go_aload_n X 0 (dk dt_X9_lookAround_0 0 rfl) rfl rfl ?_
  refine go_getr X fo_X9_18 lC_19 sC_19 fC_19_2 (dk dt_X9_lookAround_0 1 rfl) ?_
  refine go_iconst X (dk dt_X9_lookAround_0 2 rfl) ci_0 ?_
  refine go_Sv (As := [.ref 22, .int (0 : Int32)]) (rest := []) X so_X9_34 (fun q hq => ct_J7_fill hi xc nx lC_22 sC_22 hq) (by decide) rfl rfl (Nat.le_of_ble_eq_true rfl) (dk dt_X9_lookAround_0 3 rfl) h (fun q5 h => ?_)
  refine go_iconst X (dk dt_X9_lookAround_0 4 rfl) ci_0 ?_
  refine go_istore_n (lv' := [(2, .int (0 : Int32)), (0, .ref 19), (1, .ref a1)]) X (dk dt_X9_lookAround_0 5 rfl) rfl (by decide) rfl ?_
  refine go_sub [1, 2, 0] rfl ?_
  exact lkL_X9_lookAround_10 hi xc nx X rt  FU ha1 h
set_option maxRecDepth 20000 in
theorem ct_X9_lookAround (hi : zInj wC v) (xc : XC wC v) (nx : NXC v)  {a1 : Nat} {σ : Hp} (ha1 : isW a1 = true) {q : Hp} (h : F_X9_lookAround  a1 σ = some q) : Ct wC v l yX9_lookAround cX9_lookAround 5 none 6 [.ref 19, .ref a1] σ none q :=
  Ct.intro false (by decide) hi xc (Nat.le_of_ble_eq_true rfl) rfl (fun p e R s m args below meth c Q X rt => lkF_X9_lookAround hi xc nx X rt ha1 h)
end
def T_X10_bits_0 : DT := [(0, .iconst 0, 1), (1, .istore_n 3, 1), (2, .iconst 0, 1), (3, .istore 4, 2), (5, .iload 4, 2), (7, .bipush 8, 2), (9, .if_icmp .ge 32, 3), (12, .aload_n 0, 1), (13, .getfield 24, 3), (16, .iload_n 1, 1), (17, .bipush 8, 2), (19, .imul, 1), (20, .iload 4, 2), (22, .iadd, 1), (23, .iaload, 1), (24, .iload_n 2, 1)]
theorem dt_X10_bits_0 : dOk cX10_bits T_X10_bits_0 := by unfold dOk; decide +kernel
def T_X10_bits_1 : DT := [(25, .if_icmp .ne 10, 3), (28, .iload_n 3, 1), (29, .iconst 1, 1), (30, .iload 4, 2), (32, .ishl, 1), (33, .ior, 1), (34, .istore_n 3, 1), (35, .iinc 4 1, 3), (38, .goto (-33), 3), (41, .iload_n 3, 1), (42, .ireturn, 1)]
theorem dt_X10_bits_1 : dOk cX10_bits T_X10_bits_1 := by unfold dOk; decide +kernel
section
variable {v : ZV} {l : Launch} {p : Program} {e : Env} {R : Room} {s : State} {m : MethodId} {args : Array Value} {below : List Frame} {meth : Method} {c : Code} {Q : State → Prop} {res : (Int32 × Hp)} 
set_option maxRecDepth 20000 in
theorem lkB_X10_bits_5 (hi : zInj wC v) (xc : XC wC v) (nx : NXC v) (X : Cx wC v p R s m args c 0 0 cX10_bits 5 RX10 2) (rt : Rt wC v p l e R s m args below meth c 0 0 Q cX10_bits false (some (.int res.1)) res.2) {k5 : Nat → Int32 → Int32 → Int32 → Int32 → Hp → Option (Int32 × Hp)} {r0 : Nat} {x1 : Int32} {x2 : Int32} {x3 : Int32} {x4 : Int32} {σ : Hp} (hr0 : isW r0 = true) (hk5 : ∀ (r0 : Nat) (x1 : Int32) (x2 : Int32) (x3 : Int32) (x4 : Int32) (σ : Hp), (hr0 : isW r0 = true) → k5 r0 x1 x2 x3 x4 σ = some res → Go wC v p l e R s m args below meth c 0 0 Q 5 5 [(0, .ref r0), (1, .int x1), (2, .int x2), (3, .int x3), (4, .int x4)] [] σ) (h : B_X10_bits_5  k5 r0 x1 x2 x3 x4 σ = some res) : Go wC v p l e R s m args below meth c 0 0 Q 5 5 [(0, .ref r0), (1, .int x1), (2, .int x2), (3, .int x3), (4, .int x4)] [] σ := by
  unfold B_X10_bits_5 at h
  refine go_iload X 4 (dk dt_X10_bits_0 4 rfl) rfl ?_
  refine go_bipush X (dk dt_X10_bits_0 5 rfl) cb_8 ?_
  refine go_icmp_ge (tgt := 41) X (dk dt_X10_bits_0 6 rfl) (by decide) h (fun h => ?_) (fun h => ?_)
  · refine go_iload_n X 3 (dk dt_X10_bits_1 9 rfl) rfl rfl ?_
    exact go_iret rt (dk dt_X10_bits_1 10 rfl) h (fun hh => nomatch hh)
  · refine go_aload_n X 0 (dk dt_X10_bits_0 7 rfl) rfl rfl ?_
    refine go_getr X fo_X10_24 (lW hr0) (sW hr0) (fW_4 hr0) (dk dt_X10_bits_0 8 rfl) ?_
    refine go_iload_n X 1 (dk dt_X10_bits_0 9 rfl) rfl rfl ?_
    refine go_bipush X (dk dt_X10_bits_0 10 rfl) cb_8 ?_
    refine go_imul X (dk dt_X10_bits_0 11 rfl) ?_
    refine go_iload X 4 (dk dt_X10_bits_0 12 rfl) rfl ?_
    refine go_iadd X (dk dt_X10_bits_0 13 rfl) ?_
    refine go_iald X (lWa_5 hr0) (sWa_5 hr0) (dk dt_X10_bits_0 14 rfl) h (fun h => ?_)
    refine go_iload_n X 2 (dk dt_X10_bits_0 15 rfl) rfl rfl ?_
    refine go_icmp_ne (tgt := 35) X (dk dt_X10_bits_1 0 rfl) (by decide) h (fun h => ?_) (fun h => ?_)
    · refine go_iinc (lv' := [(4, .int (x4 + (1 : Int32))), (0, .ref r0), (1, .int x1), (2, .int x2), (3, .int x3)]) X 4 (dk dt_X10_bits_1 7 rfl) rfl ci_1 (by decide) rfl ?_
      refine go_goto (tgt := 5) X (dk dt_X10_bits_1 8 rfl) (by decide) ?_
      refine go_sub [1, 2, 3, 4, 0] rfl ?_
      exact hk5 _ _ _ _ _ _ hr0 h
    · refine go_iload_n X 3 (dk dt_X10_bits_1 1 rfl) rfl rfl ?_
      refine go_iconst X (dk dt_X10_bits_1 2 rfl) ci_1 ?_
      refine go_iload X 4 (dk dt_X10_bits_1 3 rfl) rfl ?_
      refine go_ishl X (dk dt_X10_bits_1 4 rfl) ?_
      refine go_ior X (dk dt_X10_bits_1 5 rfl) ?_
      refine go_istore_n (lv' := [(3, .int (x3 ||| ((1 : Int32) <<< (x4 &&& 31)))), (0, .ref r0), (1, .int x1), (2, .int x2), (4, .int x4)]) X (dk dt_X10_bits_1 6 rfl) rfl (by decide) rfl ?_
      refine go_iinc (lv' := [(4, .int (x4 + (1 : Int32))), (3, .int (x3 ||| ((1 : Int32) <<< (x4 &&& 31)))), (0, .ref r0), (1, .int x1), (2, .int x2)]) X 4 (dk dt_X10_bits_1 7 rfl) rfl ci_1 (by decide) rfl ?_
      refine go_goto (tgt := 5) X (dk dt_X10_bits_1 8 rfl) (by decide) ?_
      refine go_sub [2, 3, 4, 1, 0] rfl ?_
      exact hk5 _ _ _ _ _ _ hr0 h
set_option maxRecDepth 20000 in
theorem lkL_X10_bits_5 (hi : zInj wC v) (xc : XC wC v) (nx : NXC v) (X : Cx wC v p R s m args c 0 0 cX10_bits 5 RX10 2) (rt : Rt wC v p l e R s m args below meth c 0 0 Q cX10_bits false (some (.int res.1)) res.2)   (n : Nat) : ∀ {r0 : Nat} {x1 : Int32} {x2 : Int32} {x3 : Int32} {x4 : Int32} {σ : Hp}, (hr0 : isW r0 = true) → L_X10_bits_5   n r0 x1 x2 x3 x4 σ = some res → Go wC v p l e R s m args below meth c 0 0 Q 5 5 [(0, .ref r0), (1, .int x1), (2, .int x2), (3, .int x3), (4, .int x4)] [] σ := by
  induction n with
  | zero => intro r0 x1 x2 x3 x4 σ hr0 h; cases h
  | succ n ih =>
    intro r0 x1 x2 x3 x4 σ hr0 h
    exact lkB_X10_bits_5 hi xc nx X rt hr0 (fun _ _ _ _ _ _ hq0 hh => ih hq0 hh) h
set_option maxRecDepth 20000 in
theorem lkF_X10_bits (hi : zInj wC v) (xc : XC wC v) (nx : NXC v) (X : Cx wC v p R s m args c 0 0 cX10_bits 5 RX10 2) (rt : Rt wC v p l e R s m args below meth c 0 0 Q cX10_bits false (some (.int res.1)) res.2) {t : Nat} {a1 : Int32} {a2 : Int32} {σ : Hp} (ht : isW t = true) (h : F_X10_bits  t a1 a2 σ = some res) : Go wC v p l e R s m args below meth c 0 0 Q 5 0 [(0, .ref t), (1, .int a1), (2, .int a2)] [] σ := by
  unfold F_X10_bits at h
  refine go_iconst X (dk dt_X10_bits_0 0 rfl) ci_0 ?_
  refine go_istore_n (lv' := [(3, .int (0 : Int32)), (0, .ref t), (1, .int a1), (2, .int a2)]) X (dk dt_X10_bits_0 1 rfl) rfl (by decide) rfl ?_
  refine go_iconst X (dk dt_X10_bits_0 2 rfl) ci_0 ?_
  refine go_istore (lv' := [(4, .int (0 : Int32)), (3, .int (0 : Int32)), (0, .ref t), (1, .int a1), (2, .int a2)]) X (dk dt_X10_bits_0 3 rfl) (by decide) rfl ?_
  refine go_sub [2, 3, 4, 1, 0] rfl ?_
  exact lkL_X10_bits_5 hi xc nx X rt  FU ht h
set_option maxRecDepth 20000 in
theorem ct_X10_bits (hi : zInj wC v) (xc : XC wC v) (nx : NXC v)  {t : Nat} {a1 : Int32} {a2 : Int32} {σ : Hp} (ht : isW t = true) {q : (Int32 × Hp)} (h : F_X10_bits  t a1 a2 σ = some q) : Ct wC v l yX10_bits cX10_bits 5 (some .int) 2 [.ref t, .int a1, .int a2] σ (some (.int q.1)) q.2 :=
  Ct.intro false (by decide) hi xc (Nat.le_of_ble_eq_true rfl) rfl (fun p e R s m args below meth c Q X rt => lkF_X10_bits hi xc nx X rt ht h)
end
def T_V_chairIs_0 : DT := [(0, .aload_n 0, 1), (1, .iload_n 1, 1), (2, .iload_n 2, 1), (3, .invokevirtual 210, 3), (6, .ifCond .ne 5, 3), (9, .iconst (-1), 1), (10, .ireturn, 1), (11, .iload_n 1, 1), (12, .bipush 8, 2), (14, .imul, 1), (15, .iload_n 2, 1), (16, .iadd, 1), (17, .istore 4, 2), (19, .iload_n 3, 1), (20, .tableswitch 152 0 6 #[44, 55, 66, 77, 88, 99, 133], 44), (64, .aload_n 0, 1)]
theorem dt_V_chairIs_0 : dOk cX11_chairIs T_V_chairIs_0 := by unfold dOk; decide +kernel
def T_V_chairIs_1 : DT := [(65, .getfield 10, 3), (68, .getfield 213, 3), (71, .iload 4, 2), (73, .iaload, 1), (74, .ireturn, 1), (75, .aload_n 0, 1), (76, .getfield 10, 3), (79, .getfield 201, 3), (82, .iload 4, 2), (84, .iaload, 1), (85, .ireturn, 1), (86, .aload_n 0, 1), (87, .getfield 10, 3), (90, .getfield 216, 3), (93, .iload 4, 2), (95, .iaload, 1)]
theorem dt_V_chairIs_1 : dOk cX11_chairIs T_V_chairIs_1 := by unfold dOk; decide +kernel
def T_V_chairIs_2 : DT := [(96, .ireturn, 1), (97, .aload_n 0, 1), (98, .getfield 10, 3), (101, .getfield 219, 3), (104, .iload 4, 2), (106, .iaload, 1), (107, .ireturn, 1), (108, .aload_n 0, 1), (109, .getfield 10, 3), (112, .getfield 198, 3), (115, .iload 4, 2), (117, .iaload, 1), (118, .ireturn, 1), (119, .aload_n 0, 1), (120, .getfield 25, 3), (123, .aload_n 0, 1)]
theorem dt_V_chairIs_2 : dOk cX11_chairIs T_V_chairIs_2 := by unfold dOk; decide +kernel
def T_V_chairIs_3 : DT := [(124, .getfield 10, 3), (127, .invokevirtual 222, 3), (130, .aload_n 0, 1), (131, .getfield 25, 3), (134, .getfield 225, 3), (137, .iload 4, 2), (139, .iaload, 1), (140, .aload_n 0, 1), (141, .getfield 10, 3), (144, .iconst 1, 1), (145, .iload_n 1, 1), (146, .isub, 1), (147, .iconst 0, 1), (148, .invokevirtual 228, 3), (151, .iand, 1), (152, .ireturn, 1)]
theorem dt_V_chairIs_3 : dOk cX11_chairIs T_V_chairIs_3 := by unfold dOk; decide +kernel
def T_V_chairIs_4 : DT := [(153, .aload_n 0, 1), (154, .getfield 25, 3), (157, .iload_n 1, 1), (158, .aload_n 0, 1), (159, .getfield 10, 3), (162, .getfield 219, 3), (165, .iload 4, 2), (167, .iaload, 1), (168, .invokevirtual 232, 3), (171, .ireturn, 1), (172, .iconst (-1), 1), (173, .ireturn, 1)]
theorem dt_V_chairIs_4 : dOk cX11_chairIs T_V_chairIs_4 := by unfold dOk; decide +kernel
section
variable {v : ZV} {l : Launch} {p : Program} {e : Env} {R : Room} {s : State} {m : MethodId} {args : Array Value} {below : List Frame} {meth : Method} {c : Code} {Q : State → Prop} {res : (Int32 × Hp)} 
set_option maxRecDepth 20000 in
theorem lkF_V_chairIs (hi : zInj wC v) (xc : XC wC v) (nx : NXC v) (X : Cx wC v p R s m args c 0 0 cX11_chairIs 5 RX11 8) (rt : Rt wC v p l e R s m args below meth c 0 0 Q cX11_chairIs false (some (.int res.1)) res.2) {a1 : Int32} {a2 : Int32} {a3 : Int32} {σ : Hp}  (h : F_V_chairIs  a1 a2 a3 σ = some res) : Go wC v p l e R s m args below meth c 0 0 Q 5 0 [(0, .ref 0), (1, .int a1), (2, .int a2), (3, .int a3)] [] σ := by
  unfold F_V_chairIs at h
  refine go_aload_n X 0 (dk dt_V_chairIs_0 0 rfl) rfl rfl ?_
  refine go_iload_n X 1 (dk dt_V_chairIs_0 1 rfl) rfl rfl ?_
  refine go_iload_n X 2 (dk dt_V_chairIs_0 2 rfl) rfl rfl ?_
  refine go_Vi (As := [.int a1, .int a2]) (rest := []) X vo_X11_210 (fun q hq => ct_V_isGentleman hi xc nx  hq) (by decide) rfl lC_0 sC_0 rfl rfl (Nat.le_of_ble_eq_true rfl) (dk dt_V_chairIs_0 3 rfl) h (fun q3 h => ?_)
  refine go_if_ne (tgt := 11) X (dk dt_V_chairIs_0 4 rfl) (by decide) h (fun h => ?_) (fun h => ?_)
  · refine go_iload_n X 1 (dk dt_V_chairIs_0 7 rfl) rfl rfl ?_
    refine go_bipush X (dk dt_V_chairIs_0 8 rfl) cb_8 ?_
    refine go_imul X (dk dt_V_chairIs_0 9 rfl) ?_
    refine go_iload_n X 2 (dk dt_V_chairIs_0 10 rfl) rfl rfl ?_
    refine go_iadd X (dk dt_V_chairIs_0 11 rfl) ?_
    refine go_istore (lv' := [(4, .int ((a1 * (8 : Int32)) + a2)), (0, .ref 0), (1, .int a1), (2, .int a2), (3, .int a3)]) X (dk dt_V_chairIs_0 12 rfl) (by decide) rfl ?_
    refine go_iload_n X 4 (dk dt_V_chairIs_0 13 rfl) rfl rfl ?_
    by_cases hc20_0 : a3 = (0 : Int32)
    · rw [if_pos hc20_0] at h
      refine go_tsw (tgt := 64) X (dk dt_V_chairIs_0 14 rfl) (by decide) (by rw [hc20_0]) (by decide) ?_
      refine go_aload_n X 1 (dk dt_V_chairIs_0 15 rfl) rfl rfl ?_
      refine go_getr X fo_X11_10 lC_0 sC_0 fC_0_0 (dk dt_V_chairIs_1 0 rfl) ?_
      refine go_getr X fo_X11_213 lC_1 sC_1 fC_1_0 (dk dt_V_chairIs_1 1 rfl) ?_
      refine go_iload X 0 (dk dt_V_chairIs_1 2 rfl) rfl ?_
      refine go_iald X lC_2 sC_2 (dk dt_V_chairIs_1 3 rfl) h (fun h => ?_)
      exact go_iret rt (dk dt_V_chairIs_1 4 rfl) h (fun hh => nomatch hh)
    rw [if_neg hc20_0] at h
    by_cases hc20_1 : a3 = (1 : Int32)
    · rw [if_pos hc20_1] at h
      refine go_tsw (tgt := 75) X (dk dt_V_chairIs_0 14 rfl) (by decide) (by rw [hc20_1]) (by decide) ?_
      refine go_aload_n X 1 (dk dt_V_chairIs_1 5 rfl) rfl rfl ?_
      refine go_getr X fo_X11_10 lC_0 sC_0 fC_0_0 (dk dt_V_chairIs_1 6 rfl) ?_
      refine go_getr X fo_X11_201 lC_1 sC_1 fC_1_1 (dk dt_V_chairIs_1 7 rfl) ?_
      refine go_iload X 0 (dk dt_V_chairIs_1 8 rfl) rfl ?_
      refine go_iald X lC_3 sC_3 (dk dt_V_chairIs_1 9 rfl) h (fun h => ?_)
      exact go_iret rt (dk dt_V_chairIs_1 10 rfl) h (fun hh => nomatch hh)
    rw [if_neg hc20_1] at h
    by_cases hc20_2 : a3 = (2 : Int32)
    · rw [if_pos hc20_2] at h
      refine go_tsw (tgt := 86) X (dk dt_V_chairIs_0 14 rfl) (by decide) (by rw [hc20_2]) (by decide) ?_
      refine go_aload_n X 1 (dk dt_V_chairIs_1 11 rfl) rfl rfl ?_
      refine go_getr X fo_X11_10 lC_0 sC_0 fC_0_0 (dk dt_V_chairIs_1 12 rfl) ?_
      refine go_getr X fo_X11_216 lC_1 sC_1 fC_1_2 (dk dt_V_chairIs_1 13 rfl) ?_
      refine go_iload X 0 (dk dt_V_chairIs_1 14 rfl) rfl ?_
      refine go_iald X lC_4 sC_4 (dk dt_V_chairIs_1 15 rfl) h (fun h => ?_)
      exact go_iret rt (dk dt_V_chairIs_2 0 rfl) h (fun hh => nomatch hh)
    rw [if_neg hc20_2] at h
    by_cases hc20_3 : a3 = (3 : Int32)
    · rw [if_pos hc20_3] at h
      refine go_tsw (tgt := 97) X (dk dt_V_chairIs_0 14 rfl) (by decide) (by rw [hc20_3]) (by decide) ?_
      refine go_aload_n X 1 (dk dt_V_chairIs_2 1 rfl) rfl rfl ?_
      refine go_getr X fo_X11_10 lC_0 sC_0 fC_0_0 (dk dt_V_chairIs_2 2 rfl) ?_
      refine go_getr X fo_X11_219 lC_1 sC_1 fC_1_3 (dk dt_V_chairIs_2 3 rfl) ?_
      refine go_iload X 0 (dk dt_V_chairIs_2 4 rfl) rfl ?_
      refine go_iald X lC_5 sC_5 (dk dt_V_chairIs_2 5 rfl) h (fun h => ?_)
      exact go_iret rt (dk dt_V_chairIs_2 6 rfl) h (fun hh => nomatch hh)
    rw [if_neg hc20_3] at h
    by_cases hc20_4 : a3 = (4 : Int32)
    · rw [if_pos hc20_4] at h
      refine go_tsw (tgt := 108) X (dk dt_V_chairIs_0 14 rfl) (by decide) (by rw [hc20_4]) (by decide) ?_
      refine go_aload_n X 1 (dk dt_V_chairIs_2 7 rfl) rfl rfl ?_
      refine go_getr X fo_X11_10 lC_0 sC_0 fC_0_0 (dk dt_V_chairIs_2 8 rfl) ?_
      refine go_getr X fo_X11_198 lC_1 sC_1 fC_1_4 (dk dt_V_chairIs_2 9 rfl) ?_
      refine go_iload X 0 (dk dt_V_chairIs_2 10 rfl) rfl ?_
      refine go_iald X lC_6 sC_6 (dk dt_V_chairIs_2 11 rfl) h (fun h => ?_)
      exact go_iret rt (dk dt_V_chairIs_2 12 rfl) h (fun hh => nomatch hh)
    rw [if_neg hc20_4] at h
    by_cases hc20_5 : a3 = (5 : Int32)
    · rw [if_pos hc20_5] at h
      refine go_tsw (tgt := 119) X (dk dt_V_chairIs_0 14 rfl) (by decide) (by rw [hc20_5]) (by decide) ?_
      refine go_aload_n X 1 (dk dt_V_chairIs_2 13 rfl) rfl rfl ?_
      refine go_getr X fo_X11_25 lC_0 sC_0 fC_0_3 (dk dt_V_chairIs_2 14 rfl) ?_
      refine go_aload_n X 1 (dk dt_V_chairIs_2 15 rfl) rfl rfl ?_
      refine go_getr X fo_X11_10 lC_0 sC_0 fC_0_0 (dk dt_V_chairIs_3 0 rfl) ?_
      refine go_Vv (As := [.ref 1]) (rest := []) X vo_X11_222 (fun q hq => ct_X9_lookAround hi xc nx (by decide : isW 1 = true) hq) (by decide) rfl lC_19 sC_19 rfl rfl (Nat.le_of_ble_eq_true rfl) (dk dt_V_chairIs_3 1 rfl) h (fun q127 h => ?_)
      refine go_aload_n X 1 (dk dt_V_chairIs_3 2 rfl) rfl rfl ?_
      refine go_getr X fo_X11_25 lC_0 sC_0 fC_0_3 (dk dt_V_chairIs_3 3 rfl) ?_
      refine go_getr X fo_X11_225 lC_19 sC_19 fC_19_2 (dk dt_V_chairIs_3 4 rfl) ?_
      refine go_iload X 0 (dk dt_V_chairIs_3 5 rfl) rfl ?_
      refine go_iald X lC_22 sC_22 (dk dt_V_chairIs_3 6 rfl) h (fun h => ?_)
      refine go_aload_n X 1 (dk dt_V_chairIs_3 7 rfl) rfl rfl ?_
      refine go_getr X fo_X11_10 lC_0 sC_0 fC_0_0 (dk dt_V_chairIs_3 8 rfl) ?_
      refine go_iconst X (dk dt_V_chairIs_3 9 rfl) ci_1 ?_
      refine go_iload_n X 2 (dk dt_V_chairIs_3 10 rfl) rfl rfl ?_
      refine go_isub X (dk dt_V_chairIs_3 11 rfl) ?_
      refine go_iconst X (dk dt_V_chairIs_3 12 rfl) ci_0 ?_
      refine go_Vi (As := [.int ((1 : Int32) - a1), .int (0 : Int32)]) (rest := [.int (q127 22 (Int32.toNatClampNeg ((a1 * (8 : Int32)) + a2)))]) X vo_X11_228 (fun q hq => ct_X10_bits hi xc nx (by decide : isW 1 = true) hq) (by decide) rfl lC_1 sC_1 rfl rfl (Nat.le_of_ble_eq_true rfl) (dk dt_V_chairIs_3 13 rfl) h (fun q148 h => ?_)
      refine go_iand X (dk dt_V_chairIs_3 14 rfl) ?_
      exact go_iret rt (dk dt_V_chairIs_3 15 rfl) h (fun hh => nomatch hh)
    rw [if_neg hc20_5] at h
    by_cases hc20_6 : a3 = (6 : Int32)
    · rw [if_pos hc20_6] at h
      refine go_tsw (tgt := 153) X (dk dt_V_chairIs_0 14 rfl) (by decide) (by rw [hc20_6]) (by decide) ?_
      refine go_aload_n X 1 (dk dt_V_chairIs_4 0 rfl) rfl rfl ?_
      refine go_getr X fo_X11_25 lC_0 sC_0 fC_0_3 (dk dt_V_chairIs_4 1 rfl) ?_
      refine go_iload_n X 2 (dk dt_V_chairIs_4 2 rfl) rfl rfl ?_
      refine go_aload_n X 1 (dk dt_V_chairIs_4 3 rfl) rfl rfl ?_
      refine go_getr X fo_X11_10 lC_0 sC_0 fC_0_0 (dk dt_V_chairIs_4 4 rfl) ?_
      refine go_getr X fo_X11_219 lC_1 sC_1 fC_1_3 (dk dt_V_chairIs_4 5 rfl) ?_
      refine go_iload X 0 (dk dt_V_chairIs_4 6 rfl) rfl ?_
      refine go_iald X lC_5 sC_5 (dk dt_V_chairIs_4 7 rfl) h (fun h => ?_)
      refine go_Vi (As := [.int a1, .int (q3.2 5 (Int32.toNatClampNeg ((a1 * (8 : Int32)) + a2)))]) (rest := []) X vo_X11_232 (fun q hq => ct_X9_eye hi xc nx  hq) (by decide) rfl lC_19 sC_19 rfl rfl (Nat.le_of_ble_eq_true rfl) (dk dt_V_chairIs_4 8 rfl) h (fun q168 h => ?_)
      exact go_iret rt (dk dt_V_chairIs_4 9 rfl) h (fun hh => nomatch hh)
    rw [if_neg hc20_6] at h
    refine go_tsw (tgt := 172) X (dk dt_V_chairIs_0 14 rfl) (by decide) (sw_dflt [0, 1, 2, 3, 4, 5, 6] (by decide) (by simp only [List.mem_cons, List.not_mem_nil, or_false, not_or]; exact ⟨(i32_ne (k := 0) hc20_0), (i32_ne (k := 1) hc20_1), (i32_ne (k := 2) hc20_2), (i32_ne (k := 3) hc20_3), (i32_ne (k := 4) hc20_4), (i32_ne (k := 5) hc20_5), (i32_ne (k := 6) hc20_6)⟩)) (by decide) ?_
    refine go_iconst X (dk dt_V_chairIs_4 10 rfl) ci_m1 ?_
    exact go_iret rt (dk dt_V_chairIs_4 11 rfl) h (fun hh => nomatch hh)
  · refine go_iconst X (dk dt_V_chairIs_0 5 rfl) ci_m1 ?_
    exact go_iret rt (dk dt_V_chairIs_0 6 rfl) h (fun hh => nomatch hh)
set_option maxRecDepth 20000 in
theorem ct_V_chairIs (hi : zInj wC v) (xc : XC wC v) (nx : NXC v)  {a1 : Int32} {a2 : Int32} {a3 : Int32} {σ : Hp}  {q : (Int32 × Hp)} (h : F_V_chairIs  a1 a2 a3 σ = some q) : Ct wC v l yX11_chairIs cX11_chairIs 5 (some .int) 8 [.ref 0, .int a1, .int a2, .int a3] σ (some (.int q.1)) q.2 :=
  Ct.intro false (by decide) hi xc (Nat.le_of_ble_eq_true rfl) rfl (fun p e R s m args below meth c Q X rt => lkF_V_chairIs hi xc nx X rt  h)
end
def T_V_check_0 : DT := [(0, .iload_n 1, 1), (1, .invokestatic 131, 3), (4, .ifCond .eq 24, 3), (7, .iload_n 2, 1), (8, .iconst 0, 1), (9, .bipush 8, 2), (11, .invokestatic 119, 3), (14, .ifCond .eq 14, 3), (17, .aload_n 0, 1), (18, .getfield 32, 3), (21, .iload_n 2, 1), (22, .invokevirtual 151, 3), (25, .ifCond .ne 6, 3), (28, .bipush (-2), 2), (30, .ireturn, 1), (31, .iconst (-1), 1)]
theorem dt_V_check_0 : dOk cX11_check T_V_check_0 := by unfold dOk; decide +kernel
def T_V_check_1 : DT := [(32, .istore_n 3, 1), (33, .iconst 0, 1), (34, .istore 4, 2), (36, .iload 4, 2), (38, .iload_n 2, 1), (39, .if_icmp .ge 70, 3), (42, .iload_n 3, 1), (43, .iconst (-1), 1), (44, .if_icmp .ne 65, 3), (47, .iload_n 1, 1), (48, .bipush 8, 2), (50, .imul, 1), (51, .iload 4, 2), (53, .iadd, 1), (54, .istore 5, 2), (56, .aload_n 0, 1)]
theorem dt_V_check_1 : dOk cX11_check T_V_check_1 := by unfold dOk; decide +kernel
def T_V_check_2 : DT := [(57, .getfield 10, 3), (60, .getfield 198, 3), (63, .iload 5, 2), (65, .iaload, 1), (66, .iconst 3, 1), (67, .if_icmp .ne 7, 3), (70, .iconst 0, 1), (71, .goto 13, 3), (74, .aload_n 0, 1), (75, .getfield 10, 3), (78, .getfield 201, 3), (81, .iload 5, 2), (83, .iaload, 1), (84, .istore 6, 2), (86, .aload_n 0, 1), (87, .getfield 32, 3)]
theorem dt_V_check_2 : dOk cX11_check T_V_check_2 := by unfold dOk; decide +kernel
def T_V_check_3 : DT := [(90, .iload 4, 2), (92, .invokevirtual 334, 3), (95, .iload 6, 2), (97, .if_icmp .eq 6, 3), (100, .iload 4, 2), (102, .istore_n 3, 1), (103, .iinc 4 1, 3), (106, .goto (-70), 3), (109, .aload_n 0, 1), (110, .getfield 32, 3), (113, .invokevirtual 158, 3), (116, .iload_n 3, 1), (117, .ireturn, 1)]
theorem dt_V_check_3 : dOk cX11_check T_V_check_3 := by unfold dOk; decide +kernel
section
variable {v : ZV} {l : Launch} {p : Program} {e : Env} {R : Room} {s : State} {m : MethodId} {args : Array Value} {below : List Frame} {meth : Method} {c : Code} {Q : State → Prop} {res : (Int32 × Hp)} 
set_option maxRecDepth 20000 in
theorem lkJ_V_check_84 (hi : zInj wC v) (xc : XC wC v) (nx : NXC v) (X : Cx wC v p R s m args c 0 0 cX11_check 7 RX11 4) (rt : Rt wC v p l e R s m args below meth c 0 0 Q cX11_check false (some (.int res.1)) res.2) {k36 : Int32 → Int32 → Int32 → Int32 → Hp → Option (Int32 × Hp)} {x1 : Int32} {x2 : Int32} {x3 : Int32} {x4 : Int32} {s0 : Int32} {σ : Hp}  (hk36 : ∀ (x1 : Int32) (x2 : Int32) (x3 : Int32) (x4 : Int32) (σ : Hp),  k36 x1 x2 x3 x4 σ = some res → Go wC v p l e R s m args below meth c 0 0 Q 7 36 [(0, .ref 0), (1, .int x1), (2, .int x2), (3, .int x3), (4, .int x4)] [] σ) (h : J_V_check_84  k36 x1 x2 x3 x4 s0 σ = some res) : Go wC v p l e R s m args below meth c 0 0 Q 7 84 [(0, .ref 0), (1, .int x1), (2, .int x2), (3, .int x3), (4, .int x4)] [.int s0] σ := by
  unfold J_V_check_84 at h
  refine go_istore (lv' := [(6, .int s0), (0, .ref 0), (1, .int x1), (2, .int x2), (3, .int x3), (4, .int x4)]) X (dk dt_V_check_2 13 rfl) (by decide) rfl ?_
  refine go_aload_n X 1 (dk dt_V_check_2 14 rfl) rfl rfl ?_
  refine go_getr X fo_X11_32 lC_0 sC_0 fC_0_4 (dk dt_V_check_2 15 rfl) ?_
  refine go_iload X 5 (dk dt_V_check_3 0 rfl) rfl ?_
  refine go_Vi (As := [.int x4]) (rest := []) X vo_X11_334 (fun q hq => ct_X8_byteAt hi xc nx  hq) (by decide) rfl lC_23 sC_23 rfl rfl (Nat.le_of_ble_eq_true rfl) (dk dt_V_check_3 1 rfl) h (fun q92 h => ?_)
  refine go_iload X 0 (dk dt_V_check_3 2 rfl) rfl ?_
  refine go_icmp_eq (tgt := 103) X (dk dt_V_check_3 3 rfl) (by decide) h (fun h => ?_) (fun h => ?_)
  · refine go_iinc (lv' := [(4, .int (x4 + (1 : Int32))), (6, .int s0), (0, .ref 0), (1, .int x1), (2, .int x2), (3, .int x3)]) X 5 (dk dt_V_check_3 6 rfl) rfl ci_1 (by decide) rfl ?_
    refine go_goto (tgt := 36) X (dk dt_V_check_3 7 rfl) (by decide) ?_
    refine go_sub [2, 3, 4, 5, 0] rfl ?_
    exact hk36 _ _ _ _ _  h
  · refine go_iload X 5 (dk dt_V_check_3 4 rfl) rfl ?_
    refine go_istore_n (lv' := [(3, .int x4), (6, .int s0), (0, .ref 0), (1, .int x1), (2, .int x2), (4, .int x4)]) X (dk dt_V_check_3 5 rfl) rfl (by decide) rfl ?_
    refine go_iinc (lv' := [(4, .int (x4 + (1 : Int32))), (3, .int x4), (6, .int s0), (0, .ref 0), (1, .int x1), (2, .int x2)]) X 5 (dk dt_V_check_3 6 rfl) rfl ci_1 (by decide) rfl ?_
    refine go_goto (tgt := 36) X (dk dt_V_check_3 7 rfl) (by decide) ?_
    refine go_sub [3, 4, 5, 1, 0] rfl ?_
    exact hk36 _ _ _ _ _  h
set_option maxRecDepth 20000 in
theorem lkB_V_check_36 (hi : zInj wC v) (xc : XC wC v) (nx : NXC v) (X : Cx wC v p R s m args c 0 0 cX11_check 7 RX11 4) (rt : Rt wC v p l e R s m args below meth c 0 0 Q cX11_check false (some (.int res.1)) res.2) {k109 : Int32 → Hp → Option (Int32 × Hp)} {k36 : Int32 → Int32 → Int32 → Int32 → Hp → Option (Int32 × Hp)} {x1 : Int32} {x2 : Int32} {x3 : Int32} {x4 : Int32} {σ : Hp}  (hk109 : ∀ (x3 : Int32) (σ : Hp),  k109 x3 σ = some res → Go wC v p l e R s m args below meth c 0 0 Q 7 109 [(0, .ref 0), (3, .int x3)] [] σ) (hk36 : ∀ (x1 : Int32) (x2 : Int32) (x3 : Int32) (x4 : Int32) (σ : Hp),  k36 x1 x2 x3 x4 σ = some res → Go wC v p l e R s m args below meth c 0 0 Q 7 36 [(0, .ref 0), (1, .int x1), (2, .int x2), (3, .int x3), (4, .int x4)] [] σ) (h : B_V_check_36  k109 k36 x1 x2 x3 x4 σ = some res) : Go wC v p l e R s m args below meth c 0 0 Q 7 36 [(0, .ref 0), (1, .int x1), (2, .int x2), (3, .int x3), (4, .int x4)] [] σ := by
  unfold B_V_check_36 at h
  refine go_iload X 4 (dk dt_V_check_1 3 rfl) rfl ?_
  refine go_iload_n X 2 (dk dt_V_check_1 4 rfl) rfl rfl ?_
  refine go_icmp_ge (tgt := 109) X (dk dt_V_check_1 5 rfl) (by decide) h (fun h => ?_) (fun h => ?_)
  · refine go_sub [0, 3] rfl ?_
    exact hk109 _ _  h
  · refine go_iload_n X 3 (dk dt_V_check_1 6 rfl) rfl rfl ?_
    refine go_iconst X (dk dt_V_check_1 7 rfl) ci_m1 ?_
    refine go_icmp_ne (tgt := 109) X (dk dt_V_check_1 8 rfl) (by decide) h (fun h => ?_) (fun h => ?_)
    · refine go_sub [0, 3] rfl ?_
      exact hk109 _ _  h
    · refine go_iload_n X 1 (dk dt_V_check_1 9 rfl) rfl rfl ?_
      refine go_bipush X (dk dt_V_check_1 10 rfl) cb_8 ?_
      refine go_imul X (dk dt_V_check_1 11 rfl) ?_
      refine go_iload X 4 (dk dt_V_check_1 12 rfl) rfl ?_
      refine go_iadd X (dk dt_V_check_1 13 rfl) ?_
      refine go_istore (lv' := [(5, .int ((x1 * (8 : Int32)) + x4)), (0, .ref 0), (1, .int x1), (2, .int x2), (3, .int x3), (4, .int x4)]) X (dk dt_V_check_1 14 rfl) (by decide) rfl ?_
      refine go_aload_n X 1 (dk dt_V_check_1 15 rfl) rfl rfl ?_
      refine go_getr X fo_X11_10 lC_0 sC_0 fC_0_0 (dk dt_V_check_2 0 rfl) ?_
      refine go_getr X fo_X11_198 lC_1 sC_1 fC_1_4 (dk dt_V_check_2 1 rfl) ?_
      refine go_iload X 0 (dk dt_V_check_2 2 rfl) rfl ?_
      refine go_iald X lC_6 sC_6 (dk dt_V_check_2 3 rfl) h (fun h => ?_)
      refine go_iconst X (dk dt_V_check_2 4 rfl) ci_3 ?_
      refine go_icmp_ne (tgt := 74) X (dk dt_V_check_2 5 rfl) (by decide) h (fun h => ?_) (fun h => ?_)
      · refine go_aload_n X 1 (dk dt_V_check_2 8 rfl) rfl rfl ?_
        refine go_getr X fo_X11_10 lC_0 sC_0 fC_0_0 (dk dt_V_check_2 9 rfl) ?_
        refine go_getr X fo_X11_201 lC_1 sC_1 fC_1_1 (dk dt_V_check_2 10 rfl) ?_
        refine go_iload X 0 (dk dt_V_check_2 11 rfl) rfl ?_
        refine go_iald X lC_3 sC_3 (dk dt_V_check_2 12 rfl) h (fun h => ?_)
        refine go_sub [1, 2, 3, 4, 5] rfl ?_
        exact lkJ_V_check_84 hi xc nx X rt  hk36 h
      · refine go_iconst X (dk dt_V_check_2 6 rfl) ci_0 ?_
        refine go_goto (tgt := 84) X (dk dt_V_check_2 7 rfl) (by decide) ?_
        refine go_sub [1, 2, 3, 4, 5] rfl ?_
        exact lkJ_V_check_84 hi xc nx X rt  hk36 h
set_option maxRecDepth 20000 in
theorem lkL_V_check_36 (hi : zInj wC v) (xc : XC wC v) (nx : NXC v) (X : Cx wC v p R s m args c 0 0 cX11_check 7 RX11 4) (rt : Rt wC v p l e R s m args below meth c 0 0 Q cX11_check false (some (.int res.1)) res.2) {k109 : Int32 → Hp → Option (Int32 × Hp)} (hk109 : ∀ (x3 : Int32) (σ : Hp),  k109 x3 σ = some res → Go wC v p l e R s m args below meth c 0 0 Q 7 109 [(0, .ref 0), (3, .int x3)] [] σ) (n : Nat) : ∀ {x1 : Int32} {x2 : Int32} {x3 : Int32} {x4 : Int32} {σ : Hp},  L_V_check_36  k109 n x1 x2 x3 x4 σ = some res → Go wC v p l e R s m args below meth c 0 0 Q 7 36 [(0, .ref 0), (1, .int x1), (2, .int x2), (3, .int x3), (4, .int x4)] [] σ := by
  induction n with
  | zero => intro x1 x2 x3 x4 σ  h; cases h
  | succ n ih =>
    intro x1 x2 x3 x4 σ  h
    exact lkB_V_check_36 hi xc nx X rt  hk109 (fun _ _ _ _ _  hh => ih  hh) h
set_option maxRecDepth 20000 in
theorem lkJ_V_check_109 (hi : zInj wC v) (xc : XC wC v) (nx : NXC v) (X : Cx wC v p R s m args c 0 0 cX11_check 7 RX11 4) (rt : Rt wC v p l e R s m args below meth c 0 0 Q cX11_check false (some (.int res.1)) res.2)  {x3 : Int32} {σ : Hp}   (h : J_V_check_109   x3 σ = some res) : Go wC v p l e R s m args below meth c 0 0 Q 7 109 [(0, .ref 0), (3, .int x3)] [] σ := by
  unfold J_V_check_109 at h
  refine go_aload_n X 0 (dk dt_V_check_3 8 rfl) rfl rfl ?_
  refine go_getr X fo_X11_32 lC_0 sC_0 fC_0_4 (dk dt_V_check_3 9 rfl) ?_
  refine go_Vv (As := []) (rest := []) X vo_X11_158 (fun q hq => ct_X8_clear hi xc nx  hq) (by decide) rfl lC_23 sC_23 rfl rfl (Nat.le_of_ble_eq_true rfl) (dk dt_V_check_3 10 rfl) h (fun q113 h => ?_)
  refine go_iload_n X 1 (dk dt_V_check_3 11 rfl) rfl rfl ?_
  exact go_iret rt (dk dt_V_check_3 12 rfl) h (fun hh => nomatch hh)
set_option maxRecDepth 20000 in
theorem lkF_V_check (hi : zInj wC v) (xc : XC wC v) (nx : NXC v) (X : Cx wC v p R s m args c 0 0 cX11_check 7 RX11 4) (rt : Rt wC v p l e R s m args below meth c 0 0 Q cX11_check false (some (.int res.1)) res.2) {a1 : Int32} {a2 : Int32} {σ : Hp}  (h : F_V_check  a1 a2 σ = some res) : Go wC v p l e R s m args below meth c 0 0 Q 7 0 [(0, .ref 0), (1, .int a1), (2, .int a2)] [] σ := by
  unfold F_V_check at h
  refine go_iload_n X 1 (dk dt_V_check_0 0 rfl) rfl rfl ?_
  refine go_Si (As := [.int a1]) (rest := []) X so_X11_131 (fun q hq => ct_V_isSide hi xc nx  hq) (by decide) rfl rfl (Nat.le_of_ble_eq_true rfl) (dk dt_V_check_0 1 rfl) h (fun q1 h => ?_)
  refine go_if_eq (tgt := 28) X (dk dt_V_check_0 2 rfl) (by decide) h (fun h => ?_) (fun h => ?_)
  · refine go_bipush X (dk dt_V_check_0 13 rfl) cb_m2 ?_
    exact go_iret rt (dk dt_V_check_0 14 rfl) h (fun hh => nomatch hh)
  · refine go_iload_n X 2 (dk dt_V_check_0 3 rfl) rfl rfl ?_
    refine go_iconst X (dk dt_V_check_0 4 rfl) ci_0 ?_
    refine go_bipush X (dk dt_V_check_0 5 rfl) cb_8 ?_
    refine go_Si (As := [.int a2, .int (0 : Int32), .int (8 : Int32)]) (rest := []) X so_X11_119 (fun q hq => ct_V_within hi xc nx  hq) (by decide) rfl rfl (Nat.le_of_ble_eq_true rfl) (dk dt_V_check_0 6 rfl) h (fun q11 h => ?_)
    refine go_if_eq (tgt := 28) X (dk dt_V_check_0 7 rfl) (by decide) h (fun h => ?_) (fun h => ?_)
    · refine go_bipush X (dk dt_V_check_0 13 rfl) cb_m2 ?_
      exact go_iret rt (dk dt_V_check_0 14 rfl) h (fun hh => nomatch hh)
    · refine go_aload_n X 0 (dk dt_V_check_0 8 rfl) rfl rfl ?_
      refine go_getr X fo_X11_32 lC_0 sC_0 fC_0_4 (dk dt_V_check_0 9 rfl) ?_
      refine go_iload_n X 2 (dk dt_V_check_0 10 rfl) rfl rfl ?_
      refine go_Vi (As := [.int a2]) (rest := []) X vo_X11_151 (fun q hq => ct_X8_has hi xc nx  hq) (by decide) rfl lC_23 sC_23 rfl rfl (Nat.le_of_ble_eq_true rfl) (dk dt_V_check_0 11 rfl) h (fun q22 h => ?_)
      refine go_if_ne (tgt := 31) X (dk dt_V_check_0 12 rfl) (by decide) h (fun h => ?_) (fun h => ?_)
      · refine go_iconst X (dk dt_V_check_0 15 rfl) ci_m1 ?_
        refine go_istore_n (lv' := [(3, .int (-1 : Int32)), (0, .ref 0), (1, .int a1), (2, .int a2)]) X (dk dt_V_check_1 0 rfl) rfl (by decide) rfl ?_
        refine go_iconst X (dk dt_V_check_1 1 rfl) ci_0 ?_
        refine go_istore (lv' := [(4, .int (0 : Int32)), (3, .int (-1 : Int32)), (0, .ref 0), (1, .int a1), (2, .int a2)]) X (dk dt_V_check_1 2 rfl) (by decide) rfl ?_
        refine go_sub [2, 3, 4, 1, 0] rfl ?_
        exact lkL_V_check_36 hi xc nx X rt (fun _ _  hh => lkJ_V_check_109 hi xc nx X rt   hh) FU  h
      · refine go_bipush X (dk dt_V_check_0 13 rfl) cb_m2 ?_
        exact go_iret rt (dk dt_V_check_0 14 rfl) h (fun hh => nomatch hh)
set_option maxRecDepth 20000 in
theorem ct_V_check (hi : zInj wC v) (xc : XC wC v) (nx : NXC v)  {a1 : Int32} {a2 : Int32} {σ : Hp}  {q : (Int32 × Hp)} (h : F_V_check  a1 a2 σ = some q) : Ct wC v l yX11_check cX11_check 7 (some .int) 4 [.ref 0, .int a1, .int a2] σ (some (.int q.1)) q.2 :=
  Ct.intro false (by decide) hi xc (Nat.le_of_ble_eq_true rfl) rfl (fun p e R s m args below meth c Q X rt => lkF_V_check hi xc nx X rt  h)
end
def T_V_column_0 : DT := [(0, .iload_n 1, 1), (1, .iconst 0, 1), (2, .bipush 23, 2), (4, .invokestatic 119, 3), (7, .ifCond .eq 14, 3), (10, .iload_n 2, 1), (11, .iconst 0, 1), (12, .sipush 199, 3), (15, .invokestatic 119, 3), (18, .ifCond .ne 5, 3), (21, .iconst 0, 1), (22, .ireturn, 1), (23, .aload_n 0, 1), (24, .getfield 25, 3), (27, .getfield 138, 3), (30, .iload_n 1, 1)]
theorem dt_V_column_0 : dOk cX11_column T_V_column_0 := by unfold dOk; decide +kernel
def T_V_column_1 : DT := [(31, .iload_n 2, 1), (32, .iastore, 1), (33, .iconst 1, 1), (34, .ireturn, 1)]
theorem dt_V_column_1 : dOk cX11_column T_V_column_1 := by unfold dOk; decide +kernel
section
variable {v : ZV} {l : Launch} {p : Program} {e : Env} {R : Room} {s : State} {m : MethodId} {args : Array Value} {below : List Frame} {meth : Method} {c : Code} {Q : State → Prop} {res : (Int32 × Hp)} 
set_option maxRecDepth 20000 in
theorem lkF_V_column (hi : zInj wC v) (xc : XC wC v) (nx : NXC v) (X : Cx wC v p R s m args c 0 0 cX11_column 3 RX11 4) (rt : Rt wC v p l e R s m args below meth c 0 0 Q cX11_column true (some (.int res.1)) res.2) {a1 : Int32} {a2 : Int32} {σ : Hp}  (h : F_V_column  a1 a2 σ = some res) : Go wC v p l e R s m args below meth c 0 0 Q 3 0 [(0, .ref 0), (1, .int a1), (2, .int a2)] [] σ := by
  unfold F_V_column at h
  refine go_iload_n X 1 (dk dt_V_column_0 0 rfl) rfl rfl ?_
  refine go_iconst X (dk dt_V_column_0 1 rfl) ci_0 ?_
  refine go_bipush X (dk dt_V_column_0 2 rfl) cb_23 ?_
  refine go_Si (As := [.int a1, .int (0 : Int32), .int (23 : Int32)]) (rest := []) X so_X11_119 (fun q hq => ct_V_within hi xc nx  hq) (by decide) rfl rfl (Nat.le_of_ble_eq_true rfl) (dk dt_V_column_0 3 rfl) h (fun q4 h => ?_)
  refine go_if_eq (tgt := 21) X (dk dt_V_column_0 4 rfl) (by decide) h (fun h => ?_) (fun h => ?_)
  · refine go_iconst X (dk dt_V_column_0 10 rfl) ci_0 ?_
    exact go_iret rt (dk dt_V_column_0 11 rfl) h (by decide)
  · refine go_iload_n X 2 (dk dt_V_column_0 5 rfl) rfl rfl ?_
    refine go_iconst X (dk dt_V_column_0 6 rfl) ci_0 ?_
    refine go_sipush X (dk dt_V_column_0 7 rfl) cs_199 ?_
    refine go_Si (As := [.int a2, .int (0 : Int32), .int (199 : Int32)]) (rest := []) X so_X11_119 (fun q hq => ct_V_within hi xc nx  hq) (by decide) rfl rfl (Nat.le_of_ble_eq_true rfl) (dk dt_V_column_0 8 rfl) h (fun q15 h => ?_)
    refine go_if_ne (tgt := 23) X (dk dt_V_column_0 9 rfl) (by decide) h (fun h => ?_) (fun h => ?_)
    · refine go_aload_n X 0 (dk dt_V_column_0 12 rfl) rfl rfl ?_
      refine go_getr X fo_X11_25 lC_0 sC_0 fC_0_3 (dk dt_V_column_0 13 rfl) ?_
      refine go_getr X fo_X11_138 lC_19 sC_19 fC_19_0 (dk dt_V_column_0 14 rfl) ?_
      refine go_iload_n X 1 (dk dt_V_column_0 15 rfl) rfl rfl ?_
      refine go_iload_n X 2 (dk dt_V_column_1 0 rfl) rfl rfl ?_
      refine go_iast X lC_20 sC_20 (dk dt_V_column_1 1 rfl) h (fun h => ?_)
      refine go_iconst X (dk dt_V_column_1 2 rfl) ci_1 ?_
      exact go_iret rt (dk dt_V_column_1 3 rfl) h (by decide)
    · refine go_iconst X (dk dt_V_column_0 10 rfl) ci_0 ?_
      exact go_iret rt (dk dt_V_column_0 11 rfl) h (by decide)
set_option maxRecDepth 20000 in
theorem ct_V_column (hi : zInj wC v) (xc : XC wC v) (nx : NXC v)  {a1 : Int32} {a2 : Int32} {σ : Hp}  {q : (Int32 × Hp)} (h : F_V_column  a1 a2 σ = some q) : Ct wC v l yX11_column cX11_column 3 (some .boolean) 4 [.ref 0, .int a1, .int a2] σ (some (.int q.1)) q.2 :=
  Ct.intro true (by decide) hi xc (Nat.le_of_ble_eq_true rfl) rfl (fun p e R s m args below meth c Q X rt => lkF_V_column hi xc nx X rt  h)
end
def T_V_commonDivisor_0 : DT := [(0, .iload_n 0, 1), (1, .istore_n 2, 1), (2, .iload_n 1, 1), (3, .istore_n 3, 1), (4, .iconst 0, 1), (5, .istore 4, 2), (7, .iload 4, 2), (9, .bipush 100, 2), (11, .if_icmp .ge 23, 3), (14, .iload_n 3, 1), (15, .ifCond .eq 19, 3), (18, .iload_n 2, 1), (19, .iload_n 3, 1), (20, .irem, 1), (21, .istore 5, 2), (23, .iload_n 3, 1)]
theorem dt_V_commonDivisor_0 : dOk cX11_commonDivisor T_V_commonDivisor_0 := by unfold dOk; decide +kernel
def T_V_commonDivisor_1 : DT := [(24, .istore_n 2, 1), (25, .iload 5, 2), (27, .istore_n 3, 1), (28, .iinc 4 1, 3), (31, .goto (-24), 3), (34, .iload_n 2, 1), (35, .ireturn, 1)]
theorem dt_V_commonDivisor_1 : dOk cX11_commonDivisor T_V_commonDivisor_1 := by unfold dOk; decide +kernel
section
variable {v : ZV} {l : Launch} {p : Program} {e : Env} {R : Room} {s : State} {m : MethodId} {args : Array Value} {below : List Frame} {meth : Method} {c : Code} {Q : State → Prop} {res : (Int32 × Hp)} 
set_option maxRecDepth 20000 in
theorem lkB_V_commonDivisor_7 (hi : zInj wC v) (xc : XC wC v) (nx : NXC v) (X : Cx wC v p R s m args c 0 0 cX11_commonDivisor 6 RX11 2) (rt : Rt wC v p l e R s m args below meth c 0 0 Q cX11_commonDivisor false (some (.int res.1)) res.2) {k7 : Int32 → Int32 → Int32 → Hp → Option (Int32 × Hp)} {x2 : Int32} {x3 : Int32} {x4 : Int32} {σ : Hp}  (hk7 : ∀ (x2 : Int32) (x3 : Int32) (x4 : Int32) (σ : Hp),  k7 x2 x3 x4 σ = some res → Go wC v p l e R s m args below meth c 0 0 Q 6 7 [(2, .int x2), (3, .int x3), (4, .int x4)] [] σ) (h : B_V_commonDivisor_7  k7 x2 x3 x4 σ = some res) : Go wC v p l e R s m args below meth c 0 0 Q 6 7 [(2, .int x2), (3, .int x3), (4, .int x4)] [] σ := by
  unfold B_V_commonDivisor_7 at h
  refine go_iload X 2 (dk dt_V_commonDivisor_0 6 rfl) rfl ?_
  refine go_bipush X (dk dt_V_commonDivisor_0 7 rfl) cb_100 ?_
  refine go_icmp_ge (tgt := 34) X (dk dt_V_commonDivisor_0 8 rfl) (by decide) h (fun h => ?_) (fun h => ?_)
  · refine go_iload_n X 0 (dk dt_V_commonDivisor_1 5 rfl) rfl rfl ?_
    exact go_iret rt (dk dt_V_commonDivisor_1 6 rfl) h (fun hh => nomatch hh)
  · refine go_iload_n X 1 (dk dt_V_commonDivisor_0 9 rfl) rfl rfl ?_
    refine go_if_eq (tgt := 34) X (dk dt_V_commonDivisor_0 10 rfl) (by decide) h (fun h => ?_) (fun h => ?_)
    · refine go_iload_n X 0 (dk dt_V_commonDivisor_1 5 rfl) rfl rfl ?_
      exact go_iret rt (dk dt_V_commonDivisor_1 6 rfl) h (fun hh => nomatch hh)
    · refine go_iload_n X 0 (dk dt_V_commonDivisor_0 11 rfl) rfl rfl ?_
      refine go_iload_n X 1 (dk dt_V_commonDivisor_0 12 rfl) rfl rfl ?_
      refine go_irem X (dk dt_V_commonDivisor_0 13 rfl) h (fun h => ?_)
      refine go_istore (lv' := [(5, .int (jrem x2 x3)), (2, .int x2), (3, .int x3), (4, .int x4)]) X (dk dt_V_commonDivisor_0 14 rfl) (by decide) rfl ?_
      refine go_iload_n X 2 (dk dt_V_commonDivisor_0 15 rfl) rfl rfl ?_
      refine go_istore_n (lv' := [(2, .int x3), (5, .int (jrem x2 x3)), (3, .int x3), (4, .int x4)]) X (dk dt_V_commonDivisor_1 0 rfl) rfl (by decide) rfl ?_
      refine go_iload X 1 (dk dt_V_commonDivisor_1 1 rfl) rfl ?_
      refine go_istore_n (lv' := [(3, .int (jrem x2 x3)), (2, .int x3), (5, .int (jrem x2 x3)), (4, .int x4)]) X (dk dt_V_commonDivisor_1 2 rfl) rfl (by decide) rfl ?_
      refine go_iinc (lv' := [(4, .int (x4 + (1 : Int32))), (3, .int (jrem x2 x3)), (2, .int x3), (5, .int (jrem x2 x3))]) X 3 (dk dt_V_commonDivisor_1 3 rfl) rfl ci_1 (by decide) rfl ?_
      refine go_goto (tgt := 7) X (dk dt_V_commonDivisor_1 4 rfl) (by decide) ?_
      refine go_sub [2, 1, 0] rfl ?_
      exact hk7 _ _ _ _  h
set_option maxRecDepth 20000 in
theorem lkL_V_commonDivisor_7 (hi : zInj wC v) (xc : XC wC v) (nx : NXC v) (X : Cx wC v p R s m args c 0 0 cX11_commonDivisor 6 RX11 2) (rt : Rt wC v p l e R s m args below meth c 0 0 Q cX11_commonDivisor false (some (.int res.1)) res.2)   (n : Nat) : ∀ {x2 : Int32} {x3 : Int32} {x4 : Int32} {σ : Hp},  L_V_commonDivisor_7   n x2 x3 x4 σ = some res → Go wC v p l e R s m args below meth c 0 0 Q 6 7 [(2, .int x2), (3, .int x3), (4, .int x4)] [] σ := by
  induction n with
  | zero => intro x2 x3 x4 σ  h; cases h
  | succ n ih =>
    intro x2 x3 x4 σ  h
    exact lkB_V_commonDivisor_7 hi xc nx X rt  (fun _ _ _ _  hh => ih  hh) h
set_option maxRecDepth 20000 in
theorem lkF_V_commonDivisor (hi : zInj wC v) (xc : XC wC v) (nx : NXC v) (X : Cx wC v p R s m args c 0 0 cX11_commonDivisor 6 RX11 2) (rt : Rt wC v p l e R s m args below meth c 0 0 Q cX11_commonDivisor false (some (.int res.1)) res.2) {a0 : Int32} {a1 : Int32} {σ : Hp}  (h : F_V_commonDivisor  a0 a1 σ = some res) : Go wC v p l e R s m args below meth c 0 0 Q 6 0 [(0, .int a0), (1, .int a1)] [] σ := by
  unfold F_V_commonDivisor at h
  refine go_iload_n X 0 (dk dt_V_commonDivisor_0 0 rfl) rfl rfl ?_
  refine go_istore_n (lv' := [(2, .int a0), (0, .int a0), (1, .int a1)]) X (dk dt_V_commonDivisor_0 1 rfl) rfl (by decide) rfl ?_
  refine go_iload_n X 2 (dk dt_V_commonDivisor_0 2 rfl) rfl rfl ?_
  refine go_istore_n (lv' := [(3, .int a1), (2, .int a0), (0, .int a0), (1, .int a1)]) X (dk dt_V_commonDivisor_0 3 rfl) rfl (by decide) rfl ?_
  refine go_iconst X (dk dt_V_commonDivisor_0 4 rfl) ci_0 ?_
  refine go_istore (lv' := [(4, .int (0 : Int32)), (3, .int a1), (2, .int a0), (0, .int a0), (1, .int a1)]) X (dk dt_V_commonDivisor_0 5 rfl) (by decide) rfl ?_
  refine go_sub [2, 1, 0] rfl ?_
  exact lkL_V_commonDivisor_7 hi xc nx X rt  FU  h
set_option maxRecDepth 20000 in
theorem ct_V_commonDivisor (hi : zInj wC v) (xc : XC wC v) (nx : NXC v)  {a0 : Int32} {a1 : Int32} {σ : Hp}  {q : (Int32 × Hp)} (h : F_V_commonDivisor  a0 a1 σ = some q) : Ct wC v l yX11_commonDivisor cX11_commonDivisor 6 (some .int) 2 [.int a0, .int a1] σ (some (.int q.1)) q.2 :=
  Ct.intro false (by decide) hi xc (Nat.le_of_ble_eq_true rfl) rfl (fun p e R s m args below meth c Q X rt => lkF_V_commonDivisor hi xc nx X rt  h)
end
def T_X10_gentlemen_0 : DT := [(0, .sipush 255, 3), (3, .aload_n 0, 1), (4, .iload_n 1, 1), (5, .iconst 3, 1), (6, .invokevirtual 56, 3), (9, .iconst (-1), 1), (10, .ixor, 1), (11, .iand, 1), (12, .ireturn, 1)]
theorem dt_X10_gentlemen_0 : dOk cX10_gentlemen T_X10_gentlemen_0 := by unfold dOk; decide +kernel
section
variable {v : ZV} {l : Launch} {p : Program} {e : Env} {R : Room} {s : State} {m : MethodId} {args : Array Value} {below : List Frame} {meth : Method} {c : Code} {Q : State → Prop} {res : (Int32 × Hp)} 
set_option maxRecDepth 20000 in
theorem lkF_X10_gentlemen (hi : zInj wC v) (xc : XC wC v) (nx : NXC v) (X : Cx wC v p R s m args c 0 0 cX10_gentlemen 2 RX10 4) (rt : Rt wC v p l e R s m args below meth c 0 0 Q cX10_gentlemen false (some (.int res.1)) res.2) {t : Nat} {a1 : Int32} {σ : Hp} (ht : isW t = true) (h : F_X10_gentlemen  t a1 σ = some res) : Go wC v p l e R s m args below meth c 0 0 Q 2 0 [(0, .ref t), (1, .int a1)] [] σ := by
  unfold F_X10_gentlemen at h
  refine go_sipush X (dk dt_X10_gentlemen_0 0 rfl) cs_255 ?_
  refine go_aload_n X 0 (dk dt_X10_gentlemen_0 1 rfl) rfl rfl ?_
  refine go_iload_n X 1 (dk dt_X10_gentlemen_0 2 rfl) rfl rfl ?_
  refine go_iconst X (dk dt_X10_gentlemen_0 3 rfl) ci_3 ?_
  refine go_Vi (As := [.int a1, .int (3 : Int32)]) (rest := [.int (255 : Int32)]) X vo_X10_56 (fun q hq => ct_X10_bits hi xc nx ht hq) (by decide) rfl (lW ht) (sW ht) rfl rfl (Nat.le_of_ble_eq_true rfl) (dk dt_X10_gentlemen_0 4 rfl) h (fun q6 h => ?_)
  refine go_iconst X (dk dt_X10_gentlemen_0 5 rfl) ci_m1 ?_
  refine go_ixor X (dk dt_X10_gentlemen_0 6 rfl) ?_
  refine go_iand X (dk dt_X10_gentlemen_0 7 rfl) ?_
  exact go_iret rt (dk dt_X10_gentlemen_0 8 rfl) h (fun hh => nomatch hh)
set_option maxRecDepth 20000 in
theorem ct_X10_gentlemen (hi : zInj wC v) (xc : XC wC v) (nx : NXC v)  {t : Nat} {a1 : Int32} {σ : Hp} (ht : isW t = true) {q : (Int32 × Hp)} (h : F_X10_gentlemen  t a1 σ = some q) : Ct wC v l yX10_gentlemen cX10_gentlemen 2 (some .int) 4 [.ref t, .int a1] σ (some (.int q.1)) q.2 :=
  Ct.intro false (by decide) hi xc (Nat.le_of_ble_eq_true rfl) rfl (fun p e R s m args below meth c Q X rt => lkF_X10_gentlemen hi xc nx X rt ht h)
end
def T_V_countOfSide_0 : DT := [(0, .iload_n 2, 1), (1, .tableswitch 84 0 4 #[35, 44, 54, 64, 74], 35), (36, .aload_n 0, 1), (37, .getfield 10, 3), (40, .iload_n 1, 1), (41, .invokevirtual 347, 3), (44, .ireturn, 1), (45, .aload_n 0, 1), (46, .getfield 10, 3), (49, .iload_n 1, 1), (50, .iconst 0, 1), (51, .invokevirtual 228, 3), (54, .ireturn, 1), (55, .aload_n 0, 1), (56, .getfield 10, 3), (59, .iload_n 1, 1)]
theorem dt_V_countOfSide_0 : dOk cX11_countOfSide T_V_countOfSide_0 := by unfold dOk; decide +kernel
def T_V_countOfSide_1 : DT := [(60, .iconst 1, 1), (61, .invokevirtual 228, 3), (64, .ireturn, 1), (65, .aload_n 0, 1), (66, .getfield 10, 3), (69, .iload_n 1, 1), (70, .iconst 2, 1), (71, .invokevirtual 228, 3), (74, .ireturn, 1), (75, .aload_n 0, 1), (76, .getfield 25, 3), (79, .getfield 135, 3), (82, .iload_n 1, 1), (83, .iaload, 1), (84, .ireturn, 1), (85, .aload_n 0, 1)]
theorem dt_V_countOfSide_1 : dOk cX11_countOfSide T_V_countOfSide_1 := by unfold dOk; decide +kernel
def T_V_countOfSide_2 : DT := [(86, .iload_n 1, 1), (87, .invokevirtual 180, 3), (90, .getfield 187, 3), (93, .ireturn, 1)]
theorem dt_V_countOfSide_2 : dOk cX11_countOfSide T_V_countOfSide_2 := by unfold dOk; decide +kernel
section
variable {v : ZV} {l : Launch} {p : Program} {e : Env} {R : Room} {s : State} {m : MethodId} {args : Array Value} {below : List Frame} {meth : Method} {c : Code} {Q : State → Prop} {res : (Int32 × Hp)} 
set_option maxRecDepth 20000 in
theorem lkF_V_countOfSide (hi : zInj wC v) (xc : XC wC v) (nx : NXC v) (X : Cx wC v p R s m args c 0 0 cX11_countOfSide 3 RX11 6) (rt : Rt wC v p l e R s m args below meth c 0 0 Q cX11_countOfSide false (some (.int res.1)) res.2) {a1 : Int32} {a2 : Int32} {σ : Hp}  (h : F_V_countOfSide  a1 a2 σ = some res) : Go wC v p l e R s m args below meth c 0 0 Q 3 0 [(0, .ref 0), (1, .int a1), (2, .int a2)] [] σ := by
  unfold F_V_countOfSide at h
  refine go_iload_n X 2 (dk dt_V_countOfSide_0 0 rfl) rfl rfl ?_
  by_cases hc1_0 : a2 = (0 : Int32)
  · rw [if_pos hc1_0] at h
    refine go_tsw (tgt := 36) X (dk dt_V_countOfSide_0 1 rfl) (by decide) (by rw [hc1_0]) (by decide) ?_
    refine go_aload_n X 0 (dk dt_V_countOfSide_0 2 rfl) rfl rfl ?_
    refine go_getr X fo_X11_10 lC_0 sC_0 fC_0_0 (dk dt_V_countOfSide_0 3 rfl) ?_
    refine go_iload_n X 1 (dk dt_V_countOfSide_0 4 rfl) rfl rfl ?_
    refine go_Vi (As := [.int a1]) (rest := []) X vo_X11_347 (fun q hq => ct_X10_gentlemen hi xc nx (by decide : isW 1 = true) hq) (by decide) rfl lC_1 sC_1 rfl rfl (Nat.le_of_ble_eq_true rfl) (dk dt_V_countOfSide_0 5 rfl) h (fun q41 h => ?_)
    exact go_iret rt (dk dt_V_countOfSide_0 6 rfl) h (fun hh => nomatch hh)
  rw [if_neg hc1_0] at h
  by_cases hc1_1 : a2 = (1 : Int32)
  · rw [if_pos hc1_1] at h
    refine go_tsw (tgt := 45) X (dk dt_V_countOfSide_0 1 rfl) (by decide) (by rw [hc1_1]) (by decide) ?_
    refine go_aload_n X 0 (dk dt_V_countOfSide_0 7 rfl) rfl rfl ?_
    refine go_getr X fo_X11_10 lC_0 sC_0 fC_0_0 (dk dt_V_countOfSide_0 8 rfl) ?_
    refine go_iload_n X 1 (dk dt_V_countOfSide_0 9 rfl) rfl rfl ?_
    refine go_iconst X (dk dt_V_countOfSide_0 10 rfl) ci_0 ?_
    refine go_Vi (As := [.int a1, .int (0 : Int32)]) (rest := []) X vo_X11_228 (fun q hq => ct_X10_bits hi xc nx (by decide : isW 1 = true) hq) (by decide) rfl lC_1 sC_1 rfl rfl (Nat.le_of_ble_eq_true rfl) (dk dt_V_countOfSide_0 11 rfl) h (fun q51 h => ?_)
    exact go_iret rt (dk dt_V_countOfSide_0 12 rfl) h (fun hh => nomatch hh)
  rw [if_neg hc1_1] at h
  by_cases hc1_2 : a2 = (2 : Int32)
  · rw [if_pos hc1_2] at h
    refine go_tsw (tgt := 55) X (dk dt_V_countOfSide_0 1 rfl) (by decide) (by rw [hc1_2]) (by decide) ?_
    refine go_aload_n X 0 (dk dt_V_countOfSide_0 13 rfl) rfl rfl ?_
    refine go_getr X fo_X11_10 lC_0 sC_0 fC_0_0 (dk dt_V_countOfSide_0 14 rfl) ?_
    refine go_iload_n X 1 (dk dt_V_countOfSide_0 15 rfl) rfl rfl ?_
    refine go_iconst X (dk dt_V_countOfSide_1 0 rfl) ci_1 ?_
    refine go_Vi (As := [.int a1, .int (1 : Int32)]) (rest := []) X vo_X11_228 (fun q hq => ct_X10_bits hi xc nx (by decide : isW 1 = true) hq) (by decide) rfl lC_1 sC_1 rfl rfl (Nat.le_of_ble_eq_true rfl) (dk dt_V_countOfSide_1 1 rfl) h (fun q61 h => ?_)
    exact go_iret rt (dk dt_V_countOfSide_1 2 rfl) h (fun hh => nomatch hh)
  rw [if_neg hc1_2] at h
  by_cases hc1_3 : a2 = (3 : Int32)
  · rw [if_pos hc1_3] at h
    refine go_tsw (tgt := 65) X (dk dt_V_countOfSide_0 1 rfl) (by decide) (by rw [hc1_3]) (by decide) ?_
    refine go_aload_n X 0 (dk dt_V_countOfSide_1 3 rfl) rfl rfl ?_
    refine go_getr X fo_X11_10 lC_0 sC_0 fC_0_0 (dk dt_V_countOfSide_1 4 rfl) ?_
    refine go_iload_n X 1 (dk dt_V_countOfSide_1 5 rfl) rfl rfl ?_
    refine go_iconst X (dk dt_V_countOfSide_1 6 rfl) ci_2 ?_
    refine go_Vi (As := [.int a1, .int (2 : Int32)]) (rest := []) X vo_X11_228 (fun q hq => ct_X10_bits hi xc nx (by decide : isW 1 = true) hq) (by decide) rfl lC_1 sC_1 rfl rfl (Nat.le_of_ble_eq_true rfl) (dk dt_V_countOfSide_1 7 rfl) h (fun q71 h => ?_)
    exact go_iret rt (dk dt_V_countOfSide_1 8 rfl) h (fun hh => nomatch hh)
  rw [if_neg hc1_3] at h
  by_cases hc1_4 : a2 = (4 : Int32)
  · rw [if_pos hc1_4] at h
    refine go_tsw (tgt := 75) X (dk dt_V_countOfSide_0 1 rfl) (by decide) (by rw [hc1_4]) (by decide) ?_
    refine go_aload_n X 0 (dk dt_V_countOfSide_1 9 rfl) rfl rfl ?_
    refine go_getr X fo_X11_25 lC_0 sC_0 fC_0_3 (dk dt_V_countOfSide_1 10 rfl) ?_
    refine go_getr X fo_X11_135 lC_19 sC_19 fC_19_1 (dk dt_V_countOfSide_1 11 rfl) ?_
    refine go_iload_n X 1 (dk dt_V_countOfSide_1 12 rfl) rfl rfl ?_
    refine go_iald X lC_21 sC_21 (dk dt_V_countOfSide_1 13 rfl) h (fun h => ?_)
    exact go_iret rt (dk dt_V_countOfSide_1 14 rfl) h (fun hh => nomatch hh)
  rw [if_neg hc1_4] at h
  refine go_tsw (tgt := 85) X (dk dt_V_countOfSide_0 1 rfl) (by decide) (sw_dflt [0, 1, 2, 3, 4] (by decide) (by simp only [List.mem_cons, List.not_mem_nil, or_false, not_or]; exact ⟨(i32_ne (k := 0) hc1_0), (i32_ne (k := 1) hc1_1), (i32_ne (k := 2) hc1_2), (i32_ne (k := 3) hc1_3), (i32_ne (k := 4) hc1_4)⟩)) (by decide) ?_
  refine go_aload_n X 0 (dk dt_V_countOfSide_1 15 rfl) rfl rfl ?_
  refine go_iload_n X 1 (dk dt_V_countOfSide_2 0 rfl) rfl rfl ?_
  refine go_Vr (As := [.int a1]) (rest := []) X vo_X11_180 (fun q hq => ct_V_signalsOf hi xc nx  hq) (by decide) rfl lC_0 sC_0 rfl rfl (Nat.le_of_ble_eq_true rfl) (dk dt_V_countOfSide_2 1 rfl) h (fun q87 h => ?_)
  obtain ⟨g1, h⟩ := gd_some h
  refine go_geti X fo_X11_187 (lS g1) (sS g1) (fS_1 g1) (dk dt_V_countOfSide_2 2 rfl) ?_
  exact go_iret rt (dk dt_V_countOfSide_2 3 rfl) h (fun hh => nomatch hh)
set_option maxRecDepth 20000 in
theorem ct_V_countOfSide (hi : zInj wC v) (xc : XC wC v) (nx : NXC v)  {a1 : Int32} {a2 : Int32} {σ : Hp}  {q : (Int32 × Hp)} (h : F_V_countOfSide  a1 a2 σ = some q) : Ct wC v l yX11_countOfSide cX11_countOfSide 3 (some .int) 6 [.ref 0, .int a1, .int a2] σ (some (.int q.1)) q.2 :=
  Ct.intro false (by decide) hi xc (Nat.le_of_ble_eq_true rfl) rfl (fun p e R s m args below meth c Q X rt => lkF_V_countOfSide hi xc nx X rt  h)
end
def T_V_count_0 : DT := [(0, .iload_n 1, 1), (1, .bipush 100, 2), (3, .bipush 123, 2), (5, .invokestatic 119, 3), (8, .ifCond .eq 16, 3), (11, .aload_n 0, 1), (12, .getfield 25, 3), (15, .getfield 138, 3), (18, .iload_n 1, 1), (19, .bipush 100, 2), (21, .isub, 1), (22, .iaload, 1), (23, .ireturn, 1), (24, .iload_n 1, 1), (25, .bipush 10, 2), (27, .bipush 15, 2)]
theorem dt_V_count_0 : dOk cX11_count T_V_count_0 := by unfold dOk; decide +kernel
def T_V_count_1 : DT := [(29, .invokestatic 119, 3), (32, .ifCond .eq 13, 3), (35, .aload_n 0, 1), (36, .iconst 0, 1), (37, .iload_n 1, 1), (38, .bipush 10, 2), (40, .isub, 1), (41, .invokevirtual 344, 3), (44, .ireturn, 1), (45, .iload_n 1, 1), (46, .bipush 20, 2), (48, .bipush 25, 2), (50, .invokestatic 119, 3), (53, .ifCond .eq 13, 3), (56, .aload_n 0, 1), (57, .iconst 1, 1)]
theorem dt_V_count_1 : dOk cX11_count T_V_count_1 := by unfold dOk; decide +kernel
def T_V_count_2 : DT := [(58, .iload_n 1, 1), (59, .bipush 20, 2), (61, .isub, 1), (62, .invokevirtual 344, 3), (65, .ireturn, 1), (66, .iload_n 1, 1), (67, .tableswitch 85 0 5 #[37, 45, 53, 61, 69, 77], 37), (104, .aload_n 0, 1), (105, .getfield 10, 3), (108, .getfield 341, 3), (111, .ireturn, 1), (112, .aload_n 0, 1), (113, .getfield 10, 3), (116, .getfield 255, 3), (119, .ireturn, 1), (120, .aload_n 0, 1)]
theorem dt_V_count_2 : dOk cX11_count T_V_count_2 := by unfold dOk; decide +kernel
def T_V_count_3 : DT := [(121, .getfield 10, 3), (124, .getfield 127, 3), (127, .ireturn, 1), (128, .aload_n 0, 1), (129, .getfield 95, 3), (132, .getfield 164, 3), (135, .ireturn, 1), (136, .aload_n 0, 1), (137, .getfield 32, 3), (140, .getfield 148, 3), (143, .ireturn, 1), (144, .aload_n 0, 1), (145, .getfield 10, 3), (148, .getfield 338, 3), (151, .ireturn, 1), (152, .iconst (-1), 1)]
theorem dt_V_count_3 : dOk cX11_count T_V_count_3 := by unfold dOk; decide +kernel
def T_V_count_4 : DT := [(153, .ireturn, 1)]
theorem dt_V_count_4 : dOk cX11_count T_V_count_4 := by unfold dOk; decide +kernel
section
variable {v : ZV} {l : Launch} {p : Program} {e : Env} {R : Room} {s : State} {m : MethodId} {args : Array Value} {below : List Frame} {meth : Method} {c : Code} {Q : State → Prop} {res : (Int32 × Hp)} 
set_option maxRecDepth 20000 in
theorem lkF_V_count (hi : zInj wC v) (xc : XC wC v) (nx : NXC v) (X : Cx wC v p R s m args c 0 0 cX11_count 2 RX11 8) (rt : Rt wC v p l e R s m args below meth c 0 0 Q cX11_count false (some (.int res.1)) res.2) {a1 : Int32} {σ : Hp}  (h : F_V_count  a1 σ = some res) : Go wC v p l e R s m args below meth c 0 0 Q 2 0 [(0, .ref 0), (1, .int a1)] [] σ := by
  unfold F_V_count at h
  refine go_iload_n X 1 (dk dt_V_count_0 0 rfl) rfl rfl ?_
  refine go_bipush X (dk dt_V_count_0 1 rfl) cb_100 ?_
  refine go_bipush X (dk dt_V_count_0 2 rfl) cb_123 ?_
  refine go_Si (As := [.int a1, .int (100 : Int32), .int (123 : Int32)]) (rest := []) X so_X11_119 (fun q hq => ct_V_within hi xc nx  hq) (by decide) rfl rfl (Nat.le_of_ble_eq_true rfl) (dk dt_V_count_0 3 rfl) h (fun q5 h => ?_)
  refine go_if_eq (tgt := 24) X (dk dt_V_count_0 4 rfl) (by decide) h (fun h => ?_) (fun h => ?_)
  · refine go_iload_n X 1 (dk dt_V_count_0 13 rfl) rfl rfl ?_
    refine go_bipush X (dk dt_V_count_0 14 rfl) cb_10 ?_
    refine go_bipush X (dk dt_V_count_0 15 rfl) cb_15 ?_
    refine go_Si (As := [.int a1, .int (10 : Int32), .int (15 : Int32)]) (rest := []) X so_X11_119 (fun q hq => ct_V_within hi xc nx  hq) (by decide) rfl rfl (Nat.le_of_ble_eq_true rfl) (dk dt_V_count_1 0 rfl) h (fun q29 h => ?_)
    refine go_if_eq (tgt := 45) X (dk dt_V_count_1 1 rfl) (by decide) h (fun h => ?_) (fun h => ?_)
    · refine go_iload_n X 1 (dk dt_V_count_1 9 rfl) rfl rfl ?_
      refine go_bipush X (dk dt_V_count_1 10 rfl) cb_20 ?_
      refine go_bipush X (dk dt_V_count_1 11 rfl) cb_25 ?_
      refine go_Si (As := [.int a1, .int (20 : Int32), .int (25 : Int32)]) (rest := []) X so_X11_119 (fun q hq => ct_V_within hi xc nx  hq) (by decide) rfl rfl (Nat.le_of_ble_eq_true rfl) (dk dt_V_count_1 12 rfl) h (fun q50 h => ?_)
      refine go_if_eq (tgt := 66) X (dk dt_V_count_1 13 rfl) (by decide) h (fun h => ?_) (fun h => ?_)
      · refine go_iload_n X 1 (dk dt_V_count_2 5 rfl) rfl rfl ?_
        by_cases hc67_0 : a1 = (0 : Int32)
        · rw [if_pos hc67_0] at h
          refine go_tsw (tgt := 104) X (dk dt_V_count_2 6 rfl) (by decide) (by rw [hc67_0]) (by decide) ?_
          refine go_aload_n X 0 (dk dt_V_count_2 7 rfl) rfl rfl ?_
          refine go_getr X fo_X11_10 lC_0 sC_0 fC_0_0 (dk dt_V_count_2 8 rfl) ?_
          refine go_geti X fo_X11_341 lC_1 sC_1 fC_1_6 (dk dt_V_count_2 9 rfl) ?_
          exact go_iret rt (dk dt_V_count_2 10 rfl) h (fun hh => nomatch hh)
        rw [if_neg hc67_0] at h
        by_cases hc67_1 : a1 = (1 : Int32)
        · rw [if_pos hc67_1] at h
          refine go_tsw (tgt := 112) X (dk dt_V_count_2 6 rfl) (by decide) (by rw [hc67_1]) (by decide) ?_
          refine go_aload_n X 0 (dk dt_V_count_2 11 rfl) rfl rfl ?_
          refine go_getr X fo_X11_10 lC_0 sC_0 fC_0_0 (dk dt_V_count_2 12 rfl) ?_
          refine go_geti X fo_X11_255 lC_1 sC_1 fC_1_5 (dk dt_V_count_2 13 rfl) ?_
          exact go_iret rt (dk dt_V_count_2 14 rfl) h (fun hh => nomatch hh)
        rw [if_neg hc67_1] at h
        by_cases hc67_2 : a1 = (2 : Int32)
        · rw [if_pos hc67_2] at h
          refine go_tsw (tgt := 120) X (dk dt_V_count_2 6 rfl) (by decide) (by rw [hc67_2]) (by decide) ?_
          refine go_aload_n X 0 (dk dt_V_count_2 15 rfl) rfl rfl ?_
          refine go_getr X fo_X11_10 lC_0 sC_0 fC_0_0 (dk dt_V_count_3 0 rfl) ?_
          refine go_geti X fo_X11_127 lC_1 sC_1 fC_1_8 (dk dt_V_count_3 1 rfl) ?_
          exact go_iret rt (dk dt_V_count_3 2 rfl) h (fun hh => nomatch hh)
        rw [if_neg hc67_2] at h
        by_cases hc67_3 : a1 = (3 : Int32)
        · rw [if_pos hc67_3] at h
          refine go_tsw (tgt := 128) X (dk dt_V_count_2 6 rfl) (by decide) (by rw [hc67_3]) (by decide) ?_
          refine go_aload_n X 0 (dk dt_V_count_3 3 rfl) rfl rfl ?_
          refine go_getd X fo_X11_95 lC_0 sC_0 fC_0_14 (dk dt_V_count_3 4 rfl) ?_
          obtain ⟨g1, h⟩ := gd_some h
          refine go_geti X fo_X11_164 (lL g1) (sL g1) (fL_8 g1) (dk dt_V_count_3 5 rfl) ?_
          exact go_iret rt (dk dt_V_count_3 6 rfl) h (fun hh => nomatch hh)
        rw [if_neg hc67_3] at h
        by_cases hc67_4 : a1 = (4 : Int32)
        · rw [if_pos hc67_4] at h
          refine go_tsw (tgt := 136) X (dk dt_V_count_2 6 rfl) (by decide) (by rw [hc67_4]) (by decide) ?_
          refine go_aload_n X 0 (dk dt_V_count_3 7 rfl) rfl rfl ?_
          refine go_getr X fo_X11_32 lC_0 sC_0 fC_0_4 (dk dt_V_count_3 8 rfl) ?_
          refine go_geti X fo_X11_148 lC_23 sC_23 fC_23_1 (dk dt_V_count_3 9 rfl) ?_
          exact go_iret rt (dk dt_V_count_3 10 rfl) h (fun hh => nomatch hh)
        rw [if_neg hc67_4] at h
        by_cases hc67_5 : a1 = (5 : Int32)
        · rw [if_pos hc67_5] at h
          refine go_tsw (tgt := 144) X (dk dt_V_count_2 6 rfl) (by decide) (by rw [hc67_5]) (by decide) ?_
          refine go_aload_n X 0 (dk dt_V_count_3 11 rfl) rfl rfl ?_
          refine go_getr X fo_X11_10 lC_0 sC_0 fC_0_0 (dk dt_V_count_3 12 rfl) ?_
          refine go_geti X fo_X11_338 lC_1 sC_1 fC_1_7 (dk dt_V_count_3 13 rfl) ?_
          exact go_iret rt (dk dt_V_count_3 14 rfl) h (fun hh => nomatch hh)
        rw [if_neg hc67_5] at h
        refine go_tsw (tgt := 152) X (dk dt_V_count_2 6 rfl) (by decide) (sw_dflt [0, 1, 2, 3, 4, 5] (by decide) (by simp only [List.mem_cons, List.not_mem_nil, or_false, not_or]; exact ⟨(i32_ne (k := 0) hc67_0), (i32_ne (k := 1) hc67_1), (i32_ne (k := 2) hc67_2), (i32_ne (k := 3) hc67_3), (i32_ne (k := 4) hc67_4), (i32_ne (k := 5) hc67_5)⟩)) (by decide) ?_
        refine go_iconst X (dk dt_V_count_3 15 rfl) ci_m1 ?_
        exact go_iret rt (dk dt_V_count_4 0 rfl) h (fun hh => nomatch hh)
      · refine go_aload_n X 0 (dk dt_V_count_1 14 rfl) rfl rfl ?_
        refine go_iconst X (dk dt_V_count_1 15 rfl) ci_1 ?_
        refine go_iload_n X 1 (dk dt_V_count_2 0 rfl) rfl rfl ?_
        refine go_bipush X (dk dt_V_count_2 1 rfl) cb_20 ?_
        refine go_isub X (dk dt_V_count_2 2 rfl) ?_
        refine go_Vi (As := [.int (1 : Int32), .int (a1 - (20 : Int32))]) (rest := []) X vo_X11_344 (fun q hq => ct_V_countOfSide hi xc nx  hq) (by decide) rfl lC_0 sC_0 rfl rfl (Nat.le_of_ble_eq_true rfl) (dk dt_V_count_2 3 rfl) h (fun q62 h => ?_)
        exact go_iret rt (dk dt_V_count_2 4 rfl) h (fun hh => nomatch hh)
    · refine go_aload_n X 0 (dk dt_V_count_1 2 rfl) rfl rfl ?_
      refine go_iconst X (dk dt_V_count_1 3 rfl) ci_0 ?_
      refine go_iload_n X 1 (dk dt_V_count_1 4 rfl) rfl rfl ?_
      refine go_bipush X (dk dt_V_count_1 5 rfl) cb_10 ?_
      refine go_isub X (dk dt_V_count_1 6 rfl) ?_
      refine go_Vi (As := [.int (0 : Int32), .int (a1 - (10 : Int32))]) (rest := []) X vo_X11_344 (fun q hq => ct_V_countOfSide hi xc nx  hq) (by decide) rfl lC_0 sC_0 rfl rfl (Nat.le_of_ble_eq_true rfl) (dk dt_V_count_1 7 rfl) h (fun q41 h => ?_)
      exact go_iret rt (dk dt_V_count_1 8 rfl) h (fun hh => nomatch hh)
  · refine go_aload_n X 0 (dk dt_V_count_0 5 rfl) rfl rfl ?_
    refine go_getr X fo_X11_25 lC_0 sC_0 fC_0_3 (dk dt_V_count_0 6 rfl) ?_
    refine go_getr X fo_X11_138 lC_19 sC_19 fC_19_0 (dk dt_V_count_0 7 rfl) ?_
    refine go_iload_n X 1 (dk dt_V_count_0 8 rfl) rfl rfl ?_
    refine go_bipush X (dk dt_V_count_0 9 rfl) cb_100 ?_
    refine go_isub X (dk dt_V_count_0 10 rfl) ?_
    refine go_iald X lC_20 sC_20 (dk dt_V_count_0 11 rfl) h (fun h => ?_)
    exact go_iret rt (dk dt_V_count_0 12 rfl) h (fun hh => nomatch hh)
set_option maxRecDepth 20000 in
theorem ct_V_count (hi : zInj wC v) (xc : XC wC v) (nx : NXC v)  {a1 : Int32} {σ : Hp}  {q : (Int32 × Hp)} (h : F_V_count  a1 σ = some q) : Ct wC v l yX11_count cX11_count 2 (some .int) 8 [.ref 0, .int a1] σ (some (.int q.1)) q.2 :=
  Ct.intro false (by decide) hi xc (Nat.le_of_ble_eq_true rfl) rfl (fun p e R s m args below meth c Q X rt => lkF_V_count hi xc nx X rt  h)
end
def T_V_crests_0 : DT := [(0, .iconst (-1), 1), (1, .istore_n 1, 1), (2, .iconst 0, 1), (3, .istore_n 2, 1), (4, .iconst 0, 1), (5, .istore_n 3, 1), (6, .iload_n 3, 1), (7, .bipush 24, 2), (9, .if_icmp .ge 35, 3), (12, .aload_n 0, 1), (13, .getfield 25, 3), (16, .getfield 138, 3), (19, .iload_n 3, 1), (20, .iaload, 1), (21, .iload_n 1, 1), (22, .if_icmp .le 16, 3)]
theorem dt_V_crests_0 : dOk cX11_crests T_V_crests_0 := by unfold dOk; decide +kernel
def T_V_crests_1 : DT := [(25, .aload_n 0, 1), (26, .getfield 25, 3), (29, .getfield 138, 3), (32, .iload_n 3, 1), (33, .iaload, 1), (34, .istore_n 1, 1), (35, .iinc 2 1, 3), (38, .iinc 3 1, 3), (41, .goto (-35), 3), (44, .iload_n 2, 1), (45, .ireturn, 1)]
theorem dt_V_crests_1 : dOk cX11_crests T_V_crests_1 := by unfold dOk; decide +kernel
section
variable {v : ZV} {l : Launch} {p : Program} {e : Env} {R : Room} {s : State} {m : MethodId} {args : Array Value} {below : List Frame} {meth : Method} {c : Code} {Q : State → Prop} {res : (Int32 × Hp)} 
set_option maxRecDepth 20000 in
theorem lkB_V_crests_6 (hi : zInj wC v) (xc : XC wC v) (nx : NXC v) (X : Cx wC v p R s m args c 0 0 cX11_crests 4 RX11 2) (rt : Rt wC v p l e R s m args below meth c 0 0 Q cX11_crests false (some (.int res.1)) res.2) {k6 : Int32 → Int32 → Int32 → Hp → Option (Int32 × Hp)} {x1 : Int32} {x2 : Int32} {x3 : Int32} {σ : Hp}  (hk6 : ∀ (x1 : Int32) (x2 : Int32) (x3 : Int32) (σ : Hp),  k6 x1 x2 x3 σ = some res → Go wC v p l e R s m args below meth c 0 0 Q 4 6 [(0, .ref 0), (1, .int x1), (2, .int x2), (3, .int x3)] [] σ) (h : B_V_crests_6  k6 x1 x2 x3 σ = some res) : Go wC v p l e R s m args below meth c 0 0 Q 4 6 [(0, .ref 0), (1, .int x1), (2, .int x2), (3, .int x3)] [] σ := by
  unfold B_V_crests_6 at h
  refine go_iload_n X 3 (dk dt_V_crests_0 6 rfl) rfl rfl ?_
  refine go_bipush X (dk dt_V_crests_0 7 rfl) cb_24 ?_
  refine go_icmp_ge (tgt := 44) X (dk dt_V_crests_0 8 rfl) (by decide) h (fun h => ?_) (fun h => ?_)
  · refine go_iload_n X 2 (dk dt_V_crests_1 9 rfl) rfl rfl ?_
    exact go_iret rt (dk dt_V_crests_1 10 rfl) h (fun hh => nomatch hh)
  · refine go_aload_n X 0 (dk dt_V_crests_0 9 rfl) rfl rfl ?_
    refine go_getr X fo_X11_25 lC_0 sC_0 fC_0_3 (dk dt_V_crests_0 10 rfl) ?_
    refine go_getr X fo_X11_138 lC_19 sC_19 fC_19_0 (dk dt_V_crests_0 11 rfl) ?_
    refine go_iload_n X 3 (dk dt_V_crests_0 12 rfl) rfl rfl ?_
    refine go_iald X lC_20 sC_20 (dk dt_V_crests_0 13 rfl) h (fun h => ?_)
    refine go_iload_n X 1 (dk dt_V_crests_0 14 rfl) rfl rfl ?_
    refine go_icmp_le (tgt := 38) X (dk dt_V_crests_0 15 rfl) (by decide) h (fun h => ?_) (fun h => ?_)
    · refine go_iinc (lv' := [(3, .int (x3 + (1 : Int32))), (0, .ref 0), (1, .int x1), (2, .int x2)]) X 3 (dk dt_V_crests_1 7 rfl) rfl ci_1 (by decide) rfl ?_
      refine go_goto (tgt := 6) X (dk dt_V_crests_1 8 rfl) (by decide) ?_
      refine go_sub [1, 2, 3, 0] rfl ?_
      exact hk6 _ _ _ _  h
    · refine go_aload_n X 0 (dk dt_V_crests_1 0 rfl) rfl rfl ?_
      refine go_getr X fo_X11_25 lC_0 sC_0 fC_0_3 (dk dt_V_crests_1 1 rfl) ?_
      refine go_getr X fo_X11_138 lC_19 sC_19 fC_19_0 (dk dt_V_crests_1 2 rfl) ?_
      refine go_iload_n X 3 (dk dt_V_crests_1 3 rfl) rfl rfl ?_
      refine go_iald X lC_20 sC_20 (dk dt_V_crests_1 4 rfl) h (fun h => ?_)
      refine go_istore_n (lv' := [(1, .int (σ 20 (Int32.toNatClampNeg x3))), (0, .ref 0), (2, .int x2), (3, .int x3)]) X (dk dt_V_crests_1 5 rfl) rfl (by decide) rfl ?_
      refine go_iinc (lv' := [(2, .int (x2 + (1 : Int32))), (1, .int (σ 20 (Int32.toNatClampNeg x3))), (0, .ref 0), (3, .int x3)]) X 2 (dk dt_V_crests_1 6 rfl) rfl ci_1 (by decide) rfl ?_
      refine go_iinc (lv' := [(3, .int (x3 + (1 : Int32))), (2, .int (x2 + (1 : Int32))), (1, .int (σ 20 (Int32.toNatClampNeg x3))), (0, .ref 0)]) X 3 (dk dt_V_crests_1 7 rfl) rfl ci_1 (by decide) rfl ?_
      refine go_goto (tgt := 6) X (dk dt_V_crests_1 8 rfl) (by decide) ?_
      refine go_sub [3, 2, 1, 0] rfl ?_
      exact hk6 _ _ _ _  h
set_option maxRecDepth 20000 in
theorem lkL_V_crests_6 (hi : zInj wC v) (xc : XC wC v) (nx : NXC v) (X : Cx wC v p R s m args c 0 0 cX11_crests 4 RX11 2) (rt : Rt wC v p l e R s m args below meth c 0 0 Q cX11_crests false (some (.int res.1)) res.2)   (n : Nat) : ∀ {x1 : Int32} {x2 : Int32} {x3 : Int32} {σ : Hp},  L_V_crests_6   n x1 x2 x3 σ = some res → Go wC v p l e R s m args below meth c 0 0 Q 4 6 [(0, .ref 0), (1, .int x1), (2, .int x2), (3, .int x3)] [] σ := by
  induction n with
  | zero => intro x1 x2 x3 σ  h; cases h
  | succ n ih =>
    intro x1 x2 x3 σ  h
    exact lkB_V_crests_6 hi xc nx X rt  (fun _ _ _ _  hh => ih  hh) h
set_option maxRecDepth 20000 in
theorem lkF_V_crests (hi : zInj wC v) (xc : XC wC v) (nx : NXC v) (X : Cx wC v p R s m args c 0 0 cX11_crests 4 RX11 2) (rt : Rt wC v p l e R s m args below meth c 0 0 Q cX11_crests false (some (.int res.1)) res.2)  {σ : Hp}  (h : F_V_crests   σ = some res) : Go wC v p l e R s m args below meth c 0 0 Q 4 0 [(0, .ref 0)] [] σ := by
  unfold F_V_crests at h
  refine go_iconst X (dk dt_V_crests_0 0 rfl) ci_m1 ?_
  refine go_istore_n (lv' := [(1, .int (-1 : Int32)), (0, .ref 0)]) X (dk dt_V_crests_0 1 rfl) rfl (by decide) rfl ?_
  refine go_iconst X (dk dt_V_crests_0 2 rfl) ci_0 ?_
  refine go_istore_n (lv' := [(2, .int (0 : Int32)), (1, .int (-1 : Int32)), (0, .ref 0)]) X (dk dt_V_crests_0 3 rfl) rfl (by decide) rfl ?_
  refine go_iconst X (dk dt_V_crests_0 4 rfl) ci_0 ?_
  refine go_istore_n (lv' := [(3, .int (0 : Int32)), (2, .int (0 : Int32)), (1, .int (-1 : Int32)), (0, .ref 0)]) X (dk dt_V_crests_0 5 rfl) rfl (by decide) rfl ?_
  refine go_sub [3, 2, 1, 0] rfl ?_
  exact lkL_V_crests_6 hi xc nx X rt  FU  h
set_option maxRecDepth 20000 in
theorem ct_V_crests (hi : zInj wC v) (xc : XC wC v) (nx : NXC v)   {σ : Hp}  {q : (Int32 × Hp)} (h : F_V_crests   σ = some q) : Ct wC v l yX11_crests cX11_crests 4 (some .int) 2 [.ref 0] σ (some (.int q.1)) q.2 :=
  Ct.intro false (by decide) hi xc (Nat.le_of_ble_eq_true rfl) rfl (fun p e R s m args below meth c Q X rt => lkF_V_crests hi xc nx X rt  h)
end
def T_X8_hasRoom_0 : DT := [(0, .aload_n 0, 1), (1, .getfield 15, 3), (4, .iload_n 1, 1), (5, .iadd, 1), (6, .aload_n 0, 1), (7, .getfield 9, 3), (10, .arraylength, 1), (11, .if_icmp .gt 7, 3), (14, .iconst 1, 1), (15, .goto 4, 3), (18, .iconst 0, 1), (19, .ireturn, 1)]
theorem dt_X8_hasRoom_0 : dOk cX8_hasRoom T_X8_hasRoom_0 := by unfold dOk; decide +kernel
section
variable {v : ZV} {l : Launch} {p : Program} {e : Env} {R : Room} {s : State} {m : MethodId} {args : Array Value} {below : List Frame} {meth : Method} {c : Code} {Q : State → Prop} {res : (Int32 × Hp)} 
set_option maxRecDepth 20000 in
theorem lkF_X8_hasRoom (hi : zInj wC v) (xc : XC wC v) (nx : NXC v) (X : Cx wC v p R s m args c 0 0 cX8_hasRoom 2 RX8 2) (rt : Rt wC v p l e R s m args below meth c 0 0 Q cX8_hasRoom true (some (.int res.1)) res.2) {a1 : Int32} {σ : Hp}  (h : F_X8_hasRoom  a1 σ = some res) : Go wC v p l e R s m args below meth c 0 0 Q 2 0 [(0, .ref 23), (1, .int a1)] [] σ := by
  unfold F_X8_hasRoom at h
  refine go_aload_n X 0 (dk dt_X8_hasRoom_0 0 rfl) rfl rfl ?_
  refine go_geti X fo_X8_15 lC_23 sC_23 fC_23_1 (dk dt_X8_hasRoom_0 1 rfl) ?_
  refine go_iload_n X 1 (dk dt_X8_hasRoom_0 2 rfl) rfl rfl ?_
  refine go_iadd X (dk dt_X8_hasRoom_0 3 rfl) ?_
  refine go_aload_n X 0 (dk dt_X8_hasRoom_0 4 rfl) rfl rfl ?_
  refine go_getr X fo_X8_9 lC_23 sC_23 fC_23_0 (dk dt_X8_hasRoom_0 5 rfl) ?_
  refine go_ialen X lC_24 sC_24 rfl (dk dt_X8_hasRoom_0 6 rfl) ?_
  refine go_icmp_gt (tgt := 18) X (dk dt_X8_hasRoom_0 7 rfl) (by decide) h (fun h => ?_) (fun h => ?_)
  · refine go_iconst X (dk dt_X8_hasRoom_0 10 rfl) ci_0 ?_
    exact go_iret rt (dk dt_X8_hasRoom_0 11 rfl) h (by decide)
  · refine go_iconst X (dk dt_X8_hasRoom_0 8 rfl) ci_1 ?_
    refine go_goto (tgt := 19) X (dk dt_X8_hasRoom_0 9 rfl) (by decide) ?_
    exact go_iret rt (dk dt_X8_hasRoom_0 11 rfl) h (by decide)
set_option maxRecDepth 20000 in
theorem ct_X8_hasRoom (hi : zInj wC v) (xc : XC wC v) (nx : NXC v)  {a1 : Int32} {σ : Hp}  {q : (Int32 × Hp)} (h : F_X8_hasRoom  a1 σ = some q) : Ct wC v l yX8_hasRoom cX8_hasRoom 2 (some .boolean) 2 [.ref 23, .int a1] σ (some (.int q.1)) q.2 :=
  Ct.intro true (by decide) hi xc (Nat.le_of_ble_eq_true rfl) rfl (fun p e R s m args below meth c Q X rt => lkF_X8_hasRoom hi xc nx X rt  h)
end
def T_X8_add_0 : DT := [(0, .bipush 24, 2), (2, .istore_n 2, 1), (3, .iload_n 2, 1), (4, .ifCond .lt 47, 3), (7, .aload_n 0, 1), (8, .getfield 15, 3), (11, .aload_n 0, 1), (12, .getfield 9, 3), (15, .arraylength, 1), (16, .if_icmp .ge 35, 3), (19, .aload_n 0, 1), (20, .getfield 9, 3), (23, .aload_n 0, 1), (24, .getfield 15, 3), (27, .iload_n 1, 1), (28, .iload_n 2, 1)]
theorem dt_X8_add_0 : dOk cX8_add T_X8_add_0 := by unfold dOk; decide +kernel
def T_X8_add_1 : DT := [(29, .ishr, 1), (30, .sipush 255, 3), (33, .iand, 1), (34, .iastore, 1), (35, .aload_n 0, 1), (36, .dup, 1), (37, .getfield 15, 3), (40, .iconst 1, 1), (41, .iadd, 1), (42, .putfield 15, 3), (45, .iinc 2 (-8), 3), (48, .goto (-45), 3), (51, .return_, 1)]
theorem dt_X8_add_1 : dOk cX8_add T_X8_add_1 := by unfold dOk; decide +kernel
section
variable {v : ZV} {l : Launch} {p : Program} {e : Env} {R : Room} {s : State} {m : MethodId} {args : Array Value} {below : List Frame} {meth : Method} {c : Code} {Q : State → Prop} {res : Hp} 
set_option maxRecDepth 20000 in
theorem lkB_X8_add_3 (hi : zInj wC v) (xc : XC wC v) (nx : NXC v) (X : Cx wC v p R s m args c 0 0 cX8_add 3 RX8 2) (rt : Rt wC v p l e R s m args below meth c 0 0 Q cX8_add false none res) {k3 : Int32 → Int32 → Hp → Option Hp} {x1 : Int32} {x2 : Int32} {σ : Hp}  (hk3 : ∀ (x1 : Int32) (x2 : Int32) (σ : Hp),  k3 x1 x2 σ = some res → Go wC v p l e R s m args below meth c 0 0 Q 3 3 [(0, .ref 23), (1, .int x1), (2, .int x2)] [] σ) (h : B_X8_add_3  k3 x1 x2 σ = some res) : Go wC v p l e R s m args below meth c 0 0 Q 3 3 [(0, .ref 23), (1, .int x1), (2, .int x2)] [] σ := by
  unfold B_X8_add_3 at h
  refine go_iload_n X 2 (dk dt_X8_add_0 2 rfl) rfl rfl ?_
  refine go_if_lt (tgt := 51) X (dk dt_X8_add_0 3 rfl) (by decide) h (fun h => ?_) (fun h => ?_)
  · exact go_vret rt (dk dt_X8_add_1 12 rfl) h
  · refine go_aload_n X 0 (dk dt_X8_add_0 4 rfl) rfl rfl ?_
    refine go_geti X fo_X8_15 lC_23 sC_23 fC_23_1 (dk dt_X8_add_0 5 rfl) ?_
    refine go_aload_n X 0 (dk dt_X8_add_0 6 rfl) rfl rfl ?_
    refine go_getr X fo_X8_9 lC_23 sC_23 fC_23_0 (dk dt_X8_add_0 7 rfl) ?_
    refine go_ialen X lC_24 sC_24 rfl (dk dt_X8_add_0 8 rfl) ?_
    refine go_icmp_ge (tgt := 51) X (dk dt_X8_add_0 9 rfl) (by decide) h (fun h => ?_) (fun h => ?_)
    · exact go_vret rt (dk dt_X8_add_1 12 rfl) h
    · refine go_aload_n X 0 (dk dt_X8_add_0 10 rfl) rfl rfl ?_
      refine go_getr X fo_X8_9 lC_23 sC_23 fC_23_0 (dk dt_X8_add_0 11 rfl) ?_
      refine go_aload_n X 0 (dk dt_X8_add_0 12 rfl) rfl rfl ?_
      refine go_geti X fo_X8_15 lC_23 sC_23 fC_23_1 (dk dt_X8_add_0 13 rfl) ?_
      refine go_iload_n X 1 (dk dt_X8_add_0 14 rfl) rfl rfl ?_
      refine go_iload_n X 2 (dk dt_X8_add_0 15 rfl) rfl rfl ?_
      refine go_ishr X (dk dt_X8_add_1 0 rfl) ?_
      refine go_sipush X (dk dt_X8_add_1 1 rfl) cs_255 ?_
      refine go_iand X (dk dt_X8_add_1 2 rfl) ?_
      refine go_iast X lC_24 sC_24 (dk dt_X8_add_1 3 rfl) h (fun h => ?_)
      refine go_aload_n X 0 (dk dt_X8_add_1 4 rfl) rfl rfl ?_
      refine go_dup X (dk dt_X8_add_1 5 rfl) rfl ?_
      refine go_geti X fo_X8_15 lC_23 sC_23 fC_23_1 (dk dt_X8_add_1 6 rfl) ?_
      refine go_iconst X (dk dt_X8_add_1 7 rfl) ci_1 ?_
      refine go_iadd X (dk dt_X8_add_1 8 rfl) ?_
      refine go_puti X fo_X8_15 pf_8_1 lC_23 sC_23 fC_23_1 (dk dt_X8_add_1 9 rfl) ?_
      refine go_iinc (lv' := [(2, .int (x2 + (-8 : Int32))), (0, .ref 23), (1, .int x1)]) X 2 (dk dt_X8_add_1 10 rfl) rfl ci_m8 (by decide) rfl ?_
      refine go_goto (tgt := 3) X (dk dt_X8_add_1 11 rfl) (by decide) ?_
      refine go_sub [1, 2, 0] rfl ?_
      exact hk3 _ _ _  h
set_option maxRecDepth 20000 in
theorem lkL_X8_add_3 (hi : zInj wC v) (xc : XC wC v) (nx : NXC v) (X : Cx wC v p R s m args c 0 0 cX8_add 3 RX8 2) (rt : Rt wC v p l e R s m args below meth c 0 0 Q cX8_add false none res)   (n : Nat) : ∀ {x1 : Int32} {x2 : Int32} {σ : Hp},  L_X8_add_3   n x1 x2 σ = some res → Go wC v p l e R s m args below meth c 0 0 Q 3 3 [(0, .ref 23), (1, .int x1), (2, .int x2)] [] σ := by
  induction n with
  | zero => intro x1 x2 σ  h; cases h
  | succ n ih =>
    intro x1 x2 σ  h
    exact lkB_X8_add_3 hi xc nx X rt  (fun _ _ _  hh => ih  hh) h
set_option maxRecDepth 20000 in
theorem lkF_X8_add (hi : zInj wC v) (xc : XC wC v) (nx : NXC v) (X : Cx wC v p R s m args c 0 0 cX8_add 3 RX8 2) (rt : Rt wC v p l e R s m args below meth c 0 0 Q cX8_add false none res) {a1 : Int32} {σ : Hp}  (h : F_X8_add  a1 σ = some res) : Go wC v p l e R s m args below meth c 0 0 Q 3 0 [(0, .ref 23), (1, .int a1)] [] σ := by
  unfold F_X8_add at h
  refine go_bipush X (dk dt_X8_add_0 0 rfl) cb_24 ?_
  refine go_istore_n (lv' := [(2, .int (24 : Int32)), (0, .ref 23), (1, .int a1)]) X (dk dt_X8_add_0 1 rfl) rfl (by decide) rfl ?_
  refine go_sub [1, 2, 0] rfl ?_
  exact lkL_X8_add_3 hi xc nx X rt  FU  h
set_option maxRecDepth 20000 in
theorem ct_X8_add (hi : zInj wC v) (xc : XC wC v) (nx : NXC v)  {a1 : Int32} {σ : Hp}  {q : Hp} (h : F_X8_add  a1 σ = some q) : Ct wC v l yX8_add cX8_add 3 none 2 [.ref 23, .int a1] σ none q :=
  Ct.intro false (by decide) hi xc (Nat.le_of_ble_eq_true rfl) rfl (fun p e R s m args below meth c Q X rt => lkF_X8_add hi xc nx X rt  h)
end
def T_V_feed_0 : DT := [(0, .aload_n 0, 1), (1, .getfield 32, 3), (4, .bipush 20, 2), (6, .invokevirtual 141, 3), (9, .ifCond .ne 5, 3), (12, .iconst (-1), 1), (13, .ireturn, 1), (14, .aload_n 0, 1), (15, .getfield 32, 3), (18, .iload_n 1, 1), (19, .invokevirtual 144, 3), (22, .aload_n 0, 1), (23, .getfield 32, 3), (26, .iload_n 2, 1), (27, .invokevirtual 144, 3), (30, .aload_n 0, 1)]
theorem dt_V_feed_0 : dOk cX11_feed T_V_feed_0 := by unfold dOk; decide +kernel
def T_V_feed_1 : DT := [(31, .getfield 32, 3), (34, .iload_n 3, 1), (35, .invokevirtual 144, 3), (38, .aload_n 0, 1), (39, .getfield 32, 3), (42, .iload 4, 2), (44, .invokevirtual 144, 3), (47, .aload_n 0, 1), (48, .getfield 32, 3), (51, .iload 5, 2), (53, .invokevirtual 144, 3), (56, .aload_n 0, 1), (57, .getfield 32, 3), (60, .getfield 148, 3), (63, .ireturn, 1)]
theorem dt_V_feed_1 : dOk cX11_feed T_V_feed_1 := by unfold dOk; decide +kernel
section
variable {v : ZV} {l : Launch} {p : Program} {e : Env} {R : Room} {s : State} {m : MethodId} {args : Array Value} {below : List Frame} {meth : Method} {c : Code} {Q : State → Prop} {res : (Int32 × Hp)} 
set_option maxRecDepth 20000 in
theorem lkF_V_feed (hi : zInj wC v) (xc : XC wC v) (nx : NXC v) (X : Cx wC v p R s m args c 0 0 cX11_feed 6 RX11 4) (rt : Rt wC v p l e R s m args below meth c 0 0 Q cX11_feed false (some (.int res.1)) res.2) {a1 : Int32} {a2 : Int32} {a3 : Int32} {a4 : Int32} {a5 : Int32} {σ : Hp}  (h : F_V_feed  a1 a2 a3 a4 a5 σ = some res) : Go wC v p l e R s m args below meth c 0 0 Q 6 0 [(0, .ref 0), (1, .int a1), (2, .int a2), (3, .int a3), (4, .int a4), (5, .int a5)] [] σ := by
  unfold F_V_feed at h
  refine go_aload_n X 0 (dk dt_V_feed_0 0 rfl) rfl rfl ?_
  refine go_getr X fo_X11_32 lC_0 sC_0 fC_0_4 (dk dt_V_feed_0 1 rfl) ?_
  refine go_bipush X (dk dt_V_feed_0 2 rfl) cb_20 ?_
  refine go_Vi (As := [.int (20 : Int32)]) (rest := []) X vo_X11_141 (fun q hq => ct_X8_hasRoom hi xc nx  hq) (by decide) rfl lC_23 sC_23 rfl rfl (Nat.le_of_ble_eq_true rfl) (dk dt_V_feed_0 3 rfl) h (fun q6 h => ?_)
  refine go_if_ne (tgt := 14) X (dk dt_V_feed_0 4 rfl) (by decide) h (fun h => ?_) (fun h => ?_)
  · refine go_aload_n X 0 (dk dt_V_feed_0 7 rfl) rfl rfl ?_
    refine go_getr X fo_X11_32 lC_0 sC_0 fC_0_4 (dk dt_V_feed_0 8 rfl) ?_
    refine go_iload_n X 1 (dk dt_V_feed_0 9 rfl) rfl rfl ?_
    refine go_Vv (As := [.int a1]) (rest := []) X vo_X11_144 (fun q hq => ct_X8_add hi xc nx  hq) (by decide) rfl lC_23 sC_23 rfl rfl (Nat.le_of_ble_eq_true rfl) (dk dt_V_feed_0 10 rfl) h (fun q19 h => ?_)
    refine go_aload_n X 0 (dk dt_V_feed_0 11 rfl) rfl rfl ?_
    refine go_getr X fo_X11_32 lC_0 sC_0 fC_0_4 (dk dt_V_feed_0 12 rfl) ?_
    refine go_iload_n X 2 (dk dt_V_feed_0 13 rfl) rfl rfl ?_
    refine go_Vv (As := [.int a2]) (rest := []) X vo_X11_144 (fun q hq => ct_X8_add hi xc nx  hq) (by decide) rfl lC_23 sC_23 rfl rfl (Nat.le_of_ble_eq_true rfl) (dk dt_V_feed_0 14 rfl) h (fun q27 h => ?_)
    refine go_aload_n X 0 (dk dt_V_feed_0 15 rfl) rfl rfl ?_
    refine go_getr X fo_X11_32 lC_0 sC_0 fC_0_4 (dk dt_V_feed_1 0 rfl) ?_
    refine go_iload_n X 3 (dk dt_V_feed_1 1 rfl) rfl rfl ?_
    refine go_Vv (As := [.int a3]) (rest := []) X vo_X11_144 (fun q hq => ct_X8_add hi xc nx  hq) (by decide) rfl lC_23 sC_23 rfl rfl (Nat.le_of_ble_eq_true rfl) (dk dt_V_feed_1 2 rfl) h (fun q35 h => ?_)
    refine go_aload_n X 0 (dk dt_V_feed_1 3 rfl) rfl rfl ?_
    refine go_getr X fo_X11_32 lC_0 sC_0 fC_0_4 (dk dt_V_feed_1 4 rfl) ?_
    refine go_iload X 4 (dk dt_V_feed_1 5 rfl) rfl ?_
    refine go_Vv (As := [.int a4]) (rest := []) X vo_X11_144 (fun q hq => ct_X8_add hi xc nx  hq) (by decide) rfl lC_23 sC_23 rfl rfl (Nat.le_of_ble_eq_true rfl) (dk dt_V_feed_1 6 rfl) h (fun q44 h => ?_)
    refine go_aload_n X 0 (dk dt_V_feed_1 7 rfl) rfl rfl ?_
    refine go_getr X fo_X11_32 lC_0 sC_0 fC_0_4 (dk dt_V_feed_1 8 rfl) ?_
    refine go_iload X 5 (dk dt_V_feed_1 9 rfl) rfl ?_
    refine go_Vv (As := [.int a5]) (rest := []) X vo_X11_144 (fun q hq => ct_X8_add hi xc nx  hq) (by decide) rfl lC_23 sC_23 rfl rfl (Nat.le_of_ble_eq_true rfl) (dk dt_V_feed_1 10 rfl) h (fun q53 h => ?_)
    refine go_aload_n X 0 (dk dt_V_feed_1 11 rfl) rfl rfl ?_
    refine go_getr X fo_X11_32 lC_0 sC_0 fC_0_4 (dk dt_V_feed_1 12 rfl) ?_
    refine go_geti X fo_X11_148 lC_23 sC_23 fC_23_1 (dk dt_V_feed_1 13 rfl) ?_
    exact go_iret rt (dk dt_V_feed_1 14 rfl) h (fun hh => nomatch hh)
  · refine go_iconst X (dk dt_V_feed_0 5 rfl) ci_m1 ?_
    exact go_iret rt (dk dt_V_feed_0 6 rfl) h (fun hh => nomatch hh)
set_option maxRecDepth 20000 in
theorem ct_V_feed (hi : zInj wC v) (xc : XC wC v) (nx : NXC v)  {a1 : Int32} {a2 : Int32} {a3 : Int32} {a4 : Int32} {a5 : Int32} {σ : Hp}  {q : (Int32 × Hp)} (h : F_V_feed  a1 a2 a3 a4 a5 σ = some q) : Ct wC v l yX11_feed cX11_feed 6 (some .int) 4 [.ref 0, .int a1, .int a2, .int a3, .int a4, .int a5] σ (some (.int q.1)) q.2 :=
  Ct.intro false (by decide) hi xc (Nat.le_of_ble_eq_true rfl) rfl (fun p e R s m args below meth c Q X rt => lkF_V_feed hi xc nx X rt  h)
end
def T_X10_copy_0 : DT := [(0, .aload_n 1, 1), (1, .getfield 9, 3), (4, .iconst 0, 1), (5, .aload_n 0, 1), (6, .getfield 9, 3), (9, .iconst 0, 1), (10, .bipush 16, 2), (12, .invokestatic 46, 3), (15, .aload_n 1, 1), (16, .getfield 15, 3), (19, .iconst 0, 1), (20, .aload_n 0, 1), (21, .getfield 15, 3), (24, .iconst 0, 1), (25, .bipush 16, 2), (27, .invokestatic 46, 3)]
theorem dt_X10_copy_0 : dOk cX10_copy T_X10_copy_0 := by unfold dOk; decide +kernel
def T_X10_copy_1 : DT := [(30, .aload_n 1, 1), (31, .getfield 18, 3), (34, .iconst 0, 1), (35, .aload_n 0, 1), (36, .getfield 18, 3), (39, .iconst 0, 1), (40, .bipush 16, 2), (42, .invokestatic 46, 3), (45, .aload_n 1, 1), (46, .getfield 21, 3), (49, .iconst 0, 1), (50, .aload_n 0, 1), (51, .getfield 21, 3), (54, .iconst 0, 1), (55, .bipush 16, 2), (57, .invokestatic 46, 3)]
theorem dt_X10_copy_1 : dOk cX10_copy T_X10_copy_1 := by unfold dOk; decide +kernel
def T_X10_copy_2 : DT := [(60, .aload_n 1, 1), (61, .getfield 24, 3), (64, .iconst 0, 1), (65, .aload_n 0, 1), (66, .getfield 24, 3), (69, .iconst 0, 1), (70, .bipush 16, 2), (72, .invokestatic 46, 3), (75, .aload_n 0, 1), (76, .aload_n 1, 1), (77, .getfield 27, 3), (80, .putfield 27, 3), (83, .aload_n 0, 1), (84, .aload_n 1, 1), (85, .getfield 31, 3), (88, .putfield 31, 3)]
theorem dt_X10_copy_2 : dOk cX10_copy T_X10_copy_2 := by unfold dOk; decide +kernel
def T_X10_copy_3 : DT := [(91, .aload_n 0, 1), (92, .aload_n 1, 1), (93, .getfield 34, 3), (96, .putfield 34, 3), (99, .aload_n 0, 1), (100, .aload_n 1, 1), (101, .getfield 37, 3), (104, .putfield 37, 3), (107, .return_, 1)]
theorem dt_X10_copy_3 : dOk cX10_copy T_X10_copy_3 := by unfold dOk; decide +kernel
section
variable {v : ZV} {l : Launch} {p : Program} {e : Env} {R : Room} {s : State} {m : MethodId} {args : Array Value} {below : List Frame} {meth : Method} {c : Code} {Q : State → Prop} {res : Hp} 
set_option maxRecDepth 20000 in
theorem lkF_X10_copy (hi : zInj wC v) (xc : XC wC v) (nx : NXC v) (X : Cx wC v p R s m args c 0 0 cX10_copy 2 RX10 2) (rt : Rt wC v p l e R s m args below meth c 0 0 Q cX10_copy false none res) {t : Nat} {a1 : Nat} {σ : Hp} (ht : isW t = true) (ha1 : isW a1 = true) (h : F_X10_copy  t a1 σ = some res) : Go wC v p l e R s m args below meth c 0 0 Q 2 0 [(0, .ref t), (1, .ref a1)] [] σ := by
  unfold F_X10_copy at h
  refine go_aload_n X 1 (dk dt_X10_copy_0 0 rfl) rfl rfl ?_
  refine go_getr X fo_X10_9 (lW ha1) (sW ha1) (fW_0 ha1) (dk dt_X10_copy_0 1 rfl) ?_
  refine go_iconst X (dk dt_X10_copy_0 2 rfl) ci_0 ?_
  refine go_aload_n X 0 (dk dt_X10_copy_0 3 rfl) rfl rfl ?_
  refine go_getr X fo_X10_9 (lW ht) (sW ht) (fW_0 ht) (dk dt_X10_copy_0 4 rfl) ?_
  refine go_iconst X (dk dt_X10_copy_0 5 rfl) ci_0 ?_
  refine go_bipush X (dk dt_X10_copy_0 6 rfl) cb_16 ?_
  refine go_copy (n := 16) X ao_X10_46 (by decide) (lWa_1 ha1) (lWa_1 ht) (sWa_1 ha1) (sWa_1 ht) (by decide) (by decide) (Nat.le_of_ble_eq_true rfl) (Nat.le_of_ble_eq_true rfl) (Nat.le_of_ble_eq_true rfl) (dk dt_X10_copy_0 7 rfl) ?_
  refine go_aload_n X 1 (dk dt_X10_copy_0 8 rfl) rfl rfl ?_
  refine go_getr X fo_X10_15 (lW ha1) (sW ha1) (fW_1 ha1) (dk dt_X10_copy_0 9 rfl) ?_
  refine go_iconst X (dk dt_X10_copy_0 10 rfl) ci_0 ?_
  refine go_aload_n X 0 (dk dt_X10_copy_0 11 rfl) rfl rfl ?_
  refine go_getr X fo_X10_15 (lW ht) (sW ht) (fW_1 ht) (dk dt_X10_copy_0 12 rfl) ?_
  refine go_iconst X (dk dt_X10_copy_0 13 rfl) ci_0 ?_
  refine go_bipush X (dk dt_X10_copy_0 14 rfl) cb_16 ?_
  refine go_copy (n := 16) X ao_X10_46 (by decide) (lWa_2 ha1) (lWa_2 ht) (sWa_2 ha1) (sWa_2 ht) (by decide) (by decide) (Nat.le_of_ble_eq_true rfl) (Nat.le_of_ble_eq_true rfl) (Nat.le_of_ble_eq_true rfl) (dk dt_X10_copy_0 15 rfl) ?_
  refine go_aload_n X 1 (dk dt_X10_copy_1 0 rfl) rfl rfl ?_
  refine go_getr X fo_X10_18 (lW ha1) (sW ha1) (fW_2 ha1) (dk dt_X10_copy_1 1 rfl) ?_
  refine go_iconst X (dk dt_X10_copy_1 2 rfl) ci_0 ?_
  refine go_aload_n X 0 (dk dt_X10_copy_1 3 rfl) rfl rfl ?_
  refine go_getr X fo_X10_18 (lW ht) (sW ht) (fW_2 ht) (dk dt_X10_copy_1 4 rfl) ?_
  refine go_iconst X (dk dt_X10_copy_1 5 rfl) ci_0 ?_
  refine go_bipush X (dk dt_X10_copy_1 6 rfl) cb_16 ?_
  refine go_copy (n := 16) X ao_X10_46 (by decide) (lWa_3 ha1) (lWa_3 ht) (sWa_3 ha1) (sWa_3 ht) (by decide) (by decide) (Nat.le_of_ble_eq_true rfl) (Nat.le_of_ble_eq_true rfl) (Nat.le_of_ble_eq_true rfl) (dk dt_X10_copy_1 7 rfl) ?_
  refine go_aload_n X 1 (dk dt_X10_copy_1 8 rfl) rfl rfl ?_
  refine go_getr X fo_X10_21 (lW ha1) (sW ha1) (fW_3 ha1) (dk dt_X10_copy_1 9 rfl) ?_
  refine go_iconst X (dk dt_X10_copy_1 10 rfl) ci_0 ?_
  refine go_aload_n X 0 (dk dt_X10_copy_1 11 rfl) rfl rfl ?_
  refine go_getr X fo_X10_21 (lW ht) (sW ht) (fW_3 ht) (dk dt_X10_copy_1 12 rfl) ?_
  refine go_iconst X (dk dt_X10_copy_1 13 rfl) ci_0 ?_
  refine go_bipush X (dk dt_X10_copy_1 14 rfl) cb_16 ?_
  refine go_copy (n := 16) X ao_X10_46 (by decide) (lWa_4 ha1) (lWa_4 ht) (sWa_4 ha1) (sWa_4 ht) (by decide) (by decide) (Nat.le_of_ble_eq_true rfl) (Nat.le_of_ble_eq_true rfl) (Nat.le_of_ble_eq_true rfl) (dk dt_X10_copy_1 15 rfl) ?_
  refine go_aload_n X 1 (dk dt_X10_copy_2 0 rfl) rfl rfl ?_
  refine go_getr X fo_X10_24 (lW ha1) (sW ha1) (fW_4 ha1) (dk dt_X10_copy_2 1 rfl) ?_
  refine go_iconst X (dk dt_X10_copy_2 2 rfl) ci_0 ?_
  refine go_aload_n X 0 (dk dt_X10_copy_2 3 rfl) rfl rfl ?_
  refine go_getr X fo_X10_24 (lW ht) (sW ht) (fW_4 ht) (dk dt_X10_copy_2 4 rfl) ?_
  refine go_iconst X (dk dt_X10_copy_2 5 rfl) ci_0 ?_
  refine go_bipush X (dk dt_X10_copy_2 6 rfl) cb_16 ?_
  refine go_copy (n := 16) X ao_X10_46 (by decide) (lWa_5 ha1) (lWa_5 ht) (sWa_5 ha1) (sWa_5 ht) (by decide) (by decide) (Nat.le_of_ble_eq_true rfl) (Nat.le_of_ble_eq_true rfl) (Nat.le_of_ble_eq_true rfl) (dk dt_X10_copy_2 7 rfl) ?_
  refine go_aload_n X 0 (dk dt_X10_copy_2 8 rfl) rfl rfl ?_
  refine go_aload_n X 1 (dk dt_X10_copy_2 9 rfl) rfl rfl ?_
  refine go_geti X fo_X10_27 (lW ha1) (sW ha1) (fW_5 ha1) (dk dt_X10_copy_2 10 rfl) ?_
  refine go_puti X fo_X10_27 pf_10_5 (lW ht) (sW ht) (fW_5 ht) (dk dt_X10_copy_2 11 rfl) ?_
  refine go_aload_n X 0 (dk dt_X10_copy_2 12 rfl) rfl rfl ?_
  refine go_aload_n X 1 (dk dt_X10_copy_2 13 rfl) rfl rfl ?_
  refine go_geti X fo_X10_31 (lW ha1) (sW ha1) (fW_6 ha1) (dk dt_X10_copy_2 14 rfl) ?_
  refine go_puti X fo_X10_31 pf_10_6 (lW ht) (sW ht) (fW_6 ht) (dk dt_X10_copy_2 15 rfl) ?_
  refine go_aload_n X 0 (dk dt_X10_copy_3 0 rfl) rfl rfl ?_
  refine go_aload_n X 1 (dk dt_X10_copy_3 1 rfl) rfl rfl ?_
  refine go_geti X fo_X10_34 (lW ha1) (sW ha1) (fW_7 ha1) (dk dt_X10_copy_3 2 rfl) ?_
  refine go_puti X fo_X10_34 pf_10_7 (lW ht) (sW ht) (fW_7 ht) (dk dt_X10_copy_3 3 rfl) ?_
  refine go_aload_n X 0 (dk dt_X10_copy_3 4 rfl) rfl rfl ?_
  refine go_aload_n X 1 (dk dt_X10_copy_3 5 rfl) rfl rfl ?_
  refine go_geti X fo_X10_37 (lW ha1) (sW ha1) (fW_8 ha1) (dk dt_X10_copy_3 6 rfl) ?_
  refine go_puti X fo_X10_37 pf_10_8 (lW ht) (sW ht) (fW_8 ht) (dk dt_X10_copy_3 7 rfl) ?_
  exact go_vret rt (dk dt_X10_copy_3 8 rfl) h
set_option maxRecDepth 20000 in
theorem ct_X10_copy (hi : zInj wC v) (xc : XC wC v) (nx : NXC v)  {t : Nat} {a1 : Nat} {σ : Hp} (ht : isW t = true) (ha1 : isW a1 = true) {q : Hp} (h : F_X10_copy  t a1 σ = some q) : Ct wC v l yX10_copy cX10_copy 2 none 2 [.ref t, .ref a1] σ none q :=
  Ct.intro false (by decide) hi xc (Nat.le_of_ble_eq_true rfl) rfl (fun p e R s m args below meth c Q X rt => lkF_X10_copy hi xc nx X rt ht ha1 h)
end
def T_X10_goesOn_0 : DT := [(0, .aload_n 0, 1), (1, .getfield 37, 3), (4, .ifCond .ne 17, 3), (7, .aload_n 0, 1), (8, .getfield 31, 3), (11, .sipush 9999, 3), (14, .if_icmp .ge 7, 3), (17, .iconst 1, 1), (18, .goto 4, 3), (21, .iconst 0, 1), (22, .ireturn, 1)]
theorem dt_X10_goesOn_0 : dOk cX10_goesOn T_X10_goesOn_0 := by unfold dOk; decide +kernel
section
variable {v : ZV} {l : Launch} {p : Program} {e : Env} {R : Room} {s : State} {m : MethodId} {args : Array Value} {below : List Frame} {meth : Method} {c : Code} {Q : State → Prop} {res : (Int32 × Hp)} 
set_option maxRecDepth 20000 in
theorem lkF_X10_goesOn (hi : zInj wC v) (xc : XC wC v) (nx : NXC v) (X : Cx wC v p R s m args c 0 0 cX10_goesOn 1 RX10 2) (rt : Rt wC v p l e R s m args below meth c 0 0 Q cX10_goesOn true (some (.int res.1)) res.2) {t : Nat} {σ : Hp} (ht : isW t = true) (h : F_X10_goesOn  t σ = some res) : Go wC v p l e R s m args below meth c 0 0 Q 1 0 [(0, .ref t)] [] σ := by
  unfold F_X10_goesOn at h
  refine go_aload_n X 0 (dk dt_X10_goesOn_0 0 rfl) rfl rfl ?_
  refine go_geti X fo_X10_37 (lW ht) (sW ht) (fW_8 ht) (dk dt_X10_goesOn_0 1 rfl) ?_
  refine go_if_ne (tgt := 21) X (dk dt_X10_goesOn_0 2 rfl) (by decide) h (fun h => ?_) (fun h => ?_)
  · refine go_iconst X (dk dt_X10_goesOn_0 9 rfl) ci_0 ?_
    exact go_iret rt (dk dt_X10_goesOn_0 10 rfl) h (by decide)
  · refine go_aload_n X 0 (dk dt_X10_goesOn_0 3 rfl) rfl rfl ?_
    refine go_geti X fo_X10_31 (lW ht) (sW ht) (fW_6 ht) (dk dt_X10_goesOn_0 4 rfl) ?_
    refine go_sipush X (dk dt_X10_goesOn_0 5 rfl) cs_9999 ?_
    refine go_icmp_ge (tgt := 21) X (dk dt_X10_goesOn_0 6 rfl) (by decide) h (fun h => ?_) (fun h => ?_)
    · refine go_iconst X (dk dt_X10_goesOn_0 9 rfl) ci_0 ?_
      exact go_iret rt (dk dt_X10_goesOn_0 10 rfl) h (by decide)
    · refine go_iconst X (dk dt_X10_goesOn_0 7 rfl) ci_1 ?_
      refine go_goto (tgt := 22) X (dk dt_X10_goesOn_0 8 rfl) (by decide) ?_
      exact go_iret rt (dk dt_X10_goesOn_0 10 rfl) h (by decide)
set_option maxRecDepth 20000 in
theorem ct_X10_goesOn (hi : zInj wC v) (xc : XC wC v) (nx : NXC v)  {t : Nat} {σ : Hp} (ht : isW t = true) {q : (Int32 × Hp)} (h : F_X10_goesOn  t σ = some q) : Ct wC v l yX10_goesOn cX10_goesOn 1 (some .boolean) 2 [.ref t] σ (some (.int q.1)) q.2 :=
  Ct.intro true (by decide) hi xc (Nat.le_of_ble_eq_true rfl) rfl (fun p e R s m args below meth c Q X rt => lkF_X10_goesOn hi xc nx X rt ht h)
end
def T_X10_sidesOut_0 : DT := [(0, .iconst 0, 1), (1, .istore_n 1, 1), (2, .iconst 0, 1), (3, .istore_n 2, 1), (4, .iload_n 2, 1), (5, .bipush 16, 2), (7, .if_icmp .ge 37, 3), (10, .aload_n 0, 1), (11, .getfield 24, 3), (14, .iload_n 2, 1), (15, .iaload, 1), (16, .ifCond .eq 13, 3), (19, .aload_n 0, 1), (20, .getfield 24, 3), (23, .iload_n 2, 1), (24, .iaload, 1)]
theorem dt_X10_sidesOut_0 : dOk cX10_sidesOut T_X10_sidesOut_0 := by unfold dOk; decide +kernel
def T_X10_sidesOut_1 : DT := [(25, .iconst 1, 1), (26, .if_icmp .ne 12, 3), (29, .iload_n 1, 1), (30, .iconst 1, 1), (31, .iload_n 2, 1), (32, .bipush 8, 2), (34, .idiv, 1), (35, .ishl, 1), (36, .ior, 1), (37, .istore_n 1, 1), (38, .iinc 2 1, 3), (41, .goto (-37), 3), (44, .iload_n 1, 1), (45, .ireturn, 1)]
theorem dt_X10_sidesOut_1 : dOk cX10_sidesOut T_X10_sidesOut_1 := by unfold dOk; decide +kernel
section
variable {v : ZV} {l : Launch} {p : Program} {e : Env} {R : Room} {s : State} {m : MethodId} {args : Array Value} {below : List Frame} {meth : Method} {c : Code} {Q : State → Prop} {res : (Int32 × Hp)} 
set_option maxRecDepth 20000 in
theorem lkJ_X10_sidesOut_29 (hi : zInj wC v) (xc : XC wC v) (nx : NXC v) (X : Cx wC v p R s m args c 0 0 cX10_sidesOut 3 RX10 2) (rt : Rt wC v p l e R s m args below meth c 0 0 Q cX10_sidesOut false (some (.int res.1)) res.2) {k4 : Nat → Int32 → Int32 → Hp → Option (Int32 × Hp)} {r0 : Nat} {x1 : Int32} {x2 : Int32} {σ : Hp} (hr0 : isW r0 = true) (hk4 : ∀ (r0 : Nat) (x1 : Int32) (x2 : Int32) (σ : Hp), (hr0 : isW r0 = true) → k4 r0 x1 x2 σ = some res → Go wC v p l e R s m args below meth c 0 0 Q 3 4 [(0, .ref r0), (1, .int x1), (2, .int x2)] [] σ) (h : J_X10_sidesOut_29  k4 r0 x1 x2 σ = some res) : Go wC v p l e R s m args below meth c 0 0 Q 3 29 [(0, .ref r0), (1, .int x1), (2, .int x2)] [] σ := by
  unfold J_X10_sidesOut_29 at h
  refine go_iload_n X 1 (dk dt_X10_sidesOut_1 2 rfl) rfl rfl ?_
  refine go_iconst X (dk dt_X10_sidesOut_1 3 rfl) ci_1 ?_
  refine go_iload_n X 2 (dk dt_X10_sidesOut_1 4 rfl) rfl rfl ?_
  refine go_bipush X (dk dt_X10_sidesOut_1 5 rfl) cb_8 ?_
  refine go_idivL X (dk dt_X10_sidesOut_1 6 rfl) (by decide) ?_
  refine go_ishl X (dk dt_X10_sidesOut_1 7 rfl) ?_
  refine go_ior X (dk dt_X10_sidesOut_1 8 rfl) ?_
  refine go_istore_n (lv' := [(1, .int (x1 ||| ((1 : Int32) <<< ((x2 / (8 : Int32)) &&& 31)))), (0, .ref r0), (2, .int x2)]) X (dk dt_X10_sidesOut_1 9 rfl) rfl (by decide) rfl ?_
  refine go_iinc (lv' := [(2, .int (x2 + (1 : Int32))), (1, .int (x1 ||| ((1 : Int32) <<< ((x2 / (8 : Int32)) &&& 31)))), (0, .ref r0)]) X 2 (dk dt_X10_sidesOut_1 10 rfl) rfl ci_1 (by decide) rfl ?_
  refine go_goto (tgt := 4) X (dk dt_X10_sidesOut_1 11 rfl) (by decide) ?_
  refine go_sub [2, 1, 0] rfl ?_
  exact hk4 _ _ _ _ hr0 h
set_option maxRecDepth 20000 in
theorem lkB_X10_sidesOut_4 (hi : zInj wC v) (xc : XC wC v) (nx : NXC v) (X : Cx wC v p R s m args c 0 0 cX10_sidesOut 3 RX10 2) (rt : Rt wC v p l e R s m args below meth c 0 0 Q cX10_sidesOut false (some (.int res.1)) res.2) {k4 : Nat → Int32 → Int32 → Hp → Option (Int32 × Hp)} {r0 : Nat} {x1 : Int32} {x2 : Int32} {σ : Hp} (hr0 : isW r0 = true) (hk4 : ∀ (r0 : Nat) (x1 : Int32) (x2 : Int32) (σ : Hp), (hr0 : isW r0 = true) → k4 r0 x1 x2 σ = some res → Go wC v p l e R s m args below meth c 0 0 Q 3 4 [(0, .ref r0), (1, .int x1), (2, .int x2)] [] σ) (h : B_X10_sidesOut_4  k4 r0 x1 x2 σ = some res) : Go wC v p l e R s m args below meth c 0 0 Q 3 4 [(0, .ref r0), (1, .int x1), (2, .int x2)] [] σ := by
  unfold B_X10_sidesOut_4 at h
  refine go_iload_n X 2 (dk dt_X10_sidesOut_0 4 rfl) rfl rfl ?_
  refine go_bipush X (dk dt_X10_sidesOut_0 5 rfl) cb_16 ?_
  refine go_icmp_ge (tgt := 44) X (dk dt_X10_sidesOut_0 6 rfl) (by decide) h (fun h => ?_) (fun h => ?_)
  · refine go_iload_n X 1 (dk dt_X10_sidesOut_1 12 rfl) rfl rfl ?_
    exact go_iret rt (dk dt_X10_sidesOut_1 13 rfl) h (fun hh => nomatch hh)
  · refine go_aload_n X 0 (dk dt_X10_sidesOut_0 7 rfl) rfl rfl ?_
    refine go_getr X fo_X10_24 (lW hr0) (sW hr0) (fW_4 hr0) (dk dt_X10_sidesOut_0 8 rfl) ?_
    refine go_iload_n X 2 (dk dt_X10_sidesOut_0 9 rfl) rfl rfl ?_
    refine go_iald X (lWa_5 hr0) (sWa_5 hr0) (dk dt_X10_sidesOut_0 10 rfl) h (fun h => ?_)
    refine go_if_eq (tgt := 29) X (dk dt_X10_sidesOut_0 11 rfl) (by decide) h (fun h => ?_) (fun h => ?_)
    · exact lkJ_X10_sidesOut_29 hi xc nx X rt hr0 hk4 h
    · refine go_aload_n X 0 (dk dt_X10_sidesOut_0 12 rfl) rfl rfl ?_
      refine go_getr X fo_X10_24 (lW hr0) (sW hr0) (fW_4 hr0) (dk dt_X10_sidesOut_0 13 rfl) ?_
      refine go_iload_n X 2 (dk dt_X10_sidesOut_0 14 rfl) rfl rfl ?_
      refine go_iald X (lWa_5 hr0) (sWa_5 hr0) (dk dt_X10_sidesOut_0 15 rfl) h (fun h => ?_)
      refine go_iconst X (dk dt_X10_sidesOut_1 0 rfl) ci_1 ?_
      refine go_icmp_ne (tgt := 38) X (dk dt_X10_sidesOut_1 1 rfl) (by decide) h (fun h => ?_) (fun h => ?_)
      · refine go_iinc (lv' := [(2, .int (x2 + (1 : Int32))), (0, .ref r0), (1, .int x1)]) X 2 (dk dt_X10_sidesOut_1 10 rfl) rfl ci_1 (by decide) rfl ?_
        refine go_goto (tgt := 4) X (dk dt_X10_sidesOut_1 11 rfl) (by decide) ?_
        refine go_sub [1, 2, 0] rfl ?_
        exact hk4 _ _ _ _ hr0 h
      · exact lkJ_X10_sidesOut_29 hi xc nx X rt hr0 hk4 h
set_option maxRecDepth 20000 in
theorem lkL_X10_sidesOut_4 (hi : zInj wC v) (xc : XC wC v) (nx : NXC v) (X : Cx wC v p R s m args c 0 0 cX10_sidesOut 3 RX10 2) (rt : Rt wC v p l e R s m args below meth c 0 0 Q cX10_sidesOut false (some (.int res.1)) res.2)   (n : Nat) : ∀ {r0 : Nat} {x1 : Int32} {x2 : Int32} {σ : Hp}, (hr0 : isW r0 = true) → L_X10_sidesOut_4   n r0 x1 x2 σ = some res → Go wC v p l e R s m args below meth c 0 0 Q 3 4 [(0, .ref r0), (1, .int x1), (2, .int x2)] [] σ := by
  induction n with
  | zero => intro r0 x1 x2 σ hr0 h; cases h
  | succ n ih =>
    intro r0 x1 x2 σ hr0 h
    exact lkB_X10_sidesOut_4 hi xc nx X rt hr0 (fun _ _ _ _ hq0 hh => ih hq0 hh) h
set_option maxRecDepth 20000 in
theorem lkF_X10_sidesOut (hi : zInj wC v) (xc : XC wC v) (nx : NXC v) (X : Cx wC v p R s m args c 0 0 cX10_sidesOut 3 RX10 2) (rt : Rt wC v p l e R s m args below meth c 0 0 Q cX10_sidesOut false (some (.int res.1)) res.2) {t : Nat} {σ : Hp} (ht : isW t = true) (h : F_X10_sidesOut  t σ = some res) : Go wC v p l e R s m args below meth c 0 0 Q 3 0 [(0, .ref t)] [] σ := by
  unfold F_X10_sidesOut at h
  refine go_iconst X (dk dt_X10_sidesOut_0 0 rfl) ci_0 ?_
  refine go_istore_n (lv' := [(1, .int (0 : Int32)), (0, .ref t)]) X (dk dt_X10_sidesOut_0 1 rfl) rfl (by decide) rfl ?_
  refine go_iconst X (dk dt_X10_sidesOut_0 2 rfl) ci_0 ?_
  refine go_istore_n (lv' := [(2, .int (0 : Int32)), (1, .int (0 : Int32)), (0, .ref t)]) X (dk dt_X10_sidesOut_0 3 rfl) rfl (by decide) rfl ?_
  refine go_sub [2, 1, 0] rfl ?_
  exact lkL_X10_sidesOut_4 hi xc nx X rt  FU ht h
set_option maxRecDepth 20000 in
theorem ct_X10_sidesOut (hi : zInj wC v) (xc : XC wC v) (nx : NXC v)  {t : Nat} {σ : Hp} (ht : isW t = true) {q : (Int32 × Hp)} (h : F_X10_sidesOut  t σ = some q) : Ct wC v l yX10_sidesOut cX10_sidesOut 3 (some .int) 2 [.ref t] σ (some (.int q.1)) q.2 :=
  Ct.intro false (by decide) hi xc (Nat.le_of_ble_eq_true rfl) rfl (fun p e R s m args below meth c Q X rt => lkF_X10_sidesOut hi xc nx X rt ht h)
end
