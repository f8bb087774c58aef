def T_X7_readLamps_0 : DT := [(0, .iconst 0, 1), (1, .istore_n 3, 1), (2, .iload_n 3, 1), (3, .bipush 40, 2), (5, .if_icmp .ge 39, 3), (8, .aload_n 0, 1), (9, .aload_n 1, 1), (10, .iload_n 2, 1), (11, .invokevirtual 43, 3), (14, .ifCond .ne 5, 3), (17, .iconst 0, 1), (18, .ireturn, 1), (19, .aload_n 1, 1), (20, .invokevirtual 35, 3), (23, .iconst (-1), 1), (24, .if_icmp .eq 12, 3)]
theorem dt_X7_readLamps_0 : dOk cX7_readLamps T_X7_readLamps_0 := by unfold dOk; decide +kernel
def T_X7_readLamps_1 : DT := [(27, .aload_n 1, 1), (28, .invokevirtual 35, 3), (31, .bipush 41, 2), (33, .if_icmp .ne 5, 3), (36, .iconst 1, 1), (37, .ireturn, 1), (38, .iinc 3 1, 3), (41, .goto (-39), 3), (44, .iconst 1, 1), (45, .ireturn, 1)]
theorem dt_X7_readLamps_1 : dOk cX7_readLamps T_X7_readLamps_1 := by unfold dOk; decide +kernel
section
variable {v : ZV} {l : Launch} {p : Program} {e : Env} {R : Room} {s : State} {m : MethodId} {args : Array Value} {below : List Frame} {meth : Method} {c : Code} {Q : State → Prop} {res : (Int32 × Hp)} {d d' : Nat} {o_X7_readItem : Nat → Int32 → Hp → Option (Int32 × Hp)}
set_option maxRecDepth 20000 in
theorem lkB_X7_readLamps_2 (hi : zInj wC v) (xc : XC wC v) (nx : NXC v) (X : Cx wC v p R s m args c 0 0 cX7_readLamps 4 RX7 d) (rt : Rt wC v p l e R s m args below meth c 0 0 Q cX7_readLamps true (some (.int res.1)) res.2) (hdb : 6 ≤ d) (ho_X7_readItem : ∀ {t : Nat} {b1 : Int32} {σ : Hp} {q : (Int32 × Hp)}, (ht : isS t = true) → o_X7_readItem t b1 σ = some q → Ct wC v l yX7_readItem cX7_readItem 7 (some .boolean) d' [.ref t, .ref 23, .int b1] σ (some (.int q.1)) q.2) (hdd : d' < d) {k2 : Nat → Int32 → Int32 → Hp → Option (Int32 × Hp)} {r0 : Nat} {x2 : Int32} {x3 : Int32} {σ : Hp} (hr0 : isS r0 = true) (hk2 : ∀ (r0 : Nat) (x2 : Int32) (x3 : Int32) (σ : Hp), (hr0 : isS r0 = true) → k2 r0 x2 x3 σ = some res → Go wC v p l e R s m args below meth c 0 0 Q 4 2 [(0, .ref r0), (1, .ref 23), (2, .int x2), (3, .int x3)] [] σ) (h : B_X7_readLamps_2 o_X7_readItem k2 r0 x2 x3 σ = some res) : Go wC v p l e R s m args below meth c 0 0 Q 4 2 [(0, .ref r0), (1, .ref 23), (2, .int x2), (3, .int x3)] [] σ := by
  unfold B_X7_readLamps_2 at h
  refine go_iload_n X 3 (dk dt_X7_readLamps_0 2 rfl) rfl rfl ?_
  refine go_bipush X (dk dt_X7_readLamps_0 3 rfl) cb_40 ?_
  refine go_icmp_ge (tgt := 44) X (dk dt_X7_readLamps_0 4 rfl) (by decide) h (fun h => ?_) (fun h => ?_)
  · refine go_iconst X (dk dt_X7_readLamps_1 8 rfl) ci_1 ?_
    exact go_iret rt (dk dt_X7_readLamps_1 9 rfl) h (by decide)
  · refine go_aload_n X 0 (dk dt_X7_readLamps_0 5 rfl) rfl rfl ?_
    refine go_aload_n X 1 (dk dt_X7_readLamps_0 6 rfl) rfl rfl ?_
    refine go_iload_n X 2 (dk dt_X7_readLamps_0 7 rfl) rfl rfl ?_
    refine go_Vi (As := [.ref 23, .int x2]) (rest := []) X vo_X7_43 (fun q hq => ho_X7_readItem hr0 hq) hdd rfl (lS hr0) (sS hr0) rfl rfl (Nat.le_of_ble_eq_true rfl) (dk dt_X7_readLamps_0 8 rfl) h (fun q11 h => ?_)
    refine go_if_ne (tgt := 19) X (dk dt_X7_readLamps_0 9 rfl) (by decide) h (fun h => ?_) (fun h => ?_)
    · refine go_aload_n X 1 (dk dt_X7_readLamps_0 12 rfl) rfl rfl ?_
      refine go_Vi (As := []) (rest := []) X vo_X7_35 (fun q hq => ct_X8_here hi xc nx  hq) (by omega) rfl lC_23 sC_23 rfl rfl (Nat.le_of_ble_eq_true rfl) (dk dt_X7_readLamps_0 13 rfl) h (fun q20 h => ?_)
      refine go_iconst X (dk dt_X7_readLamps_0 14 rfl) ci_m1 ?_
      refine go_icmp_eq (tgt := 36) X (dk dt_X7_readLamps_0 15 rfl) (by decide) h (fun h => ?_) (fun h => ?_)
      · refine go_iconst X (dk dt_X7_readLamps_1 4 rfl) ci_1 ?_
        exact go_iret rt (dk dt_X7_readLamps_1 5 rfl) h (by decide)
      · refine go_aload_n X 1 (dk dt_X7_readLamps_1 0 rfl) rfl rfl ?_
        refine go_Vi (As := []) (rest := []) X vo_X7_35 (fun q hq => ct_X8_here hi xc nx  hq) (by omega) rfl lC_23 sC_23 rfl rfl (Nat.le_of_ble_eq_true rfl) (dk dt_X7_readLamps_1 1 rfl) h (fun q28 h => ?_)
        refine go_bipush X (dk dt_X7_readLamps_1 2 rfl) cb_41 ?_
        refine go_icmp_ne (tgt := 38) X (dk dt_X7_readLamps_1 3 rfl) (by decide) h (fun h => ?_) (fun h => ?_)
        · refine go_iinc (lv' := [(3, .int (x3 + (1 : Int32))), (0, .ref r0), (1, .ref 23), (2, .int x2)]) X 3 (dk dt_X7_readLamps_1 6 rfl) rfl ci_1 (by decide) rfl ?_
          refine go_goto (tgt := 2) X (dk dt_X7_readLamps_1 7 rfl) (by decide) ?_
          refine go_sub [1, 2, 3, 0] rfl ?_
          exact hk2 _ _ _ _ hr0 h
        · refine go_iconst X (dk dt_X7_readLamps_1 4 rfl) ci_1 ?_
          exact go_iret rt (dk dt_X7_readLamps_1 5 rfl) h (by decide)
    · refine go_iconst X (dk dt_X7_readLamps_0 10 rfl) ci_0 ?_
      exact go_iret rt (dk dt_X7_readLamps_0 11 rfl) h (by decide)
set_option maxRecDepth 20000 in
theorem lkL_X7_readLamps_2 (hi : zInj wC v) (xc : XC wC v) (nx : NXC v) (X : Cx wC v p R s m args c 0 0 cX7_readLamps 4 RX7 d) (rt : Rt wC v p l e R s m args below meth c 0 0 Q cX7_readLamps true (some (.int res.1)) res.2) (hdb : 6 ≤ d) (ho_X7_readItem : ∀ {t : Nat} {b1 : Int32} {σ : Hp} {q : (Int32 × Hp)}, (ht : isS t = true) → o_X7_readItem t b1 σ = some q → Ct wC v l yX7_readItem cX7_readItem 7 (some .boolean) d' [.ref t, .ref 23, .int b1] σ (some (.int q.1)) q.2) (hdd : d' < d)   (n : Nat) : ∀ {r0 : Nat} {x2 : Int32} {x3 : Int32} {σ : Hp}, (hr0 : isS r0 = true) → L_X7_readLamps_2 o_X7_readItem  n r0 x2 x3 σ = some res → Go wC v p l e R s m args below meth c 0 0 Q 4 2 [(0, .ref r0), (1, .ref 23), (2, .int x2), (3, .int x3)] [] σ := by
  induction n with
  | zero => intro r0 x2 x3 σ hr0 h; cases h
  | succ n ih =>
    intro r0 x2 x3 σ hr0 h
    exact lkB_X7_readLamps_2 hi xc nx X rt hdb ho_X7_readItem hdd hr0 (fun _ _ _ _ hq0 hh => ih hq0 hh) h
set_option maxRecDepth 20000 in
theorem lkF_X7_readLamps (hi : zInj wC v) (xc : XC wC v) (nx : NXC v) (X : Cx wC v p R s m args c 0 0 cX7_readLamps 4 RX7 d) (rt : Rt wC v p l e R s m args below meth c 0 0 Q cX7_readLamps true (some (.int res.1)) res.2) (hdb : 6 ≤ d) (ho_X7_readItem : ∀ {t : Nat} {b1 : Int32} {σ : Hp} {q : (Int32 × Hp)}, (ht : isS t = true) → o_X7_readItem t b1 σ = some q → Ct wC v l yX7_readItem cX7_readItem 7 (some .boolean) d' [.ref t, .ref 23, .int b1] σ (some (.int q.1)) q.2) (hdd : d' < d) {t : Nat} {a2 : Int32} {σ : Hp} (ht : isS t = true) (h : F_X7_readLamps o_X7_readItem t a2 σ = some res) : Go wC v p l e R s m args below meth c 0 0 Q 4 0 [(0, .ref t), (1, .ref 23), (2, .int a2)] [] σ := by
  unfold F_X7_readLamps at h
  refine go_iconst X (dk dt_X7_readLamps_0 0 rfl) ci_0 ?_
  refine go_istore_n (lv' := [(3, .int (0 : Int32)), (0, .ref t), (1, .ref 23), (2, .int a2)]) X (dk dt_X7_readLamps_0 1 rfl) rfl (by decide) rfl ?_
  refine go_sub [1, 2, 3, 0] rfl ?_
  exact lkL_X7_readLamps_2 hi xc nx X rt hdb ho_X7_readItem hdd  FU ht h
set_option maxRecDepth 20000 in
theorem ct_X7_readLamps (hi : zInj wC v) (xc : XC wC v) (nx : NXC v)  (hdb : 6 ≤ d) (ho_X7_readItem : ∀ {t : Nat} {b1 : Int32} {σ : Hp} {q : (Int32 × Hp)}, (ht : isS t = true) → o_X7_readItem t b1 σ = some q → Ct wC v l yX7_readItem cX7_readItem 7 (some .boolean) d' [.ref t, .ref 23, .int b1] σ (some (.int q.1)) q.2) (hdd : d' < d) {t : Nat} {a2 : Int32} {σ : Hp} (ht : isS t = true) {q : (Int32 × Hp)} (h : F_X7_readLamps o_X7_readItem t a2 σ = some q) : Ct wC v l yX7_readLamps cX7_readLamps 4 (some .boolean) d [.ref t, .ref 23, .int a2] σ (some (.int q.1)) q.2 :=
  Ct.intro true (by decide) hi xc (Nat.le_of_ble_eq_true rfl) rfl (fun p e R s m args below meth c Q X rt => lkF_X7_readLamps hi xc nx X rt hdb ho_X7_readItem hdd ht h)
end
section
variable {v : ZV} {l : Launch}
set_option maxRecDepth 100000 in
theorem ct_G_X7_readItem (hi : zInj wC v) (xc : XC wC v) (nx : NXC v) (n : Nat) : (∀ {t : Nat} {b1 : Int32} {σ : Hp} {q : (Int32 × Hp)}, (ht : isS t = true) → G_X7_readItem n 0 t b1 σ = some q → Ct wC v l yX7_readItem cX7_readItem 7 (some .boolean) (6 + n) [.ref t, .ref 23, .int b1] σ (some (.int q.1)) q.2) ∧ (∀ {t : Nat} {b1 : Int32} {σ : Hp} {q : (Int32 × Hp)}, (ht : isS t = true) → G_X7_readItem n 1 t b1 σ = some q → Ct wC v l yX7_readLamps cX7_readLamps 4 (some .boolean) (6 + n) [.ref t, .ref 23, .int b1] σ (some (.int q.1)) q.2) := by
  induction n with
  | zero => refine ⟨?_, ?_⟩ <;> (intros; rename_i h; rw [G_X7_readItem_z] at h; cases h)
  | succ n ih =>
    obtain ⟨i0, i1⟩ := ih
    refine ⟨?_, ?_⟩
    · intro t a2 σ q ht h
      rw [G_X7_readItem_0] at h
      exact ct_X7_readItem (d := 6 + (n + 1)) (d' := 6 + n) hi xc nx (by omega) i1 (by omega) ht h
    · intro t a2 σ q ht h
      rw [G_X7_readItem_1] at h
      exact ct_X7_readLamps (d := 6 + (n + 1)) (d' := 6 + n) hi xc nx (by omega) i0 (by omega) ht h
theorem ctD_X7_readItem (hi : zInj wC v) (xc : XC wC v) (nx : NXC v) {t : Nat} {a2 : Int32} {σ : Hp} (ht : isS t = true) {q : (Int32 × Hp)} (h : D_X7_readItem t a2 σ = some q) : Ct wC v l yX7_readItem cX7_readItem 7 (some .boolean) 16 [.ref t, .ref 23, .int a2] σ (some (.int q.1)) q.2 := (ct_G_X7_readItem hi xc nx 10).1 ht h
theorem ctD_X7_readLamps (hi : zInj wC v) (xc : XC wC v) (nx : NXC v) {t : Nat} {a2 : Int32} {σ : Hp} (ht : isS t = true) {q : (Int32 × Hp)} (h : D_X7_readLamps t a2 σ = some q) : Ct wC v l yX7_readLamps cX7_readLamps 4 (some .boolean) 16 [.ref t, .ref 23, .int a2] σ (some (.int q.1)) q.2 := (ct_G_X7_readItem hi xc nx 10).2 ht h
end
def T_X7_readFrom_0 : DT := [(0, .aload_n 1, 1), (1, .iload_n 2, 1), (2, .invokevirtual 25, 3), (5, .aload_n 0, 1), (6, .iconst 0, 1), (7, .putfield 15, 3), (10, .aload_n 0, 1), (11, .aload_n 1, 1), (12, .iconst 0, 1), (13, .invokevirtual 31, 3), (16, .ifCond .ne 5, 3), (19, .iconst 0, 1), (20, .ireturn, 1), (21, .aload_n 1, 1), (22, .invokevirtual 35, 3), (25, .iconst (-1), 1)]
theorem dt_X7_readFrom_0 : dOk cX7_readFrom T_X7_readFrom_0 := by unfold dOk; decide +kernel
def T_X7_readFrom_1 : DT := [(26, .if_icmp .eq 11, 3), (29, .aload_n 1, 1), (30, .iconst 1, 1), (31, .invokevirtual 39, 3), (34, .ifCond .eq 7, 3), (37, .iconst 1, 1), (38, .goto 4, 3), (41, .iconst 0, 1), (42, .ireturn, 1)]
theorem dt_X7_readFrom_1 : dOk cX7_readFrom T_X7_readFrom_1 := by unfold dOk; decide +kernel
section
variable {v : ZV} {l : Launch} {p : Program} {e : Env} {R : Room} {s : State} {m : MethodId} {args : Array Value} {below : List Frame} {meth : Method} {c : Code} {Q : State → Prop} {res : (Int32 × Hp)} 
set_option maxRecDepth 20000 in
theorem lkF_X7_readFrom (hi : zInj wC v) (xc : XC wC v) (nx : NXC v) (X : Cx wC v p R s m args c 0 0 cX7_readFrom 3 RX7 18) (rt : Rt wC v p l e R s m args below meth c 0 0 Q cX7_readFrom true (some (.int res.1)) res.2) {t : Nat} {a2 : Int32} {σ : Hp} (ht : isS t = true) (h : F_X7_readFrom  t a2 σ = some res) : Go wC v p l e R s m args below meth c 0 0 Q 3 0 [(0, .ref t), (1, .ref 23), (2, .int a2)] [] σ := by
  unfold F_X7_readFrom at h
  refine go_aload_n X 1 (dk dt_X7_readFrom_0 0 rfl) rfl rfl ?_
  refine go_iload_n X 2 (dk dt_X7_readFrom_0 1 rfl) rfl rfl ?_
  refine go_Vv (As := [.int a2]) (rest := []) X vo_X7_25 (fun q hq => ct_X8_begin hi xc nx  hq) (by decide) rfl lC_23 sC_23 rfl rfl (Nat.le_of_ble_eq_true rfl) (dk dt_X7_readFrom_0 2 rfl) h (fun q2 h => ?_)
  refine go_aload_n X 0 (dk dt_X7_readFrom_0 3 rfl) rfl rfl ?_
  refine go_iconst X (dk dt_X7_readFrom_0 4 rfl) ci_0 ?_
  refine go_puti X fo_X7_15 pf_7_1 (lS ht) (sS ht) (fS_1 ht) (dk dt_X7_readFrom_0 5 rfl) ?_
  refine go_aload_n X 0 (dk dt_X7_readFrom_0 6 rfl) rfl rfl ?_
  refine go_aload_n X 1 (dk dt_X7_readFrom_0 7 rfl) rfl rfl ?_
  refine go_iconst X (dk dt_X7_readFrom_0 8 rfl) ci_0 ?_
  refine go_Vi (As := [.ref 23, .int (0 : Int32)]) (rest := []) X vo_X7_31 (fun q hq => ctD_X7_readLamps hi xc nx ht hq) (by decide) rfl (lS ht) (sS ht) rfl rfl (Nat.le_of_ble_eq_true rfl) (dk dt_X7_readFrom_0 9 rfl) h (fun q13 h => ?_)
  refine go_if_ne (tgt := 21) X (dk dt_X7_readFrom_0 10 rfl) (by decide) h (fun h => ?_) (fun h => ?_)
  · refine go_aload_n X 1 (dk dt_X7_readFrom_0 13 rfl) rfl rfl ?_
    refine go_Vi (As := []) (rest := []) X vo_X7_35 (fun q hq => ct_X8_here hi xc nx  hq) (by decide) rfl lC_23 sC_23 rfl rfl (Nat.le_of_ble_eq_true rfl) (dk dt_X7_readFrom_0 14 rfl) h (fun q22 h => ?_)
    refine go_iconst X (dk dt_X7_readFrom_0 15 rfl) ci_m1 ?_
    refine go_icmp_eq (tgt := 37) X (dk dt_X7_readFrom_1 0 rfl) (by decide) h (fun h => ?_) (fun h => ?_)
    · refine go_iconst X (dk dt_X7_readFrom_1 5 rfl) ci_1 ?_
      refine go_goto (tgt := 42) X (dk dt_X7_readFrom_1 6 rfl) (by decide) ?_
      exact go_iret rt (dk dt_X7_readFrom_1 8 rfl) h (by decide)
    · refine go_aload_n X 1 (dk dt_X7_readFrom_1 1 rfl) rfl rfl ?_
      refine go_iconst X (dk dt_X7_readFrom_1 2 rfl) ci_1 ?_
      refine go_Vi (As := [.int (1 : Int32)]) (rest := []) X vo_X7_39 (fun q hq => ct_X8_refuse hi xc nx  hq) (by decide) rfl lC_23 sC_23 rfl rfl (Nat.le_of_ble_eq_true rfl) (dk dt_X7_readFrom_1 3 rfl) h (fun q31 h => ?_)
      refine go_if_eq (tgt := 41) X (dk dt_X7_readFrom_1 4 rfl) (by decide) h (fun h => ?_) (fun h => ?_)
      · refine go_iconst X (dk dt_X7_readFrom_1 7 rfl) ci_0 ?_
        exact go_iret rt (dk dt_X7_readFrom_1 8 rfl) h (by decide)
      · refine go_iconst X (dk dt_X7_readFrom_1 5 rfl) ci_1 ?_
        refine go_goto (tgt := 42) X (dk dt_X7_readFrom_1 6 rfl) (by decide) ?_
        exact go_iret rt (dk dt_X7_readFrom_1 8 rfl) h (by decide)
  · refine go_iconst X (dk dt_X7_readFrom_0 11 rfl) ci_0 ?_
    exact go_iret rt (dk dt_X7_readFrom_0 12 rfl) h (by decide)
set_option maxRecDepth 20000 in
theorem ct_X7_readFrom (hi : zInj wC v) (xc : XC wC v) (nx : NXC v)  {t : Nat} {a2 : Int32} {σ : Hp} (ht : isS t = true) {q : (Int32 × Hp)} (h : F_X7_readFrom  t a2 σ = some q) : Ct wC v l yX7_readFrom cX7_readFrom 3 (some .boolean) 18 [.ref t, .ref 23, .int a2] σ (some (.int q.1)) q.2 :=
  Ct.intro true (by decide) hi xc (Nat.le_of_ble_eq_true rfl) rfl (fun p e R s m args below meth c Q X rt => lkF_X7_readFrom hi xc nx X rt ht h)
end
def T_X7_copy_0 : DT := [(0, .aload_n 1, 1), (1, .getfield 11, 3), (4, .iconst 0, 1), (5, .aload_n 0, 1), (6, .getfield 11, 3), (9, .iconst 0, 1), (10, .bipush 60, 2), (12, .invokestatic 19, 3), (15, .aload_n 0, 1), (16, .aload_n 1, 1), (17, .getfield 15, 3), (20, .putfield 15, 3), (23, .return_, 1)]
theorem dt_X7_copy_0 : dOk cX7_copy T_X7_copy_0 := by unfold dOk; decide +kernel
section
variable {v : ZV} {l : Launch} {p : Program} {e : Env} {R : Room} {s : State} {m : MethodId} {args : Array Value} {below : List Frame} {meth : Method} {c : Code} {Q : State → Prop} {res : Hp} 
set_option maxRecDepth 20000 in
theorem lkF_X7_copy (hi : zInj wC v) (xc : XC wC v) (nx : NXC v) (X : Cx wC v p R s m args c 0 0 cX7_copy 2 RX7 2) (rt : Rt wC v p l e R s m args below meth c 0 0 Q cX7_copy false none res) {t : Nat} {a1 : Nat} {σ : Hp} (ht : isS t = true) (ha1 : isS a1 = true) (h : F_X7_copy  t a1 σ = some res) : Go wC v p l e R s m args below meth c 0 0 Q 2 0 [(0, .ref t), (1, .ref a1)] [] σ := by
  unfold F_X7_copy at h
  refine go_aload_n X 1 (dk dt_X7_copy_0 0 rfl) rfl rfl ?_
  refine go_getr X fo_X7_11 (lS ha1) (sS ha1) (fS_0 ha1) (dk dt_X7_copy_0 1 rfl) ?_
  refine go_iconst X (dk dt_X7_copy_0 2 rfl) ci_0 ?_
  refine go_aload_n X 0 (dk dt_X7_copy_0 3 rfl) rfl rfl ?_
  refine go_getr X fo_X7_11 (lS ht) (sS ht) (fS_0 ht) (dk dt_X7_copy_0 4 rfl) ?_
  refine go_iconst X (dk dt_X7_copy_0 5 rfl) ci_0 ?_
  refine go_bipush X (dk dt_X7_copy_0 6 rfl) cb_60 ?_
  refine go_copy (n := 60) X ao_X7_19 (by decide) (lSa_1 ha1) (lSa_1 ht) (sSa_1 ha1) (sSa_1 ht) (by decide) (by decide) (Nat.le_of_ble_eq_true rfl) (Nat.le_of_ble_eq_true rfl) (Nat.le_of_ble_eq_true rfl) (dk dt_X7_copy_0 7 rfl) ?_
  refine go_aload_n X 0 (dk dt_X7_copy_0 8 rfl) rfl rfl ?_
  refine go_aload_n X 1 (dk dt_X7_copy_0 9 rfl) rfl rfl ?_
  refine go_geti X fo_X7_15 (lS ha1) (sS ha1) (fS_1 ha1) (dk dt_X7_copy_0 10 rfl) ?_
  refine go_puti X fo_X7_15 pf_7_1 (lS ht) (sS ht) (fS_1 ht) (dk dt_X7_copy_0 11 rfl) ?_
  exact go_vret rt (dk dt_X7_copy_0 12 rfl) h
set_option maxRecDepth 20000 in
theorem ct_X7_copy (hi : zInj wC v) (xc : XC wC v) (nx : NXC v)  {t : Nat} {a1 : Nat} {σ : Hp} (ht : isS t = true) (ha1 : isS a1 = true) {q : Hp} (h : F_X7_copy  t a1 σ = some q) : Ct wC v l yX7_copy cX7_copy 2 none 2 [.ref t, .ref a1] σ none q :=
  Ct.intro false (by decide) hi xc (Nat.le_of_ble_eq_true rfl) rfl (fun p e R s m args below meth c Q X rt => lkF_X7_copy hi xc nx X rt ht ha1 h)
end
def T_V_signals_0 : DT := [(0, .iload_n 1, 1), (1, .invokestatic 131, 3), (4, .ifCond .eq 24, 3), (7, .iload_n 2, 1), (8, .iconst 1, 1), (9, .bipush 40, 2), (11, .invokestatic 119, 3), (14, .ifCond .eq 14, 3), (17, .aload_n 0, 1), (18, .getfield 32, 3), (21, .iload_n 2, 1), (22, .invokevirtual 151, 3), (25, .ifCond .ne 5, 3), (28, .iconst (-1), 1), (29, .ireturn, 1), (30, .aload_n 0, 1)]
theorem dt_V_signals_0 : dOk cX11_signals T_V_signals_0 := by unfold dOk; decide +kernel
def T_V_signals_1 : DT := [(31, .getfield 64, 3), (34, .aload_n 0, 1), (35, .getfield 32, 3), (38, .iload_n 2, 1), (39, .invokevirtual 176, 3), (42, .istore_n 3, 1), (43, .aload_n 0, 1), (44, .getfield 32, 3), (47, .invokevirtual 158, 3), (50, .iload_n 3, 1), (51, .ifCond .ne 11, 3), (54, .aload_n 0, 1), (55, .getfield 32, 3), (58, .getfield 161, 3), (61, .ireturn, 1), (62, .aload_n 0, 1)]
theorem dt_V_signals_1 : dOk cX11_signals T_V_signals_1 := by unfold dOk; decide +kernel
def T_V_signals_2 : DT := [(63, .iload_n 1, 1), (64, .invokevirtual 180, 3), (67, .astore 4, 2), (69, .aload 4, 2), (71, .aload_n 0, 1), (72, .getfield 64, 3), (75, .invokevirtual 184, 3), (78, .aload 4, 2), (80, .getfield 187, 3), (83, .ireturn, 1)]
theorem dt_V_signals_2 : dOk cX11_signals T_V_signals_2 := by unfold dOk; decide +kernel
section
variable {v : ZV} {l : Launch} {p : Program} {e : Env} {R : Room} {s : State} {m : MethodId} {args : Array Value} {below : List Frame} {meth : Method} {c : Code} {Q : State → Prop} {res : (Int32 × Hp)} 
set_option maxRecDepth 20000 in
theorem lkF_V_signals (hi : zInj wC v) (xc : XC wC v) (nx : NXC v) (X : Cx wC v p R s m args c 0 0 cX11_signals 5 RX11 20) (rt : Rt wC v p l e R s m args below meth c 0 0 Q cX11_signals false (some (.int res.1)) res.2) {a1 : Int32} {a2 : Int32} {σ : Hp}  (h : F_V_signals  a1 a2 σ = some res) : Go wC v p l e R s m args below meth c 0 0 Q 5 0 [(0, .ref 0), (1, .int a1), (2, .int a2)] [] σ := by
  unfold F_V_signals at h
  refine go_iload_n X 1 (dk dt_V_signals_0 0 rfl) rfl rfl ?_
  refine go_Si (As := [.int a1]) (rest := []) X so_X11_131 (fun q hq => ct_V_isSide hi xc nx  hq) (by decide) rfl rfl (Nat.le_of_ble_eq_true rfl) (dk dt_V_signals_0 1 rfl) h (fun q1 h => ?_)
  refine go_if_eq (tgt := 28) X (dk dt_V_signals_0 2 rfl) (by decide) h (fun h => ?_) (fun h => ?_)
  · refine go_iconst X (dk dt_V_signals_0 13 rfl) ci_m1 ?_
    exact go_iret rt (dk dt_V_signals_0 14 rfl) h (fun hh => nomatch hh)
  · refine go_iload_n X 2 (dk dt_V_signals_0 3 rfl) rfl rfl ?_
    refine go_iconst X (dk dt_V_signals_0 4 rfl) ci_1 ?_
    refine go_bipush X (dk dt_V_signals_0 5 rfl) cb_40 ?_
    refine go_Si (As := [.int a2, .int (1 : Int32), .int (40 : Int32)]) (rest := []) X so_X11_119 (fun q hq => ct_V_within hi xc nx  hq) (by decide) rfl rfl (Nat.le_of_ble_eq_true rfl) (dk dt_V_signals_0 6 rfl) h (fun q11 h => ?_)
    refine go_if_eq (tgt := 28) X (dk dt_V_signals_0 7 rfl) (by decide) h (fun h => ?_) (fun h => ?_)
    · refine go_iconst X (dk dt_V_signals_0 13 rfl) ci_m1 ?_
      exact go_iret rt (dk dt_V_signals_0 14 rfl) h (fun hh => nomatch hh)
    · refine go_aload_n X 0 (dk dt_V_signals_0 8 rfl) rfl rfl ?_
      refine go_getr X fo_X11_32 lC_0 sC_0 fC_0_4 (dk dt_V_signals_0 9 rfl) ?_
      refine go_iload_n X 2 (dk dt_V_signals_0 10 rfl) rfl rfl ?_
      refine go_Vi (As := [.int a2]) (rest := []) X vo_X11_151 (fun q hq => ct_X8_has hi xc nx  hq) (by decide) rfl lC_23 sC_23 rfl rfl (Nat.le_of_ble_eq_true rfl) (dk dt_V_signals_0 11 rfl) h (fun q22 h => ?_)
      refine go_if_ne (tgt := 30) X (dk dt_V_signals_0 12 rfl) (by decide) h (fun h => ?_) (fun h => ?_)
      · refine go_aload_n X 0 (dk dt_V_signals_0 15 rfl) rfl rfl ?_
        refine go_getr X fo_X11_64 lC_0 sC_0 fC_0_9 (dk dt_V_signals_1 0 rfl) ?_
        refine go_aload_n X 0 (dk dt_V_signals_1 1 rfl) rfl rfl ?_
        refine go_getr X fo_X11_32 lC_0 sC_0 fC_0_4 (dk dt_V_signals_1 2 rfl) ?_
        refine go_iload_n X 2 (dk dt_V_signals_1 3 rfl) rfl rfl ?_
        refine go_Vi (As := [.ref 23, .int a2]) (rest := []) X vo_X11_176 (fun q hq => ct_X7_readFrom hi xc nx (by decide : isS 32 = true) hq) (by decide) rfl lC_32 sC_32 rfl rfl (Nat.le_of_ble_eq_true rfl) (dk dt_V_signals_1 4 rfl) h (fun q39 h => ?_)
        refine go_istore_n (lv' := [(3, .int q39.1), (0, .ref 0), (1, .int a1), (2, .int a2)]) X (dk dt_V_signals_1 5 rfl) rfl (by decide) rfl ?_
        refine go_aload_n X 1 (dk dt_V_signals_1 6 rfl) rfl rfl ?_
        refine go_getr X fo_X11_32 lC_0 sC_0 fC_0_4 (dk dt_V_signals_1 7 rfl) ?_
        refine go_Vv (As := []) (rest := []) X vo_X11_158 (fun q hq => ct_X8_clear hi xc nx  hq) (by decide) rfl lC_23 sC_23 rfl rfl (Nat.le_of_ble_eq_true rfl) (dk dt_V_signals_1 8 rfl) h (fun q47 h => ?_)
        refine go_iload_n X 0 (dk dt_V_signals_1 9 rfl) rfl rfl ?_
        refine go_if_ne (tgt := 62) X (dk dt_V_signals_1 10 rfl) (by decide) h (fun h => ?_) (fun h => ?_)
        · refine go_aload_n X 1 (dk dt_V_signals_1 15 rfl) rfl rfl ?_
          refine go_iload_n X 2 (dk dt_V_signals_2 0 rfl) rfl rfl ?_
          refine go_Vr (As := [.int a1]) (rest := []) X vo_X11_180 (fun q hq => ct_V_signalsOf hi xc nx  hq) (by decide) rfl lC_0 sC_0 rfl rfl (Nat.le_of_ble_eq_true rfl) (dk dt_V_signals_2 1 rfl) h (fun q64 h => ?_)
          obtain ⟨g1, h⟩ := gd_some h
          refine go_astore (lv' := [(4, .ref q64.1), (3, .int q39.1), (0, .ref 0), (1, .int a1), (2, .int a2)]) X (dk dt_V_signals_2 2 rfl) (by decide) rfl ?_
          refine go_aload X 0 (dk dt_V_signals_2 3 rfl) rfl ?_
          refine go_aload_n X 2 (dk dt_V_signals_2 4 rfl) rfl rfl ?_
          refine go_getr X fo_X11_64 lC_0 sC_0 fC_0_9 (dk dt_V_signals_2 5 rfl) ?_
          refine go_Vv (As := [.ref 32]) (rest := []) X vo_X11_184 (fun q hq => ct_X7_copy hi xc nx g1 (by decide : isS 32 = true) hq) (by decide) rfl (lS g1) (sS g1) rfl rfl (Nat.le_of_ble_eq_true rfl) (dk dt_V_signals_2 6 rfl) h (fun q75 h => ?_)
          refine go_aload X 0 (dk dt_V_signals_2 7 rfl) rfl ?_
          refine go_geti X fo_X11_187 (lS g1) (sS g1) (fS_1 g1) (dk dt_V_signals_2 8 rfl) ?_
          exact go_iret rt (dk dt_V_signals_2 9 rfl) h (fun hh => nomatch hh)
        · refine go_aload_n X 1 (dk dt_V_signals_1 11 rfl) rfl rfl ?_
          refine go_getr X fo_X11_32 lC_0 sC_0 fC_0_4 (dk dt_V_signals_1 12 rfl) ?_
          refine go_geti X fo_X11_161 lC_23 sC_23 fC_23_4 (dk dt_V_signals_1 13 rfl) ?_
          exact go_iret rt (dk dt_V_signals_1 14 rfl) h (fun hh => nomatch hh)
      · refine go_iconst X (dk dt_V_signals_0 13 rfl) ci_m1 ?_
        exact go_iret rt (dk dt_V_signals_0 14 rfl) h (fun hh => nomatch hh)
set_option maxRecDepth 20000 in
theorem ct_V_signals (hi : zInj wC v) (xc : XC wC v) (nx : NXC v)  {a1 : Int32} {a2 : Int32} {σ : Hp}  {q : (Int32 × Hp)} (h : F_V_signals  a1 a2 σ = some q) : Ct wC v l yX11_signals cX11_signals 5 (some .int) 20 [.ref 0, .int a1, .int a2] σ (some (.int q.1)) q.2 :=
  Ct.intro false (by decide) hi xc (Nat.le_of_ble_eq_true rfl) rfl (fun p e R s m args below meth c Q X rt => lkF_V_signals hi xc nx X rt  h)
end
def T_V_toSee_0 : DT := [(0, .aload_n 0, 1), (1, .iload_n 1, 1), (2, .iload_n 2, 1), (3, .invokevirtual 210, 3), (6, .ifCond .eq 14, 3), (9, .aload_n 0, 1), (10, .iconst 1, 1), (11, .iload_n 1, 1), (12, .isub, 1), (13, .iload_n 3, 1), (14, .invokevirtual 210, 3), (17, .ifCond .ne 5, 3), (20, .iconst (-1), 1), (21, .ireturn, 1), (22, .aload_n 0, 1), (23, .getfield 10, 3)]
theorem dt_V_toSee_0 : dOk cX11_toSee T_V_toSee_0 := by unfold dOk; decide +kernel
def T_V_toSee_1 : DT := [(26, .getfield 219, 3), (29, .iload_n 1, 1), (30, .bipush 8, 2), (32, .imul, 1), (33, .iload_n 2, 1), (34, .iadd, 1), (35, .iaload, 1), (36, .istore 4, 2), (38, .aload_n 0, 1), (39, .getfield 25, 3), (42, .iconst 1, 1), (43, .iload_n 1, 1), (44, .isub, 1), (45, .aload_n 0, 1), (46, .getfield 10, 3), (49, .getfield 219, 3)]
theorem dt_V_toSee_1 : dOk cX11_toSee T_V_toSee_1 := by unfold dOk; decide +kernel
def T_V_toSee_2 : DT := [(52, .iconst 1, 1), (53, .iload_n 1, 1), (54, .isub, 1), (55, .bipush 8, 2), (57, .imul, 1), (58, .iload_n 3, 1), (59, .iadd, 1), (60, .iaload, 1), (61, .invokevirtual 232, 3), (64, .istore 5, 2), (66, .iconst 0, 1), (67, .istore 6, 2), (69, .iload 4, 2), (71, .iload 6, 2), (73, .iadd, 1), (74, .bipush 9, 2)]
theorem dt_V_toSee_2 : dOk cX11_toSee T_V_toSee_2 := by unfold dOk; decide +kernel
def T_V_toSee_3 : DT := [(76, .if_icmp .gt 65, 3), (79, .aload_n 0, 1), (80, .getfield 25, 3), (83, .iload_n 1, 1), (84, .iload 4, 2), (86, .iload 6, 2), (88, .iadd, 1), (89, .invokevirtual 232, 3), (92, .istore 7, 2), (94, .iload_n 1, 1), (95, .ifCond .ne 18, 3), (98, .aload_n 0, 1), (99, .getfield 25, 3), (102, .iload 7, 2), (104, .iload 5, 2), (106, .iconst (-1), 1)]
theorem dt_V_toSee_3 : dOk cX11_toSee T_V_toSee_3 := by unfold dOk; decide +kernel
def T_V_toSee_4 : DT := [(107, .invokevirtual 239, 3), (110, .goto 15, 3), (113, .aload_n 0, 1), (114, .getfield 25, 3), (117, .iload 5, 2), (119, .iload 7, 2), (121, .iconst (-1), 1), (122, .invokevirtual 239, 3), (125, .istore 8, 2), (127, .iload 8, 2), (129, .ifCond .eq 6, 3), (132, .iload 6, 2), (134, .ireturn, 1), (135, .iinc 6 1, 3), (138, .goto (-69), 3), (141, .bipush (-2), 2)]
theorem dt_V_toSee_4 : dOk cX11_toSee T_V_toSee_4 := by unfold dOk; decide +kernel
def T_V_toSee_5 : DT := [(143, .ireturn, 1)]
theorem dt_V_toSee_5 : dOk cX11_toSee T_V_toSee_5 := by unfold dOk; decide +kernel
section
variable {v : ZV} {l : Launch} {p : Program} {e : Env} {R : Room} {s : State} {m : MethodId} {args : Array Value} {below : List Frame} {meth : Method} {c : Code} {Q : State → Prop} {res : (Int32 × Hp)} 
set_option maxRecDepth 20000 in
theorem lkJ_V_toSee_125 (hi : zInj wC v) (xc : XC wC v) (nx : NXC v) (X : Cx wC v p R s m args c 0 0 cX11_toSee 9 RX11 8) (rt : Rt wC v p l e R s m args below meth c 0 0 Q cX11_toSee false (some (.int res.1)) res.2) {k69 : Int32 → Int32 → Int32 → Int32 → Hp → Option (Int32 × Hp)} {x1 : Int32} {x4 : Int32} {x5 : Int32} {x6 : Int32} {s0 : Int32} {σ : Hp}  (hk69 : ∀ (x1 : Int32) (x4 : Int32) (x5 : Int32) (x6 : Int32) (σ : Hp),  k69 x1 x4 x5 x6 σ = some res → Go wC v p l e R s m args below meth c 0 0 Q 9 69 [(0, .ref 0), (1, .int x1), (4, .int x4), (5, .int x5), (6, .int x6)] [] σ) (h : J_V_toSee_125  k69 x1 x4 x5 x6 s0 σ = some res) : Go wC v p l e R s m args below meth c 0 0 Q 9 125 [(0, .ref 0), (1, .int x1), (4, .int x4), (5, .int x5), (6, .int x6)] [.int s0] σ := by
  unfold J_V_toSee_125 at h
  refine go_istore (lv' := [(8, .int s0), (0, .ref 0), (1, .int x1), (4, .int x4), (5, .int x5), (6, .int x6)]) X (dk dt_V_toSee_4 8 rfl) (by decide) rfl ?_
  refine go_iload X 0 (dk dt_V_toSee_4 9 rfl) rfl ?_
  refine go_if_eq (tgt := 135) X (dk dt_V_toSee_4 10 rfl) (by decide) h (fun h => ?_) (fun h => ?_)
  · refine go_iinc (lv' := [(6, .int (x6 + (1 : Int32))), (8, .int s0), (0, .ref 0), (1, .int x1), (4, .int x4), (5, .int x5)]) X 5 (dk dt_V_toSee_4 13 rfl) rfl ci_1 (by decide) rfl ?_
    refine go_goto (tgt := 69) X (dk dt_V_toSee_4 14 rfl) (by decide) ?_
    refine go_sub [2, 3, 4, 5, 0] rfl ?_
    exact hk69 _ _ _ _ _  h
  · refine go_iload X 5 (dk dt_V_toSee_4 11 rfl) rfl ?_
    exact go_iret rt (dk dt_V_toSee_4 12 rfl) h (fun hh => nomatch hh)
set_option maxRecDepth 20000 in
theorem lkB_V_toSee_69 (hi : zInj wC v) (xc : XC wC v) (nx : NXC v) (X : Cx wC v p R s m args c 0 0 cX11_toSee 9 RX11 8) (rt : Rt wC v p l e R s m args below meth c 0 0 Q cX11_toSee false (some (.int res.1)) res.2) {k69 : Int32 → Int32 → Int32 → Int32 → Hp → Option (Int32 × Hp)} {x1 : Int32} {x4 : Int32} {x5 : Int32} {x6 : Int32} {σ : Hp}  (hk69 : ∀ (x1 : Int32) (x4 : Int32) (x5 : Int32) (x6 : Int32) (σ : Hp),  k69 x1 x4 x5 x6 σ = some res → Go wC v p l e R s m args below meth c 0 0 Q 9 69 [(0, .ref 0), (1, .int x1), (4, .int x4), (5, .int x5), (6, .int x6)] [] σ) (h : B_V_toSee_69  k69 x1 x4 x5 x6 σ = some res) : Go wC v p l e R s m args below meth c 0 0 Q 9 69 [(0, .ref 0), (1, .int x1), (4, .int x4), (5, .int x5), (6, .int x6)] [] σ := by
  unfold B_V_toSee_69 at h
  refine go_iload X 2 (dk dt_V_toSee_2 12 rfl) rfl ?_
  refine go_iload X 4 (dk dt_V_toSee_2 13 rfl) rfl ?_
  refine go_iadd X (dk dt_V_toSee_2 14 rfl) ?_
  refine go_bipush X (dk dt_V_toSee_2 15 rfl) cb_9 ?_
  refine go_icmp_gt (tgt := 141) X (dk dt_V_toSee_3 0 rfl) (by decide) h (fun h => ?_) (fun h => ?_)
  · refine go_bipush X (dk dt_V_toSee_4 15 rfl) cb_m2 ?_
    exact go_iret rt (dk dt_V_toSee_5 0 rfl) h (fun hh => nomatch hh)
  · refine go_aload_n X 0 (dk dt_V_toSee_3 1 rfl) rfl rfl ?_
    refine go_getr X fo_X11_25 lC_0 sC_0 fC_0_3 (dk dt_V_toSee_3 2 rfl) ?_
    refine go_iload_n X 1 (dk dt_V_toSee_3 3 rfl) rfl rfl ?_
    refine go_iload X 2 (dk dt_V_toSee_3 4 rfl) rfl ?_
    refine go_iload X 4 (dk dt_V_toSee_3 5 rfl) rfl ?_
    refine go_iadd X (dk dt_V_toSee_3 6 rfl) ?_
    refine go_Vi (As := [.int x1, .int (x4 + x6)]) (rest := []) X vo_X11_232 (fun q hq => ct_X9_eye hi xc nx  hq) (by decide) rfl lC_19 sC_19 rfl rfl (Nat.le_of_ble_eq_true rfl) (dk dt_V_toSee_3 7 rfl) h (fun q89 h => ?_)
    refine go_istore (lv' := [(7, .int q89.1), (0, .ref 0), (1, .int x1), (4, .int x4), (5, .int x5), (6, .int x6)]) X (dk dt_V_toSee_3 8 rfl) (by decide) rfl ?_
    refine go_iload_n X 2 (dk dt_V_toSee_3 9 rfl) rfl rfl ?_
    refine go_if_ne (tgt := 113) X (dk dt_V_toSee_3 10 rfl) (by decide) h (fun h => ?_) (fun h => ?_)
    · refine go_aload_n X 1 (dk dt_V_toSee_4 2 rfl) rfl rfl ?_
      refine go_getr X fo_X11_25 lC_0 sC_0 fC_0_3 (dk dt_V_toSee_4 3 rfl) ?_
      refine go_iload X 4 (dk dt_V_toSee_4 4 rfl) rfl ?_
      refine go_iload X 0 (dk dt_V_toSee_4 5 rfl) rfl ?_
      refine go_iconst X (dk dt_V_toSee_4 6 rfl) ci_m1 ?_
      refine go_Vi (As := [.int x5, .int q89.1, .int (-1 : Int32)]) (rest := []) X vo_X11_239 (fun q hq => ct_X9_isFree hi xc nx  hq) (by decide) rfl lC_19 sC_19 rfl rfl (Nat.le_of_ble_eq_true rfl) (dk dt_V_toSee_4 7 rfl) h (fun q122 h => ?_)
      refine go_sub [1, 2, 3, 4, 5] rfl ?_
      exact lkJ_V_toSee_125 hi xc nx X rt  hk69 h
    · refine go_aload_n X 1 (dk dt_V_toSee_3 11 rfl) rfl rfl ?_
      refine go_getr X fo_X11_25 lC_0 sC_0 fC_0_3 (dk dt_V_toSee_3 12 rfl) ?_
      refine go_iload X 0 (dk dt_V_toSee_3 13 rfl) rfl ?_
      refine go_iload X 4 (dk dt_V_toSee_3 14 rfl) rfl ?_
      refine go_iconst X (dk dt_V_toSee_3 15 rfl) ci_m1 ?_
      refine go_Vi (As := [.int q89.1, .int x5, .int (-1 : Int32)]) (rest := []) X vo_X11_239 (fun q hq => ct_X9_isFree hi xc nx  hq) (by decide) rfl lC_19 sC_19 rfl rfl (Nat.le_of_ble_eq_true rfl) (dk dt_V_toSee_4 0 rfl) h (fun q107 h => ?_)
      refine go_goto (tgt := 125) X (dk dt_V_toSee_4 1 rfl) (by decide) ?_
      refine go_sub [1, 2, 3, 4, 5] rfl ?_
      exact lkJ_V_toSee_125 hi xc nx X rt  hk69 h
set_option maxRecDepth 20000 in
theorem lkL_V_toSee_69 (hi : zInj wC v) (xc : XC wC v) (nx : NXC v) (X : Cx wC v p R s m args c 0 0 cX11_toSee 9 RX11 8) (rt : Rt wC v p l e R s m args below meth c 0 0 Q cX11_toSee false (some (.int res.1)) res.2)   (n : Nat) : ∀ {x1 : Int32} {x4 : Int32} {x5 : Int32} {x6 : Int32} {σ : Hp},  L_V_toSee_69   n x1 x4 x5 x6 σ = some res → Go wC v p l e R s m args below meth c 0 0 Q 9 69 [(0, .ref 0), (1, .int x1), (4, .int x4), (5, .int x5), (6, .int x6)] [] σ := by
  induction n with
  | zero => intro x1 x4 x5 x6 σ  h; cases h
  | succ n ih =>
    intro x1 x4 x5 x6 σ  h
    exact lkB_V_toSee_69 hi xc nx X rt  (fun _ _ _ _ _  hh => ih  hh) h
set_option maxRecDepth 20000 in
theorem lkF_V_toSee (hi : zInj wC v) (xc : XC wC v) (nx : NXC v) (X : Cx wC v p R s m args c 0 0 cX11_toSee 9 RX11 8) (rt : Rt wC v p l e R s m args below meth c 0 0 Q cX11_toSee false (some (.int res.1)) res.2) {a1 : Int32} {a2 : Int32} {a3 : Int32} {σ : Hp}  (h : F_V_toSee  a1 a2 a3 σ = some res) : Go wC v p l e R s m args below meth c 0 0 Q 9 0 [(0, .ref 0), (1, .int a1), (2, .int a2), (3, .int a3)] [] σ := by
  unfold F_V_toSee at h
  refine go_aload_n X 0 (dk dt_V_toSee_0 0 rfl) rfl rfl ?_
  refine go_iload_n X 1 (dk dt_V_toSee_0 1 rfl) rfl rfl ?_
  refine go_iload_n X 2 (dk dt_V_toSee_0 2 rfl) rfl rfl ?_
  refine go_Vi (As := [.int a1, .int a2]) (rest := []) X vo_X11_210 (fun q hq => ct_V_isGentleman hi xc nx  hq) (by decide) rfl lC_0 sC_0 rfl rfl (Nat.le_of_ble_eq_true rfl) (dk dt_V_toSee_0 3 rfl) h (fun q3 h => ?_)
  refine go_if_eq (tgt := 20) X (dk dt_V_toSee_0 4 rfl) (by decide) h (fun h => ?_) (fun h => ?_)
  · refine go_iconst X (dk dt_V_toSee_0 12 rfl) ci_m1 ?_
    exact go_iret rt (dk dt_V_toSee_0 13 rfl) h (fun hh => nomatch hh)
  · refine go_aload_n X 0 (dk dt_V_toSee_0 5 rfl) rfl rfl ?_
    refine go_iconst X (dk dt_V_toSee_0 6 rfl) ci_1 ?_
    refine go_iload_n X 1 (dk dt_V_toSee_0 7 rfl) rfl rfl ?_
    refine go_isub X (dk dt_V_toSee_0 8 rfl) ?_
    refine go_iload_n X 3 (dk dt_V_toSee_0 9 rfl) rfl rfl ?_
    refine go_Vi (As := [.int ((1 : Int32) - a1), .int a3]) (rest := []) X vo_X11_210 (fun q hq => ct_V_isGentleman hi xc nx  hq) (by decide) rfl lC_0 sC_0 rfl rfl (Nat.le_of_ble_eq_true rfl) (dk dt_V_toSee_0 10 rfl) h (fun q14 h => ?_)
    refine go_if_ne (tgt := 22) X (dk dt_V_toSee_0 11 rfl) (by decide) h (fun h => ?_) (fun h => ?_)
    · refine go_aload_n X 0 (dk dt_V_toSee_0 14 rfl) rfl rfl ?_
      refine go_getr X fo_X11_10 lC_0 sC_0 fC_0_0 (dk dt_V_toSee_0 15 rfl) ?_
      refine go_getr X fo_X11_219 lC_1 sC_1 fC_1_3 (dk dt_V_toSee_1 0 rfl) ?_
      refine go_iload_n X 1 (dk dt_V_toSee_1 1 rfl) rfl rfl ?_
      refine go_bipush X (dk dt_V_toSee_1 2 rfl) cb_8 ?_
      refine go_imul X (dk dt_V_toSee_1 3 rfl) ?_
      refine go_iload_n X 2 (dk dt_V_toSee_1 4 rfl) rfl rfl ?_
      refine go_iadd X (dk dt_V_toSee_1 5 rfl) ?_
      refine go_iald X lC_5 sC_5 (dk dt_V_toSee_1 6 rfl) h (fun h => ?_)
      refine go_istore (lv' := [(4, .int (q14.2 5 (Int32.toNatClampNeg ((a1 * (8 : Int32)) + a2)))), (0, .ref 0), (1, .int a1), (2, .int a2), (3, .int a3)]) X (dk dt_V_toSee_1 7 rfl) (by decide) rfl ?_
      refine go_aload_n X 1 (dk dt_V_toSee_1 8 rfl) rfl rfl ?_
      refine go_getr X fo_X11_25 lC_0 sC_0 fC_0_3 (dk dt_V_toSee_1 9 rfl) ?_
      refine go_iconst X (dk dt_V_toSee_1 10 rfl) ci_1 ?_
      refine go_iload_n X 2 (dk dt_V_toSee_1 11 rfl) rfl rfl ?_
      refine go_isub X (dk dt_V_toSee_1 12 rfl) ?_
      refine go_aload_n X 1 (dk dt_V_toSee_1 13 rfl) rfl rfl ?_
      refine go_getr X fo_X11_10 lC_0 sC_0 fC_0_0 (dk dt_V_toSee_1 14 rfl) ?_
      refine go_getr X fo_X11_219 lC_1 sC_1 fC_1_3 (dk dt_V_toSee_1 15 rfl) ?_
      refine go_iconst X (dk dt_V_toSee_2 0 rfl) ci_1 ?_
      refine go_iload_n X 2 (dk dt_V_toSee_2 1 rfl) rfl rfl ?_
      refine go_isub X (dk dt_V_toSee_2 2 rfl) ?_
      refine go_bipush X (dk dt_V_toSee_2 3 rfl) cb_8 ?_
      refine go_imul X (dk dt_V_toSee_2 4 rfl) ?_
      refine go_iload_n X 4 (dk dt_V_toSee_2 5 rfl) rfl rfl ?_
      refine go_iadd X (dk dt_V_toSee_2 6 rfl) ?_
      refine go_iald X lC_5 sC_5 (dk dt_V_toSee_2 7 rfl) h (fun h => ?_)
      refine go_Vi (As := [.int ((1 : Int32) - a1), .int (q14.2 5 (Int32.toNatClampNeg ((((1 : Int32) - a1) * (8 : Int32)) + a3)))]) (rest := []) X vo_X11_232 (fun q hq => ct_X9_eye hi xc nx  hq) (by decide) rfl lC_19 sC_19 rfl rfl (Nat.le_of_ble_eq_true rfl) (dk dt_V_toSee_2 8 rfl) h (fun q61 h => ?_)
      refine go_istore (lv' := [(5, .int q61.1), (4, .int (q14.2 5 (Int32.toNatClampNeg ((a1 * (8 : Int32)) + a2)))), (0, .ref 0), (1, .int a1), (2, .int a2), (3, .int a3)]) X (dk dt_V_toSee_2 9 rfl) (by decide) rfl ?_
      refine go_iconst X (dk dt_V_toSee_2 10 rfl) ci_0 ?_
      refine go_istore (lv' := [(6, .int (0 : Int32)), (5, .int q61.1), (4, .int (q14.2 5 (Int32.toNatClampNeg ((a1 * (8 : Int32)) + a2)))), (0, .ref 0), (1, .int a1), (2, .int a2), (3, .int a3)]) X (dk dt_V_toSee_2 11 rfl) (by decide) rfl ?_
      refine go_sub [3, 4, 2, 1, 0] rfl ?_
      exact lkL_V_toSee_69 hi xc nx X rt  FU  h
    · refine go_iconst X (dk dt_V_toSee_0 12 rfl) ci_m1 ?_
      exact go_iret rt (dk dt_V_toSee_0 13 rfl) h (fun hh => nomatch hh)
set_option maxRecDepth 20000 in
theorem ct_V_toSee (hi : zInj wC v) (xc : XC wC v) (nx : NXC v)  {a1 : Int32} {a2 : Int32} {a3 : Int32} {σ : Hp}  {q : (Int32 × Hp)} (h : F_V_toSee  a1 a2 a3 σ = some q) : Ct wC v l yX11_toSee cX11_toSee 9 (some .int) 8 [.ref 0, .int a1, .int a2, .int a3] σ (some (.int q.1)) q.2 :=
  Ct.intro false (by decide) hi xc (Nat.le_of_ble_eq_true rfl) rfl (fun p e R s m args below meth c Q X rt => lkF_V_toSee hi xc nx X rt  h)
end
def T_V_tried_0 : DT := [(0, .iload_n 2, 1), (1, .bipush 10, 2), (3, .bipush 17, 2), (5, .invokestatic 119, 3), (8, .ifCond .ne 14, 3), (11, .iload_n 2, 1), (12, .bipush 20, 2), (14, .bipush 27, 2), (16, .invokestatic 119, 3), (19, .ifCond .eq 7, 3), (22, .iconst 1, 1), (23, .goto 4, 3), (26, .iconst 0, 1), (27, .istore_n 3, 1), (28, .iload_n 1, 1), (29, .iconst 1, 1)]
theorem dt_V_tried_0 : dOk cX11_tried T_V_tried_0 := by unfold dOk; decide +kernel
def T_V_tried_1 : DT := [(30, .bipush 120, 2), (32, .invokestatic 119, 3), (35, .ifCond .eq 16, 3), (38, .iload_n 2, 1), (39, .iconst 0, 1), (40, .iconst 3, 1), (41, .invokestatic 119, 3), (44, .ifCond .ne 9, 3), (47, .iload_n 3, 1), (48, .ifCond .ne 5, 3), (51, .iconst (-1), 1), (52, .ireturn, 1), (53, .aload_n 0, 1), (54, .iload_n 1, 1), (55, .invokevirtual 195, 3), (58, .iload_n 3, 1)]
theorem dt_V_tried_1 : dOk cX11_tried T_V_tried_1 := by unfold dOk; decide +kernel
def T_V_tried_2 : DT := [(59, .ifCond .eq 48, 3), (62, .iload_n 2, 1), (63, .bipush 10, 2), (65, .idiv, 1), (66, .iconst 1, 1), (67, .isub, 1), (68, .bipush 8, 2), (70, .imul, 1), (71, .iload_n 2, 1), (72, .bipush 10, 2), (74, .irem, 1), (75, .iadd, 1), (76, .istore 4, 2), (78, .aload_n 0, 1), (79, .getfield 19, 3), (82, .getfield 198, 3)]
theorem dt_V_tried_2 : dOk cX11_tried T_V_tried_2 := by unfold dOk; decide +kernel
def T_V_tried_3 : DT := [(85, .iload 4, 2), (87, .iaload, 1), (88, .iconst 3, 1), (89, .if_icmp .ne 7, 3), (92, .iconst (-1), 1), (93, .goto 13, 3), (96, .aload_n 0, 1), (97, .getfield 19, 3), (100, .getfield 201, 3), (103, .iload 4, 2), (105, .iaload, 1), (106, .ireturn, 1), (107, .iload_n 2, 1), (108, .tableswitch 52 0 2 #[28, 36, 44], 28), (136, .aload_n 0, 1), (137, .getfield 50, 3)]
theorem dt_V_tried_3 : dOk cX11_tried T_V_tried_3 := by unfold dOk; decide +kernel
def T_V_tried_4 : DT := [(140, .getfield 192, 3), (143, .ireturn, 1), (144, .aload_n 0, 1), (145, .getfield 50, 3), (148, .getfield 204, 3), (151, .ireturn, 1), (152, .aload_n 0, 1), (153, .getfield 50, 3), (156, .getfield 207, 3), (159, .ireturn, 1), (160, .aload_n 0, 1), (161, .getfield 19, 3), (164, .getfield 127, 3), (167, .ireturn, 1)]
theorem dt_V_tried_4 : dOk cX11_tried T_V_tried_4 := by unfold dOk; decide +kernel
section
variable {v : ZV} {l : Launch} {p : Program} {e : Env} {R : Room} {s : State} {m : MethodId} {args : Array Value} {below : List Frame} {meth : Method} {c : Code} {Q : State → Prop} {res : (Int32 × Hp)} 
set_option maxRecDepth 20000 in
theorem lkJ_V_tried_53 (hi : zInj wC v) (xc : XC wC v) (nx : NXC v) (X : Cx wC v p R s m args c 0 0 cX11_tried 5 RX11 16) (rt : Rt wC v p l e R s m args below meth c 0 0 Q cX11_tried false (some (.int res.1)) res.2)  {x1 : Int32} {x2 : Int32} {x3 : Int32} {σ : Hp}   (h : J_V_tried_53   x1 x2 x3 σ = some res) : Go wC v p l e R s m args below meth c 0 0 Q 5 53 [(0, .ref 0), (1, .int x1), (2, .int x2), (3, .int x3)] [] σ := by
  unfold J_V_tried_53 at h
  refine go_aload_n X 0 (dk dt_V_tried_1 12 rfl) rfl rfl ?_
  refine go_iload_n X 1 (dk dt_V_tried_1 13 rfl) rfl rfl ?_
  refine go_Vv (As := [.int x1]) (rest := []) X vo_X11_195 (fun q hq => ct_V_tryWatches hi xc nx  hq) (by decide) rfl lC_0 sC_0 rfl rfl (Nat.le_of_ble_eq_true rfl) (dk dt_V_tried_1 14 rfl) h (fun q55 h => ?_)
  refine go_iload_n X 3 (dk dt_V_tried_1 15 rfl) rfl rfl ?_
  refine go_if_eq (tgt := 107) X (dk dt_V_tried_2 0 rfl) (by decide) h (fun h => ?_) (fun h => ?_)
  · refine go_iload_n X 2 (dk dt_V_tried_3 12 rfl) rfl rfl ?_
    by_cases hc108_0 : x2 = (0 : Int32)
    · rw [if_pos hc108_0] at h
      refine go_tsw (tgt := 136) X (dk dt_V_tried_3 13 rfl) (by decide) (by rw [hc108_0]) (by decide) ?_
      refine go_aload_n X 0 (dk dt_V_tried_3 14 rfl) rfl rfl ?_
      refine go_getr X fo_X11_50 lC_0 sC_0 fC_0_6 (dk dt_V_tried_3 15 rfl) ?_
      refine go_geti X fo_X11_192 lC_26 sC_26 fC_26_2 (dk dt_V_tried_4 0 rfl) ?_
      exact go_iret rt (dk dt_V_tried_4 1 rfl) h (fun hh => nomatch hh)
    rw [if_neg hc108_0] at h
    by_cases hc108_1 : x2 = (1 : Int32)
    · rw [if_pos hc108_1] at h
      refine go_tsw (tgt := 144) X (dk dt_V_tried_3 13 rfl) (by decide) (by rw [hc108_1]) (by decide) ?_
      refine go_aload_n X 0 (dk dt_V_tried_4 2 rfl) rfl rfl ?_
      refine go_getr X fo_X11_50 lC_0 sC_0 fC_0_6 (dk dt_V_tried_4 3 rfl) ?_
      refine go_geti X fo_X11_204 lC_26 sC_26 fC_26_3 (dk dt_V_tried_4 4 rfl) ?_
      exact go_iret rt (dk dt_V_tried_4 5 rfl) h (fun hh => nomatch hh)
    rw [if_neg hc108_1] at h
    by_cases hc108_2 : x2 = (2 : Int32)
    · rw [if_pos hc108_2] at h
      refine go_tsw (tgt := 152) X (dk dt_V_tried_3 13 rfl) (by decide) (by rw [hc108_2]) (by decide) ?_
      refine go_aload_n X 0 (dk dt_V_tried_4 6 rfl) rfl rfl ?_
      refine go_getr X fo_X11_50 lC_0 sC_0 fC_0_6 (dk dt_V_tried_4 7 rfl) ?_
      refine go_geti X fo_X11_207 lC_26 sC_26 fC_26_4 (dk dt_V_tried_4 8 rfl) ?_
      exact go_iret rt (dk dt_V_tried_4 9 rfl) h (fun hh => nomatch hh)
    rw [if_neg hc108_2] at h
    refine go_tsw (tgt := 160) X (dk dt_V_tried_3 13 rfl) (by decide) (sw_dflt [0, 1, 2] (by decide) (by simp only [List.mem_cons, List.not_mem_nil, or_false, not_or]; exact ⟨(i32_ne (k := 0) hc108_0), (i32_ne (k := 1) hc108_1), (i32_ne (k := 2) hc108_2)⟩)) (by decide) ?_
    refine go_aload_n X 0 (dk dt_V_tried_4 10 rfl) rfl rfl ?_
    refine go_getr X fo_X11_19 lC_0 sC_0 fC_0_2 (dk dt_V_tried_4 11 rfl) ?_
    refine go_geti X fo_X11_127 lC_13 sC_13 fC_13_8 (dk dt_V_tried_4 12 rfl) ?_
    exact go_iret rt (dk dt_V_tried_4 13 rfl) h (fun hh => nomatch hh)
  · refine go_iload_n X 2 (dk dt_V_tried_2 1 rfl) rfl rfl ?_
    refine go_bipush X (dk dt_V_tried_2 2 rfl) cb_10 ?_
    refine go_idivL X (dk dt_V_tried_2 3 rfl) (by decide) ?_
    refine go_iconst X (dk dt_V_tried_2 4 rfl) ci_1 ?_
    refine go_isub X (dk dt_V_tried_2 5 rfl) ?_
    refine go_bipush X (dk dt_V_tried_2 6 rfl) cb_8 ?_
    refine go_imul X (dk dt_V_tried_2 7 rfl) ?_
    refine go_iload_n X 2 (dk dt_V_tried_2 8 rfl) rfl rfl ?_
    refine go_bipush X (dk dt_V_tried_2 9 rfl) cb_10 ?_
    refine go_iremL X (dk dt_V_tried_2 10 rfl) (by decide) ?_
    refine go_iadd X (dk dt_V_tried_2 11 rfl) ?_
    refine go_istore (lv' := [(4, .int ((((x2 / (10 : Int32)) - (1 : Int32)) * (8 : Int32)) + (jrem x2 (10 : Int32)))), (0, .ref 0), (1, .int x1), (2, .int x2), (3, .int x3)]) X (dk dt_V_tried_2 12 rfl) (by decide) rfl ?_
    refine go_aload_n X 1 (dk dt_V_tried_2 13 rfl) rfl rfl ?_
    refine go_getr X fo_X11_19 lC_0 sC_0 fC_0_2 (dk dt_V_tried_2 14 rfl) ?_
    refine go_getr X fo_X11_198 lC_13 sC_13 fC_13_4 (dk dt_V_tried_2 15 rfl) ?_
    refine go_iload X 0 (dk dt_V_tried_3 0 rfl) rfl ?_
    refine go_iald X lC_18 sC_18 (dk dt_V_tried_3 1 rfl) h (fun h => ?_)
    refine go_iconst X (dk dt_V_tried_3 2 rfl) ci_3 ?_
    refine go_icmp_ne (tgt := 96) X (dk dt_V_tried_3 3 rfl) (by decide) h (fun h => ?_) (fun h => ?_)
    · refine go_aload_n X 1 (dk dt_V_tried_3 6 rfl) rfl rfl ?_
      refine go_getr X fo_X11_19 lC_0 sC_0 fC_0_2 (dk dt_V_tried_3 7 rfl) ?_
      refine go_getr X fo_X11_201 lC_13 sC_13 fC_13_1 (dk dt_V_tried_3 8 rfl) ?_
      refine go_iload X 0 (dk dt_V_tried_3 9 rfl) rfl ?_
      refine go_iald X lC_15 sC_15 (dk dt_V_tried_3 10 rfl) h (fun h => ?_)
      exact go_iret rt (dk dt_V_tried_3 11 rfl) h (fun hh => nomatch hh)
    · refine go_iconst X (dk dt_V_tried_3 4 rfl) ci_m1 ?_
      refine go_goto (tgt := 106) X (dk dt_V_tried_3 5 rfl) (by decide) ?_
      exact go_iret rt (dk dt_V_tried_3 11 rfl) h (fun hh => nomatch hh)
set_option maxRecDepth 20000 in
theorem lkJ_V_tried_27 (hi : zInj wC v) (xc : XC wC v) (nx : NXC v) (X : Cx wC v p R s m args c 0 0 cX11_tried 5 RX11 16) (rt : Rt wC v p l e R s m args below meth c 0 0 Q cX11_tried false (some (.int res.1)) res.2)  {x1 : Int32} {x2 : Int32} {s0 : Int32} {σ : Hp}   (h : J_V_tried_27   x1 x2 s0 σ = some res) : Go wC v p l e R s m args below meth c 0 0 Q 5 27 [(0, .ref 0), (1, .int x1), (2, .int x2)] [.int s0] σ := by
  unfold J_V_tried_27 at h
  refine go_istore_n (lv' := [(3, .int s0), (0, .ref 0), (1, .int x1), (2, .int x2)]) X (dk dt_V_tried_0 13 rfl) rfl (by decide) rfl ?_
  refine go_iload_n X 2 (dk dt_V_tried_0 14 rfl) rfl rfl ?_
  refine go_iconst X (dk dt_V_tried_0 15 rfl) ci_1 ?_
  refine go_bipush X (dk dt_V_tried_1 0 rfl) cb_120 ?_
  refine go_Si (As := [.int x1, .int (1 : Int32), .int (120 : Int32)]) (rest := []) X so_X11_119 (fun q hq => ct_V_within hi xc nx  hq) (by decide) rfl rfl (Nat.le_of_ble_eq_true rfl) (dk dt_V_tried_1 1 rfl) h (fun q32 h => ?_)
  refine go_if_eq (tgt := 51) X (dk dt_V_tried_1 2 rfl) (by decide) h (fun h => ?_) (fun h => ?_)
  · refine go_iconst X (dk dt_V_tried_1 10 rfl) ci_m1 ?_
    exact go_iret rt (dk dt_V_tried_1 11 rfl) h (fun hh => nomatch hh)
  · refine go_iload_n X 3 (dk dt_V_tried_1 3 rfl) rfl rfl ?_
    refine go_iconst X (dk dt_V_tried_1 4 rfl) ci_0 ?_
    refine go_iconst X (dk dt_V_tried_1 5 rfl) ci_3 ?_
    refine go_Si (As := [.int x2, .int (0 : Int32), .int (3 : Int32)]) (rest := []) X so_X11_119 (fun q hq => ct_V_within hi xc nx  hq) (by decide) rfl rfl (Nat.le_of_ble_eq_true rfl) (dk dt_V_tried_1 6 rfl) h (fun q41 h => ?_)
    refine go_if_ne (tgt := 53) X (dk dt_V_tried_1 7 rfl) (by decide) h (fun h => ?_) (fun h => ?_)
    · refine go_sub [1, 2, 3, 0] rfl ?_
      exact lkJ_V_tried_53 hi xc nx X rt   h
    · refine go_iload_n X 0 (dk dt_V_tried_1 8 rfl) rfl rfl ?_
      refine go_if_ne (tgt := 53) X (dk dt_V_tried_1 9 rfl) (by decide) h (fun h => ?_) (fun h => ?_)
      · refine go_sub [1, 2, 3, 0] rfl ?_
        exact lkJ_V_tried_53 hi xc nx X rt   h
      · refine go_iconst X (dk dt_V_tried_1 10 rfl) ci_m1 ?_
        exact go_iret rt (dk dt_V_tried_1 11 rfl) h (fun hh => nomatch hh)
set_option maxRecDepth 20000 in
theorem lkJ_V_tried_22 (hi : zInj wC v) (xc : XC wC v) (nx : NXC v) (X : Cx wC v p R s m args c 0 0 cX11_tried 5 RX11 16) (rt : Rt wC v p l e R s m args below meth c 0 0 Q cX11_tried false (some (.int res.1)) res.2)  {x1 : Int32} {x2 : Int32} {σ : Hp}   (h : J_V_tried_22   x1 x2 σ = some res) : Go wC v p l e R s m args below meth c 0 0 Q 5 22 [(0, .ref 0), (1, .int x1), (2, .int x2)] [] σ := by
  unfold J_V_tried_22 at h
  refine go_iconst X (dk dt_V_tried_0 10 rfl) ci_1 ?_
  refine go_goto (tgt := 27) X (dk dt_V_tried_0 11 rfl) (by decide) ?_
  exact lkJ_V_tried_27 hi xc nx X rt   h
set_option maxRecDepth 20000 in
theorem lkF_V_tried (hi : zInj wC v) (xc : XC wC v) (nx : NXC v) (X : Cx wC v p R s m args c 0 0 cX11_tried 5 RX11 16) (rt : Rt wC v p l e R s m args below meth c 0 0 Q cX11_tried false (some (.int res.1)) res.2) {a1 : Int32} {a2 : Int32} {σ : Hp}  (h : F_V_tried  a1 a2 σ = some res) : Go wC v p l e R s m args below meth c 0 0 Q 5 0 [(0, .ref 0), (1, .int a1), (2, .int a2)] [] σ := by
  unfold F_V_tried at h
  refine go_iload_n X 2 (dk dt_V_tried_0 0 rfl) rfl rfl ?_
  refine go_bipush X (dk dt_V_tried_0 1 rfl) cb_10 ?_
  refine go_bipush X (dk dt_V_tried_0 2 rfl) cb_17 ?_
  refine go_Si (As := [.int a2, .int (10 : Int32), .int (17 : Int32)]) (rest := []) X so_X11_119 (fun q hq => ct_V_within hi xc nx  hq) (by decide) rfl rfl (Nat.le_of_ble_eq_true rfl) (dk dt_V_tried_0 3 rfl) h (fun q5 h => ?_)
  refine go_if_ne (tgt := 22) X (dk dt_V_tried_0 4 rfl) (by decide) h (fun h => ?_) (fun h => ?_)
  · exact lkJ_V_tried_22 hi xc nx X rt   h
  · refine go_iload_n X 2 (dk dt_V_tried_0 5 rfl) rfl rfl ?_
    refine go_bipush X (dk dt_V_tried_0 6 rfl) cb_20 ?_
    refine go_bipush X (dk dt_V_tried_0 7 rfl) cb_27 ?_
    refine go_Si (As := [.int a2, .int (20 : Int32), .int (27 : Int32)]) (rest := []) X so_X11_119 (fun q hq => ct_V_within hi xc nx  hq) (by decide) rfl rfl (Nat.le_of_ble_eq_true rfl) (dk dt_V_tried_0 8 rfl) h (fun q16 h => ?_)
    refine go_if_eq (tgt := 26) X (dk dt_V_tried_0 9 rfl) (by decide) h (fun h => ?_) (fun h => ?_)
    · refine go_iconst X (dk dt_V_tried_0 12 rfl) ci_0 ?_
      exact lkJ_V_tried_27 hi xc nx X rt   h
    · exact lkJ_V_tried_22 hi xc nx X rt   h
set_option maxRecDepth 20000 in
theorem ct_V_tried (hi : zInj wC v) (xc : XC wC v) (nx : NXC v)  {a1 : Int32} {a2 : Int32} {σ : Hp}  {q : (Int32 × Hp)} (h : F_V_tried  a1 a2 σ = some q) : Ct wC v l yX11_tried cX11_tried 5 (some .int) 16 [.ref 0, .int a1, .int a2] σ (some (.int q.1)) q.2 :=
  Ct.intro false (by decide) hi xc (Nat.le_of_ble_eq_true rfl) rfl (fun p e R s m args below meth c Q X rt => lkF_V_tried hi xc nx X rt  h)
end
def T_V_undo_0 : DT := [(0, .aload_n 0, 1), (1, .getfield 111, 3), (4, .ifCond .ne 5, 3), (7, .iconst 0, 1), (8, .ireturn, 1), (9, .aload_n 0, 1), (10, .getfield 10, 3), (13, .aload_n 0, 1), (14, .getfield 16, 3), (17, .invokevirtual 165, 3), (20, .iconst 1, 1), (21, .ireturn, 1)]
theorem dt_V_undo_0 : dOk cX11_undo T_V_undo_0 := by unfold dOk; decide +kernel
section
variable {v : ZV} {l : Launch} {p : Program} {e : Env} {R : Room} {s : State} {m : MethodId} {args : Array Value} {below : List Frame} {meth : Method} {c : Code} {Q : State → Prop} {res : (Int32 × Hp)} 
set_option maxRecDepth 20000 in
theorem lkF_V_undo (hi : zInj wC v) (xc : XC wC v) (nx : NXC v) (X : Cx wC v p R s m args c 0 0 cX11_undo 1 RX11 4) (rt : Rt wC v p l e R s m args below meth c 0 0 Q cX11_undo true (some (.int res.1)) res.2)  {σ : Hp}  (h : F_V_undo   σ = some res) : Go wC v p l e R s m args below meth c 0 0 Q 1 0 [(0, .ref 0)] [] σ := by
  unfold F_V_undo at h
  refine go_aload_n X 0 (dk dt_V_undo_0 0 rfl) rfl rfl ?_
  refine go_geti X fo_X11_111 lC_0 sC_0 fC_0_17 (dk dt_V_undo_0 1 rfl) ?_
  refine go_if_ne (tgt := 9) X (dk dt_V_undo_0 2 rfl) (by decide) h (fun h => ?_) (fun h => ?_)
  · refine go_aload_n X 0 (dk dt_V_undo_0 5 rfl) rfl rfl ?_
    refine go_getr X fo_X11_10 lC_0 sC_0 fC_0_0 (dk dt_V_undo_0 6 rfl) ?_
    refine go_aload_n X 0 (dk dt_V_undo_0 7 rfl) rfl rfl ?_
    refine go_getr X fo_X11_16 lC_0 sC_0 fC_0_1 (dk dt_V_undo_0 8 rfl) ?_
    refine go_Vv (As := [.ref 7]) (rest := []) X vo_X11_165 (fun q hq => ct_X10_copy hi xc nx (by decide : isW 1 = true) (by decide : isW 7 = true) hq) (by decide) rfl lC_1 sC_1 rfl rfl (Nat.le_of_ble_eq_true rfl) (dk dt_V_undo_0 9 rfl) h (fun q17 h => ?_)
    refine go_iconst X (dk dt_V_undo_0 10 rfl) ci_1 ?_
    exact go_iret rt (dk dt_V_undo_0 11 rfl) h (by decide)
  · refine go_iconst X (dk dt_V_undo_0 3 rfl) ci_0 ?_
    exact go_iret rt (dk dt_V_undo_0 4 rfl) h (by decide)
set_option maxRecDepth 20000 in
theorem ct_V_undo (hi : zInj wC v) (xc : XC wC v) (nx : NXC v)   {σ : Hp}  {q : (Int32 × Hp)} (h : F_V_undo   σ = some q) : Ct wC v l yX11_undo cX11_undo 1 (some .boolean) 4 [.ref 0] σ (some (.int q.1)) q.2 :=
  Ct.intro true (by decide) hi xc (Nat.le_of_ble_eq_true rfl) rfl (fun p e R s m args below meth c Q X rt => lkF_V_undo hi xc nx X rt  h)
end
def T_V_watches_0 : DT := [(0, .iload_n 1, 1), (1, .iconst 1, 1), (2, .bipush 120, 2), (4, .invokestatic 119, 3), (7, .ifCond .ne 5, 3), (10, .iconst (-1), 1), (11, .ireturn, 1), (12, .aload_n 0, 1), (13, .getfield 50, 3), (16, .aload_n 0, 1), (17, .getfield 10, 3), (20, .aload_n 0, 1), (21, .getfield 95, 3), (24, .iload_n 1, 1), (25, .invokevirtual 188, 3), (28, .aload_n 0, 1)]
theorem dt_V_watches_0 : dOk cX11_watches T_V_watches_0 := by unfold dOk; decide +kernel
def T_V_watches_1 : DT := [(29, .getfield 50, 3), (32, .getfield 192, 3), (35, .ireturn, 1)]
theorem dt_V_watches_1 : dOk cX11_watches T_V_watches_1 := by unfold dOk; decide +kernel
section
variable {v : ZV} {l : Launch} {p : Program} {e : Env} {R : Room} {s : State} {m : MethodId} {args : Array Value} {below : List Frame} {meth : Method} {c : Code} {Q : State → Prop} {res : (Int32 × Hp)} 
set_option maxRecDepth 20000 in
theorem lkF_V_watches (hi : zInj wC v) (xc : XC wC v) (nx : NXC v) (X : Cx wC v p R s m args c 0 0 cX11_watches 2 RX11 14) (rt : Rt wC v p l e R s m args below meth c 0 0 Q cX11_watches false (some (.int res.1)) res.2) {a1 : Int32} {σ : Hp}  (h : F_V_watches  a1 σ = some res) : Go wC v p l e R s m args below meth c 0 0 Q 2 0 [(0, .ref 0), (1, .int a1)] [] σ := by
  unfold F_V_watches at h
  refine go_iload_n X 1 (dk dt_V_watches_0 0 rfl) rfl rfl ?_
  refine go_iconst X (dk dt_V_watches_0 1 rfl) ci_1 ?_
  refine go_bipush X (dk dt_V_watches_0 2 rfl) cb_120 ?_
  refine go_Si (As := [.int a1, .int (1 : Int32), .int (120 : Int32)]) (rest := []) X so_X11_119 (fun q hq => ct_V_within hi xc nx  hq) (by decide) rfl rfl (Nat.le_of_ble_eq_true rfl) (dk dt_V_watches_0 3 rfl) h (fun q4 h => ?_)
  refine go_if_ne (tgt := 12) X (dk dt_V_watches_0 4 rfl) (by decide) h (fun h => ?_) (fun h => ?_)
  · refine go_aload_n X 0 (dk dt_V_watches_0 7 rfl) rfl rfl ?_
    refine go_getr X fo_X11_50 lC_0 sC_0 fC_0_6 (dk dt_V_watches_0 8 rfl) ?_
    refine go_aload_n X 0 (dk dt_V_watches_0 9 rfl) rfl rfl ?_
    refine go_getr X fo_X11_10 lC_0 sC_0 fC_0_0 (dk dt_V_watches_0 10 rfl) ?_
    refine go_aload_n X 0 (dk dt_V_watches_0 11 rfl) rfl rfl ?_
    refine go_getd X fo_X11_95 lC_0 sC_0 fC_0_14 (dk dt_V_watches_0 12 rfl) ?_
    obtain ⟨g1, h⟩ := gd_some h
    refine go_iload_n X 1 (dk dt_V_watches_0 13 rfl) rfl rfl ?_
    refine go_Vv (As := [.ref 1, .ref (Int32.toNatClampNeg (q4.2 0 14)), .int a1]) (rest := []) X vo_X11_188 (fun q hq => ct_X2_run hi xc nx (by decide : isW 1 = true) g1 hq) (by decide) rfl lC_26 sC_26 rfl rfl (Nat.le_of_ble_eq_true rfl) (dk dt_V_watches_0 14 rfl) h (fun q25 h => ?_)
    refine go_aload_n X 0 (dk dt_V_watches_0 15 rfl) rfl rfl ?_
    refine go_getr X fo_X11_50 lC_0 sC_0 fC_0_6 (dk dt_V_watches_1 0 rfl) ?_
    refine go_geti X fo_X11_192 lC_26 sC_26 fC_26_2 (dk dt_V_watches_1 1 rfl) ?_
    exact go_iret rt (dk dt_V_watches_1 2 rfl) h (fun hh => nomatch hh)
  · refine go_iconst X (dk dt_V_watches_0 5 rfl) ci_m1 ?_
    exact go_iret rt (dk dt_V_watches_0 6 rfl) h (fun hh => nomatch hh)
set_option maxRecDepth 20000 in
theorem ct_V_watches (hi : zInj wC v) (xc : XC wC v) (nx : NXC v)  {a1 : Int32} {σ : Hp}  {q : (Int32 × Hp)} (h : F_V_watches  a1 σ = some q) : Ct wC v l yX11_watches cX11_watches 2 (some .int) 14 [.ref 0, .int a1] σ (some (.int q.1)) q.2 :=
  Ct.intro false (by decide) hi xc (Nat.le_of_ble_eq_true rfl) rfl (fun p e R s m args below meth c Q X rt => lkF_V_watches hi xc nx X rt  h)
end
def T_V_whenIn_0 : DT := [(0, .aload_n 0, 1), (1, .iload_n 1, 1), (2, .iload_n 2, 1), (3, .invokevirtual 210, 3), (6, .ifCond .eq 13, 3), (9, .iload_n 3, 1), (10, .iconst 1, 1), (11, .bipush 120, 2), (13, .invokestatic 119, 3), (16, .ifCond .ne 5, 3), (19, .iconst (-1), 1), (20, .ireturn, 1), (21, .iload_n 1, 1), (22, .bipush 8, 2), (24, .imul, 1), (25, .iload_n 2, 1)]
theorem dt_V_whenIn_0 : dOk cX11_whenIn T_V_whenIn_0 := by unfold dOk; decide +kernel
def T_V_whenIn_1 : DT := [(26, .iadd, 1), (27, .istore 4, 2), (29, .aload_n 0, 1), (30, .getfield 10, 3), (33, .getfield 198, 3), (36, .iload 4, 2), (38, .iaload, 1), (39, .iconst 2, 1), (40, .if_icmp .ne 5, 3), (43, .iconst 0, 1), (44, .ireturn, 1), (45, .aload_n 0, 1), (46, .iload_n 3, 1), (47, .invokevirtual 195, 3), (50, .aload_n 0, 1), (51, .getfield 50, 3)]
theorem dt_V_whenIn_1 : dOk cX11_whenIn T_V_whenIn_1 := by unfold dOk; decide +kernel
def T_V_whenIn_2 : DT := [(54, .getfield 258, 3), (57, .iload 4, 2), (59, .iaload, 1), (60, .ifCond .le 16, 3), (63, .aload_n 0, 1), (64, .getfield 50, 3), (67, .getfield 258, 3), (70, .iload 4, 2), (72, .iaload, 1), (73, .goto 5, 3), (76, .bipush (-2), 2), (78, .ireturn, 1)]
theorem dt_V_whenIn_2 : dOk cX11_whenIn T_V_whenIn_2 := by unfold dOk; decide +kernel
section
variable {v : ZV} {l : Launch} {p : Program} {e : Env} {R : Room} {s : State} {m : MethodId} {args : Array Value} {below : List Frame} {meth : Method} {c : Code} {Q : State → Prop} {res : (Int32 × Hp)} 
set_option maxRecDepth 20000 in
theorem lkF_V_whenIn (hi : zInj wC v) (xc : XC wC v) (nx : NXC v) (X : Cx wC v p R s m args c 0 0 cX11_whenIn 5 RX11 16) (rt : Rt wC v p l e R s m args below meth c 0 0 Q cX11_whenIn false (some (.int res.1)) res.2) {a1 : Int32} {a2 : Int32} {a3 : Int32} {σ : Hp}  (h : F_V_whenIn  a1 a2 a3 σ = some res) : Go wC v p l e R s m args below meth c 0 0 Q 5 0 [(0, .ref 0), (1, .int a1), (2, .int a2), (3, .int a3)] [] σ := by
  unfold F_V_whenIn at h
  refine go_aload_n X 0 (dk dt_V_whenIn_0 0 rfl) rfl rfl ?_
  refine go_iload_n X 1 (dk dt_V_whenIn_0 1 rfl) rfl rfl ?_
  refine go_iload_n X 2 (dk dt_V_whenIn_0 2 rfl) rfl rfl ?_
  refine go_Vi (As := [.int a1, .int a2]) (rest := []) X vo_X11_210 (fun q hq => ct_V_isGentleman hi xc nx  hq) (by decide) rfl lC_0 sC_0 rfl rfl (Nat.le_of_ble_eq_true rfl) (dk dt_V_whenIn_0 3 rfl) h (fun q3 h => ?_)
  refine go_if_eq (tgt := 19) X (dk dt_V_whenIn_0 4 rfl) (by decide) h (fun h => ?_) (fun h => ?_)
  · refine go_iconst X (dk dt_V_whenIn_0 10 rfl) ci_m1 ?_
    exact go_iret rt (dk dt_V_whenIn_0 11 rfl) h (fun hh => nomatch hh)
  · refine go_iload_n X 3 (dk dt_V_whenIn_0 5 rfl) rfl rfl ?_
    refine go_iconst X (dk dt_V_whenIn_0 6 rfl) ci_1 ?_
    refine go_bipush X (dk dt_V_whenIn_0 7 rfl) cb_120 ?_
    refine go_Si (As := [.int a3, .int (1 : Int32), .int (120 : Int32)]) (rest := []) X so_X11_119 (fun q hq => ct_V_within hi xc nx  hq) (by decide) rfl rfl (Nat.le_of_ble_eq_true rfl) (dk dt_V_whenIn_0 8 rfl) h (fun q13 h => ?_)
    refine go_if_ne (tgt := 21) X (dk dt_V_whenIn_0 9 rfl) (by decide) h (fun h => ?_) (fun h => ?_)
    · refine go_iload_n X 1 (dk dt_V_whenIn_0 12 rfl) rfl rfl ?_
      refine go_bipush X (dk dt_V_whenIn_0 13 rfl) cb_8 ?_
      refine go_imul X (dk dt_V_whenIn_0 14 rfl) ?_
      refine go_iload_n X 2 (dk dt_V_whenIn_0 15 rfl) rfl rfl ?_
      refine go_iadd X (dk dt_V_whenIn_1 0 rfl) ?_
      refine go_istore (lv' := [(4, .int ((a1 * (8 : Int32)) + a2)), (0, .ref 0), (1, .int a1), (2, .int a2), (3, .int a3)]) X (dk dt_V_whenIn_1 1 rfl) (by decide) rfl ?_
      refine go_aload_n X 1 (dk dt_V_whenIn_1 2 rfl) rfl rfl ?_
      refine go_getr X fo_X11_10 lC_0 sC_0 fC_0_0 (dk dt_V_whenIn_1 3 rfl) ?_
      refine go_getr X fo_X11_198 lC_1 sC_1 fC_1_4 (dk dt_V_whenIn_1 4 rfl) ?_
      refine go_iload X 0 (dk dt_V_whenIn_1 5 rfl) rfl ?_
      refine go_iald X lC_6 sC_6 (dk dt_V_whenIn_1 6 rfl) h (fun h => ?_)
      refine go_iconst X (dk dt_V_whenIn_1 7 rfl) ci_2 ?_
      refine go_icmp_ne (tgt := 45) X (dk dt_V_whenIn_1 8 rfl) (by decide) h (fun h => ?_) (fun h => ?_)
      · refine go_aload_n X 1 (dk dt_V_whenIn_1 11 rfl) rfl rfl ?_
        refine go_iload_n X 4 (dk dt_V_whenIn_1 12 rfl) rfl rfl ?_
        refine go_Vv (As := [.int a3]) (rest := []) X vo_X11_195 (fun q hq => ct_V_tryWatches hi xc nx  hq) (by decide) rfl lC_0 sC_0 rfl rfl (Nat.le_of_ble_eq_true rfl) (dk dt_V_whenIn_1 13 rfl) h (fun q47 h => ?_)
        refine go_aload_n X 1 (dk dt_V_whenIn_1 14 rfl) rfl rfl ?_
        refine go_getr X fo_X11_50 lC_0 sC_0 fC_0_6 (dk dt_V_whenIn_1 15 rfl) ?_
        refine go_getr X fo_X11_258 lC_26 sC_26 fC_26_1 (dk dt_V_whenIn_2 0 rfl) ?_
        refine go_iload X 0 (dk dt_V_whenIn_2 1 rfl) rfl ?_
        refine go_iald X lC_27 sC_27 (dk dt_V_whenIn_2 2 rfl) h (fun h => ?_)
        refine go_if_le (tgt := 76) X (dk dt_V_whenIn_2 3 rfl) (by decide) h (fun h => ?_) (fun h => ?_)
        · refine go_bipush X (dk dt_V_whenIn_2 10 rfl) cb_m2 ?_
          exact go_iret rt (dk dt_V_whenIn_2 11 rfl) h (fun hh => nomatch hh)
        · refine go_aload_n X 1 (dk dt_V_whenIn_2 4 rfl) rfl rfl ?_
          refine go_getr X fo_X11_50 lC_0 sC_0 fC_0_6 (dk dt_V_whenIn_2 5 rfl) ?_
          refine go_getr X fo_X11_258 lC_26 sC_26 fC_26_1 (dk dt_V_whenIn_2 6 rfl) ?_
          refine go_iload X 0 (dk dt_V_whenIn_2 7 rfl) rfl ?_
          refine go_iald X lC_27 sC_27 (dk dt_V_whenIn_2 8 rfl) h (fun h => ?_)
          refine go_goto (tgt := 78) X (dk dt_V_whenIn_2 9 rfl) (by decide) ?_
          exact go_iret rt (dk dt_V_whenIn_2 11 rfl) h (fun hh => nomatch hh)
      · refine go_iconst X (dk dt_V_whenIn_1 9 rfl) ci_0 ?_
        exact go_iret rt (dk dt_V_whenIn_1 10 rfl) h (fun hh => nomatch hh)
    · refine go_iconst X (dk dt_V_whenIn_0 10 rfl) ci_m1 ?_
      exact go_iret rt (dk dt_V_whenIn_0 11 rfl) h (fun hh => nomatch hh)
set_option maxRecDepth 20000 in
theorem ct_V_whenIn (hi : zInj wC v) (xc : XC wC v) (nx : NXC v)  {a1 : Int32} {a2 : Int32} {a3 : Int32} {σ : Hp}  {q : (Int32 × Hp)} (h : F_V_whenIn  a1 a2 a3 σ = some q) : Ct wC v l yX11_whenIn cX11_whenIn 5 (some .int) 16 [.ref 0, .int a1, .int a2, .int a3] σ (some (.int q.1)) q.2 :=
  Ct.intro false (by decide) hi xc (Nat.le_of_ble_eq_true rfl) rfl (fun p e R s m args below meth c Q X rt => lkF_V_whenIn hi xc nx X rt  h)
end
