def T_J6_bitCount_0 : DT := [(0, .iload_n 0, 1), (1, .iload_n 0, 1), (2, .iconst 1, 1), (3, .iushr, 1), (4, .ldc_w 265, 3), (7, .iand, 1), (8, .isub, 1), (9, .istore_n 0, 1), (10, .iload_n 0, 1), (11, .ldc_w 266, 3), (14, .iand, 1), (15, .iload_n 0, 1), (16, .iconst 2, 1), (17, .iushr, 1), (18, .ldc_w 266, 3), (21, .iand, 1)]
theorem dt_J6_bitCount_0 : dOk cJ6_bitCount_0f7a4 T_J6_bitCount_0 := by unfold dOk; decide +kernel
def T_J6_bitCount_1 : DT := [(22, .iadd, 1), (23, .istore_n 0, 1), (24, .iload_n 0, 1), (25, .iload_n 0, 1), (26, .iconst 4, 1), (27, .iushr, 1), (28, .iadd, 1), (29, .ldc_w 267, 3), (32, .iand, 1), (33, .istore_n 0, 1), (34, .iload_n 0, 1), (35, .iload_n 0, 1), (36, .bipush 8, 2), (38, .iushr, 1), (39, .iadd, 1), (40, .istore_n 0, 1)]
theorem dt_J6_bitCount_1 : dOk cJ6_bitCount_0f7a4 T_J6_bitCount_1 := by unfold dOk; decide +kernel
def T_J6_bitCount_2 : DT := [(41, .iload_n 0, 1), (42, .iload_n 0, 1), (43, .bipush 16, 2), (45, .iushr, 1), (46, .iadd, 1), (47, .istore_n 0, 1), (48, .iload_n 0, 1), (49, .bipush 63, 2), (51, .iand, 1), (52, .ireturn, 1)]
theorem dt_J6_bitCount_2 : dOk cJ6_bitCount_0f7a4 T_J6_bitCount_2 := by unfold dOk; decide +kernel
section
variable {v : ZV} {l : Launch} {p : Program} {e : Env} {R : Room} {s : State} {m : MethodId} {args : Array Value} {below : List Frame} {meth : Method} {c : Code} {Q : State → Prop} {res : (Int32 × Hp)} 
set_option maxRecDepth 20000 in
theorem lkF_J6_bitCount (hi : zInj wC v) (xc : XC wC v) (nx : NXC v) (X : Cx wC v p R s m args c 0 0 cJ6_bitCount_0f7a4 1 RJ6 2) (rt : Rt wC v p l e R s m args below meth c 0 0 Q cJ6_bitCount_0f7a4 false (some (.int res.1)) res.2) {a0 : Int32} {σ : Hp}  (h : F_J6_bitCount  a0 σ = some res) : Go wC v p l e R s m args below meth c 0 0 Q 1 0 [(0, .int a0)] [] σ := by
  unfold F_J6_bitCount at h
  refine go_iload_n X 0 (dk dt_J6_bitCount_0 0 rfl) rfl rfl ?_
  refine go_iload_n X 0 (dk dt_J6_bitCount_0 1 rfl) rfl rfl ?_
  refine go_iconst X (dk dt_J6_bitCount_0 2 rfl) ci_1 ?_
  refine go_iushr X (dk dt_J6_bitCount_0 3 rfl) ?_
  refine go_ldcw X wd_829 (dk dt_J6_bitCount_0 4 rfl) ?_
  refine go_iand X (dk dt_J6_bitCount_0 5 rfl) ?_
  refine go_isub X (dk dt_J6_bitCount_0 6 rfl) ?_
  refine go_istore_n (lv' := [(0, .int (a0 - ((jushr a0 (1 : Int32)) &&& (1431655765 : Int32))))]) X (dk dt_J6_bitCount_0 7 rfl) rfl (by decide) rfl ?_
  refine go_iload_n X 0 (dk dt_J6_bitCount_0 8 rfl) rfl rfl ?_
  refine go_ldcw X wd_830 (dk dt_J6_bitCount_0 9 rfl) ?_
  refine go_iand X (dk dt_J6_bitCount_0 10 rfl) ?_
  refine go_iload_n X 0 (dk dt_J6_bitCount_0 11 rfl) rfl rfl ?_
  refine go_iconst X (dk dt_J6_bitCount_0 12 rfl) ci_2 ?_
  refine go_iushr X (dk dt_J6_bitCount_0 13 rfl) ?_
  refine go_ldcw X wd_830 (dk dt_J6_bitCount_0 14 rfl) ?_
  refine go_iand X (dk dt_J6_bitCount_0 15 rfl) ?_
  refine go_iadd X (dk dt_J6_bitCount_1 0 rfl) ?_
  refine go_istore_n (lv' := [(0, .int (((a0 - ((jushr a0 (1 : Int32)) &&& (1431655765 : Int32))) &&& (858993459 : Int32)) + ((jushr (a0 - ((jushr a0 (1 : Int32)) &&& (1431655765 : Int32))) (2 : Int32)) &&& (858993459 : Int32))))]) X (dk dt_J6_bitCount_1 1 rfl) rfl (by decide) rfl ?_
  refine go_iload_n X 0 (dk dt_J6_bitCount_1 2 rfl) rfl rfl ?_
  refine go_iload_n X 0 (dk dt_J6_bitCount_1 3 rfl) rfl rfl ?_
  refine go_iconst X (dk dt_J6_bitCount_1 4 rfl) ci_4 ?_
  refine go_iushr X (dk dt_J6_bitCount_1 5 rfl) ?_
  refine go_iadd X (dk dt_J6_bitCount_1 6 rfl) ?_
  refine go_ldcw X wd_831 (dk dt_J6_bitCount_1 7 rfl) ?_
  refine go_iand X (dk dt_J6_bitCount_1 8 rfl) ?_
  refine go_istore_n (lv' := [(0, .int (((((a0 - ((jushr a0 (1 : Int32)) &&& (1431655765 : Int32))) &&& (858993459 : Int32)) + ((jushr (a0 - ((jushr a0 (1 : Int32)) &&& (1431655765 : Int32))) (2 : Int32)) &&& (858993459 : Int32))) + (jushr (((a0 - ((jushr a0 (1 : Int32)) &&& (1431655765 : Int32))) &&& (858993459 : Int32)) + ((jushr (a0 - ((jushr a0 (1 : Int32)) &&& (1431655765 : Int32))) (2 : Int32)) &&& (858993459 : Int32))) (4 : Int32))) &&& (252645135 : Int32)))]) X (dk dt_J6_bitCount_1 9 rfl) rfl (by decide) rfl ?_
  refine go_iload_n X 0 (dk dt_J6_bitCount_1 10 rfl) rfl rfl ?_
  refine go_iload_n X 0 (dk dt_J6_bitCount_1 11 rfl) rfl rfl ?_
  refine go_bipush X (dk dt_J6_bitCount_1 12 rfl) cb_8 ?_
  refine go_iushr X (dk dt_J6_bitCount_1 13 rfl) ?_
  refine go_iadd X (dk dt_J6_bitCount_1 14 rfl) ?_
  refine go_istore_n (lv' := [(0, .int ((((((a0 - ((jushr a0 (1 : Int32)) &&& (1431655765 : Int32))) &&& (858993459 : Int32)) + ((jushr (a0 - ((jushr a0 (1 : Int32)) &&& (1431655765 : Int32))) (2 : Int32)) &&& (858993459 : Int32))) + (jushr (((a0 - ((jushr a0 (1 : Int32)) &&& (1431655765 : Int32))) &&& (858993459 : Int32)) + ((jushr (a0 - ((jushr a0 (1 : Int32)) &&& (1431655765 : Int32))) (2 : Int32)) &&& (858993459 : Int32))) (4 : Int32))) &&& (252645135 : Int32)) + (jushr (((((a0 - ((jushr a0 (1 : Int32)) &&& (1431655765 : Int32))) &&& (858993459 : Int32)) + ((jushr (a0 - ((jushr a0 (1 : Int32)) &&& (1431655765 : Int32))) (2 : Int32)) &&& (858993459 : Int32))) + (jushr (((a0 - ((jushr a0 (1 : Int32)) &&& (1431655765 : Int32))) &&& (858993459 : Int32)) + ((jushr (a0 - ((jushr a0 (1 : Int32)) &&& (1431655765 : Int32))) (2 : Int32)) &&& (858993459 : Int32))) (4 : Int32))) &&& (252645135 : Int32)) (8 : Int32))))]) X (dk dt_J6_bitCount_1 15 rfl) rfl (by decide) rfl ?_
  refine go_iload_n X 0 (dk dt_J6_bitCount_2 0 rfl) rfl rfl ?_
  refine go_iload_n X 0 (dk dt_J6_bitCount_2 1 rfl) rfl rfl ?_
  refine go_bipush X (dk dt_J6_bitCount_2 2 rfl) cb_16 ?_
  refine go_iushr X (dk dt_J6_bitCount_2 3 rfl) ?_
  refine go_iadd X (dk dt_J6_bitCount_2 4 rfl) ?_
  refine go_istore_n (lv' := [(0, .int (((((((a0 - ((jushr a0 (1 : Int32)) &&& (1431655765 : Int32))) &&& (858993459 : Int32)) + ((jushr (a0 - ((jushr a0 (1 : Int32)) &&& (1431655765 : Int32))) (2 : Int32)) &&& (858993459 : Int32))) + (jushr (((a0 - ((jushr a0 (1 : Int32)) &&& (1431655765 : Int32))) &&& (858993459 : Int32)) + ((jushr (a0 - ((jushr a0 (1 : Int32)) &&& (1431655765 : Int32))) (2 : Int32)) &&& (858993459 : Int32))) (4 : Int32))) &&& (252645135 : Int32)) + (jushr (((((a0 - ((jushr a0 (1 : Int32)) &&& (1431655765 : Int32))) &&& (858993459 : Int32)) + ((jushr (a0 - ((jushr a0 (1 : Int32)) &&& (1431655765 : Int32))) (2 : Int32)) &&& (858993459 : Int32))) + (jushr (((a0 - ((jushr a0 (1 : Int32)) &&& (1431655765 : Int32))) &&& (858993459 : Int32)) + ((jushr (a0 - ((jushr a0 (1 : Int32)) &&& (1431655765 : Int32))) (2 : Int32)) &&& (858993459 : Int32))) (4 : Int32))) &&& (252645135 : Int32)) (8 : Int32))) + (jushr ((((((a0 - ((jushr a0 (1 : Int32)) &&& (1431655765 : Int32))) &&& (858993459 : Int32)) + ((jushr (a0 - ((jushr a0 (1 : Int32)) &&& (1431655765 : Int32))) (2 : Int32)) &&& (858993459 : Int32))) + (jushr (((a0 - ((jushr a0 (1 : Int32)) &&& (1431655765 : Int32))) &&& (858993459 : Int32)) + ((jushr (a0 - ((jushr a0 (1 : Int32)) &&& (1431655765 : Int32))) (2 : Int32)) &&& (858993459 : Int32))) (4 : Int32))) &&& (252645135 : Int32)) + (jushr (((((a0 - ((jushr a0 (1 : Int32)) &&& (1431655765 : Int32))) &&& (858993459 : Int32)) + ((jushr (a0 - ((jushr a0 (1 : Int32)) &&& (1431655765 : Int32))) (2 : Int32)) &&& (858993459 : Int32))) + (jushr (((a0 - ((jushr a0 (1 : Int32)) &&& (1431655765 : Int32))) &&& (858993459 : Int32)) + ((jushr (a0 - ((jushr a0 (1 : Int32)) &&& (1431655765 : Int32))) (2 : Int32)) &&& (858993459 : Int32))) (4 : Int32))) &&& (252645135 : Int32)) (8 : Int32))) (16 : Int32))))]) X (dk dt_J6_bitCount_2 5 rfl) rfl (by decide) rfl ?_
  refine go_iload_n X 0 (dk dt_J6_bitCount_2 6 rfl) rfl rfl ?_
  refine go_bipush X (dk dt_J6_bitCount_2 7 rfl) cb_63 ?_
  refine go_iand X (dk dt_J6_bitCount_2 8 rfl) ?_
  exact go_iret rt (dk dt_J6_bitCount_2 9 rfl) h (fun hh => nomatch hh)
set_option maxRecDepth 20000 in
theorem ct_J6_bitCount (hi : zInj wC v) (xc : XC wC v) (nx : NXC v)  {a0 : Int32} {σ : Hp}  {q : (Int32 × Hp)} (h : F_J6_bitCount  a0 σ = some q) : Ct wC v l yJ6_bitCount_0f7a4 cJ6_bitCount_0f7a4 1 (some .int) 2 [.int a0] σ (some (.int q.1)) q.2 :=
  Ct.intro false (by decide) hi xc (Nat.le_of_ble_eq_true rfl) rfl (fun p e R s m args below meth c Q X rt => lkF_J6_bitCount hi xc nx X rt  h)
end
def T_X2_look_0 : DT := [(0, .iload_n 3, 1), (1, .bipush 8, 2), (3, .idiv, 1), (4, .istore 4, 2), (6, .aload_n 1, 1), (7, .iconst 1, 1), (8, .iload 4, 2), (10, .isub, 1), (11, .iconst 0, 1), (12, .invokevirtual 103, 3), (15, .istore 5, 2), (17, .aload_n 2, 1), (18, .getfield 106, 3), (21, .astore 6, 2), (23, .aload 6, 2), (25, .iconst 0, 1)]
theorem dt_X2_look_0 : dOk cX2_look T_X2_look_0 := by unfold dOk; decide +kernel
def T_X2_look_1 : DT := [(26, .iload 4, 2), (28, .iastore, 1), (29, .aload 6, 2), (31, .iconst 1, 1), (32, .iload_n 3, 1), (33, .bipush 8, 2), (35, .irem, 1), (36, .iastore, 1), (37, .aload 6, 2), (39, .iconst 2, 1), (40, .aload_n 1, 1), (41, .getfield 109, 3), (44, .iload_n 3, 1), (45, .iaload, 1), (46, .iastore, 1), (47, .aload 6, 2)]
theorem dt_X2_look_1 : dOk cX2_look T_X2_look_1 := by unfold dOk; decide +kernel
def T_X2_look_2 : DT := [(49, .iconst 3, 1), (50, .aload_n 1, 1), (51, .getfield 80, 3), (54, .iload_n 3, 1), (55, .iaload, 1), (56, .iastore, 1), (57, .aload 6, 2), (59, .iconst 4, 1), (60, .aload_n 1, 1), (61, .getfield 83, 3), (64, .iload_n 3, 1), (65, .iaload, 1), (66, .iastore, 1), (67, .aload 6, 2), (69, .iconst 5, 1), (70, .aload_n 1, 1)]
theorem dt_X2_look_2 : dOk cX2_look T_X2_look_2 := by unfold dOk; decide +kernel
def T_X2_look_3 : DT := [(71, .getfield 112, 3), (74, .iload_n 3, 1), (75, .iaload, 1), (76, .iastore, 1), (77, .aload 6, 2), (79, .bipush 6, 2), (81, .aload_n 1, 1), (82, .iload 4, 2), (84, .iconst 0, 1), (85, .invokevirtual 103, 3), (88, .invokestatic 115, 3), (91, .iastore, 1), (92, .aload 6, 2), (94, .bipush 7, 2), (96, .iload 5, 2), (98, .invokestatic 115, 3)]
theorem dt_X2_look_3 : dOk cX2_look T_X2_look_3 := by unfold dOk; decide +kernel
def T_X2_look_4 : DT := [(101, .iastore, 1), (102, .aload 6, 2), (104, .bipush 8, 2), (106, .aload_n 0, 1), (107, .getfield 31, 3), (110, .getfield 121, 3), (113, .iload_n 3, 1), (114, .iaload, 1), (115, .iload 5, 2), (117, .iand, 1), (118, .invokestatic 115, 3), (121, .iastore, 1), (122, .aload 6, 2), (124, .bipush 9, 2), (126, .aload_n 1, 1), (127, .getfield 124, 3)]
theorem dt_X2_look_4 : dOk cX2_look T_X2_look_4 := by unfold dOk; decide +kernel
def T_X2_look_5 : DT := [(130, .iastore, 1), (131, .aload 6, 2), (133, .bipush 10, 2), (135, .aload_n 1, 1), (136, .getfield 127, 3), (139, .bipush 100, 2), (141, .irem, 1), (142, .iastore, 1), (143, .return_, 1)]
theorem dt_X2_look_5 : dOk cX2_look T_X2_look_5 := by unfold dOk; decide +kernel
section
variable {v : ZV} {l : Launch} {p : Program} {e : Env} {R : Room} {s : State} {m : MethodId} {args : Array Value} {below : List Frame} {meth : Method} {c : Code} {Q : State → Prop} {res : Hp} 
set_option maxRecDepth 20000 in
theorem lkF_X2_look (hi : zInj wC v) (xc : XC wC v) (nx : NXC v) (X : Cx wC v p R s m args c 0 0 cX2_look 7 RX2 4) (rt : Rt wC v p l e R s m args below meth c 0 0 Q cX2_look false none res) {a1 : Nat} {a2 : Nat} {a3 : Int32} {σ : Hp} (ha1 : isW a1 = true) (ha2 : isL a2 = true) (h : F_X2_look  a1 a2 a3 σ = some res) : Go wC v p l e R s m args below meth c 0 0 Q 7 0 [(0, .ref 26), (1, .ref a1), (2, .ref a2), (3, .int a3)] [] σ := by
  unfold F_X2_look at h
  refine go_iload_n X 3 (dk dt_X2_look_0 0 rfl) rfl rfl ?_
  refine go_bipush X (dk dt_X2_look_0 1 rfl) cb_8 ?_
  refine go_idivL X (dk dt_X2_look_0 2 rfl) (by decide) ?_
  refine go_istore (lv' := [(4, .int (a3 / (8 : Int32))), (0, .ref 26), (1, .ref a1), (2, .ref a2), (3, .int a3)]) X (dk dt_X2_look_0 3 rfl) (by decide) rfl ?_
  refine go_aload_n X 2 (dk dt_X2_look_0 4 rfl) rfl rfl ?_
  refine go_iconst X (dk dt_X2_look_0 5 rfl) ci_1 ?_
  refine go_iload X 0 (dk dt_X2_look_0 6 rfl) rfl ?_
  refine go_isub X (dk dt_X2_look_0 7 rfl) ?_
  refine go_iconst X (dk dt_X2_look_0 8 rfl) ci_0 ?_
  refine go_Vi (As := [.int ((1 : Int32) - (a3 / (8 : Int32))), .int (0 : Int32)]) (rest := []) X vo_X2_103 (fun q hq => ct_X10_bits hi xc nx ha1 hq) (by decide) rfl (lW ha1) (sW ha1) rfl rfl (Nat.le_of_ble_eq_true rfl) (dk dt_X2_look_0 9 rfl) h (fun q12 h => ?_)
  refine go_istore (lv' := [(5, .int q12.1), (4, .int (a3 / (8 : Int32))), (0, .ref 26), (1, .ref a1), (2, .ref a2), (3, .int a3)]) X (dk dt_X2_look_0 10 rfl) (by decide) rfl ?_
  refine go_aload_n X 4 (dk dt_X2_look_0 11 rfl) rfl rfl ?_
  refine go_getr X fo_X2_106 (lL ha2) (sL ha2) (fL_6 ha2) (dk dt_X2_look_0 12 rfl) ?_
  refine go_astore (lv' := [(6, .ref (a2 + 7)), (5, .int q12.1), (4, .int (a3 / (8 : Int32))), (0, .ref 26), (1, .ref a1), (2, .ref a2), (3, .int a3)]) X (dk dt_X2_look_0 13 rfl) (by decide) rfl ?_
  refine go_aload X 0 (dk dt_X2_look_0 14 rfl) rfl ?_
  refine go_iconst X (dk dt_X2_look_0 15 rfl) ci_0 ?_
  refine go_iload X 2 (dk dt_X2_look_1 0 rfl) rfl ?_
  refine go_iast X (lLa_7 ha2) (sLa_7 ha2) (dk dt_X2_look_1 1 rfl) h (fun h => ?_)
  refine go_aload X 0 (dk dt_X2_look_1 2 rfl) rfl ?_
  refine go_iconst X (dk dt_X2_look_1 3 rfl) ci_1 ?_
  refine go_iload_n X 6 (dk dt_X2_look_1 4 rfl) rfl rfl ?_
  refine go_bipush X (dk dt_X2_look_1 5 rfl) cb_8 ?_
  refine go_iremL X (dk dt_X2_look_1 6 rfl) (by decide) ?_
  refine go_iast X (lLa_7 ha2) (sLa_7 ha2) (dk dt_X2_look_1 7 rfl) h (fun h => ?_)
  refine go_aload X 0 (dk dt_X2_look_1 8 rfl) rfl ?_
  refine go_iconst X (dk dt_X2_look_1 9 rfl) ci_2 ?_
  refine go_aload_n X 4 (dk dt_X2_look_1 10 rfl) rfl rfl ?_
  refine go_getr X fo_X2_109 (lW ha1) (sW ha1) (fW_0 ha1) (dk dt_X2_look_1 11 rfl) ?_
  refine go_iload_n X 6 (dk dt_X2_look_1 12 rfl) rfl rfl ?_
  refine go_iald X (lWa_1 ha1) (sWa_1 ha1) (dk dt_X2_look_1 13 rfl) h (fun h => ?_)
  refine go_iast X (lLa_7 ha2) (sLa_7 ha2) (dk dt_X2_look_1 14 rfl) h (fun h => ?_)
  refine go_aload X 0 (dk dt_X2_look_1 15 rfl) rfl ?_
  refine go_iconst X (dk dt_X2_look_2 0 rfl) ci_3 ?_
  refine go_aload_n X 4 (dk dt_X2_look_2 1 rfl) rfl rfl ?_
  refine go_getr X fo_X2_80 (lW ha1) (sW ha1) (fW_1 ha1) (dk dt_X2_look_2 2 rfl) ?_
  refine go_iload_n X 6 (dk dt_X2_look_2 3 rfl) rfl rfl ?_
  refine go_iald X (lWa_2 ha1) (sWa_2 ha1) (dk dt_X2_look_2 4 rfl) h (fun h => ?_)
  refine go_iast X (lLa_7 ha2) (sLa_7 ha2) (dk dt_X2_look_2 5 rfl) h (fun h => ?_)
  refine go_aload X 0 (dk dt_X2_look_2 6 rfl) rfl ?_
  refine go_iconst X (dk dt_X2_look_2 7 rfl) ci_4 ?_
  refine go_aload_n X 4 (dk dt_X2_look_2 8 rfl) rfl rfl ?_
  refine go_getr X fo_X2_83 (lW ha1) (sW ha1) (fW_2 ha1) (dk dt_X2_look_2 9 rfl) ?_
  refine go_iload_n X 6 (dk dt_X2_look_2 10 rfl) rfl rfl ?_
  refine go_iald X (lWa_3 ha1) (sWa_3 ha1) (dk dt_X2_look_2 11 rfl) h (fun h => ?_)
  refine go_iast X (lLa_7 ha2) (sLa_7 ha2) (dk dt_X2_look_2 12 rfl) h (fun h => ?_)
  refine go_aload X 0 (dk dt_X2_look_2 13 rfl) rfl ?_
  refine go_iconst X (dk dt_X2_look_2 14 rfl) ci_5 ?_
  refine go_aload_n X 4 (dk dt_X2_look_2 15 rfl) rfl rfl ?_
  refine go_getr X fo_X2_112 (lW ha1) (sW ha1) (fW_3 ha1) (dk dt_X2_look_3 0 rfl) ?_
  refine go_iload_n X 6 (dk dt_X2_look_3 1 rfl) rfl rfl ?_
  refine go_iald X (lWa_4 ha1) (sWa_4 ha1) (dk dt_X2_look_3 2 rfl) h (fun h => ?_)
  refine go_iast X (lLa_7 ha2) (sLa_7 ha2) (dk dt_X2_look_3 3 rfl) h (fun h => ?_)
  refine go_aload X 0 (dk dt_X2_look_3 4 rfl) rfl ?_
  refine go_bipush X (dk dt_X2_look_3 5 rfl) cb_6 ?_
  refine go_aload_n X 4 (dk dt_X2_look_3 6 rfl) rfl rfl ?_
  refine go_iload X 2 (dk dt_X2_look_3 7 rfl) rfl ?_
  refine go_iconst X (dk dt_X2_look_3 8 rfl) ci_0 ?_
  refine go_Vi (As := [.int (a3 / (8 : Int32)), .int (0 : Int32)]) (rest := [.int (6 : Int32), .ref (a2 + 7)]) X vo_X2_103 (fun q hq => ct_X10_bits hi xc nx ha1 hq) (by decide) rfl (lW ha1) (sW ha1) rfl rfl (Nat.le_of_ble_eq_true rfl) (dk dt_X2_look_3 9 rfl) h (fun q85 h => ?_)
  refine go_Si (As := [.int q85.1]) (rest := [.int (6 : Int32), .ref (a2 + 7)]) X so_X2_115 (fun q hq => ct_J6_bitCount hi xc nx  hq) (by decide) rfl rfl (Nat.le_of_ble_eq_true rfl) (dk dt_X2_look_3 10 rfl) h (fun q88 h => ?_)
  refine go_iast X (lLa_7 ha2) (sLa_7 ha2) (dk dt_X2_look_3 11 rfl) h (fun h => ?_)
  refine go_aload X 0 (dk dt_X2_look_3 12 rfl) rfl ?_
  refine go_bipush X (dk dt_X2_look_3 13 rfl) cb_7 ?_
  refine go_iload X 1 (dk dt_X2_look_3 14 rfl) rfl ?_
  refine go_Si (As := [.int q12.1]) (rest := [.int (7 : Int32), .ref (a2 + 7)]) X so_X2_115 (fun q hq => ct_J6_bitCount hi xc nx  hq) (by decide) rfl rfl (Nat.le_of_ble_eq_true rfl) (dk dt_X2_look_3 15 rfl) h (fun q98 h => ?_)
  refine go_iast X (lLa_7 ha2) (sLa_7 ha2) (dk dt_X2_look_4 0 rfl) h (fun h => ?_)
  refine go_aload X 0 (dk dt_X2_look_4 1 rfl) rfl ?_
  refine go_bipush X (dk dt_X2_look_4 2 rfl) cb_8 ?_
  refine go_aload_n X 3 (dk dt_X2_look_4 3 rfl) rfl rfl ?_
  refine go_getr X fo_X2_31 lC_26 sC_26 fC_26_0 (dk dt_X2_look_4 4 rfl) ?_
  refine go_getr X fo_X2_121 lC_19 sC_19 fC_19_2 (dk dt_X2_look_4 5 rfl) ?_
  refine go_iload_n X 6 (dk dt_X2_look_4 6 rfl) rfl rfl ?_
  refine go_iald X lC_22 sC_22 (dk dt_X2_look_4 7 rfl) h (fun h => ?_)
  refine go_iload X 1 (dk dt_X2_look_4 8 rfl) rfl ?_
  refine go_iand X (dk dt_X2_look_4 9 rfl) ?_
  refine go_Si (As := [.int (((zu q98.2 (a2 + 7) (Int32.toNatClampNeg (7 : Int32)) q98.1) 22 (Int32.toNatClampNeg a3)) &&& q12.1)]) (rest := [.int (8 : Int32), .ref (a2 + 7)]) X so_X2_115 (fun q hq => ct_J6_bitCount hi xc nx  hq) (by decide) rfl rfl (Nat.le_of_ble_eq_true rfl) (dk dt_X2_look_4 10 rfl) h (fun q118 h => ?_)
  refine go_iast X (lLa_7 ha2) (sLa_7 ha2) (dk dt_X2_look_4 11 rfl) h (fun h => ?_)
  refine go_aload X 0 (dk dt_X2_look_4 12 rfl) rfl ?_
  refine go_bipush X (dk dt_X2_look_4 13 rfl) cb_9 ?_
  refine go_aload_n X 4 (dk dt_X2_look_4 14 rfl) rfl rfl ?_
  refine go_geti X fo_X2_124 (lW ha1) (sW ha1) (fW_5 ha1) (dk dt_X2_look_4 15 rfl) ?_
  refine go_iast X (lLa_7 ha2) (sLa_7 ha2) (dk dt_X2_look_5 0 rfl) h (fun h => ?_)
  refine go_aload X 0 (dk dt_X2_look_5 1 rfl) rfl ?_
  refine go_bipush X (dk dt_X2_look_5 2 rfl) cb_10 ?_
  refine go_aload_n X 4 (dk dt_X2_look_5 3 rfl) rfl rfl ?_
  refine go_geti X fo_X2_127 (lW ha1) (sW ha1) (fW_6 ha1) (dk dt_X2_look_5 4 rfl) ?_
  refine go_bipush X (dk dt_X2_look_5 5 rfl) cb_100 ?_
  refine go_iremL X (dk dt_X2_look_5 6 rfl) (by decide) ?_
  refine go_iast X (lLa_7 ha2) (sLa_7 ha2) (dk dt_X2_look_5 7 rfl) h (fun h => ?_)
  exact go_vret rt (dk dt_X2_look_5 8 rfl) h
set_option maxRecDepth 20000 in
theorem ct_X2_look (hi : zInj wC v) (xc : XC wC v) (nx : NXC v)  {a1 : Nat} {a2 : Nat} {a3 : Int32} {σ : Hp} (ha1 : isW a1 = true) (ha2 : isL a2 = true) {q : Hp} (h : F_X2_look  a1 a2 a3 σ = some q) : Ct wC v l yX2_look cX2_look 7 none 4 [.ref 26, .ref a1, .ref a2, .int a3] σ none q :=
  Ct.intro false (by decide) hi xc (Nat.le_of_ble_eq_true rfl) rfl (fun p e R s m args below meth c Q X rt => lkF_X2_look hi xc nx X rt ha1 ha2 h)
end
def T_X4_valueOf_0 : DT := [(0, .iload_n 1, 1), (1, .ifCond .lt 18, 3), (4, .iload_n 1, 1), (5, .bipush 11, 2), (7, .if_icmp .ge 12, 3), (10, .aload_n 0, 1), (11, .getfield 28, 3), (14, .iload_n 1, 1), (15, .iaload, 1), (16, .goto 4, 3), (19, .iconst 0, 1), (20, .ireturn, 1)]
theorem dt_X4_valueOf_0 : dOk cX4_valueOf T_X4_valueOf_0 := by unfold dOk; decide +kernel
section
variable {v : ZV} {l : Launch} {p : Program} {e : Env} {R : Room} {s : State} {m : MethodId} {args : Array Value} {below : List Frame} {meth : Method} {c : Code} {Q : State → Prop} {res : (Int32 × Hp)} 
set_option maxRecDepth 20000 in
theorem lkF_X4_valueOf (hi : zInj wC v) (xc : XC wC v) (nx : NXC v) (X : Cx wC v p R s m args c 0 0 cX4_valueOf 2 RX4 2) (rt : Rt wC v p l e R s m args below meth c 0 0 Q cX4_valueOf false (some (.int res.1)) res.2) {t : Nat} {a1 : Int32} {σ : Hp} (ht : isL t = true) (h : F_X4_valueOf  t a1 σ = some res) : Go wC v p l e R s m args below meth c 0 0 Q 2 0 [(0, .ref t), (1, .int a1)] [] σ := by
  unfold F_X4_valueOf at h
  refine go_iload_n X 1 (dk dt_X4_valueOf_0 0 rfl) rfl rfl ?_
  refine go_if_lt (tgt := 19) X (dk dt_X4_valueOf_0 1 rfl) (by decide) h (fun h => ?_) (fun h => ?_)
  · refine go_iconst X (dk dt_X4_valueOf_0 10 rfl) ci_0 ?_
    exact go_iret rt (dk dt_X4_valueOf_0 11 rfl) h (fun hh => nomatch hh)
  · refine go_iload_n X 1 (dk dt_X4_valueOf_0 2 rfl) rfl rfl ?_
    refine go_bipush X (dk dt_X4_valueOf_0 3 rfl) cb_11 ?_
    refine go_icmp_ge (tgt := 19) X (dk dt_X4_valueOf_0 4 rfl) (by decide) h (fun h => ?_) (fun h => ?_)
    · refine go_iconst X (dk dt_X4_valueOf_0 10 rfl) ci_0 ?_
      exact go_iret rt (dk dt_X4_valueOf_0 11 rfl) h (fun hh => nomatch hh)
    · refine go_aload_n X 0 (dk dt_X4_valueOf_0 5 rfl) rfl rfl ?_
      refine go_getr X fo_X4_28 (lL ht) (sL ht) (fL_6 ht) (dk dt_X4_valueOf_0 6 rfl) ?_
      refine go_iload_n X 1 (dk dt_X4_valueOf_0 7 rfl) rfl rfl ?_
      refine go_iald X (lLa_7 ht) (sLa_7 ht) (dk dt_X4_valueOf_0 8 rfl) h (fun h => ?_)
      refine go_goto (tgt := 20) X (dk dt_X4_valueOf_0 9 rfl) (by decide) ?_
      exact go_iret rt (dk dt_X4_valueOf_0 11 rfl) h (fun hh => nomatch hh)
set_option maxRecDepth 20000 in
theorem ct_X4_valueOf (hi : zInj wC v) (xc : XC wC v) (nx : NXC v)  {t : Nat} {a1 : Int32} {σ : Hp} (ht : isL t = true) {q : (Int32 × Hp)} (h : F_X4_valueOf  t a1 σ = some q) : Ct wC v l yX4_valueOf cX4_valueOf 2 (some .int) 2 [.ref t, .int a1] σ (some (.int q.1)) q.2 :=
  Ct.intro false (by decide) hi xc (Nat.le_of_ble_eq_true rfl) rfl (fun p e R s m args below meth c Q X rt => lkF_X4_valueOf hi xc nx X rt ht h)
end
def T_X4_push_0 : DT := [(0, .iload_n 1, 1), (1, .iconst 1, 1), (2, .iadd, 1), (3, .aload_n 0, 1), (4, .getfield 31, 3), (7, .arraylength, 1), (8, .if_icmp .lt 5, 3), (11, .iload_n 1, 1), (12, .ireturn, 1), (13, .aload_n 0, 1), (14, .getfield 31, 3), (17, .iload_n 1, 1), (18, .iconst 1, 1), (19, .iadd, 1), (20, .iload_n 2, 1), (21, .iastore, 1)]
theorem dt_X4_push_0 : dOk cX4_push T_X4_push_0 := by unfold dOk; decide +kernel
def T_X4_push_1 : DT := [(22, .iload_n 1, 1), (23, .iconst 1, 1), (24, .iadd, 1), (25, .ireturn, 1)]
theorem dt_X4_push_1 : dOk cX4_push T_X4_push_1 := by unfold dOk; decide +kernel
section
variable {v : ZV} {l : Launch} {p : Program} {e : Env} {R : Room} {s : State} {m : MethodId} {args : Array Value} {below : List Frame} {meth : Method} {c : Code} {Q : State → Prop} {res : (Int32 × Hp)} 
set_option maxRecDepth 20000 in
theorem lkF_X4_push (hi : zInj wC v) (xc : XC wC v) (nx : NXC v) (X : Cx wC v p R s m args c 0 0 cX4_push 3 RX4 2) (rt : Rt wC v p l e R s m args below meth c 0 0 Q cX4_push false (some (.int res.1)) res.2) {t : Nat} {a1 : Int32} {a2 : Int32} {σ : Hp} (ht : isL t = true) (h : F_X4_push  t a1 a2 σ = some res) : Go wC v p l e R s m args below meth c 0 0 Q 3 0 [(0, .ref t), (1, .int a1), (2, .int a2)] [] σ := by
  unfold F_X4_push at h
  refine go_iload_n X 1 (dk dt_X4_push_0 0 rfl) rfl rfl ?_
  refine go_iconst X (dk dt_X4_push_0 1 rfl) ci_1 ?_
  refine go_iadd X (dk dt_X4_push_0 2 rfl) ?_
  refine go_aload_n X 0 (dk dt_X4_push_0 3 rfl) rfl rfl ?_
  refine go_getr X fo_X4_31 (lL ht) (sL ht) (fL_7 ht) (dk dt_X4_push_0 4 rfl) ?_
  refine go_ialen X (lLa_8 ht) (sLa_8 ht) rfl (dk dt_X4_push_0 5 rfl) ?_
  refine go_icmp_lt (tgt := 13) X (dk dt_X4_push_0 6 rfl) (by decide) h (fun h => ?_) (fun h => ?_)
  · refine go_aload_n X 0 (dk dt_X4_push_0 9 rfl) rfl rfl ?_
    refine go_getr X fo_X4_31 (lL ht) (sL ht) (fL_7 ht) (dk dt_X4_push_0 10 rfl) ?_
    refine go_iload_n X 1 (dk dt_X4_push_0 11 rfl) rfl rfl ?_
    refine go_iconst X (dk dt_X4_push_0 12 rfl) ci_1 ?_
    refine go_iadd X (dk dt_X4_push_0 13 rfl) ?_
    refine go_iload_n X 2 (dk dt_X4_push_0 14 rfl) rfl rfl ?_
    refine go_iast X (lLa_8 ht) (sLa_8 ht) (dk dt_X4_push_0 15 rfl) h (fun h => ?_)
    refine go_iload_n X 1 (dk dt_X4_push_1 0 rfl) rfl rfl ?_
    refine go_iconst X (dk dt_X4_push_1 1 rfl) ci_1 ?_
    refine go_iadd X (dk dt_X4_push_1 2 rfl) ?_
    exact go_iret rt (dk dt_X4_push_1 3 rfl) h (fun hh => nomatch hh)
  · refine go_iload_n X 1 (dk dt_X4_push_0 7 rfl) rfl rfl ?_
    exact go_iret rt (dk dt_X4_push_0 8 rfl) h (fun hh => nomatch hh)
set_option maxRecDepth 20000 in
theorem ct_X4_push (hi : zInj wC v) (xc : XC wC v) (nx : NXC v)  {t : Nat} {a1 : Int32} {a2 : Int32} {σ : Hp} (ht : isL t = true) {q : (Int32 × Hp)} (h : F_X4_push  t a1 a2 σ = some q) : Ct wC v l yX4_push cX4_push 3 (some .int) 2 [.ref t, .int a1, .int a2] σ (some (.int q.1)) q.2 :=
  Ct.intro false (by decide) hi xc (Nat.le_of_ble_eq_true rfl) rfl (fun p e R s m args below meth c Q X rt => lkF_X4_push hi xc nx X rt ht h)
end
def T_X4_combine_0 : DT := [(0, .iload_n 1, 1), (1, .lookupswitch 104 #[(42, 67), (43, 59), (45, 63), (60, 71), (61, 93), (62, 82)], 59), (60, .iload_n 2, 1), (61, .iload_n 3, 1), (62, .iadd, 1), (63, .ireturn, 1), (64, .iload_n 2, 1), (65, .iload_n 3, 1), (66, .isub, 1), (67, .ireturn, 1), (68, .iload_n 2, 1), (69, .iload_n 3, 1), (70, .imul, 1), (71, .ireturn, 1), (72, .iload_n 2, 1), (73, .iload_n 3, 1)]
theorem dt_X4_combine_0 : dOk cX4_combine T_X4_combine_0 := by unfold dOk; decide +kernel
def T_X4_combine_1 : DT := [(74, .if_icmp .ge 7, 3), (77, .iconst 1, 1), (78, .goto 4, 3), (81, .iconst 0, 1), (82, .ireturn, 1), (83, .iload_n 2, 1), (84, .iload_n 3, 1), (85, .if_icmp .le 7, 3), (88, .iconst 1, 1), (89, .goto 4, 3), (92, .iconst 0, 1), (93, .ireturn, 1), (94, .iload_n 2, 1), (95, .iload_n 3, 1), (96, .if_icmp .ne 7, 3), (99, .iconst 1, 1)]
theorem dt_X4_combine_1 : dOk cX4_combine T_X4_combine_1 := by unfold dOk; decide +kernel
def T_X4_combine_2 : DT := [(100, .goto 4, 3), (103, .iconst 0, 1), (104, .ireturn, 1), (105, .aload_n 0, 1), (106, .iload_n 3, 1), (107, .ifCond .ne 7, 3), (110, .iconst 1, 1), (111, .goto 4, 3), (114, .iconst 0, 1), (115, .putfield 41, 3), (118, .aload_n 0, 1), (119, .getfield 41, 3), (122, .ifCond .eq 7, 3), (125, .iconst 0, 1), (126, .goto 18, 3), (129, .iload_n 1, 1)]
theorem dt_X4_combine_2 : dOk cX4_combine T_X4_combine_2 := by unfold dOk; decide +kernel
def T_X4_combine_3 : DT := [(130, .bipush 47, 2), (132, .if_icmp .ne 9, 3), (135, .iload_n 2, 1), (136, .iload_n 3, 1), (137, .idiv, 1), (138, .goto 6, 3), (141, .iload_n 2, 1), (142, .iload_n 3, 1), (143, .irem, 1), (144, .ireturn, 1)]
theorem dt_X4_combine_3 : dOk cX4_combine T_X4_combine_3 := by unfold dOk; decide +kernel
section
variable {v : ZV} {l : Launch} {p : Program} {e : Env} {R : Room} {s : State} {m : MethodId} {args : Array Value} {below : List Frame} {meth : Method} {c : Code} {Q : State → Prop} {res : (Int32 × Hp)} 
set_option maxRecDepth 20000 in
theorem lkJ_X4_combine_115 (hi : zInj wC v) (xc : XC wC v) (nx : NXC v) (X : Cx wC v p R s m args c 0 0 cX4_combine 4 RX4 2) (rt : Rt wC v p l e R s m args below meth c 0 0 Q cX4_combine false (some (.int res.1)) res.2)  {r0 : Nat} {x1 : Int32} {x2 : Int32} {x3 : Int32} {s0 : Int32} {s1 : Nat} {σ : Hp} (hr0 : isL r0 = true) (hs1 : isL s1 = true)  (h : J_X4_combine_115   r0 x1 x2 x3 s0 s1 σ = some res) : Go wC v p l e R s m args below meth c 0 0 Q 4 115 [(0, .ref r0), (1, .int x1), (2, .int x2), (3, .int x3)] [.int s0, .ref s1] σ := by
  unfold J_X4_combine_115 at h
  refine go_putz X fo_X4_41 pf_4_10 (lL hs1) (sL hs1) (fL_10 hs1) (dk dt_X4_combine_2 9 rfl) h (fun h => ?_)
  refine go_aload_n X 0 (dk dt_X4_combine_2 10 rfl) rfl rfl ?_
  refine go_geti X fo_X4_41 (lL hr0) (sL hr0) (fL_10 hr0) (dk dt_X4_combine_2 11 rfl) ?_
  refine go_if_eq (tgt := 129) X (dk dt_X4_combine_2 12 rfl) (by decide) h (fun h => ?_) (fun h => ?_)
  · refine go_iload_n X 1 (dk dt_X4_combine_2 15 rfl) rfl rfl ?_
    refine go_bipush X (dk dt_X4_combine_3 0 rfl) cb_47 ?_
    refine go_icmp_ne (tgt := 141) X (dk dt_X4_combine_3 1 rfl) (by decide) h (fun h => ?_) (fun h => ?_)
    · refine go_iload_n X 2 (dk dt_X4_combine_3 6 rfl) rfl rfl ?_
      refine go_iload_n X 3 (dk dt_X4_combine_3 7 rfl) rfl rfl ?_
      refine go_irem X (dk dt_X4_combine_3 8 rfl) h (fun h => ?_)
      exact go_iret rt (dk dt_X4_combine_3 9 rfl) h (fun hh => nomatch hh)
    · refine go_iload_n X 2 (dk dt_X4_combine_3 2 rfl) rfl rfl ?_
      refine go_iload_n X 3 (dk dt_X4_combine_3 3 rfl) rfl rfl ?_
      refine go_idiv X (dk dt_X4_combine_3 4 rfl) h (fun h => ?_)
      refine go_goto (tgt := 144) X (dk dt_X4_combine_3 5 rfl) (by decide) ?_
      exact go_iret rt (dk dt_X4_combine_3 9 rfl) h (fun hh => nomatch hh)
  · refine go_iconst X (dk dt_X4_combine_2 13 rfl) ci_0 ?_
    refine go_goto (tgt := 144) X (dk dt_X4_combine_2 14 rfl) (by decide) ?_
    exact go_iret rt (dk dt_X4_combine_3 9 rfl) h (fun hh => nomatch hh)
set_option maxRecDepth 20000 in
theorem lkF_X4_combine (hi : zInj wC v) (xc : XC wC v) (nx : NXC v) (X : Cx wC v p R s m args c 0 0 cX4_combine 4 RX4 2) (rt : Rt wC v p l e R s m args below meth c 0 0 Q cX4_combine false (some (.int res.1)) res.2) {t : Nat} {a1 : Int32} {a2 : Int32} {a3 : Int32} {σ : Hp} (ht : isL t = true) (h : F_X4_combine  t a1 a2 a3 σ = some res) : Go wC v p l e R s m args below meth c 0 0 Q 4 0 [(0, .ref t), (1, .int a1), (2, .int a2), (3, .int a3)] [] σ := by
  unfold F_X4_combine at h
  refine go_iload_n X 1 (dk dt_X4_combine_0 0 rfl) rfl rfl ?_
  by_cases hc1_42 : a1 = (42 : Int32)
  · rw [if_pos hc1_42] at h
    refine go_lsw (tgt := 68) X (dk dt_X4_combine_0 1 rfl) (by decide) (by rw [hc1_42]) (by decide) ?_
    refine go_iload_n X 2 (dk dt_X4_combine_0 10 rfl) rfl rfl ?_
    refine go_iload_n X 3 (dk dt_X4_combine_0 11 rfl) rfl rfl ?_
    refine go_imul X (dk dt_X4_combine_0 12 rfl) ?_
    exact go_iret rt (dk dt_X4_combine_0 13 rfl) h (fun hh => nomatch hh)
  rw [if_neg hc1_42] at h
  by_cases hc1_43 : a1 = (43 : Int32)
  · rw [if_pos hc1_43] at h
    refine go_lsw (tgt := 60) X (dk dt_X4_combine_0 1 rfl) (by decide) (by rw [hc1_43]) (by decide) ?_
    refine go_iload_n X 2 (dk dt_X4_combine_0 2 rfl) rfl rfl ?_
    refine go_iload_n X 3 (dk dt_X4_combine_0 3 rfl) rfl rfl ?_
    refine go_iadd X (dk dt_X4_combine_0 4 rfl) ?_
    exact go_iret rt (dk dt_X4_combine_0 5 rfl) h (fun hh => nomatch hh)
  rw [if_neg hc1_43] at h
  by_cases hc1_45 : a1 = (45 : Int32)
  · rw [if_pos hc1_45] at h
    refine go_lsw (tgt := 64) X (dk dt_X4_combine_0 1 rfl) (by decide) (by rw [hc1_45]) (by decide) ?_
    refine go_iload_n X 2 (dk dt_X4_combine_0 6 rfl) rfl rfl ?_
    refine go_iload_n X 3 (dk dt_X4_combine_0 7 rfl) rfl rfl ?_
    refine go_isub X (dk dt_X4_combine_0 8 rfl) ?_
    exact go_iret rt (dk dt_X4_combine_0 9 rfl) h (fun hh => nomatch hh)
  rw [if_neg hc1_45] at h
  by_cases hc1_60 : a1 = (60 : Int32)
  · rw [if_pos hc1_60] at h
    refine go_lsw (tgt := 72) X (dk dt_X4_combine_0 1 rfl) (by decide) (by rw [hc1_60]) (by decide) ?_
    refine go_iload_n X 2 (dk dt_X4_combine_0 14 rfl) rfl rfl ?_
    refine go_iload_n X 3 (dk dt_X4_combine_0 15 rfl) rfl rfl ?_
    refine go_icmp_ge (tgt := 81) X (dk dt_X4_combine_1 0 rfl) (by decide) h (fun h => ?_) (fun h => ?_)
    · refine go_iconst X (dk dt_X4_combine_1 3 rfl) ci_0 ?_
      exact go_iret rt (dk dt_X4_combine_1 4 rfl) h (fun hh => nomatch hh)
    · refine go_iconst X (dk dt_X4_combine_1 1 rfl) ci_1 ?_
      refine go_goto (tgt := 82) X (dk dt_X4_combine_1 2 rfl) (by decide) ?_
      exact go_iret rt (dk dt_X4_combine_1 4 rfl) h (fun hh => nomatch hh)
  rw [if_neg hc1_60] at h
  by_cases hc1_61 : a1 = (61 : Int32)
  · rw [if_pos hc1_61] at h
    refine go_lsw (tgt := 94) X (dk dt_X4_combine_0 1 rfl) (by decide) (by rw [hc1_61]) (by decide) ?_
    refine go_iload_n X 2 (dk dt_X4_combine_1 12 rfl) rfl rfl ?_
    refine go_iload_n X 3 (dk dt_X4_combine_1 13 rfl) rfl rfl ?_
    refine go_icmp_ne (tgt := 103) X (dk dt_X4_combine_1 14 rfl) (by decide) h (fun h => ?_) (fun h => ?_)
    · refine go_iconst X (dk dt_X4_combine_2 1 rfl) ci_0 ?_
      exact go_iret rt (dk dt_X4_combine_2 2 rfl) h (fun hh => nomatch hh)
    · refine go_iconst X (dk dt_X4_combine_1 15 rfl) ci_1 ?_
      refine go_goto (tgt := 104) X (dk dt_X4_combine_2 0 rfl) (by decide) ?_
      exact go_iret rt (dk dt_X4_combine_2 2 rfl) h (fun hh => nomatch hh)
  rw [if_neg hc1_61] at h
  by_cases hc1_62 : a1 = (62 : Int32)
  · rw [if_pos hc1_62] at h
    refine go_lsw (tgt := 83) X (dk dt_X4_combine_0 1 rfl) (by decide) (by rw [hc1_62]) (by decide) ?_
    refine go_iload_n X 2 (dk dt_X4_combine_1 5 rfl) rfl rfl ?_
    refine go_iload_n X 3 (dk dt_X4_combine_1 6 rfl) rfl rfl ?_
    refine go_icmp_le (tgt := 92) X (dk dt_X4_combine_1 7 rfl) (by decide) h (fun h => ?_) (fun h => ?_)
    · refine go_iconst X (dk dt_X4_combine_1 10 rfl) ci_0 ?_
      exact go_iret rt (dk dt_X4_combine_1 11 rfl) h (fun hh => nomatch hh)
    · refine go_iconst X (dk dt_X4_combine_1 8 rfl) ci_1 ?_
      refine go_goto (tgt := 93) X (dk dt_X4_combine_1 9 rfl) (by decide) ?_
      exact go_iret rt (dk dt_X4_combine_1 11 rfl) h (fun hh => nomatch hh)
  rw [if_neg hc1_62] at h
  refine go_lsw (tgt := 105) X (dk dt_X4_combine_0 1 rfl) (by decide) (lsw_dflt ⟨(i32_ne (k := 42) hc1_42), (i32_ne (k := 43) hc1_43), (i32_ne (k := 45) hc1_45), (i32_ne (k := 60) hc1_60), (i32_ne (k := 61) hc1_61), (i32_ne (k := 62) hc1_62)⟩) (by decide) ?_
  refine go_aload_n X 0 (dk dt_X4_combine_2 3 rfl) rfl rfl ?_
  refine go_iload_n X 3 (dk dt_X4_combine_2 4 rfl) rfl rfl ?_
  refine go_if_ne (tgt := 114) X (dk dt_X4_combine_2 5 rfl) (by decide) h (fun h => ?_) (fun h => ?_)
  · refine go_iconst X (dk dt_X4_combine_2 8 rfl) ci_0 ?_
    exact lkJ_X4_combine_115 hi xc nx X rt ht ht  h
  · refine go_iconst X (dk dt_X4_combine_2 6 rfl) ci_1 ?_
    refine go_goto (tgt := 115) X (dk dt_X4_combine_2 7 rfl) (by decide) ?_
    exact lkJ_X4_combine_115 hi xc nx X rt ht ht  h
set_option maxRecDepth 20000 in
theorem ct_X4_combine (hi : zInj wC v) (xc : XC wC v) (nx : NXC v)  {t : Nat} {a1 : Int32} {a2 : Int32} {a3 : Int32} {σ : Hp} (ht : isL t = true) {q : (Int32 × Hp)} (h : F_X4_combine  t a1 a2 a3 σ = some q) : Ct wC v l yX4_combine cX4_combine 4 (some .int) 2 [.ref t, .int a1, .int a2, .int a3] σ (some (.int q.1)) q.2 :=
  Ct.intro false (by decide) hi xc (Nat.le_of_ble_eq_true rfl) rfl (fun p e R s m args below meth c Q X rt => lkF_X4_combine hi xc nx X rt ht h)
end
def T_X4_reckon_0 : DT := [(0, .iconst (-1), 1), (1, .istore_n 3, 1), (2, .aload_n 0, 1), (3, .iconst 0, 1), (4, .putfield 41, 3), (7, .iload_n 1, 1), (8, .istore 4, 2), (10, .iconst 0, 1), (11, .istore 5, 2), (13, .iload 5, 2), (15, .sipush 240, 3), (18, .if_icmp .ge 250, 3), (21, .iload 4, 2), (23, .ifCond .lt 245, 3), (26, .iload 4, 2), (28, .iload_n 2, 1)]
theorem dt_X4_reckon_0 : dOk cX4_reckon T_X4_reckon_0 := by unfold dOk; decide +kernel
def T_X4_reckon_1 : DT := [(29, .if_icmp .ge 239, 3), (32, .iload 4, 2), (34, .sipush 240, 3), (37, .if_icmp .ge 231, 3), (40, .aload_n 0, 1), (41, .getfield 41, 3), (44, .ifCond .ne 224, 3), (47, .aload_n 0, 1), (48, .getfield 9, 3), (51, .iload 4, 2), (53, .iaload, 1), (54, .istore 6, 2), (56, .iconst 0, 1), (57, .istore 7, 2), (59, .iload 6, 2), (61, .bipush 110, 2)]
theorem dt_X4_reckon_1 : dOk cX4_reckon T_X4_reckon_1 := by unfold dOk; decide +kernel
def T_X4_reckon_2 : DT := [(63, .if_icmp .eq 10, 3), (66, .iload 6, 2), (68, .bipush 108, 2), (70, .if_icmp .ne 40, 3), (73, .aload_n 0, 1), (74, .iload_n 3, 1), (75, .iload 6, 2), (77, .bipush 110, 2), (79, .if_icmp .ne 13, 3), (82, .aload_n 0, 1), (83, .getfield 13, 3), (86, .iload 4, 2), (88, .iaload, 1), (89, .goto 14, 3), (92, .aload_n 0, 1), (93, .aload_n 0, 1)]
theorem dt_X4_reckon_2 : dOk cX4_reckon T_X4_reckon_2 := by unfold dOk; decide +kernel
def T_X4_reckon_3 : DT := [(94, .getfield 13, 3), (97, .iload 4, 2), (99, .iaload, 1), (100, .invokevirtual 57, 3), (103, .invokevirtual 61, 3), (106, .istore_n 3, 1), (107, .goto 134, 3), (110, .iload_n 3, 1), (111, .ifCond .ge 5, 3), (114, .iconst 0, 1), (115, .ireturn, 1), (116, .iload 6, 2), (118, .bipush 33, 2), (120, .if_icmp .ne 20, 3), (123, .aload_n 0, 1), (124, .getfield 31, 3)]
theorem dt_X4_reckon_3 : dOk cX4_reckon T_X4_reckon_3 := by unfold dOk; decide +kernel
def T_X4_reckon_4 : DT := [(127, .iload_n 3, 1), (128, .iconst 1, 1), (129, .aload_n 0, 1), (130, .getfield 31, 3), (133, .iload_n 3, 1), (134, .iaload, 1), (135, .isub, 1), (136, .iastore, 1), (137, .goto 104, 3), (140, .iload 6, 2), (142, .bipush 38, 2), (144, .if_icmp .eq 10, 3), (147, .iload 6, 2), (149, .bipush 124, 2), (151, .if_icmp .ne 55, 3), (154, .aload_n 0, 1)]
theorem dt_X4_reckon_4 : dOk cX4_reckon T_X4_reckon_4 := by unfold dOk; decide +kernel
def T_X4_reckon_5 : DT := [(155, .getfield 31, 3), (158, .iload_n 3, 1), (159, .iaload, 1), (160, .ifCond .eq 7, 3), (163, .iconst 1, 1), (164, .goto 4, 3), (167, .iconst 0, 1), (168, .iload 6, 2), (170, .bipush 124, 2), (172, .if_icmp .ne 7, 3), (175, .iconst 1, 1), (176, .goto 4, 3), (179, .iconst 0, 1), (180, .if_icmp .ne 7, 3), (183, .iconst 1, 1), (184, .goto 4, 3)]
theorem dt_X4_reckon_5 : dOk cX4_reckon T_X4_reckon_5 := by unfold dOk; decide +kernel
def T_X4_reckon_6 : DT := [(187, .iconst 0, 1), (188, .istore 7, 2), (190, .iload 7, 2), (192, .ifCond .eq 7, 3), (195, .iload_n 3, 1), (196, .goto 6, 3), (199, .iload_n 3, 1), (200, .iconst 1, 1), (201, .isub, 1), (202, .istore_n 3, 1), (203, .goto 38, 3), (206, .iload_n 3, 1), (207, .ifCond .le 34, 3), (210, .aload_n 0, 1), (211, .getfield 31, 3), (214, .iload_n 3, 1)]
theorem dt_X4_reckon_6 : dOk cX4_reckon T_X4_reckon_6 := by unfold dOk; decide +kernel
def T_X4_reckon_7 : DT := [(215, .iconst 1, 1), (216, .isub, 1), (217, .aload_n 0, 1), (218, .iload 6, 2), (220, .aload_n 0, 1), (221, .getfield 31, 3), (224, .iload_n 3, 1), (225, .iconst 1, 1), (226, .isub, 1), (227, .iaload, 1), (228, .aload_n 0, 1), (229, .getfield 31, 3), (232, .iload_n 3, 1), (233, .iaload, 1), (234, .invokevirtual 64, 3), (237, .iastore, 1)]
theorem dt_X4_reckon_7 : dOk cX4_reckon T_X4_reckon_7 := by unfold dOk; decide +kernel
def T_X4_reckon_8 : DT := [(238, .iinc 3 (-1), 3), (241, .iload 7, 2), (243, .ifCond .eq 13, 3), (246, .aload_n 0, 1), (247, .getfield 13, 3), (250, .iload 4, 2), (252, .iaload, 1), (253, .goto 7, 3), (256, .iload 4, 2), (258, .iconst 1, 1), (259, .iadd, 1), (260, .istore 4, 2), (262, .iinc 5 1, 3), (265, .goto (-252), 3), (268, .iload_n 3, 1), (269, .ifCond .lt 12, 3)]
theorem dt_X4_reckon_8 : dOk cX4_reckon T_X4_reckon_8 := by unfold dOk; decide +kernel
def T_X4_reckon_9 : DT := [(272, .aload_n 0, 1), (273, .getfield 31, 3), (276, .iload_n 3, 1), (277, .iaload, 1), (278, .goto 4, 3), (281, .iconst 0, 1), (282, .ireturn, 1)]
theorem dt_X4_reckon_9 : dOk cX4_reckon T_X4_reckon_9 := by unfold dOk; decide +kernel
section
variable {v : ZV} {l : Launch} {p : Program} {e : Env} {R : Room} {s : State} {m : MethodId} {args : Array Value} {below : List Frame} {meth : Method} {c : Code} {Q : State → Prop} {res : (Int32 × Hp)} 
set_option maxRecDepth 20000 in
theorem lkJ_X4_reckon_241 (hi : zInj wC v) (xc : XC wC v) (nx : NXC v) (X : Cx wC v p R s m args c 0 0 cX4_reckon 8 RX4 4) (rt : Rt wC v p l e R s m args below meth c 0 0 Q cX4_reckon false (some (.int res.1)) res.2) {k13 : Nat → Int32 → Int32 → Int32 → Int32 → Hp → Option (Int32 × Hp)} {r0 : Nat} {x2 : Int32} {x3 : Int32} {x4 : Int32} {x5 : Int32} {x7 : Int32} {σ : Hp} (hr0 : isL r0 = true) (hk13 : ∀ (r0 : Nat) (x2 : Int32) (x3 : Int32) (x4 : Int32) (x5 : Int32) (σ : Hp), (hr0 : isL r0 = true) → k13 r0 x2 x3 x4 x5 σ = some res → Go wC v p l e R s m args below meth c 0 0 Q 8 13 [(0, .ref r0), (2, .int x2), (3, .int x3), (4, .int x4), (5, .int x5)] [] σ) (h : J_X4_reckon_241  k13 r0 x2 x3 x4 x5 x7 σ = some res) : Go wC v p l e R s m args below meth c 0 0 Q 8 241 [(0, .ref r0), (2, .int x2), (3, .int x3), (4, .int x4), (5, .int x5), (7, .int x7)] [] σ := by
  unfold J_X4_reckon_241 at h
  refine go_iload X 5 (dk dt_X4_reckon_8 1 rfl) rfl ?_
  refine go_if_eq (tgt := 256) X (dk dt_X4_reckon_8 2 rfl) (by decide) h (fun h => ?_) (fun h => ?_)
  · refine go_iload X 3 (dk dt_X4_reckon_8 8 rfl) rfl ?_
    refine go_iconst X (dk dt_X4_reckon_8 9 rfl) ci_1 ?_
    refine go_iadd X (dk dt_X4_reckon_8 10 rfl) ?_
    refine go_istore (lv' := [(4, .int (x4 + (1 : Int32))), (0, .ref r0), (2, .int x2), (3, .int x3), (5, .int x5), (7, .int x7)]) X (dk dt_X4_reckon_8 11 rfl) (by decide) rfl ?_
    refine go_iinc (lv' := [(5, .int (x5 + (1 : Int32))), (4, .int (x4 + (1 : Int32))), (0, .ref r0), (2, .int x2), (3, .int x3), (7, .int x7)]) X 4 (dk dt_X4_reckon_8 12 rfl) rfl ci_1 (by decide) rfl ?_
    refine go_goto (tgt := 13) X (dk dt_X4_reckon_8 13 rfl) (by decide) ?_
    refine go_sub [2, 3, 4, 1, 0] rfl ?_
    exact hk13 _ _ _ _ _ _ hr0 h
  · refine go_aload_n X 0 (dk dt_X4_reckon_8 3 rfl) rfl rfl ?_
    refine go_getr X fo_X4_13 (lL hr0) (sL hr0) (fL_1 hr0) (dk dt_X4_reckon_8 4 rfl) ?_
    refine go_iload X 3 (dk dt_X4_reckon_8 5 rfl) rfl ?_
    refine go_iald X (lLa_2 hr0) (sLa_2 hr0) (dk dt_X4_reckon_8 6 rfl) h (fun h => ?_)
    refine go_goto (tgt := 260) X (dk dt_X4_reckon_8 7 rfl) (by decide) ?_
    refine go_istore (lv' := [(4, .int (σ (r0 + 2) (Int32.toNatClampNeg x4))), (0, .ref r0), (2, .int x2), (3, .int x3), (5, .int x5), (7, .int x7)]) X (dk dt_X4_reckon_8 11 rfl) (by decide) rfl ?_
    refine go_iinc (lv' := [(5, .int (x5 + (1 : Int32))), (4, .int (σ (r0 + 2) (Int32.toNatClampNeg x4))), (0, .ref r0), (2, .int x2), (3, .int x3), (7, .int x7)]) X 4 (dk dt_X4_reckon_8 12 rfl) rfl ci_1 (by decide) rfl ?_
    refine go_goto (tgt := 13) X (dk dt_X4_reckon_8 13 rfl) (by decide) ?_
    refine go_sub [2, 3, 4, 1, 0] rfl ?_
    exact hk13 _ _ _ _ _ _ hr0 h
set_option maxRecDepth 20000 in
theorem lkJ_X4_reckon_103 (hi : zInj wC v) (xc : XC wC v) (nx : NXC v) (X : Cx wC v p R s m args c 0 0 cX4_reckon 8 RX4 4) (rt : Rt wC v p l e R s m args below meth c 0 0 Q cX4_reckon false (some (.int res.1)) res.2) {k13 : Nat → Int32 → Int32 → Int32 → Int32 → Hp → Option (Int32 × Hp)} {r0 : Nat} {x2 : Int32} {x4 : Int32} {x5 : Int32} {x7 : Int32} {s0 : Int32} {s1 : Int32} {s2 : Nat} {σ : Hp} (hr0 : isL r0 = true) (hs2 : isL s2 = true) (hk13 : ∀ (r0 : Nat) (x2 : Int32) (x3 : Int32) (x4 : Int32) (x5 : Int32) (σ : Hp), (hr0 : isL r0 = true) → k13 r0 x2 x3 x4 x5 σ = some res → Go wC v p l e R s m args below meth c 0 0 Q 8 13 [(0, .ref r0), (2, .int x2), (3, .int x3), (4, .int x4), (5, .int x5)] [] σ) (h : J_X4_reckon_103  k13 r0 x2 x4 x5 x7 s0 s1 s2 σ = some res) : Go wC v p l e R s m args below meth c 0 0 Q 8 103 [(0, .ref r0), (2, .int x2), (4, .int x4), (5, .int x5), (7, .int x7)] [.int s0, .int s1, .ref s2] σ := by
  unfold J_X4_reckon_103 at h
  refine go_Vi (As := [.int s1, .int s0]) (rest := []) X vo_X4_61 (fun q hq => ct_X4_push hi xc nx hs2 hq) (by decide) rfl (lL hs2) (sL hs2) rfl rfl (Nat.le_of_ble_eq_true rfl) (dk dt_X4_reckon_3 4 rfl) h (fun q103 h => ?_)
  refine go_istore_n (lv' := [(3, .int q103.1), (0, .ref r0), (2, .int x2), (4, .int x4), (5, .int x5), (7, .int x7)]) X (dk dt_X4_reckon_3 5 rfl) rfl (by decide) rfl ?_
  refine go_goto (tgt := 241) X (dk dt_X4_reckon_3 6 rfl) (by decide) ?_
  refine go_sub [1, 2, 0, 3, 4, 5] rfl ?_
  exact lkJ_X4_reckon_241 hi xc nx X rt hr0 hk13 h
set_option maxRecDepth 20000 in
theorem lkJ_X4_reckon_73 (hi : zInj wC v) (xc : XC wC v) (nx : NXC v) (X : Cx wC v p R s m args c 0 0 cX4_reckon 8 RX4 4) (rt : Rt wC v p l e R s m args below meth c 0 0 Q cX4_reckon false (some (.int res.1)) res.2) {k13 : Nat → Int32 → Int32 → Int32 → Int32 → Hp → Option (Int32 × Hp)} {r0 : Nat} {x2 : Int32} {x3 : Int32} {x4 : Int32} {x5 : Int32} {x6 : Int32} {x7 : Int32} {σ : Hp} (hr0 : isL r0 = true) (hk13 : ∀ (r0 : Nat) (x2 : Int32) (x3 : Int32) (x4 : Int32) (x5 : Int32) (σ : Hp), (hr0 : isL r0 = true) → k13 r0 x2 x3 x4 x5 σ = some res → Go wC v p l e R s m args below meth c 0 0 Q 8 13 [(0, .ref r0), (2, .int x2), (3, .int x3), (4, .int x4), (5, .int x5)] [] σ) (h : J_X4_reckon_73  k13 r0 x2 x3 x4 x5 x6 x7 σ = some res) : Go wC v p l e R s m args below meth c 0 0 Q 8 73 [(0, .ref r0), (2, .int x2), (3, .int x3), (4, .int x4), (5, .int x5), (6, .int x6), (7, .int x7)] [] σ := by
  unfold J_X4_reckon_73 at h
  refine go_aload_n X 0 (dk dt_X4_reckon_2 4 rfl) rfl rfl ?_
  refine go_iload_n X 2 (dk dt_X4_reckon_2 5 rfl) rfl rfl ?_
  refine go_iload X 5 (dk dt_X4_reckon_2 6 rfl) rfl ?_
  refine go_bipush X (dk dt_X4_reckon_2 7 rfl) cb_110 ?_
  refine go_icmp_ne (tgt := 92) X (dk dt_X4_reckon_2 8 rfl) (by decide) h (fun h => ?_) (fun h => ?_)
  · refine go_aload_n X 0 (dk dt_X4_reckon_2 14 rfl) rfl rfl ?_
    refine go_aload_n X 0 (dk dt_X4_reckon_2 15 rfl) rfl rfl ?_
    refine go_getr X fo_X4_13 (lL hr0) (sL hr0) (fL_1 hr0) (dk dt_X4_reckon_3 0 rfl) ?_
    refine go_iload X 3 (dk dt_X4_reckon_3 1 rfl) rfl ?_
    refine go_iald X (lLa_2 hr0) (sLa_2 hr0) (dk dt_X4_reckon_3 2 rfl) h (fun h => ?_)
    refine go_Vi (As := [.int (σ (r0 + 2) (Int32.toNatClampNeg x4))]) (rest := [.int x3, .ref r0]) X vo_X4_57 (fun q hq => ct_X4_valueOf hi xc nx hr0 hq) (by decide) rfl (lL hr0) (sL hr0) rfl rfl (Nat.le_of_ble_eq_true rfl) (dk dt_X4_reckon_3 3 rfl) h (fun q100 h => ?_)
    refine go_sub [0, 1, 3, 4, 6] rfl ?_
    exact lkJ_X4_reckon_103 hi xc nx X rt hr0 hr0 hk13 h
  · refine go_aload_n X 0 (dk dt_X4_reckon_2 9 rfl) rfl rfl ?_
    refine go_getr X fo_X4_13 (lL hr0) (sL hr0) (fL_1 hr0) (dk dt_X4_reckon_2 10 rfl) ?_
    refine go_iload X 3 (dk dt_X4_reckon_2 11 rfl) rfl ?_
    refine go_iald X (lLa_2 hr0) (sLa_2 hr0) (dk dt_X4_reckon_2 12 rfl) h (fun h => ?_)
    refine go_goto (tgt := 103) X (dk dt_X4_reckon_2 13 rfl) (by decide) ?_
    refine go_sub [0, 1, 3, 4, 6] rfl ?_
    exact lkJ_X4_reckon_103 hi xc nx X rt hr0 hr0 hk13 h
set_option maxRecDepth 20000 in
theorem lkJ_X4_reckon_202 (hi : zInj wC v) (xc : XC wC v) (nx : NXC v) (X : Cx wC v p R s m args c 0 0 cX4_reckon 8 RX4 4) (rt : Rt wC v p l e R s m args below meth c 0 0 Q cX4_reckon false (some (.int res.1)) res.2) {k13 : Nat → Int32 → Int32 → Int32 → Int32 → Hp → Option (Int32 × Hp)} {r0 : Nat} {x2 : Int32} {x4 : Int32} {x5 : Int32} {x7 : Int32} {s0 : Int32} {σ : Hp} (hr0 : isL r0 = true) (hk13 : ∀ (r0 : Nat) (x2 : Int32) (x3 : Int32) (x4 : Int32) (x5 : Int32) (σ : Hp), (hr0 : isL r0 = true) → k13 r0 x2 x3 x4 x5 σ = some res → Go wC v p l e R s m args below meth c 0 0 Q 8 13 [(0, .ref r0), (2, .int x2), (3, .int x3), (4, .int x4), (5, .int x5)] [] σ) (h : J_X4_reckon_202  k13 r0 x2 x4 x5 x7 s0 σ = some res) : Go wC v p l e R s m args below meth c 0 0 Q 8 202 [(0, .ref r0), (2, .int x2), (4, .int x4), (5, .int x5), (7, .int x7)] [.int s0] σ := by
  unfold J_X4_reckon_202 at h
  refine go_istore_n (lv' := [(3, .int s0), (0, .ref r0), (2, .int x2), (4, .int x4), (5, .int x5), (7, .int x7)]) X (dk dt_X4_reckon_6 9 rfl) rfl (by decide) rfl ?_
  refine go_goto (tgt := 241) X (dk dt_X4_reckon_6 10 rfl) (by decide) ?_
  refine go_sub [1, 2, 0, 3, 4, 5] rfl ?_
  exact lkJ_X4_reckon_241 hi xc nx X rt hr0 hk13 h
set_option maxRecDepth 20000 in
theorem lkJ_X4_reckon_188 (hi : zInj wC v) (xc : XC wC v) (nx : NXC v) (X : Cx wC v p R s m args c 0 0 cX4_reckon 8 RX4 4) (rt : Rt wC v p l e R s m args below meth c 0 0 Q cX4_reckon false (some (.int res.1)) res.2) {k13 : Nat → Int32 → Int32 → Int32 → Int32 → Hp → Option (Int32 × Hp)} {r0 : Nat} {x2 : Int32} {x3 : Int32} {x4 : Int32} {x5 : Int32} {s0 : Int32} {σ : Hp} (hr0 : isL r0 = true) (hk13 : ∀ (r0 : Nat) (x2 : Int32) (x3 : Int32) (x4 : Int32) (x5 : Int32) (σ : Hp), (hr0 : isL r0 = true) → k13 r0 x2 x3 x4 x5 σ = some res → Go wC v p l e R s m args below meth c 0 0 Q 8 13 [(0, .ref r0), (2, .int x2), (3, .int x3), (4, .int x4), (5, .int x5)] [] σ) (h : J_X4_reckon_188  k13 r0 x2 x3 x4 x5 s0 σ = some res) : Go wC v p l e R s m args below meth c 0 0 Q 8 188 [(0, .ref r0), (2, .int x2), (3, .int x3), (4, .int x4), (5, .int x5)] [.int s0] σ := by
  unfold J_X4_reckon_188 at h
  refine go_istore (lv' := [(7, .int s0), (0, .ref r0), (2, .int x2), (3, .int x3), (4, .int x4), (5, .int x5)]) X (dk dt_X4_reckon_6 1 rfl) (by decide) rfl ?_
  refine go_iload X 0 (dk dt_X4_reckon_6 2 rfl) rfl ?_
  refine go_if_eq (tgt := 199) X (dk dt_X4_reckon_6 3 rfl) (by decide) h (fun h => ?_) (fun h => ?_)
  · refine go_iload_n X 3 (dk dt_X4_reckon_6 6 rfl) rfl rfl ?_
    refine go_iconst X (dk dt_X4_reckon_6 7 rfl) ci_1 ?_
    refine go_isub X (dk dt_X4_reckon_6 8 rfl) ?_
    refine go_sub [1, 2, 4, 5, 0] rfl ?_
    exact lkJ_X4_reckon_202 hi xc nx X rt hr0 hk13 h
  · refine go_iload_n X 3 (dk dt_X4_reckon_6 4 rfl) rfl rfl ?_
    refine go_goto (tgt := 202) X (dk dt_X4_reckon_6 5 rfl) (by decide) ?_
    refine go_sub [1, 2, 4, 5, 0] rfl ?_
    exact lkJ_X4_reckon_202 hi xc nx X rt hr0 hk13 h
set_option maxRecDepth 20000 in
theorem lkJ_X4_reckon_180 (hi : zInj wC v) (xc : XC wC v) (nx : NXC v) (X : Cx wC v p R s m args c 0 0 cX4_reckon 8 RX4 4) (rt : Rt wC v p l e R s m args below meth c 0 0 Q cX4_reckon false (some (.int res.1)) res.2) {k13 : Nat → Int32 → Int32 → Int32 → Int32 → Hp → Option (Int32 × Hp)} {r0 : Nat} {x2 : Int32} {x3 : Int32} {x4 : Int32} {x5 : Int32} {s0 : Int32} {s1 : Int32} {σ : Hp} (hr0 : isL r0 = true) (hk13 : ∀ (r0 : Nat) (x2 : Int32) (x3 : Int32) (x4 : Int32) (x5 : Int32) (σ : Hp), (hr0 : isL r0 = true) → k13 r0 x2 x3 x4 x5 σ = some res → Go wC v p l e R s m args below meth c 0 0 Q 8 13 [(0, .ref r0), (2, .int x2), (3, .int x3), (4, .int x4), (5, .int x5)] [] σ) (h : J_X4_reckon_180  k13 r0 x2 x3 x4 x5 s0 s1 σ = some res) : Go wC v p l e R s m args below meth c 0 0 Q 8 180 [(0, .ref r0), (2, .int x2), (3, .int x3), (4, .int x4), (5, .int x5)] [.int s0, .int s1] σ := by
  unfold J_X4_reckon_180 at h
  refine go_icmp_ne (tgt := 187) X (dk dt_X4_reckon_5 13 rfl) (by decide) h (fun h => ?_) (fun h => ?_)
  · refine go_iconst X (dk dt_X4_reckon_6 0 rfl) ci_0 ?_
    exact lkJ_X4_reckon_188 hi xc nx X rt hr0 hk13 h
  · refine go_iconst X (dk dt_X4_reckon_5 14 rfl) ci_1 ?_
    refine go_goto (tgt := 188) X (dk dt_X4_reckon_5 15 rfl) (by decide) ?_
    exact lkJ_X4_reckon_188 hi xc nx X rt hr0 hk13 h
set_option maxRecDepth 20000 in
theorem lkJ_X4_reckon_168 (hi : zInj wC v) (xc : XC wC v) (nx : NXC v) (X : Cx wC v p R s m args c 0 0 cX4_reckon 8 RX4 4) (rt : Rt wC v p l e R s m args below meth c 0 0 Q cX4_reckon false (some (.int res.1)) res.2) {k13 : Nat → Int32 → Int32 → Int32 → Int32 → Hp → Option (Int32 × Hp)} {r0 : Nat} {x2 : Int32} {x3 : Int32} {x4 : Int32} {x5 : Int32} {x6 : Int32} {s0 : Int32} {σ : Hp} (hr0 : isL r0 = true) (hk13 : ∀ (r0 : Nat) (x2 : Int32) (x3 : Int32) (x4 : Int32) (x5 : Int32) (σ : Hp), (hr0 : isL r0 = true) → k13 r0 x2 x3 x4 x5 σ = some res → Go wC v p l e R s m args below meth c 0 0 Q 8 13 [(0, .ref r0), (2, .int x2), (3, .int x3), (4, .int x4), (5, .int x5)] [] σ) (h : J_X4_reckon_168  k13 r0 x2 x3 x4 x5 x6 s0 σ = some res) : Go wC v p l e R s m args below meth c 0 0 Q 8 168 [(0, .ref r0), (2, .int x2), (3, .int x3), (4, .int x4), (5, .int x5), (6, .int x6)] [.int s0] σ := by
  unfold J_X4_reckon_168 at h
  refine go_iload X 5 (dk dt_X4_reckon_5 7 rfl) rfl ?_
  refine go_bipush X (dk dt_X4_reckon_5 8 rfl) cb_124 ?_
  refine go_icmp_ne (tgt := 179) X (dk dt_X4_reckon_5 9 rfl) (by decide) h (fun h => ?_) (fun h => ?_)
  · refine go_iconst X (dk dt_X4_reckon_5 12 rfl) ci_0 ?_
    refine go_sub [0, 1, 2, 3, 4] rfl ?_
    exact lkJ_X4_reckon_180 hi xc nx X rt hr0 hk13 h
  · refine go_iconst X (dk dt_X4_reckon_5 10 rfl) ci_1 ?_
    refine go_goto (tgt := 180) X (dk dt_X4_reckon_5 11 rfl) (by decide) ?_
    refine go_sub [0, 1, 2, 3, 4] rfl ?_
    exact lkJ_X4_reckon_180 hi xc nx X rt hr0 hk13 h
set_option maxRecDepth 20000 in
theorem lkJ_X4_reckon_154 (hi : zInj wC v) (xc : XC wC v) (nx : NXC v) (X : Cx wC v p R s m args c 0 0 cX4_reckon 8 RX4 4) (rt : Rt wC v p l e R s m args below meth c 0 0 Q cX4_reckon false (some (.int res.1)) res.2) {k13 : Nat → Int32 → Int32 → Int32 → Int32 → Hp → Option (Int32 × Hp)} {r0 : Nat} {x2 : Int32} {x3 : Int32} {x4 : Int32} {x5 : Int32} {x6 : Int32} {σ : Hp} (hr0 : isL r0 = true) (hk13 : ∀ (r0 : Nat) (x2 : Int32) (x3 : Int32) (x4 : Int32) (x5 : Int32) (σ : Hp), (hr0 : isL r0 = true) → k13 r0 x2 x3 x4 x5 σ = some res → Go wC v p l e R s m args below meth c 0 0 Q 8 13 [(0, .ref r0), (2, .int x2), (3, .int x3), (4, .int x4), (5, .int x5)] [] σ) (h : J_X4_reckon_154  k13 r0 x2 x3 x4 x5 x6 σ = some res) : Go wC v p l e R s m args below meth c 0 0 Q 8 154 [(0, .ref r0), (2, .int x2), (3, .int x3), (4, .int x4), (5, .int x5), (6, .int x6)] [] σ := by
  unfold J_X4_reckon_154 at h
  refine go_aload_n X 0 (dk dt_X4_reckon_4 15 rfl) rfl rfl ?_
  refine go_getr X fo_X4_31 (lL hr0) (sL hr0) (fL_7 hr0) (dk dt_X4_reckon_5 0 rfl) ?_
  refine go_iload_n X 2 (dk dt_X4_reckon_5 1 rfl) rfl rfl ?_
  refine go_iald X (lLa_8 hr0) (sLa_8 hr0) (dk dt_X4_reckon_5 2 rfl) h (fun h => ?_)
  refine go_if_eq (tgt := 167) X (dk dt_X4_reckon_5 3 rfl) (by decide) h (fun h => ?_) (fun h => ?_)
  · refine go_iconst X (dk dt_X4_reckon_5 6 rfl) ci_0 ?_
    exact lkJ_X4_reckon_168 hi xc nx X rt hr0 hk13 h
  · refine go_iconst X (dk dt_X4_reckon_5 4 rfl) ci_1 ?_
    refine go_goto (tgt := 168) X (dk dt_X4_reckon_5 5 rfl) (by decide) ?_
    exact lkJ_X4_reckon_168 hi xc nx X rt hr0 hk13 h
set_option maxRecDepth 20000 in
theorem lkB_X4_reckon_13 (hi : zInj wC v) (xc : XC wC v) (nx : NXC v) (X : Cx wC v p R s m args c 0 0 cX4_reckon 8 RX4 4) (rt : Rt wC v p l e R s m args below meth c 0 0 Q cX4_reckon false (some (.int res.1)) res.2) {k268 : Nat → Int32 → Hp → Option (Int32 × Hp)} {k13 : Nat → Int32 → Int32 → Int32 → Int32 → Hp → Option (Int32 × Hp)} {r0 : Nat} {x2 : Int32} {x3 : Int32} {x4 : Int32} {x5 : Int32} {σ : Hp} (hr0 : isL r0 = true) (hk268 : ∀ (r0 : Nat) (x3 : Int32) (σ : Hp), (hr0 : isL r0 = true) → k268 r0 x3 σ = some res → Go wC v p l e R s m args below meth c 0 0 Q 8 268 [(0, .ref r0), (3, .int x3)] [] σ) (hk13 : ∀ (r0 : Nat) (x2 : Int32) (x3 : Int32) (x4 : Int32) (x5 : Int32) (σ : Hp), (hr0 : isL r0 = true) → k13 r0 x2 x3 x4 x5 σ = some res → Go wC v p l e R s m args below meth c 0 0 Q 8 13 [(0, .ref r0), (2, .int x2), (3, .int x3), (4, .int x4), (5, .int x5)] [] σ) (h : B_X4_reckon_13  k268 k13 r0 x2 x3 x4 x5 σ = some res) : Go wC v p l e R s m args below meth c 0 0 Q 8 13 [(0, .ref r0), (2, .int x2), (3, .int x3), (4, .int x4), (5, .int x5)] [] σ := by
  unfold B_X4_reckon_13 at h
  refine go_iload X 4 (dk dt_X4_reckon_0 9 rfl) rfl ?_
  refine go_sipush X (dk dt_X4_reckon_0 10 rfl) cs_240 ?_
  refine go_icmp_ge (tgt := 268) X (dk dt_X4_reckon_0 11 rfl) (by decide) h (fun h => ?_) (fun h => ?_)
  · refine go_sub [0, 2] rfl ?_
    exact hk268 _ _ _ hr0 h
  · refine go_iload X 3 (dk dt_X4_reckon_0 12 rfl) rfl ?_
    refine go_if_lt (tgt := 268) X (dk dt_X4_reckon_0 13 rfl) (by decide) h (fun h => ?_) (fun h => ?_)
    · refine go_sub [0, 2] rfl ?_
      exact hk268 _ _ _ hr0 h
    · refine go_iload X 3 (dk dt_X4_reckon_0 14 rfl) rfl ?_
      refine go_iload_n X 1 (dk dt_X4_reckon_0 15 rfl) rfl rfl ?_
      refine go_icmp_ge (tgt := 268) X (dk dt_X4_reckon_1 0 rfl) (by decide) h (fun h => ?_) (fun h => ?_)
      · refine go_sub [0, 2] rfl ?_
        exact hk268 _ _ _ hr0 h
      · refine go_iload X 3 (dk dt_X4_reckon_1 1 rfl) rfl ?_
        refine go_sipush X (dk dt_X4_reckon_1 2 rfl) cs_240 ?_
        refine go_icmp_ge (tgt := 268) X (dk dt_X4_reckon_1 3 rfl) (by decide) h (fun h => ?_) (fun h => ?_)
        · refine go_sub [0, 2] rfl ?_
          exact hk268 _ _ _ hr0 h
        · refine go_aload_n X 0 (dk dt_X4_reckon_1 4 rfl) rfl rfl ?_
          refine go_geti X fo_X4_41 (lL hr0) (sL hr0) (fL_10 hr0) (dk dt_X4_reckon_1 5 rfl) ?_
          refine go_if_ne (tgt := 268) X (dk dt_X4_reckon_1 6 rfl) (by decide) h (fun h => ?_) (fun h => ?_)
          · refine go_sub [0, 2] rfl ?_
            exact hk268 _ _ _ hr0 h
          · refine go_aload_n X 0 (dk dt_X4_reckon_1 7 rfl) rfl rfl ?_
            refine go_getr X fo_X4_9 (lL hr0) (sL hr0) (fL_0 hr0) (dk dt_X4_reckon_1 8 rfl) ?_
            refine go_iload X 3 (dk dt_X4_reckon_1 9 rfl) rfl ?_
            refine go_iald X (lLa_1 hr0) (sLa_1 hr0) (dk dt_X4_reckon_1 10 rfl) h (fun h => ?_)
            refine go_istore (lv' := [(6, .int (σ (r0 + 1) (Int32.toNatClampNeg x4))), (0, .ref r0), (2, .int x2), (3, .int x3), (4, .int x4), (5, .int x5)]) X (dk dt_X4_reckon_1 11 rfl) (by decide) rfl ?_
            refine go_iconst X (dk dt_X4_reckon_1 12 rfl) ci_0 ?_
            refine go_istore (lv' := [(7, .int (0 : Int32)), (6, .int (σ (r0 + 1) (Int32.toNatClampNeg x4))), (0, .ref r0), (2, .int x2), (3, .int x3), (4, .int x4), (5, .int x5)]) X (dk dt_X4_reckon_1 13 rfl) (by decide) rfl ?_
            refine go_iload X 1 (dk dt_X4_reckon_1 14 rfl) rfl ?_
            refine go_bipush X (dk dt_X4_reckon_1 15 rfl) cb_110 ?_
            refine go_icmp_eq (tgt := 73) X (dk dt_X4_reckon_2 0 rfl) (by decide) h (fun h => ?_) (fun h => ?_)
            · refine go_sub [2, 3, 4, 5, 6, 1, 0] rfl ?_
              exact lkJ_X4_reckon_73 hi xc nx X rt hr0 hk13 h
            · refine go_iload X 1 (dk dt_X4_reckon_2 1 rfl) rfl ?_
              refine go_bipush X (dk dt_X4_reckon_2 2 rfl) cb_108 ?_
              refine go_icmp_ne (tgt := 110) X (dk dt_X4_reckon_2 3 rfl) (by decide) h (fun h => ?_) (fun h => ?_)
              · refine go_iload_n X 4 (dk dt_X4_reckon_3 7 rfl) rfl rfl ?_
                refine go_if_ge (tgt := 116) X (dk dt_X4_reckon_3 8 rfl) (by decide) h (fun h => ?_) (fun h => ?_)
                · refine go_iload X 1 (dk dt_X4_reckon_3 11 rfl) rfl ?_
                  refine go_bipush X (dk dt_X4_reckon_3 12 rfl) cb_33 ?_
                  refine go_icmp_ne (tgt := 140) X (dk dt_X4_reckon_3 13 rfl) (by decide) h (fun h => ?_) (fun h => ?_)
                  · refine go_iload X 1 (dk dt_X4_reckon_4 9 rfl) rfl ?_
                    refine go_bipush X (dk dt_X4_reckon_4 10 rfl) cb_38 ?_
                    refine go_icmp_eq (tgt := 154) X (dk dt_X4_reckon_4 11 rfl) (by decide) h (fun h => ?_) (fun h => ?_)
                    · refine go_sub [2, 3, 4, 5, 6, 1] rfl ?_
                      exact lkJ_X4_reckon_154 hi xc nx X rt hr0 hk13 h
                    · refine go_iload X 1 (dk dt_X4_reckon_4 12 rfl) rfl ?_
                      refine go_bipush X (dk dt_X4_reckon_4 13 rfl) cb_124 ?_
                      refine go_icmp_ne (tgt := 206) X (dk dt_X4_reckon_4 14 rfl) (by decide) h (fun h => ?_) (fun h => ?_)
                      · refine go_iload_n X 4 (dk dt_X4_reckon_6 11 rfl) rfl rfl ?_
                        refine go_if_le (tgt := 241) X (dk dt_X4_reckon_6 12 rfl) (by decide) h (fun h => ?_) (fun h => ?_)
                        · refine go_sub [2, 3, 4, 5, 6, 0] rfl ?_
                          exact lkJ_X4_reckon_241 hi xc nx X rt hr0 hk13 h
                        · refine go_aload_n X 2 (dk dt_X4_reckon_6 13 rfl) rfl rfl ?_
                          refine go_getr X fo_X4_31 (lL hr0) (sL hr0) (fL_7 hr0) (dk dt_X4_reckon_6 14 rfl) ?_
                          refine go_iload_n X 4 (dk dt_X4_reckon_6 15 rfl) rfl rfl ?_
                          refine go_iconst X (dk dt_X4_reckon_7 0 rfl) ci_1 ?_
                          refine go_isub X (dk dt_X4_reckon_7 1 rfl) ?_
                          refine go_aload_n X 2 (dk dt_X4_reckon_7 2 rfl) rfl rfl ?_
                          refine go_iload X 1 (dk dt_X4_reckon_7 3 rfl) rfl ?_
                          refine go_aload_n X 2 (dk dt_X4_reckon_7 4 rfl) rfl rfl ?_
                          refine go_getr X fo_X4_31 (lL hr0) (sL hr0) (fL_7 hr0) (dk dt_X4_reckon_7 5 rfl) ?_
                          refine go_iload_n X 4 (dk dt_X4_reckon_7 6 rfl) rfl rfl ?_
                          refine go_iconst X (dk dt_X4_reckon_7 7 rfl) ci_1 ?_
                          refine go_isub X (dk dt_X4_reckon_7 8 rfl) ?_
                          refine go_iald X (lLa_8 hr0) (sLa_8 hr0) (dk dt_X4_reckon_7 9 rfl) h (fun h => ?_)
                          refine go_aload_n X 2 (dk dt_X4_reckon_7 10 rfl) rfl rfl ?_
                          refine go_getr X fo_X4_31 (lL hr0) (sL hr0) (fL_7 hr0) (dk dt_X4_reckon_7 11 rfl) ?_
                          refine go_iload_n X 4 (dk dt_X4_reckon_7 12 rfl) rfl rfl ?_
                          refine go_iald X (lLa_8 hr0) (sLa_8 hr0) (dk dt_X4_reckon_7 13 rfl) h (fun h => ?_)
                          refine go_Vi (As := [.int (σ (r0 + 1) (Int32.toNatClampNeg x4)), .int (σ (r0 + 8) (Int32.toNatClampNeg (x3 - (1 : Int32)))), .int (σ (r0 + 8) (Int32.toNatClampNeg x3))]) (rest := [.int (x3 - (1 : Int32)), .ref (r0 + 8)]) X vo_X4_64 (fun q hq => ct_X4_combine hi xc nx hr0 hq) (by decide) rfl (lL hr0) (sL hr0) rfl rfl (Nat.le_of_ble_eq_true rfl) (dk dt_X4_reckon_7 14 rfl) h (fun q234 h => ?_)
                          refine go_iast X (lLa_8 hr0) (sLa_8 hr0) (dk dt_X4_reckon_7 15 rfl) h (fun h => ?_)
                          refine go_iinc (lv' := [(3, .int (x3 + (-1 : Int32))), (7, .int (0 : Int32)), (6, .int (σ (r0 + 1) (Int32.toNatClampNeg x4))), (0, .ref r0), (2, .int x2), (4, .int x4), (5, .int x5)]) X 4 (dk dt_X4_reckon_8 0 rfl) rfl ci_m1 (by decide) rfl ?_
                          refine go_sub [3, 4, 0, 5, 6, 1] rfl ?_
                          exact lkJ_X4_reckon_241 hi xc nx X rt hr0 hk13 h
                      · refine go_sub [2, 3, 4, 5, 6, 1] rfl ?_
                        exact lkJ_X4_reckon_154 hi xc nx X rt hr0 hk13 h
                  · refine go_aload_n X 2 (dk dt_X4_reckon_3 14 rfl) rfl rfl ?_
                    refine go_getr X fo_X4_31 (lL hr0) (sL hr0) (fL_7 hr0) (dk dt_X4_reckon_3 15 rfl) ?_
                    refine go_iload_n X 4 (dk dt_X4_reckon_4 0 rfl) rfl rfl ?_
                    refine go_iconst X (dk dt_X4_reckon_4 1 rfl) ci_1 ?_
                    refine go_aload_n X 2 (dk dt_X4_reckon_4 2 rfl) rfl rfl ?_
                    refine go_getr X fo_X4_31 (lL hr0) (sL hr0) (fL_7 hr0) (dk dt_X4_reckon_4 3 rfl) ?_
                    refine go_iload_n X 4 (dk dt_X4_reckon_4 4 rfl) rfl rfl ?_
                    refine go_iald X (lLa_8 hr0) (sLa_8 hr0) (dk dt_X4_reckon_4 5 rfl) h (fun h => ?_)
                    refine go_isub X (dk dt_X4_reckon_4 6 rfl) ?_
                    refine go_iast X (lLa_8 hr0) (sLa_8 hr0) (dk dt_X4_reckon_4 7 rfl) h (fun h => ?_)
                    refine go_goto (tgt := 241) X (dk dt_X4_reckon_4 8 rfl) (by decide) ?_
                    refine go_sub [2, 3, 4, 5, 6, 0] rfl ?_
                    exact lkJ_X4_reckon_241 hi xc nx X rt hr0 hk13 h
                · refine go_iconst X (dk dt_X4_reckon_3 9 rfl) ci_0 ?_
                  exact go_iret rt (dk dt_X4_reckon_3 10 rfl) h (fun hh => nomatch hh)
              · refine go_sub [2, 3, 4, 5, 6, 1, 0] rfl ?_
                exact lkJ_X4_reckon_73 hi xc nx X rt hr0 hk13 h
set_option maxRecDepth 20000 in
theorem lkL_X4_reckon_13 (hi : zInj wC v) (xc : XC wC v) (nx : NXC v) (X : Cx wC v p R s m args c 0 0 cX4_reckon 8 RX4 4) (rt : Rt wC v p l e R s m args below meth c 0 0 Q cX4_reckon false (some (.int res.1)) res.2) {k268 : Nat → Int32 → Hp → Option (Int32 × Hp)} (hk268 : ∀ (r0 : Nat) (x3 : Int32) (σ : Hp), (hr0 : isL r0 = true) → k268 r0 x3 σ = some res → Go wC v p l e R s m args below meth c 0 0 Q 8 268 [(0, .ref r0), (3, .int x3)] [] σ) (n : Nat) : ∀ {r0 : Nat} {x2 : Int32} {x3 : Int32} {x4 : Int32} {x5 : Int32} {σ : Hp}, (hr0 : isL r0 = true) → L_X4_reckon_13  k268 n r0 x2 x3 x4 x5 σ = some res → Go wC v p l e R s m args below meth c 0 0 Q 8 13 [(0, .ref r0), (2, .int x2), (3, .int x3), (4, .int x4), (5, .int x5)] [] σ := by
  induction n with
  | zero => intro r0 x2 x3 x4 x5 σ hr0 h; cases h
  | succ n ih =>
    intro r0 x2 x3 x4 x5 σ hr0 h
    exact lkB_X4_reckon_13 hi xc nx X rt hr0 hk268 (fun _ _ _ _ _ _ hq0 hh => ih hq0 hh) h
set_option maxRecDepth 20000 in
theorem lkJ_X4_reckon_268 (hi : zInj wC v) (xc : XC wC v) (nx : NXC v) (X : Cx wC v p R s m args c 0 0 cX4_reckon 8 RX4 4) (rt : Rt wC v p l e R s m args below meth c 0 0 Q cX4_reckon false (some (.int res.1)) res.2)  {r0 : Nat} {x3 : Int32} {σ : Hp} (hr0 : isL r0 = true)  (h : J_X4_reckon_268   r0 x3 σ = some res) : Go wC v p l e R s m args below meth c 0 0 Q 8 268 [(0, .ref r0), (3, .int x3)] [] σ := by
  unfold J_X4_reckon_268 at h
  refine go_iload_n X 1 (dk dt_X4_reckon_8 14 rfl) rfl rfl ?_
  refine go_if_lt (tgt := 281) X (dk dt_X4_reckon_8 15 rfl) (by decide) h (fun h => ?_) (fun h => ?_)
  · refine go_iconst X (dk dt_X4_reckon_9 5 rfl) ci_0 ?_
    exact go_iret rt (dk dt_X4_reckon_9 6 rfl) h (fun hh => nomatch hh)
  · refine go_aload_n X 0 (dk dt_X4_reckon_9 0 rfl) rfl rfl ?_
    refine go_getr X fo_X4_31 (lL hr0) (sL hr0) (fL_7 hr0) (dk dt_X4_reckon_9 1 rfl) ?_
    refine go_iload_n X 1 (dk dt_X4_reckon_9 2 rfl) rfl rfl ?_
    refine go_iald X (lLa_8 hr0) (sLa_8 hr0) (dk dt_X4_reckon_9 3 rfl) h (fun h => ?_)
    refine go_goto (tgt := 282) X (dk dt_X4_reckon_9 4 rfl) (by decide) ?_
    exact go_iret rt (dk dt_X4_reckon_9 6 rfl) h (fun hh => nomatch hh)
set_option maxRecDepth 20000 in
theorem lkF_X4_reckon (hi : zInj wC v) (xc : XC wC v) (nx : NXC v) (X : Cx wC v p R s m args c 0 0 cX4_reckon 8 RX4 4) (rt : Rt wC v p l e R s m args below meth c 0 0 Q cX4_reckon false (some (.int res.1)) res.2) {t : Nat} {a1 : Int32} {a2 : Int32} {σ : Hp} (ht : isL t = true) (h : F_X4_reckon  t a1 a2 σ = some res) : Go wC v p l e R s m args below meth c 0 0 Q 8 0 [(0, .ref t), (1, .int a1), (2, .int a2)] [] σ := by
  unfold F_X4_reckon at h
  refine go_iconst X (dk dt_X4_reckon_0 0 rfl) ci_m1 ?_
  refine go_istore_n (lv' := [(3, .int (-1 : Int32)), (0, .ref t), (1, .int a1), (2, .int a2)]) X (dk dt_X4_reckon_0 1 rfl) rfl (by decide) rfl ?_
  refine go_aload_n X 1 (dk dt_X4_reckon_0 2 rfl) rfl rfl ?_
  refine go_iconst X (dk dt_X4_reckon_0 3 rfl) ci_0 ?_
  refine go_putz X fo_X4_41 pf_4_10 (lL ht) (sL ht) (fL_10 ht) (dk dt_X4_reckon_0 4 rfl) h (fun h => ?_)
  refine go_iload_n X 2 (dk dt_X4_reckon_0 5 rfl) rfl rfl ?_
  refine go_istore (lv' := [(4, .int a1), (3, .int (-1 : Int32)), (0, .ref t), (1, .int a1), (2, .int a2)]) X (dk dt_X4_reckon_0 6 rfl) (by decide) rfl ?_
  refine go_iconst X (dk dt_X4_reckon_0 7 rfl) ci_0 ?_
  refine go_istore (lv' := [(5, .int (0 : Int32)), (4, .int a1), (3, .int (-1 : Int32)), (0, .ref t), (1, .int a1), (2, .int a2)]) X (dk dt_X4_reckon_0 8 rfl) (by decide) rfl ?_
  refine go_sub [3, 5, 2, 1, 0] rfl ?_
  exact lkL_X4_reckon_13 hi xc nx X rt (fun _ _ _ hq0 hh => lkJ_X4_reckon_268 hi xc nx X rt hq0  hh) FU ht h
set_option maxRecDepth 20000 in
theorem ct_X4_reckon (hi : zInj wC v) (xc : XC wC v) (nx : NXC v)  {t : Nat} {a1 : Int32} {a2 : Int32} {σ : Hp} (ht : isL t = true) {q : (Int32 × Hp)} (h : F_X4_reckon  t a1 a2 σ = some q) : Ct wC v l yX4_reckon cX4_reckon 8 (some .int) 4 [.ref t, .int a1, .int a2] σ (some (.int q.1)) q.2 :=
  Ct.intro false (by decide) hi xc (Nat.le_of_ble_eq_true rfl) rfl (fun p e R s m args below meth c Q X rt => lkF_X4_reckon hi xc nx X rt ht h)
end
def T_X4_amount_0 : DT := [(0, .iconst 0, 1), (1, .istore_n 3, 1), (2, .iload_n 3, 1), (3, .aload_n 0, 1), (4, .getfield 34, 3), (7, .if_icmp .ge 85, 3), (10, .aload_n 0, 1), (11, .getfield 16, 3), (14, .iload_n 3, 1), (15, .iaload, 1), (16, .iload_n 1, 1), (17, .if_icmp .ne 69, 3), (20, .aload_n 0, 1), (21, .aload_n 0, 1), (22, .getfield 22, 3), (25, .iload_n 3, 1)]
theorem dt_X4_amount_0 : dOk cX4_amount T_X4_amount_0 := by unfold dOk; decide +kernel
def T_X4_amount_1 : DT := [(26, .iaload, 1), (27, .aload_n 0, 1), (28, .getfield 25, 3), (31, .iload_n 3, 1), (32, .iaload, 1), (33, .invokevirtual 45, 3), (36, .ifCond .eq 50, 3), (39, .aload_n 0, 1), (40, .getfield 41, 3), (43, .ifCond .ne 43, 3), (46, .aload_n 0, 1), (47, .aload_n 0, 1), (48, .getfield 19, 3), (51, .iload_n 3, 1), (52, .iaload, 1), (53, .aload_n 0, 1)]
theorem dt_X4_amount_1 : dOk cX4_amount T_X4_amount_1 := by unfold dOk; decide +kernel
def T_X4_amount_2 : DT := [(54, .getfield 22, 3), (57, .iload_n 3, 1), (58, .iaload, 1), (59, .invokevirtual 45, 3), (62, .istore 4, 2), (64, .aload_n 0, 1), (65, .getfield 41, 3), (68, .ifCond .eq 7, 3), (71, .iconst 0, 1), (72, .goto 13, 3), (75, .iconst 0, 1), (76, .iload_n 2, 1), (77, .iload 4, 2), (79, .invokestatic 49, 3), (82, .invokestatic 54, 3), (85, .ireturn, 1)]
theorem dt_X4_amount_2 : dOk cX4_amount T_X4_amount_2 := by unfold dOk; decide +kernel
def T_X4_amount_3 : DT := [(86, .iinc 3 1, 3), (89, .goto (-87), 3), (92, .iconst 0, 1), (93, .ireturn, 1)]
theorem dt_X4_amount_3 : dOk cX4_amount T_X4_amount_3 := by unfold dOk; decide +kernel
section
variable {v : ZV} {l : Launch} {p : Program} {e : Env} {R : Room} {s : State} {m : MethodId} {args : Array Value} {below : List Frame} {meth : Method} {c : Code} {Q : State → Prop} {res : (Int32 × Hp)} 
set_option maxRecDepth 20000 in
theorem lkB_X4_amount_2 (hi : zInj wC v) (xc : XC wC v) (nx : NXC v) (X : Cx wC v p R s m args c 0 0 cX4_amount 5 RX4 6) (rt : Rt wC v p l e R s m args below meth c 0 0 Q cX4_amount false (some (.int res.1)) res.2) {k2 : Nat → Int32 → Int32 → Int32 → Hp → Option (Int32 × Hp)} {k46 : Nat → Int32 → Int32 → Hp → Option (Int32 × Hp)} {r0 : Nat} {x1 : Int32} {x2 : Int32} {x3 : Int32} {σ : Hp} (hr0 : isL r0 = true) (hk2 : ∀ (r0 : Nat) (x1 : Int32) (x2 : Int32) (x3 : Int32) (σ : Hp), (hr0 : isL r0 = true) → k2 r0 x1 x2 x3 σ = some res → Go wC v p l e R s m args below meth c 0 0 Q 5 2 [(0, .ref r0), (1, .int x1), (2, .int x2), (3, .int x3)] [] σ) (hk46 : ∀ (r0 : Nat) (x2 : Int32) (x3 : Int32) (σ : Hp), (hr0 : isL r0 = true) → k46 r0 x2 x3 σ = some res → Go wC v p l e R s m args below meth c 0 0 Q 5 46 [(0, .ref r0), (2, .int x2), (3, .int x3)] [] σ) (h : B_X4_amount_2  k2 k46 r0 x1 x2 x3 σ = some res) : Go wC v p l e R s m args below meth c 0 0 Q 5 2 [(0, .ref r0), (1, .int x1), (2, .int x2), (3, .int x3)] [] σ := by
  unfold B_X4_amount_2 at h
  refine go_iload_n X 3 (dk dt_X4_amount_0 2 rfl) rfl rfl ?_
  refine go_aload_n X 0 (dk dt_X4_amount_0 3 rfl) rfl rfl ?_
  refine go_geti X fo_X4_34 (lL hr0) (sL hr0) (fL_8 hr0) (dk dt_X4_amount_0 4 rfl) ?_
  refine go_icmp_ge (tgt := 92) X (dk dt_X4_amount_0 5 rfl) (by decide) h (fun h => ?_) (fun h => ?_)
  · refine go_iconst X (dk dt_X4_amount_3 2 rfl) ci_0 ?_
    exact go_iret rt (dk dt_X4_amount_3 3 rfl) h (fun hh => nomatch hh)
  · refine go_aload_n X 0 (dk dt_X4_amount_0 6 rfl) rfl rfl ?_
    refine go_getr X fo_X4_16 (lL hr0) (sL hr0) (fL_2 hr0) (dk dt_X4_amount_0 7 rfl) ?_
    refine go_iload_n X 3 (dk dt_X4_amount_0 8 rfl) rfl rfl ?_
    refine go_iald X (lLa_3 hr0) (sLa_3 hr0) (dk dt_X4_amount_0 9 rfl) h (fun h => ?_)
    refine go_iload_n X 1 (dk dt_X4_amount_0 10 rfl) rfl rfl ?_
    refine go_icmp_ne (tgt := 86) X (dk dt_X4_amount_0 11 rfl) (by decide) h (fun h => ?_) (fun h => ?_)
    · refine go_iinc (lv' := [(3, .int (x3 + (1 : Int32))), (0, .ref r0), (1, .int x1), (2, .int x2)]) X 3 (dk dt_X4_amount_3 0 rfl) rfl ci_1 (by decide) rfl ?_
      refine go_goto (tgt := 2) X (dk dt_X4_amount_3 1 rfl) (by decide) ?_
      refine go_sub [1, 2, 3, 0] rfl ?_
      exact hk2 _ _ _ _ _ hr0 h
    · refine go_aload_n X 0 (dk dt_X4_amount_0 12 rfl) rfl rfl ?_
      refine go_aload_n X 0 (dk dt_X4_amount_0 13 rfl) rfl rfl ?_
      refine go_getr X fo_X4_22 (lL hr0) (sL hr0) (fL_4 hr0) (dk dt_X4_amount_0 14 rfl) ?_
      refine go_iload_n X 3 (dk dt_X4_amount_0 15 rfl) rfl rfl ?_
      refine go_iald X (lLa_5 hr0) (sLa_5 hr0) (dk dt_X4_amount_1 0 rfl) h (fun h => ?_)
      refine go_aload_n X 0 (dk dt_X4_amount_1 1 rfl) rfl rfl ?_
      refine go_getr X fo_X4_25 (lL hr0) (sL hr0) (fL_5 hr0) (dk dt_X4_amount_1 2 rfl) ?_
      refine go_iload_n X 3 (dk dt_X4_amount_1 3 rfl) rfl rfl ?_
      refine go_iald X (lLa_6 hr0) (sLa_6 hr0) (dk dt_X4_amount_1 4 rfl) h (fun h => ?_)
      refine go_Vi (As := [.int (σ (r0 + 5) (Int32.toNatClampNeg x3)), .int (σ (r0 + 6) (Int32.toNatClampNeg x3))]) (rest := []) X vo_X4_45 (fun q hq => ct_X4_reckon hi xc nx hr0 hq) (by decide) rfl (lL hr0) (sL hr0) rfl rfl (Nat.le_of_ble_eq_true rfl) (dk dt_X4_amount_1 5 rfl) h (fun q33 h => ?_)
      refine go_if_eq (tgt := 86) X (dk dt_X4_amount_1 6 rfl) (by decide) h (fun h => ?_) (fun h => ?_)
      · refine go_iinc (lv' := [(3, .int (x3 + (1 : Int32))), (0, .ref r0), (1, .int x1), (2, .int x2)]) X 3 (dk dt_X4_amount_3 0 rfl) rfl ci_1 (by decide) rfl ?_
        refine go_goto (tgt := 2) X (dk dt_X4_amount_3 1 rfl) (by decide) ?_
        refine go_sub [1, 2, 3, 0] rfl ?_
        exact hk2 _ _ _ _ _ hr0 h
      · refine go_aload_n X 0 (dk dt_X4_amount_1 7 rfl) rfl rfl ?_
        refine go_geti X fo_X4_41 (lL hr0) (sL hr0) (fL_10 hr0) (dk dt_X4_amount_1 8 rfl) ?_
        refine go_if_ne (tgt := 86) X (dk dt_X4_amount_1 9 rfl) (by decide) h (fun h => ?_) (fun h => ?_)
        · refine go_iinc (lv' := [(3, .int (x3 + (1 : Int32))), (0, .ref r0), (1, .int x1), (2, .int x2)]) X 3 (dk dt_X4_amount_3 0 rfl) rfl ci_1 (by decide) rfl ?_
          refine go_goto (tgt := 2) X (dk dt_X4_amount_3 1 rfl) (by decide) ?_
          refine go_sub [1, 2, 3, 0] rfl ?_
          exact hk2 _ _ _ _ _ hr0 h
        · refine go_sub [0, 2, 3] rfl ?_
          exact hk46 _ _ _ _ hr0 h
set_option maxRecDepth 20000 in
theorem lkL_X4_amount_2 (hi : zInj wC v) (xc : XC wC v) (nx : NXC v) (X : Cx wC v p R s m args c 0 0 cX4_amount 5 RX4 6) (rt : Rt wC v p l e R s m args below meth c 0 0 Q cX4_amount false (some (.int res.1)) res.2) {k46 : Nat → Int32 → Int32 → Hp → Option (Int32 × Hp)} (hk46 : ∀ (r0 : Nat) (x2 : Int32) (x3 : Int32) (σ : Hp), (hr0 : isL r0 = true) → k46 r0 x2 x3 σ = some res → Go wC v p l e R s m args below meth c 0 0 Q 5 46 [(0, .ref r0), (2, .int x2), (3, .int x3)] [] σ) (n : Nat) : ∀ {r0 : Nat} {x1 : Int32} {x2 : Int32} {x3 : Int32} {σ : Hp}, (hr0 : isL r0 = true) → L_X4_amount_2  k46 n r0 x1 x2 x3 σ = some res → Go wC v p l e R s m args below meth c 0 0 Q 5 2 [(0, .ref r0), (1, .int x1), (2, .int x2), (3, .int x3)] [] σ := by
  induction n with
  | zero => intro r0 x1 x2 x3 σ hr0 h; cases h
  | succ n ih =>
    intro r0 x1 x2 x3 σ hr0 h
    exact lkB_X4_amount_2 hi xc nx X rt hr0 (fun _ _ _ _ _ hq0 hh => ih hq0 hh) hk46 h
set_option maxRecDepth 20000 in
theorem lkJ_X4_amount_46 (hi : zInj wC v) (xc : XC wC v) (nx : NXC v) (X : Cx wC v p R s m args c 0 0 cX4_amount 5 RX4 6) (rt : Rt wC v p l e R s m args below meth c 0 0 Q cX4_amount false (some (.int res.1)) res.2)  {r0 : Nat} {x2 : Int32} {x3 : Int32} {σ : Hp} (hr0 : isL r0 = true)  (h : J_X4_amount_46   r0 x2 x3 σ = some res) : Go wC v p l e R s m args below meth c 0 0 Q 5 46 [(0, .ref r0), (2, .int x2), (3, .int x3)] [] σ := by
  unfold J_X4_amount_46 at h
  refine go_aload_n X 0 (dk dt_X4_amount_1 10 rfl) rfl rfl ?_
  refine go_aload_n X 0 (dk dt_X4_amount_1 11 rfl) rfl rfl ?_
  refine go_getr X fo_X4_19 (lL hr0) (sL hr0) (fL_3 hr0) (dk dt_X4_amount_1 12 rfl) ?_
  refine go_iload_n X 2 (dk dt_X4_amount_1 13 rfl) rfl rfl ?_
  refine go_iald X (lLa_4 hr0) (sLa_4 hr0) (dk dt_X4_amount_1 14 rfl) h (fun h => ?_)
  refine go_aload_n X 0 (dk dt_X4_amount_1 15 rfl) rfl rfl ?_
  refine go_getr X fo_X4_22 (lL hr0) (sL hr0) (fL_4 hr0) (dk dt_X4_amount_2 0 rfl) ?_
  refine go_iload_n X 2 (dk dt_X4_amount_2 1 rfl) rfl rfl ?_
  refine go_iald X (lLa_5 hr0) (sLa_5 hr0) (dk dt_X4_amount_2 2 rfl) h (fun h => ?_)
  refine go_Vi (As := [.int (σ (r0 + 4) (Int32.toNatClampNeg x3)), .int (σ (r0 + 5) (Int32.toNatClampNeg x3))]) (rest := []) X vo_X4_45 (fun q hq => ct_X4_reckon hi xc nx hr0 hq) (by decide) rfl (lL hr0) (sL hr0) rfl rfl (Nat.le_of_ble_eq_true rfl) (dk dt_X4_amount_2 3 rfl) h (fun q59 h => ?_)
  refine go_istore (lv' := [(4, .int q59.1), (0, .ref r0), (2, .int x2), (3, .int x3)]) X (dk dt_X4_amount_2 4 rfl) (by decide) rfl ?_
  refine go_aload_n X 1 (dk dt_X4_amount_2 5 rfl) rfl rfl ?_
  refine go_geti X fo_X4_41 (lL hr0) (sL hr0) (fL_10 hr0) (dk dt_X4_amount_2 6 rfl) ?_
  refine go_if_eq (tgt := 75) X (dk dt_X4_amount_2 7 rfl) (by decide) h (fun h => ?_) (fun h => ?_)
  · refine go_iconst X (dk dt_X4_amount_2 10 rfl) ci_0 ?_
    refine go_iload_n X 2 (dk dt_X4_amount_2 11 rfl) rfl rfl ?_
    refine go_iload X 0 (dk dt_X4_amount_2 12 rfl) rfl ?_
    refine go_mmin X mo_X4_49 (by decide) (Nat.le_of_ble_eq_true rfl) (dk dt_X4_amount_2 13 rfl) ?_
    refine go_mmax X mo_X4_54 (by decide) (Nat.le_of_ble_eq_true rfl) (dk dt_X4_amount_2 14 rfl) ?_
    exact go_iret rt (dk dt_X4_amount_2 15 rfl) h (fun hh => nomatch hh)
  · refine go_iconst X (dk dt_X4_amount_2 8 rfl) ci_0 ?_
    refine go_goto (tgt := 85) X (dk dt_X4_amount_2 9 rfl) (by decide) ?_
    exact go_iret rt (dk dt_X4_amount_2 15 rfl) h (fun hh => nomatch hh)
set_option maxRecDepth 20000 in
theorem lkF_X4_amount (hi : zInj wC v) (xc : XC wC v) (nx : NXC v) (X : Cx wC v p R s m args c 0 0 cX4_amount 5 RX4 6) (rt : Rt wC v p l e R s m args below meth c 0 0 Q cX4_amount false (some (.int res.1)) res.2) {t : Nat} {a1 : Int32} {a2 : Int32} {σ : Hp} (ht : isL t = true) (h : F_X4_amount  t a1 a2 σ = some res) : Go wC v p l e R s m args below meth c 0 0 Q 5 0 [(0, .ref t), (1, .int a1), (2, .int a2)] [] σ := by
  unfold F_X4_amount at h
  refine go_iconst X (dk dt_X4_amount_0 0 rfl) ci_0 ?_
  refine go_istore_n (lv' := [(3, .int (0 : Int32)), (0, .ref t), (1, .int a1), (2, .int a2)]) X (dk dt_X4_amount_0 1 rfl) rfl (by decide) rfl ?_
  refine go_sub [1, 2, 3, 0] rfl ?_
  exact lkL_X4_amount_2 hi xc nx X rt (fun _ _ _ _ hq0 hh => lkJ_X4_amount_46 hi xc nx X rt hq0  hh) FU ht h
set_option maxRecDepth 20000 in
theorem ct_X4_amount (hi : zInj wC v) (xc : XC wC v) (nx : NXC v)  {t : Nat} {a1 : Int32} {a2 : Int32} {σ : Hp} (ht : isL t = true) {q : (Int32 × Hp)} (h : F_X4_amount  t a1 a2 σ = some q) : Ct wC v l yX4_amount cX4_amount 5 (some .int) 6 [.ref t, .int a1, .int a2] σ (some (.int q.1)) q.2 :=
  Ct.intro false (by decide) hi xc (Nat.le_of_ble_eq_true rfl) rfl (fun p e R s m args below meth c Q X rt => lkF_X4_amount hi xc nx X rt ht h)
end
def T_X2_drinkAndYawn_0 : DT := [(0, .aload_n 0, 1), (1, .aload_n 1, 1), (2, .aload_n 2, 1), (3, .iload_n 3, 1), (4, .invokevirtual 77, 3), (7, .aload_n 2, 1), (8, .bipush 98, 2), (10, .bipush 99, 2), (12, .invokevirtual 94, 3), (15, .istore 4, 2), (17, .aload_n 1, 1), (18, .getfield 83, 3), (21, .iload_n 3, 1), (22, .iaload, 1), (23, .aload_n 2, 1), (24, .bipush 116, 2)]
theorem dt_X2_drinkAndYawn_0 : dOk cX2_drinkAndYawn T_X2_drinkAndYawn_0 := by unfold dOk; decide +kernel
def T_X2_drinkAndYawn_1 : DT := [(26, .bipush 99, 2), (28, .invokevirtual 94, 3), (31, .invokestatic 98, 3), (34, .istore 5, 2), (36, .aload_n 1, 1), (37, .getfield 80, 3), (40, .iload_n 3, 1), (41, .bipush 99, 2), (43, .aload_n 1, 1), (44, .getfield 80, 3), (47, .iload_n 3, 1), (48, .iaload, 1), (49, .iload 4, 2), (51, .iadd, 1), (52, .invokestatic 98, 3), (55, .iastore, 1)]
theorem dt_X2_drinkAndYawn_1 : dOk cX2_drinkAndYawn T_X2_drinkAndYawn_1 := by unfold dOk; decide +kernel
def T_X2_drinkAndYawn_2 : DT := [(56, .aload_n 1, 1), (57, .getfield 83, 3), (60, .iload_n 3, 1), (61, .dup2, 1), (62, .iaload, 1), (63, .iload 5, 2), (65, .isub, 1), (66, .iastore, 1), (67, .aload_n 0, 1), (68, .dup, 1), (69, .getfield 22, 3), (72, .iload 5, 2), (74, .iadd, 1), (75, .putfield 22, 3), (78, .return_, 1)]
theorem dt_X2_drinkAndYawn_2 : dOk cX2_drinkAndYawn T_X2_drinkAndYawn_2 := by unfold dOk; decide +kernel
section
variable {v : ZV} {l : Launch} {p : Program} {e : Env} {R : Room} {s : State} {m : MethodId} {args : Array Value} {below : List Frame} {meth : Method} {c : Code} {Q : State → Prop} {res : Hp} 
set_option maxRecDepth 20000 in
theorem lkF_X2_drinkAndYawn (hi : zInj wC v) (xc : XC wC v) (nx : NXC v) (X : Cx wC v p R s m args c 0 0 cX2_drinkAndYawn 6 RX2 8) (rt : Rt wC v p l e R s m args below meth c 0 0 Q cX2_drinkAndYawn false none res) {a1 : Nat} {a2 : Nat} {a3 : Int32} {σ : Hp} (ha1 : isW a1 = true) (ha2 : isL a2 = true) (h : F_X2_drinkAndYawn  a1 a2 a3 σ = some res) : Go wC v p l e R s m args below meth c 0 0 Q 6 0 [(0, .ref 26), (1, .ref a1), (2, .ref a2), (3, .int a3)] [] σ := by
  unfold F_X2_drinkAndYawn at h
  refine go_aload_n X 0 (dk dt_X2_drinkAndYawn_0 0 rfl) rfl rfl ?_
  refine go_aload_n X 1 (dk dt_X2_drinkAndYawn_0 1 rfl) rfl rfl ?_
  refine go_aload_n X 2 (dk dt_X2_drinkAndYawn_0 2 rfl) rfl rfl ?_
  refine go_iload_n X 3 (dk dt_X2_drinkAndYawn_0 3 rfl) rfl rfl ?_
  refine go_Vv (As := [.ref a1, .ref a2, .int a3]) (rest := []) X vo_X2_77 (fun q hq => ct_X2_look hi xc nx ha1 ha2 hq) (by decide) rfl lC_26 sC_26 rfl rfl (Nat.le_of_ble_eq_true rfl) (dk dt_X2_drinkAndYawn_0 4 rfl) h (fun q4 h => ?_)
  refine go_aload_n X 2 (dk dt_X2_drinkAndYawn_0 5 rfl) rfl rfl ?_
  refine go_bipush X (dk dt_X2_drinkAndYawn_0 6 rfl) cb_98 ?_
  refine go_bipush X (dk dt_X2_drinkAndYawn_0 7 rfl) cb_99 ?_
  refine go_Vi (As := [.int (98 : Int32), .int (99 : Int32)]) (rest := []) X vo_X2_94 (fun q hq => ct_X4_amount hi xc nx ha2 hq) (by decide) rfl (lL ha2) (sL ha2) rfl rfl (Nat.le_of_ble_eq_true rfl) (dk dt_X2_drinkAndYawn_0 8 rfl) h (fun q12 h => ?_)
  refine go_istore (lv' := [(4, .int q12.1), (0, .ref 26), (1, .ref a1), (2, .ref a2), (3, .int a3)]) X (dk dt_X2_drinkAndYawn_0 9 rfl) (by decide) rfl ?_
  refine go_aload_n X 2 (dk dt_X2_drinkAndYawn_0 10 rfl) rfl rfl ?_
  refine go_getr X fo_X2_83 (lW ha1) (sW ha1) (fW_2 ha1) (dk dt_X2_drinkAndYawn_0 11 rfl) ?_
  refine go_iload_n X 4 (dk dt_X2_drinkAndYawn_0 12 rfl) rfl rfl ?_
  refine go_iald X (lWa_3 ha1) (sWa_3 ha1) (dk dt_X2_drinkAndYawn_0 13 rfl) h (fun h => ?_)
  refine go_aload_n X 3 (dk dt_X2_drinkAndYawn_0 14 rfl) rfl rfl ?_
  refine go_bipush X (dk dt_X2_drinkAndYawn_0 15 rfl) cb_116 ?_
  refine go_bipush X (dk dt_X2_drinkAndYawn_1 0 rfl) cb_99 ?_
  refine go_Vi (As := [.int (116 : Int32), .int (99 : Int32)]) (rest := [.int (q12.2 (a1 + 3) (Int32.toNatClampNeg a3))]) X vo_X2_94 (fun q hq => ct_X4_amount hi xc nx ha2 hq) (by decide) rfl (lL ha2) (sL ha2) rfl rfl (Nat.le_of_ble_eq_true rfl) (dk dt_X2_drinkAndYawn_1 1 rfl) h (fun q28 h => ?_)
  refine go_mmin X mo_X2_98 (by decide) (Nat.le_of_ble_eq_true rfl) (dk dt_X2_drinkAndYawn_1 2 rfl) ?_
  refine go_istore (lv' := [(5, .int (jmin (q12.2 (a1 + 3) (Int32.toNatClampNeg a3)) q28.1)), (4, .int q12.1), (0, .ref 26), (1, .ref a1), (2, .ref a2), (3, .int a3)]) X (dk dt_X2_drinkAndYawn_1 3 rfl) (by decide) rfl ?_
  refine go_aload_n X 3 (dk dt_X2_drinkAndYawn_1 4 rfl) rfl rfl ?_
  refine go_getr X fo_X2_80 (lW ha1) (sW ha1) (fW_1 ha1) (dk dt_X2_drinkAndYawn_1 5 rfl) ?_
  refine go_iload_n X 5 (dk dt_X2_drinkAndYawn_1 6 rfl) rfl rfl ?_
  refine go_bipush X (dk dt_X2_drinkAndYawn_1 7 rfl) cb_99 ?_
  refine go_aload_n X 3 (dk dt_X2_drinkAndYawn_1 8 rfl) rfl rfl ?_
  refine go_getr X fo_X2_80 (lW ha1) (sW ha1) (fW_1 ha1) (dk dt_X2_drinkAndYawn_1 9 rfl) ?_
  refine go_iload_n X 5 (dk dt_X2_drinkAndYawn_1 10 rfl) rfl rfl ?_
  refine go_iald X (lWa_2 ha1) (sWa_2 ha1) (dk dt_X2_drinkAndYawn_1 11 rfl) h (fun h => ?_)
  refine go_iload X 1 (dk dt_X2_drinkAndYawn_1 12 rfl) rfl ?_
  refine go_iadd X (dk dt_X2_drinkAndYawn_1 13 rfl) ?_
  refine go_mmin X mo_X2_98 (by decide) (Nat.le_of_ble_eq_true rfl) (dk dt_X2_drinkAndYawn_1 14 rfl) ?_
  refine go_iast X (lWa_2 ha1) (sWa_2 ha1) (dk dt_X2_drinkAndYawn_1 15 rfl) h (fun h => ?_)
  refine go_aload_n X 3 (dk dt_X2_drinkAndYawn_2 0 rfl) rfl rfl ?_
  refine go_getr X fo_X2_83 (lW ha1) (sW ha1) (fW_2 ha1) (dk dt_X2_drinkAndYawn_2 1 rfl) ?_
  refine go_iload_n X 5 (dk dt_X2_drinkAndYawn_2 2 rfl) rfl rfl ?_
  refine go_dup2 X (dk dt_X2_drinkAndYawn_2 3 rfl) rfl rfl ?_
  refine go_iald X (lWa_3 ha1) (sWa_3 ha1) (dk dt_X2_drinkAndYawn_2 4 rfl) h (fun h => ?_)
  refine go_iload X 0 (dk dt_X2_drinkAndYawn_2 5 rfl) rfl ?_
  refine go_isub X (dk dt_X2_drinkAndYawn_2 6 rfl) ?_
  refine go_iast X (lWa_3 ha1) (sWa_3 ha1) (dk dt_X2_drinkAndYawn_2 7 rfl) h (fun h => ?_)
  refine go_aload_n X 2 (dk dt_X2_drinkAndYawn_2 8 rfl) rfl rfl ?_
  refine go_dup X (dk dt_X2_drinkAndYawn_2 9 rfl) rfl ?_
  refine go_geti X fo_X2_22 lC_26 sC_26 fC_26_4 (dk dt_X2_drinkAndYawn_2 10 rfl) ?_
  refine go_iload X 0 (dk dt_X2_drinkAndYawn_2 11 rfl) rfl ?_
  refine go_iadd X (dk dt_X2_drinkAndYawn_2 12 rfl) ?_
  refine go_puti X fo_X2_22 pf_2_4 lC_26 sC_26 fC_26_4 (dk dt_X2_drinkAndYawn_2 13 rfl) ?_
  exact go_vret rt (dk dt_X2_drinkAndYawn_2 14 rfl) h
set_option maxRecDepth 20000 in
theorem ct_X2_drinkAndYawn (hi : zInj wC v) (xc : XC wC v) (nx : NXC v)  {a1 : Nat} {a2 : Nat} {a3 : Int32} {σ : Hp} (ha1 : isW a1 = true) (ha2 : isL a2 = true) {q : Hp} (h : F_X2_drinkAndYawn  a1 a2 a3 σ = some q) : Ct wC v l yX2_drinkAndYawn cX2_drinkAndYawn 6 none 8 [.ref 26, .ref a1, .ref a2, .int a3] σ none q :=
  Ct.intro false (by decide) hi xc (Nat.le_of_ble_eq_true rfl) rfl (fun p e R s m args below meth c Q X rt => lkF_X2_drinkAndYawn hi xc nx X rt ha1 ha2 h)
end
def T_X4_sendsIn_0 : DT := [(0, .iconst 0, 1), (1, .istore_n 1, 1), (2, .iload_n 1, 1), (3, .aload_n 0, 1), (4, .getfield 34, 3), (7, .if_icmp .ge 48, 3), (10, .aload_n 0, 1), (11, .getfield 16, 3), (14, .iload_n 1, 1), (15, .iaload, 1), (16, .bipush 120, 2), (18, .if_icmp .ne 31, 3), (21, .aload_n 0, 1), (22, .aload_n 0, 1), (23, .getfield 22, 3), (26, .iload_n 1, 1)]
theorem dt_X4_sendsIn_0 : dOk cX4_sendsIn T_X4_sendsIn_0 := by unfold dOk; decide +kernel
def T_X4_sendsIn_1 : DT := [(27, .iaload, 1), (28, .aload_n 0, 1), (29, .getfield 25, 3), (32, .iload_n 1, 1), (33, .iaload, 1), (34, .invokevirtual 45, 3), (37, .ifCond .eq 12, 3), (40, .aload_n 0, 1), (41, .getfield 41, 3), (44, .ifCond .ne 5, 3), (47, .iconst 1, 1), (48, .ireturn, 1), (49, .iinc 1 1, 3), (52, .goto (-50), 3), (55, .iconst 0, 1), (56, .ireturn, 1)]
theorem dt_X4_sendsIn_1 : dOk cX4_sendsIn T_X4_sendsIn_1 := by unfold dOk; decide +kernel
section
variable {v : ZV} {l : Launch} {p : Program} {e : Env} {R : Room} {s : State} {m : MethodId} {args : Array Value} {below : List Frame} {meth : Method} {c : Code} {Q : State → Prop} {res : (Int32 × Hp)} 
set_option maxRecDepth 20000 in
theorem lkB_X4_sendsIn_2 (hi : zInj wC v) (xc : XC wC v) (nx : NXC v) (X : Cx wC v p R s m args c 0 0 cX4_sendsIn 2 RX4 6) (rt : Rt wC v p l e R s m args below meth c 0 0 Q cX4_sendsIn true (some (.int res.1)) res.2) {k2 : Nat → Int32 → Hp → Option (Int32 × Hp)} {r0 : Nat} {x1 : Int32} {σ : Hp} (hr0 : isL r0 = true) (hk2 : ∀ (r0 : Nat) (x1 : Int32) (σ : Hp), (hr0 : isL r0 = true) → k2 r0 x1 σ = some res → Go wC v p l e R s m args below meth c 0 0 Q 2 2 [(0, .ref r0), (1, .int x1)] [] σ) (h : B_X4_sendsIn_2  k2 r0 x1 σ = some res) : Go wC v p l e R s m args below meth c 0 0 Q 2 2 [(0, .ref r0), (1, .int x1)] [] σ := by
  unfold B_X4_sendsIn_2 at h
  refine go_iload_n X 1 (dk dt_X4_sendsIn_0 2 rfl) rfl rfl ?_
  refine go_aload_n X 0 (dk dt_X4_sendsIn_0 3 rfl) rfl rfl ?_
  refine go_geti X fo_X4_34 (lL hr0) (sL hr0) (fL_8 hr0) (dk dt_X4_sendsIn_0 4 rfl) ?_
  refine go_icmp_ge (tgt := 55) X (dk dt_X4_sendsIn_0 5 rfl) (by decide) h (fun h => ?_) (fun h => ?_)
  · refine go_iconst X (dk dt_X4_sendsIn_1 14 rfl) ci_0 ?_
    exact go_iret rt (dk dt_X4_sendsIn_1 15 rfl) h (by decide)
  · refine go_aload_n X 0 (dk dt_X4_sendsIn_0 6 rfl) rfl rfl ?_
    refine go_getr X fo_X4_16 (lL hr0) (sL hr0) (fL_2 hr0) (dk dt_X4_sendsIn_0 7 rfl) ?_
    refine go_iload_n X 1 (dk dt_X4_sendsIn_0 8 rfl) rfl rfl ?_
    refine go_iald X (lLa_3 hr0) (sLa_3 hr0) (dk dt_X4_sendsIn_0 9 rfl) h (fun h => ?_)
    refine go_bipush X (dk dt_X4_sendsIn_0 10 rfl) cb_120 ?_
    refine go_icmp_ne (tgt := 49) X (dk dt_X4_sendsIn_0 11 rfl) (by decide) h (fun h => ?_) (fun h => ?_)
    · refine go_iinc (lv' := [(1, .int (x1 + (1 : Int32))), (0, .ref r0)]) X 1 (dk dt_X4_sendsIn_1 12 rfl) rfl ci_1 (by decide) rfl ?_
      refine go_goto (tgt := 2) X (dk dt_X4_sendsIn_1 13 rfl) (by decide) ?_
      refine go_sub [1, 0] rfl ?_
      exact hk2 _ _ _ hr0 h
    · refine go_aload_n X 0 (dk dt_X4_sendsIn_0 12 rfl) rfl rfl ?_
      refine go_aload_n X 0 (dk dt_X4_sendsIn_0 13 rfl) rfl rfl ?_
      refine go_getr X fo_X4_22 (lL hr0) (sL hr0) (fL_4 hr0) (dk dt_X4_sendsIn_0 14 rfl) ?_
      refine go_iload_n X 1 (dk dt_X4_sendsIn_0 15 rfl) rfl rfl ?_
      refine go_iald X (lLa_5 hr0) (sLa_5 hr0) (dk dt_X4_sendsIn_1 0 rfl) h (fun h => ?_)
      refine go_aload_n X 0 (dk dt_X4_sendsIn_1 1 rfl) rfl rfl ?_
      refine go_getr X fo_X4_25 (lL hr0) (sL hr0) (fL_5 hr0) (dk dt_X4_sendsIn_1 2 rfl) ?_
      refine go_iload_n X 1 (dk dt_X4_sendsIn_1 3 rfl) rfl rfl ?_
      refine go_iald X (lLa_6 hr0) (sLa_6 hr0) (dk dt_X4_sendsIn_1 4 rfl) h (fun h => ?_)
      refine go_Vi (As := [.int (σ (r0 + 5) (Int32.toNatClampNeg x1)), .int (σ (r0 + 6) (Int32.toNatClampNeg x1))]) (rest := []) X vo_X4_45 (fun q hq => ct_X4_reckon hi xc nx hr0 hq) (by decide) rfl (lL hr0) (sL hr0) rfl rfl (Nat.le_of_ble_eq_true rfl) (dk dt_X4_sendsIn_1 5 rfl) h (fun q34 h => ?_)
      refine go_if_eq (tgt := 49) X (dk dt_X4_sendsIn_1 6 rfl) (by decide) h (fun h => ?_) (fun h => ?_)
      · refine go_iinc (lv' := [(1, .int (x1 + (1 : Int32))), (0, .ref r0)]) X 1 (dk dt_X4_sendsIn_1 12 rfl) rfl ci_1 (by decide) rfl ?_
        refine go_goto (tgt := 2) X (dk dt_X4_sendsIn_1 13 rfl) (by decide) ?_
        refine go_sub [1, 0] rfl ?_
        exact hk2 _ _ _ hr0 h
      · refine go_aload_n X 0 (dk dt_X4_sendsIn_1 7 rfl) rfl rfl ?_
        refine go_geti X fo_X4_41 (lL hr0) (sL hr0) (fL_10 hr0) (dk dt_X4_sendsIn_1 8 rfl) ?_
        refine go_if_ne (tgt := 49) X (dk dt_X4_sendsIn_1 9 rfl) (by decide) h (fun h => ?_) (fun h => ?_)
        · refine go_iinc (lv' := [(1, .int (x1 + (1 : Int32))), (0, .ref r0)]) X 1 (dk dt_X4_sendsIn_1 12 rfl) rfl ci_1 (by decide) rfl ?_
          refine go_goto (tgt := 2) X (dk dt_X4_sendsIn_1 13 rfl) (by decide) ?_
          refine go_sub [1, 0] rfl ?_
          exact hk2 _ _ _ hr0 h
        · refine go_iconst X (dk dt_X4_sendsIn_1 10 rfl) ci_1 ?_
          exact go_iret rt (dk dt_X4_sendsIn_1 11 rfl) h (by decide)
set_option maxRecDepth 20000 in
theorem lkL_X4_sendsIn_2 (hi : zInj wC v) (xc : XC wC v) (nx : NXC v) (X : Cx wC v p R s m args c 0 0 cX4_sendsIn 2 RX4 6) (rt : Rt wC v p l e R s m args below meth c 0 0 Q cX4_sendsIn true (some (.int res.1)) res.2)   (n : Nat) : ∀ {r0 : Nat} {x1 : Int32} {σ : Hp}, (hr0 : isL r0 = true) → L_X4_sendsIn_2   n r0 x1 σ = some res → Go wC v p l e R s m args below meth c 0 0 Q 2 2 [(0, .ref r0), (1, .int x1)] [] σ := by
  induction n with
  | zero => intro r0 x1 σ hr0 h; cases h
  | succ n ih =>
    intro r0 x1 σ hr0 h
    exact lkB_X4_sendsIn_2 hi xc nx X rt hr0 (fun _ _ _ hq0 hh => ih hq0 hh) h
set_option maxRecDepth 20000 in
theorem lkF_X4_sendsIn (hi : zInj wC v) (xc : XC wC v) (nx : NXC v) (X : Cx wC v p R s m args c 0 0 cX4_sendsIn 2 RX4 6) (rt : Rt wC v p l e R s m args below meth c 0 0 Q cX4_sendsIn true (some (.int res.1)) res.2) {t : Nat} {σ : Hp} (ht : isL t = true) (h : F_X4_sendsIn  t σ = some res) : Go wC v p l e R s m args below meth c 0 0 Q 2 0 [(0, .ref t)] [] σ := by
  unfold F_X4_sendsIn at h
  refine go_iconst X (dk dt_X4_sendsIn_0 0 rfl) ci_0 ?_
  refine go_istore_n (lv' := [(1, .int (0 : Int32)), (0, .ref t)]) X (dk dt_X4_sendsIn_0 1 rfl) rfl (by decide) rfl ?_
  refine go_sub [1, 0] rfl ?_
  exact lkL_X4_sendsIn_2 hi xc nx X rt  FU ht h
set_option maxRecDepth 20000 in
theorem ct_X4_sendsIn (hi : zInj wC v) (xc : XC wC v) (nx : NXC v)  {t : Nat} {σ : Hp} (ht : isL t = true) {q : (Int32 × Hp)} (h : F_X4_sendsIn  t σ = some q) : Ct wC v l yX4_sendsIn cX4_sendsIn 2 (some .boolean) 6 [.ref t] σ (some (.int q.1)) q.2 :=
  Ct.intro true (by decide) hi xc (Nat.le_of_ble_eq_true rfl) rfl (fun p e R s m args below meth c Q X rt => lkF_X4_sendsIn hi xc nx X rt ht h)
end
def T_X10_draw_0 : DT := [(0, .aload_n 0, 1), (1, .sipush 25173, 3), (4, .aload_n 0, 1), (5, .getfield 34, 3), (8, .imul, 1), (9, .sipush 13849, 3), (12, .iadd, 1), (13, .ldc 60, 2), (15, .iand, 1), (16, .putfield 34, 3), (19, .aload_n 0, 1), (20, .getfield 34, 3), (23, .bipush 10, 2), (25, .irem, 1), (26, .ireturn, 1)]
theorem dt_X10_draw_0 : dOk cX10_draw T_X10_draw_0 := by unfold dOk; decide +kernel
section
variable {v : ZV} {l : Launch} {p : Program} {e : Env} {R : Room} {s : State} {m : MethodId} {args : Array Value} {below : List Frame} {meth : Method} {c : Code} {Q : State → Prop} {res : (Int32 × Hp)} 
set_option maxRecDepth 20000 in
theorem lkF_X10_draw (hi : zInj wC v) (xc : XC wC v) (nx : NXC v) (X : Cx wC v p R s m args c 0 0 cX10_draw 1 RX10 2) (rt : Rt wC v p l e R s m args below meth c 0 0 Q cX10_draw false (some (.int res.1)) res.2) {t : Nat} {σ : Hp} (ht : isW t = true) (h : F_X10_draw  t σ = some res) : Go wC v p l e R s m args below meth c 0 0 Q 1 0 [(0, .ref t)] [] σ := by
  unfold F_X10_draw at h
  refine go_aload_n X 0 (dk dt_X10_draw_0 0 rfl) rfl rfl ?_
  refine go_sipush X (dk dt_X10_draw_0 1 rfl) cs_25173 ?_
  refine go_aload_n X 0 (dk dt_X10_draw_0 2 rfl) rfl rfl ?_
  refine go_geti X fo_X10_34 (lW ht) (sW ht) (fW_7 ht) (dk dt_X10_draw_0 3 rfl) ?_
  refine go_imul X (dk dt_X10_draw_0 4 rfl) ?_
  refine go_sipush X (dk dt_X10_draw_0 5 rfl) cs_13849 ?_
  refine go_iadd X (dk dt_X10_draw_0 6 rfl) ?_
  refine go_ldc X wd_867 (dk dt_X10_draw_0 7 rfl) ?_
  refine go_iand X (dk dt_X10_draw_0 8 rfl) ?_
  refine go_puti X fo_X10_34 pf_10_7 (lW ht) (sW ht) (fW_7 ht) (dk dt_X10_draw_0 9 rfl) ?_
  refine go_aload_n X 0 (dk dt_X10_draw_0 10 rfl) rfl rfl ?_
  refine go_geti X fo_X10_34 (lW ht) (sW ht) (fW_7 ht) (dk dt_X10_draw_0 11 rfl) ?_
  refine go_bipush X (dk dt_X10_draw_0 12 rfl) cb_10 ?_
  refine go_iremL X (dk dt_X10_draw_0 13 rfl) (by decide) ?_
  exact go_iret rt (dk dt_X10_draw_0 14 rfl) h (fun hh => nomatch hh)
set_option maxRecDepth 20000 in
theorem ct_X10_draw (hi : zInj wC v) (xc : XC wC v) (nx : NXC v)  {t : Nat} {σ : Hp} (ht : isW t = true) {q : (Int32 × Hp)} (h : F_X10_draw  t σ = some q) : Ct wC v l yX10_draw cX10_draw 1 (some .int) 2 [.ref t] σ (some (.int q.1)) q.2 :=
  Ct.intro false (by decide) hi xc (Nat.le_of_ble_eq_true rfl) rfl (fun p e R s m args below meth c Q X rt => lkF_X10_draw hi xc nx X rt ht h)
end
def T_X2_stayOrGo_0 : DT := [(0, .aload_n 0, 1), (1, .aload_n 1, 1), (2, .aload_n 2, 1), (3, .iload_n 3, 1), (4, .invokevirtual 77, 3), (7, .aload_n 1, 1), (8, .getfield 80, 3), (11, .iload_n 3, 1), (12, .iaload, 1), (13, .bipush 99, 2), (15, .if_icmp .ge 19, 3), (18, .aload_n 1, 1), (19, .getfield 83, 3), (22, .iload_n 3, 1), (23, .iaload, 1), (24, .ifCond .le 10, 3)]
theorem dt_X2_stayOrGo_0 : dOk cX2_stayOrGo T_X2_stayOrGo_0 := by unfold dOk; decide +kernel
def T_X2_stayOrGo_1 : DT := [(27, .aload_n 2, 1), (28, .invokevirtual 86, 3), (31, .ifCond .eq 51, 3), (34, .aload_n 1, 1), (35, .getfield 61, 3), (38, .iload_n 3, 1), (39, .iconst 2, 1), (40, .iastore, 1), (41, .aload_n 0, 1), (42, .getfield 9, 3), (45, .iload_n 3, 1), (46, .iload 4, 2), (48, .iastore, 1), (49, .aload_n 0, 1), (50, .dup, 1), (51, .getfield 15, 3)]
theorem dt_X2_stayOrGo_1 : dOk cX2_stayOrGo T_X2_stayOrGo_1 := by unfold dOk; decide +kernel
def T_X2_stayOrGo_2 : DT := [(54, .iconst 1, 1), (55, .iadd, 1), (56, .putfield 15, 3), (59, .aload_n 0, 1), (60, .aload_n 0, 1), (61, .getfield 25, 3), (64, .iconst (-1), 1), (65, .if_icmp .ne 7, 3), (68, .iload_n 3, 1), (69, .goto 7, 3), (72, .aload_n 0, 1), (73, .getfield 25, 3), (76, .putfield 25, 3), (79, .goto 35, 3), (82, .aload_n 1, 1), (83, .invokevirtual 91, 3)]
theorem dt_X2_stayOrGo_2 : dOk cX2_stayOrGo T_X2_stayOrGo_2 := by unfold dOk; decide +kernel
def T_X2_stayOrGo_3 : DT := [(86, .aload_n 2, 1), (87, .bipush 119, 2), (89, .bipush 10, 2), (91, .invokevirtual 94, 3), (94, .if_icmp .ge 20, 3), (97, .aload_n 1, 1), (98, .getfield 61, 3), (101, .iload_n 3, 1), (102, .iconst 1, 1), (103, .iastore, 1), (104, .aload_n 0, 1), (105, .dup, 1), (106, .getfield 19, 3), (109, .iconst 1, 1), (110, .iadd, 1), (111, .putfield 19, 3)]
theorem dt_X2_stayOrGo_3 : dOk cX2_stayOrGo T_X2_stayOrGo_3 := by unfold dOk; decide +kernel
def T_X2_stayOrGo_4 : DT := [(114, .return_, 1)]
theorem dt_X2_stayOrGo_4 : dOk cX2_stayOrGo T_X2_stayOrGo_4 := by unfold dOk; decide +kernel
section
variable {v : ZV} {l : Launch} {p : Program} {e : Env} {R : Room} {s : State} {m : MethodId} {args : Array Value} {below : List Frame} {meth : Method} {c : Code} {Q : State → Prop} {res : Hp} 
set_option maxRecDepth 20000 in
theorem lkJ_X2_stayOrGo_34 (hi : zInj wC v) (xc : XC wC v) (nx : NXC v) (X : Cx wC v p R s m args c 0 0 cX2_stayOrGo 5 RX2 8) (rt : Rt wC v p l e R s m args below meth c 0 0 Q cX2_stayOrGo false none res)  {r1 : Nat} {x3 : Int32} {x4 : Int32} {σ : Hp} (hr1 : isW r1 = true)  (h : J_X2_stayOrGo_34   r1 x3 x4 σ = some res) : Go wC v p l e R s m args below meth c 0 0 Q 5 34 [(0, .ref 26), (1, .ref r1), (3, .int x3), (4, .int x4)] [] σ := by
  unfold J_X2_stayOrGo_34 at h
  refine go_aload_n X 1 (dk dt_X2_stayOrGo_1 3 rfl) rfl rfl ?_
  refine go_getr X fo_X2_61 (lW hr1) (sW hr1) (fW_4 hr1) (dk dt_X2_stayOrGo_1 4 rfl) ?_
  refine go_iload_n X 2 (dk dt_X2_stayOrGo_1 5 rfl) rfl rfl ?_
  refine go_iconst X (dk dt_X2_stayOrGo_1 6 rfl) ci_2 ?_
  refine go_iast X (lWa_5 hr1) (sWa_5 hr1) (dk dt_X2_stayOrGo_1 7 rfl) h (fun h => ?_)
  refine go_aload_n X 0 (dk dt_X2_stayOrGo_1 8 rfl) rfl rfl ?_
  refine go_getr X fo_X2_9 lC_26 sC_26 fC_26_1 (dk dt_X2_stayOrGo_1 9 rfl) ?_
  refine go_iload_n X 2 (dk dt_X2_stayOrGo_1 10 rfl) rfl rfl ?_
  refine go_iload X 3 (dk dt_X2_stayOrGo_1 11 rfl) rfl ?_
  refine go_iast X lC_27 sC_27 (dk dt_X2_stayOrGo_1 12 rfl) h (fun h => ?_)
  refine go_aload_n X 0 (dk dt_X2_stayOrGo_1 13 rfl) rfl rfl ?_
  refine go_dup X (dk dt_X2_stayOrGo_1 14 rfl) rfl ?_
  refine go_geti X fo_X2_15 lC_26 sC_26 fC_26_2 (dk dt_X2_stayOrGo_1 15 rfl) ?_
  refine go_iconst X (dk dt_X2_stayOrGo_2 0 rfl) ci_1 ?_
  refine go_iadd X (dk dt_X2_stayOrGo_2 1 rfl) ?_
  refine go_puti X fo_X2_15 pf_2_2 lC_26 sC_26 fC_26_2 (dk dt_X2_stayOrGo_2 2 rfl) ?_
  refine go_aload_n X 0 (dk dt_X2_stayOrGo_2 3 rfl) rfl rfl ?_
  refine go_aload_n X 0 (dk dt_X2_stayOrGo_2 4 rfl) rfl rfl ?_
  refine go_geti X fo_X2_25 lC_26 sC_26 fC_26_5 (dk dt_X2_stayOrGo_2 5 rfl) ?_
  refine go_iconst X (dk dt_X2_stayOrGo_2 6 rfl) ci_m1 ?_
  refine go_icmp_ne (tgt := 72) X (dk dt_X2_stayOrGo_2 7 rfl) (by decide) h (fun h => ?_) (fun h => ?_)
  · refine go_aload_n X 0 (dk dt_X2_stayOrGo_2 10 rfl) rfl rfl ?_
    refine go_geti X fo_X2_25 lC_26 sC_26 fC_26_5 (dk dt_X2_stayOrGo_2 11 rfl) ?_
    refine go_puti X fo_X2_25 pf_2_5 lC_26 sC_26 fC_26_5 (dk dt_X2_stayOrGo_2 12 rfl) ?_
    refine go_goto (tgt := 114) X (dk dt_X2_stayOrGo_2 13 rfl) (by decide) ?_
    exact go_vret rt (dk dt_X2_stayOrGo_4 0 rfl) h
  · refine go_iload_n X 2 (dk dt_X2_stayOrGo_2 8 rfl) rfl rfl ?_
    refine go_goto (tgt := 76) X (dk dt_X2_stayOrGo_2 9 rfl) (by decide) ?_
    refine go_puti X fo_X2_25 pf_2_5 lC_26 sC_26 fC_26_5 (dk dt_X2_stayOrGo_2 12 rfl) ?_
    refine go_goto (tgt := 114) X (dk dt_X2_stayOrGo_2 13 rfl) (by decide) ?_
    exact go_vret rt (dk dt_X2_stayOrGo_4 0 rfl) h
set_option maxRecDepth 20000 in
theorem lkF_X2_stayOrGo (hi : zInj wC v) (xc : XC wC v) (nx : NXC v) (X : Cx wC v p R s m args c 0 0 cX2_stayOrGo 5 RX2 8) (rt : Rt wC v p l e R s m args below meth c 0 0 Q cX2_stayOrGo false none res) {a1 : Nat} {a2 : Nat} {a3 : Int32} {a4 : Int32} {σ : Hp} (ha1 : isW a1 = true) (ha2 : isL a2 = true) (h : F_X2_stayOrGo  a1 a2 a3 a4 σ = some res) : Go wC v p l e R s m args below meth c 0 0 Q 5 0 [(0, .ref 26), (1, .ref a1), (2, .ref a2), (3, .int a3), (4, .int a4)] [] σ := by
  unfold F_X2_stayOrGo at h
  refine go_aload_n X 0 (dk dt_X2_stayOrGo_0 0 rfl) rfl rfl ?_
  refine go_aload_n X 1 (dk dt_X2_stayOrGo_0 1 rfl) rfl rfl ?_
  refine go_aload_n X 2 (dk dt_X2_stayOrGo_0 2 rfl) rfl rfl ?_
  refine go_iload_n X 3 (dk dt_X2_stayOrGo_0 3 rfl) rfl rfl ?_
  refine go_Vv (As := [.ref a1, .ref a2, .int a3]) (rest := []) X vo_X2_77 (fun q hq => ct_X2_look hi xc nx ha1 ha2 hq) (by decide) rfl lC_26 sC_26 rfl rfl (Nat.le_of_ble_eq_true rfl) (dk dt_X2_stayOrGo_0 4 rfl) h (fun q4 h => ?_)
  refine go_aload_n X 1 (dk dt_X2_stayOrGo_0 5 rfl) rfl rfl ?_
  refine go_getr X fo_X2_80 (lW ha1) (sW ha1) (fW_1 ha1) (dk dt_X2_stayOrGo_0 6 rfl) ?_
  refine go_iload_n X 3 (dk dt_X2_stayOrGo_0 7 rfl) rfl rfl ?_
  refine go_iald X (lWa_2 ha1) (sWa_2 ha1) (dk dt_X2_stayOrGo_0 8 rfl) h (fun h => ?_)
  refine go_bipush X (dk dt_X2_stayOrGo_0 9 rfl) cb_99 ?_
  refine go_icmp_ge (tgt := 34) X (dk dt_X2_stayOrGo_0 10 rfl) (by decide) h (fun h => ?_) (fun h => ?_)
  · refine go_sub [0, 1, 3, 4] rfl ?_
    exact lkJ_X2_stayOrGo_34 hi xc nx X rt ha1  h
  · refine go_aload_n X 1 (dk dt_X2_stayOrGo_0 11 rfl) rfl rfl ?_
    refine go_getr X fo_X2_83 (lW ha1) (sW ha1) (fW_2 ha1) (dk dt_X2_stayOrGo_0 12 rfl) ?_
    refine go_iload_n X 3 (dk dt_X2_stayOrGo_0 13 rfl) rfl rfl ?_
    refine go_iald X (lWa_3 ha1) (sWa_3 ha1) (dk dt_X2_stayOrGo_0 14 rfl) h (fun h => ?_)
    refine go_if_le (tgt := 34) X (dk dt_X2_stayOrGo_0 15 rfl) (by decide) h (fun h => ?_) (fun h => ?_)
    · refine go_sub [0, 1, 3, 4] rfl ?_
      exact lkJ_X2_stayOrGo_34 hi xc nx X rt ha1  h
    · refine go_aload_n X 2 (dk dt_X2_stayOrGo_1 0 rfl) rfl rfl ?_
      refine go_Vi (As := []) (rest := []) X vo_X2_86 (fun q hq => ct_X4_sendsIn hi xc nx ha2 hq) (by decide) rfl (lL ha2) (sL ha2) rfl rfl (Nat.le_of_ble_eq_true rfl) (dk dt_X2_stayOrGo_1 1 rfl) h (fun q28 h => ?_)
      refine go_if_eq (tgt := 82) X (dk dt_X2_stayOrGo_1 2 rfl) (by decide) h (fun h => ?_) (fun h => ?_)
      · refine go_aload_n X 1 (dk dt_X2_stayOrGo_2 14 rfl) rfl rfl ?_
        refine go_Vi (As := []) (rest := []) X vo_X2_91 (fun q hq => ct_X10_draw hi xc nx ha1 hq) (by decide) rfl (lW ha1) (sW ha1) rfl rfl (Nat.le_of_ble_eq_true rfl) (dk dt_X2_stayOrGo_2 15 rfl) h (fun q83 h => ?_)
        refine go_aload_n X 2 (dk dt_X2_stayOrGo_3 0 rfl) rfl rfl ?_
        refine go_bipush X (dk dt_X2_stayOrGo_3 1 rfl) cb_119 ?_
        refine go_bipush X (dk dt_X2_stayOrGo_3 2 rfl) cb_10 ?_
        refine go_Vi (As := [.int (119 : Int32), .int (10 : Int32)]) (rest := [.int q83.1]) X vo_X2_94 (fun q hq => ct_X4_amount hi xc nx ha2 hq) (by decide) rfl (lL ha2) (sL ha2) rfl rfl (Nat.le_of_ble_eq_true rfl) (dk dt_X2_stayOrGo_3 3 rfl) h (fun q91 h => ?_)
        refine go_icmp_ge (tgt := 114) X (dk dt_X2_stayOrGo_3 4 rfl) (by decide) h (fun h => ?_) (fun h => ?_)
        · exact go_vret rt (dk dt_X2_stayOrGo_4 0 rfl) h
        · refine go_aload_n X 1 (dk dt_X2_stayOrGo_3 5 rfl) rfl rfl ?_
          refine go_getr X fo_X2_61 (lW ha1) (sW ha1) (fW_4 ha1) (dk dt_X2_stayOrGo_3 6 rfl) ?_
          refine go_iload_n X 3 (dk dt_X2_stayOrGo_3 7 rfl) rfl rfl ?_
          refine go_iconst X (dk dt_X2_stayOrGo_3 8 rfl) ci_1 ?_
          refine go_iast X (lWa_5 ha1) (sWa_5 ha1) (dk dt_X2_stayOrGo_3 9 rfl) h (fun h => ?_)
          refine go_aload_n X 0 (dk dt_X2_stayOrGo_3 10 rfl) rfl rfl ?_
          refine go_dup X (dk dt_X2_stayOrGo_3 11 rfl) rfl ?_
          refine go_geti X fo_X2_19 lC_26 sC_26 fC_26_3 (dk dt_X2_stayOrGo_3 12 rfl) ?_
          refine go_iconst X (dk dt_X2_stayOrGo_3 13 rfl) ci_1 ?_
          refine go_iadd X (dk dt_X2_stayOrGo_3 14 rfl) ?_
          refine go_puti X fo_X2_19 pf_2_3 lC_26 sC_26 fC_26_3 (dk dt_X2_stayOrGo_3 15 rfl) ?_
          exact go_vret rt (dk dt_X2_stayOrGo_4 0 rfl) h
      · refine go_sub [0, 1, 3, 4] rfl ?_
        exact lkJ_X2_stayOrGo_34 hi xc nx X rt ha1  h
set_option maxRecDepth 20000 in
theorem ct_X2_stayOrGo (hi : zInj wC v) (xc : XC wC v) (nx : NXC v)  {a1 : Nat} {a2 : Nat} {a3 : Int32} {a4 : Int32} {σ : Hp} (ha1 : isW a1 = true) (ha2 : isL a2 = true) {q : Hp} (h : F_X2_stayOrGo  a1 a2 a3 a4 σ = some q) : Ct wC v l yX2_stayOrGo cX2_stayOrGo 5 none 8 [.ref 26, .ref a1, .ref a2, .int a3, .int a4] σ none q :=
  Ct.intro false (by decide) hi xc (Nat.le_of_ble_eq_true rfl) rfl (fun p e R s m args below meth c Q X rt => lkF_X2_stayOrGo hi xc nx X rt ha1 ha2 h)
end
def T_X10_nextWatch_0 : DT := [(0, .aload_n 0, 1), (1, .dup, 1), (2, .getfield 27, 3), (5, .iconst 1, 1), (6, .iadd, 1), (7, .putfield 27, 3), (10, .aload_n 0, 1), (11, .getfield 27, 3), (14, .iconst 5, 1), (15, .if_icmp .le 18, 3), (18, .aload_n 0, 1), (19, .iconst 0, 1), (20, .putfield 27, 3), (23, .aload_n 0, 1), (24, .dup, 1), (25, .getfield 31, 3)]
theorem dt_X10_nextWatch_0 : dOk cX10_nextWatch T_X10_nextWatch_0 := by unfold dOk; decide +kernel
def T_X10_nextWatch_1 : DT := [(28, .iconst 1, 1), (29, .iadd, 1), (30, .putfield 31, 3), (33, .return_, 1)]
theorem dt_X10_nextWatch_1 : dOk cX10_nextWatch T_X10_nextWatch_1 := by unfold dOk; decide +kernel
section
variable {v : ZV} {l : Launch} {p : Program} {e : Env} {R : Room} {s : State} {m : MethodId} {args : Array Value} {below : List Frame} {meth : Method} {c : Code} {Q : State → Prop} {res : Hp} 
set_option maxRecDepth 20000 in
theorem lkF_X10_nextWatch (hi : zInj wC v) (xc : XC wC v) (nx : NXC v) (X : Cx wC v p R s m args c 0 0 cX10_nextWatch 1 RX10 2) (rt : Rt wC v p l e R s m args below meth c 0 0 Q cX10_nextWatch false none res) {t : Nat} {σ : Hp} (ht : isW t = true) (h : F_X10_nextWatch  t σ = some res) : Go wC v p l e R s m args below meth c 0 0 Q 1 0 [(0, .ref t)] [] σ := by
  unfold F_X10_nextWatch at h
  refine go_aload_n X 0 (dk dt_X10_nextWatch_0 0 rfl) rfl rfl ?_
  refine go_dup X (dk dt_X10_nextWatch_0 1 rfl) rfl ?_
  refine go_geti X fo_X10_27 (lW ht) (sW ht) (fW_5 ht) (dk dt_X10_nextWatch_0 2 rfl) ?_
  refine go_iconst X (dk dt_X10_nextWatch_0 3 rfl) ci_1 ?_
  refine go_iadd X (dk dt_X10_nextWatch_0 4 rfl) ?_
  refine go_puti X fo_X10_27 pf_10_5 (lW ht) (sW ht) (fW_5 ht) (dk dt_X10_nextWatch_0 5 rfl) ?_
  refine go_aload_n X 0 (dk dt_X10_nextWatch_0 6 rfl) rfl rfl ?_
  refine go_geti X fo_X10_27 (lW ht) (sW ht) (fW_5 ht) (dk dt_X10_nextWatch_0 7 rfl) ?_
  refine go_iconst X (dk dt_X10_nextWatch_0 8 rfl) ci_5 ?_
  refine go_icmp_le (tgt := 33) X (dk dt_X10_nextWatch_0 9 rfl) (by decide) h (fun h => ?_) (fun h => ?_)
  · exact go_vret rt (dk dt_X10_nextWatch_1 3 rfl) h
  · refine go_aload_n X 0 (dk dt_X10_nextWatch_0 10 rfl) rfl rfl ?_
    refine go_iconst X (dk dt_X10_nextWatch_0 11 rfl) ci_0 ?_
    refine go_puti X fo_X10_27 pf_10_5 (lW ht) (sW ht) (fW_5 ht) (dk dt_X10_nextWatch_0 12 rfl) ?_
    refine go_aload_n X 0 (dk dt_X10_nextWatch_0 13 rfl) rfl rfl ?_
    refine go_dup X (dk dt_X10_nextWatch_0 14 rfl) rfl ?_
    refine go_geti X fo_X10_31 (lW ht) (sW ht) (fW_6 ht) (dk dt_X10_nextWatch_0 15 rfl) ?_
    refine go_iconst X (dk dt_X10_nextWatch_1 0 rfl) ci_1 ?_
    refine go_iadd X (dk dt_X10_nextWatch_1 1 rfl) ?_
    refine go_puti X fo_X10_31 pf_10_6 (lW ht) (sW ht) (fW_6 ht) (dk dt_X10_nextWatch_1 2 rfl) ?_
    exact go_vret rt (dk dt_X10_nextWatch_1 3 rfl) h
set_option maxRecDepth 20000 in
theorem ct_X10_nextWatch (hi : zInj wC v) (xc : XC wC v) (nx : NXC v)  {t : Nat} {σ : Hp} (ht : isW t = true) {q : Hp} (h : F_X10_nextWatch  t σ = some q) : Ct wC v l yX10_nextWatch cX10_nextWatch 1 none 2 [.ref t] σ none q :=
  Ct.intro false (by decide) hi xc (Nat.le_of_ble_eq_true rfl) rfl (fun p e R s m args below meth c Q X rt => lkF_X10_nextWatch hi xc nx X rt ht h)
end
def T_X2_passWatch_0 : DT := [(0, .aload_n 1, 1), (1, .invokevirtual 57, 3), (4, .istore 4, 2), (6, .iconst 0, 1), (7, .istore 5, 2), (9, .iload 5, 2), (11, .bipush 16, 2), (13, .if_icmp .ge 38, 3), (16, .aload_n 1, 1), (17, .getfield 61, 3), (20, .iload 5, 2), (22, .aload_n 1, 1), (23, .getfield 61, 3), (26, .iload 5, 2), (28, .iaload, 1), (29, .iconst 1, 1)]
theorem dt_X2_passWatch_0 : dOk cX2_passWatch T_X2_passWatch_0 := by unfold dOk; decide +kernel
def T_X2_passWatch_1 : DT := [(30, .if_icmp .ne 7, 3), (33, .iconst 0, 1), (34, .goto 10, 3), (37, .aload_n 1, 1), (38, .getfield 61, 3), (41, .iload 5, 2), (43, .iaload, 1), (44, .iastore, 1), (45, .iinc 5 1, 3), (48, .goto (-39), 3), (51, .iconst 0, 1), (52, .istore 5, 2), (54, .iload 5, 2), (56, .bipush 16, 2), (58, .if_icmp .ge 36, 3), (61, .aload_n 1, 1)]
theorem dt_X2_passWatch_1 : dOk cX2_passWatch T_X2_passWatch_1 := by unfold dOk; decide +kernel
def T_X2_passWatch_2 : DT := [(62, .getfield 61, 3), (65, .iload 5, 2), (67, .iaload, 1), (68, .ifCond .ne 20, 3), (71, .aload_n 0, 1), (72, .aload_n 1, 1), (73, .aload_n 2, 1), (74, .iload 5, 2), (76, .invokevirtual 64, 3), (79, .aload_n 0, 1), (80, .aload_n 1, 1), (81, .aload_n 2, 1), (82, .iload 5, 2), (84, .iload_n 3, 1), (85, .invokevirtual 67, 3), (88, .iinc 5 1, 3)]
theorem dt_X2_passWatch_2 : dOk cX2_passWatch T_X2_passWatch_2 := by unfold dOk; decide +kernel
def T_X2_passWatch_3 : DT := [(91, .goto (-37), 3), (94, .aload_n 1, 1), (95, .iload 4, 2), (97, .aload_n 1, 1), (98, .invokevirtual 57, 3), (101, .iconst (-1), 1), (102, .ixor, 1), (103, .iand, 1), (104, .putfield 71, 3), (107, .aload_n 1, 1), (108, .getfield 71, 3), (111, .ifCond .eq 8, 3), (114, .aload_n 0, 1), (115, .iload_n 3, 1), (116, .putfield 28, 3), (119, .aload_n 1, 1)]
theorem dt_X2_passWatch_3 : dOk cX2_passWatch T_X2_passWatch_3 := by unfold dOk; decide +kernel
def T_X2_passWatch_4 : DT := [(120, .invokevirtual 74, 3), (123, .return_, 1)]
theorem dt_X2_passWatch_4 : dOk cX2_passWatch T_X2_passWatch_4 := by unfold dOk; decide +kernel
section
variable {v : ZV} {l : Launch} {p : Program} {e : Env} {R : Room} {s : State} {m : MethodId} {args : Array Value} {below : List Frame} {meth : Method} {c : Code} {Q : State → Prop} {res : Hp} 
set_option maxRecDepth 20000 in
theorem lkB_X2_passWatch_9 (hi : zInj wC v) (xc : XC wC v) (nx : NXC v) (X : Cx wC v p R s m args c 0 0 cX2_passWatch 6 RX2 10) (rt : Rt wC v p l e R s m args below meth c 0 0 Q cX2_passWatch false none res) {k51 : Nat → Nat → Int32 → Int32 → Hp → Option Hp} {k9 : Nat → Nat → Int32 → Int32 → Int32 → Hp → Option Hp} {r1 : Nat} {r2 : Nat} {x3 : Int32} {x4 : Int32} {x5 : Int32} {σ : Hp} (hr1 : isW r1 = true) (hr2 : isL r2 = true) (hk51 : ∀ (r1 : Nat) (r2 : Nat) (x3 : Int32) (x4 : Int32) (σ : Hp), (hr1 : isW r1 = true) → (hr2 : isL r2 = true) → k51 r1 r2 x3 x4 σ = some res → Go wC v p l e R s m args below meth c 0 0 Q 6 51 [(0, .ref 26), (1, .ref r1), (2, .ref r2), (3, .int x3), (4, .int x4)] [] σ) (hk9 : ∀ (r1 : Nat) (r2 : Nat) (x3 : Int32) (x4 : Int32) (x5 : Int32) (σ : Hp), (hr1 : isW r1 = true) → (hr2 : isL r2 = true) → k9 r1 r2 x3 x4 x5 σ = some res → Go wC v p l e R s m args below meth c 0 0 Q 6 9 [(0, .ref 26), (1, .ref r1), (2, .ref r2), (3, .int x3), (4, .int x4), (5, .int x5)] [] σ) (h : B_X2_passWatch_9  k51 k9 r1 r2 x3 x4 x5 σ = some res) : Go wC v p l e R s m args below meth c 0 0 Q 6 9 [(0, .ref 26), (1, .ref r1), (2, .ref r2), (3, .int x3), (4, .int x4), (5, .int x5)] [] σ := by
  unfold B_X2_passWatch_9 at h
  refine go_iload X 5 (dk dt_X2_passWatch_0 5 rfl) rfl ?_
  refine go_bipush X (dk dt_X2_passWatch_0 6 rfl) cb_16 ?_
  refine go_icmp_ge (tgt := 51) X (dk dt_X2_passWatch_0 7 rfl) (by decide) h (fun h => ?_) (fun h => ?_)
  · refine go_sub [0, 1, 2, 3, 4] rfl ?_
    exact hk51 _ _ _ _ _ hr1 hr2 h
  · refine go_aload_n X 1 (dk dt_X2_passWatch_0 8 rfl) rfl rfl ?_
    refine go_getr X fo_X2_61 (lW hr1) (sW hr1) (fW_4 hr1) (dk dt_X2_passWatch_0 9 rfl) ?_
    refine go_iload X 5 (dk dt_X2_passWatch_0 10 rfl) rfl ?_
    refine go_aload_n X 1 (dk dt_X2_passWatch_0 11 rfl) rfl rfl ?_
    refine go_getr X fo_X2_61 (lW hr1) (sW hr1) (fW_4 hr1) (dk dt_X2_passWatch_0 12 rfl) ?_
    refine go_iload X 5 (dk dt_X2_passWatch_0 13 rfl) rfl ?_
    refine go_iald X (lWa_5 hr1) (sWa_5 hr1) (dk dt_X2_passWatch_0 14 rfl) h (fun h => ?_)
    refine go_iconst X (dk dt_X2_passWatch_0 15 rfl) ci_1 ?_
    refine go_icmp_ne (tgt := 37) X (dk dt_X2_passWatch_1 0 rfl) (by decide) h (fun h => ?_) (fun h => ?_)
    · refine go_aload_n X 1 (dk dt_X2_passWatch_1 3 rfl) rfl rfl ?_
      refine go_getr X fo_X2_61 (lW hr1) (sW hr1) (fW_4 hr1) (dk dt_X2_passWatch_1 4 rfl) ?_
      refine go_iload X 5 (dk dt_X2_passWatch_1 5 rfl) rfl ?_
      refine go_iald X (lWa_5 hr1) (sWa_5 hr1) (dk dt_X2_passWatch_1 6 rfl) h (fun h => ?_)
      refine go_iast X (lWa_5 hr1) (sWa_5 hr1) (dk dt_X2_passWatch_1 7 rfl) h (fun h => ?_)
      refine go_iinc (lv' := [(5, .int (x5 + (1 : Int32))), (0, .ref 26), (1, .ref r1), (2, .ref r2), (3, .int x3), (4, .int x4)]) X 5 (dk dt_X2_passWatch_1 8 rfl) rfl ci_1 (by decide) rfl ?_
      refine go_goto (tgt := 9) X (dk dt_X2_passWatch_1 9 rfl) (by decide) ?_
      refine go_sub [1, 2, 3, 4, 5, 0] rfl ?_
      exact hk9 _ _ _ _ _ _ hr1 hr2 h
    · refine go_iconst X (dk dt_X2_passWatch_1 1 rfl) ci_0 ?_
      refine go_goto (tgt := 44) X (dk dt_X2_passWatch_1 2 rfl) (by decide) ?_
      refine go_iast X (lWa_5 hr1) (sWa_5 hr1) (dk dt_X2_passWatch_1 7 rfl) h (fun h => ?_)
      refine go_iinc (lv' := [(5, .int (x5 + (1 : Int32))), (0, .ref 26), (1, .ref r1), (2, .ref r2), (3, .int x3), (4, .int x4)]) X 5 (dk dt_X2_passWatch_1 8 rfl) rfl ci_1 (by decide) rfl ?_
      refine go_goto (tgt := 9) X (dk dt_X2_passWatch_1 9 rfl) (by decide) ?_
      refine go_sub [1, 2, 3, 4, 5, 0] rfl ?_
      exact hk9 _ _ _ _ _ _ hr1 hr2 h
set_option maxRecDepth 20000 in
theorem lkL_X2_passWatch_9 (hi : zInj wC v) (xc : XC wC v) (nx : NXC v) (X : Cx wC v p R s m args c 0 0 cX2_passWatch 6 RX2 10) (rt : Rt wC v p l e R s m args below meth c 0 0 Q cX2_passWatch false none res) {k51 : Nat → Nat → Int32 → Int32 → Hp → Option Hp} (hk51 : ∀ (r1 : Nat) (r2 : Nat) (x3 : Int32) (x4 : Int32) (σ : Hp), (hr1 : isW r1 = true) → (hr2 : isL r2 = true) → k51 r1 r2 x3 x4 σ = some res → Go wC v p l e R s m args below meth c 0 0 Q 6 51 [(0, .ref 26), (1, .ref r1), (2, .ref r2), (3, .int x3), (4, .int x4)] [] σ) (n : Nat) : ∀ {r1 : Nat} {r2 : Nat} {x3 : Int32} {x4 : Int32} {x5 : Int32} {σ : Hp}, (hr1 : isW r1 = true) → (hr2 : isL r2 = true) → L_X2_passWatch_9  k51 n r1 r2 x3 x4 x5 σ = some res → Go wC v p l e R s m args below meth c 0 0 Q 6 9 [(0, .ref 26), (1, .ref r1), (2, .ref r2), (3, .int x3), (4, .int x4), (5, .int x5)] [] σ := by
  induction n with
  | zero => intro r1 r2 x3 x4 x5 σ hr1 hr2 h; cases h
  | succ n ih =>
    intro r1 r2 x3 x4 x5 σ hr1 hr2 h
    exact lkB_X2_passWatch_9 hi xc nx X rt hr1 hr2 hk51 (fun _ _ _ _ _ _ hq0 hq1 hh => ih hq0 hq1 hh) h
set_option maxRecDepth 20000 in
theorem lkB_X2_passWatch_54 (hi : zInj wC v) (xc : XC wC v) (nx : NXC v) (X : Cx wC v p R s m args c 0 0 cX2_passWatch 6 RX2 10) (rt : Rt wC v p l e R s m args below meth c 0 0 Q cX2_passWatch false none res) {k94 : Nat → Int32 → Int32 → Hp → Option Hp} {k54 : Nat → Nat → Int32 → Int32 → Int32 → Hp → Option Hp} {r1 : Nat} {r2 : Nat} {x3 : Int32} {x4 : Int32} {x5 : Int32} {σ : Hp} (hr1 : isW r1 = true) (hr2 : isL r2 = true) (hk94 : ∀ (r1 : Nat) (x3 : Int32) (x4 : Int32) (σ : Hp), (hr1 : isW r1 = true) → k94 r1 x3 x4 σ = some res → Go wC v p l e R s m args below meth c 0 0 Q 6 94 [(0, .ref 26), (1, .ref r1), (3, .int x3), (4, .int x4)] [] σ) (hk54 : ∀ (r1 : Nat) (r2 : Nat) (x3 : Int32) (x4 : Int32) (x5 : Int32) (σ : Hp), (hr1 : isW r1 = true) → (hr2 : isL r2 = true) → k54 r1 r2 x3 x4 x5 σ = some res → Go wC v p l e R s m args below meth c 0 0 Q 6 54 [(0, .ref 26), (1, .ref r1), (2, .ref r2), (3, .int x3), (4, .int x4), (5, .int x5)] [] σ) (h : B_X2_passWatch_54  k94 k54 r1 r2 x3 x4 x5 σ = some res) : Go wC v p l e R s m args below meth c 0 0 Q 6 54 [(0, .ref 26), (1, .ref r1), (2, .ref r2), (3, .int x3), (4, .int x4), (5, .int x5)] [] σ := by
  unfold B_X2_passWatch_54 at h
  refine go_iload X 5 (dk dt_X2_passWatch_1 12 rfl) rfl ?_
  refine go_bipush X (dk dt_X2_passWatch_1 13 rfl) cb_16 ?_
  refine go_icmp_ge (tgt := 94) X (dk dt_X2_passWatch_1 14 rfl) (by decide) h (fun h => ?_) (fun h => ?_)
  · refine go_sub [0, 1, 3, 4] rfl ?_
    exact hk94 _ _ _ _ hr1 h
  · refine go_aload_n X 1 (dk dt_X2_passWatch_1 15 rfl) rfl rfl ?_
    refine go_getr X fo_X2_61 (lW hr1) (sW hr1) (fW_4 hr1) (dk dt_X2_passWatch_2 0 rfl) ?_
    refine go_iload X 5 (dk dt_X2_passWatch_2 1 rfl) rfl ?_
    refine go_iald X (lWa_5 hr1) (sWa_5 hr1) (dk dt_X2_passWatch_2 2 rfl) h (fun h => ?_)
    refine go_if_ne (tgt := 88) X (dk dt_X2_passWatch_2 3 rfl) (by decide) h (fun h => ?_) (fun h => ?_)
    · refine go_iinc (lv' := [(5, .int (x5 + (1 : Int32))), (0, .ref 26), (1, .ref r1), (2, .ref r2), (3, .int x3), (4, .int x4)]) X 5 (dk dt_X2_passWatch_2 15 rfl) rfl ci_1 (by decide) rfl ?_
      refine go_goto (tgt := 54) X (dk dt_X2_passWatch_3 0 rfl) (by decide) ?_
      refine go_sub [1, 2, 3, 4, 5, 0] rfl ?_
      exact hk54 _ _ _ _ _ _ hr1 hr2 h
    · refine go_aload_n X 0 (dk dt_X2_passWatch_2 4 rfl) rfl rfl ?_
      refine go_aload_n X 1 (dk dt_X2_passWatch_2 5 rfl) rfl rfl ?_
      refine go_aload_n X 2 (dk dt_X2_passWatch_2 6 rfl) rfl rfl ?_
      refine go_iload X 5 (dk dt_X2_passWatch_2 7 rfl) rfl ?_
      refine go_Vv (As := [.ref r1, .ref r2, .int x5]) (rest := []) X vo_X2_64 (fun q hq => ct_X2_drinkAndYawn hi xc nx hr1 hr2 hq) (by decide) rfl lC_26 sC_26 rfl rfl (Nat.le_of_ble_eq_true rfl) (dk dt_X2_passWatch_2 8 rfl) h (fun q76 h => ?_)
      refine go_aload_n X 0 (dk dt_X2_passWatch_2 9 rfl) rfl rfl ?_
      refine go_aload_n X 1 (dk dt_X2_passWatch_2 10 rfl) rfl rfl ?_
      refine go_aload_n X 2 (dk dt_X2_passWatch_2 11 rfl) rfl rfl ?_
      refine go_iload X 5 (dk dt_X2_passWatch_2 12 rfl) rfl ?_
      refine go_iload_n X 3 (dk dt_X2_passWatch_2 13 rfl) rfl rfl ?_
      refine go_Vv (As := [.ref r1, .ref r2, .int x5, .int x3]) (rest := []) X vo_X2_67 (fun q hq => ct_X2_stayOrGo hi xc nx hr1 hr2 hq) (by decide) rfl lC_26 sC_26 rfl rfl (Nat.le_of_ble_eq_true rfl) (dk dt_X2_passWatch_2 14 rfl) h (fun q85 h => ?_)
      refine go_iinc (lv' := [(5, .int (x5 + (1 : Int32))), (0, .ref 26), (1, .ref r1), (2, .ref r2), (3, .int x3), (4, .int x4)]) X 5 (dk dt_X2_passWatch_2 15 rfl) rfl ci_1 (by decide) rfl ?_
      refine go_goto (tgt := 54) X (dk dt_X2_passWatch_3 0 rfl) (by decide) ?_
      refine go_sub [1, 2, 3, 4, 5, 0] rfl ?_
      exact hk54 _ _ _ _ _ _ hr1 hr2 h
set_option maxRecDepth 20000 in
theorem lkL_X2_passWatch_54 (hi : zInj wC v) (xc : XC wC v) (nx : NXC v) (X : Cx wC v p R s m args c 0 0 cX2_passWatch 6 RX2 10) (rt : Rt wC v p l e R s m args below meth c 0 0 Q cX2_passWatch false none res) {k94 : Nat → Int32 → Int32 → Hp → Option Hp} (hk94 : ∀ (r1 : Nat) (x3 : Int32) (x4 : Int32) (σ : Hp), (hr1 : isW r1 = true) → k94 r1 x3 x4 σ = some res → Go wC v p l e R s m args below meth c 0 0 Q 6 94 [(0, .ref 26), (1, .ref r1), (3, .int x3), (4, .int x4)] [] σ) (n : Nat) : ∀ {r1 : Nat} {r2 : Nat} {x3 : Int32} {x4 : Int32} {x5 : Int32} {σ : Hp}, (hr1 : isW r1 = true) → (hr2 : isL r2 = true) → L_X2_passWatch_54  k94 n r1 r2 x3 x4 x5 σ = some res → Go wC v p l e R s m args below meth c 0 0 Q 6 54 [(0, .ref 26), (1, .ref r1), (2, .ref r2), (3, .int x3), (4, .int x4), (5, .int x5)] [] σ := by
  induction n with
  | zero => intro r1 r2 x3 x4 x5 σ hr1 hr2 h; cases h
  | succ n ih =>
    intro r1 r2 x3 x4 x5 σ hr1 hr2 h
    exact lkB_X2_passWatch_54 hi xc nx X rt hr1 hr2 hk94 (fun _ _ _ _ _ _ hq0 hq1 hh => ih hq0 hq1 hh) h
set_option maxRecDepth 20000 in
theorem lkJ_X2_passWatch_119 (hi : zInj wC v) (xc : XC wC v) (nx : NXC v) (X : Cx wC v p R s m args c 0 0 cX2_passWatch 6 RX2 10) (rt : Rt wC v p l e R s m args below meth c 0 0 Q cX2_passWatch false none res)  {r1 : Nat} {σ : Hp} (hr1 : isW r1 = true)  (h : J_X2_passWatch_119   r1 σ = some res) : Go wC v p l e R s m args below meth c 0 0 Q 6 119 [(1, .ref r1)] [] σ := by
  unfold J_X2_passWatch_119 at h
  refine go_aload_n X 0 (dk dt_X2_passWatch_3 15 rfl) rfl rfl ?_
  refine go_Vv (As := []) (rest := []) X vo_X2_74 (fun q hq => ct_X10_nextWatch hi xc nx hr1 hq) (by decide) rfl (lW hr1) (sW hr1) rfl rfl (Nat.le_of_ble_eq_true rfl) (dk dt_X2_passWatch_4 0 rfl) h (fun q120 h => ?_)
  exact go_vret rt (dk dt_X2_passWatch_4 1 rfl) h
set_option maxRecDepth 20000 in
theorem lkJ_X2_passWatch_94 (hi : zInj wC v) (xc : XC wC v) (nx : NXC v) (X : Cx wC v p R s m args c 0 0 cX2_passWatch 6 RX2 10) (rt : Rt wC v p l e R s m args below meth c 0 0 Q cX2_passWatch false none res)  {r1 : Nat} {x3 : Int32} {x4 : Int32} {σ : Hp} (hr1 : isW r1 = true)  (h : J_X2_passWatch_94   r1 x3 x4 σ = some res) : Go wC v p l e R s m args below meth c 0 0 Q 6 94 [(0, .ref 26), (1, .ref r1), (3, .int x3), (4, .int x4)] [] σ := by
  unfold J_X2_passWatch_94 at h
  refine go_aload_n X 1 (dk dt_X2_passWatch_3 1 rfl) rfl rfl ?_
  refine go_iload X 3 (dk dt_X2_passWatch_3 2 rfl) rfl ?_
  refine go_aload_n X 1 (dk dt_X2_passWatch_3 3 rfl) rfl rfl ?_
  refine go_Vi (As := []) (rest := [.int x4, .ref r1]) X vo_X2_57 (fun q hq => ct_X10_sidesOut hi xc nx hr1 hq) (by decide) rfl (lW hr1) (sW hr1) rfl rfl (Nat.le_of_ble_eq_true rfl) (dk dt_X2_passWatch_3 4 rfl) h (fun q98 h => ?_)
  refine go_iconst X (dk dt_X2_passWatch_3 5 rfl) ci_m1 ?_
  refine go_ixor X (dk dt_X2_passWatch_3 6 rfl) ?_
  refine go_iand X (dk dt_X2_passWatch_3 7 rfl) ?_
  refine go_puti X fo_X2_71 pf_10_8 (lW hr1) (sW hr1) (fW_8 hr1) (dk dt_X2_passWatch_3 8 rfl) ?_
  refine go_aload_n X 1 (dk dt_X2_passWatch_3 9 rfl) rfl rfl ?_
  refine go_geti X fo_X2_71 (lW hr1) (sW hr1) (fW_8 hr1) (dk dt_X2_passWatch_3 10 rfl) ?_
  refine go_if_eq (tgt := 119) X (dk dt_X2_passWatch_3 11 rfl) (by decide) h (fun h => ?_) (fun h => ?_)
  · refine go_sub [1] rfl ?_
    exact lkJ_X2_passWatch_119 hi xc nx X rt hr1  h
  · refine go_aload_n X 0 (dk dt_X2_passWatch_3 12 rfl) rfl rfl ?_
    refine go_iload_n X 2 (dk dt_X2_passWatch_3 13 rfl) rfl rfl ?_
    refine go_puti X fo_X2_28 pf_2_6 lC_26 sC_26 fC_26_6 (dk dt_X2_passWatch_3 14 rfl) ?_
    refine go_sub [1] rfl ?_
    exact lkJ_X2_passWatch_119 hi xc nx X rt hr1  h
set_option maxRecDepth 20000 in
theorem lkJ_X2_passWatch_51 (hi : zInj wC v) (xc : XC wC v) (nx : NXC v) (X : Cx wC v p R s m args c 0 0 cX2_passWatch 6 RX2 10) (rt : Rt wC v p l e R s m args below meth c 0 0 Q cX2_passWatch false none res)  {r1 : Nat} {r2 : Nat} {x3 : Int32} {x4 : Int32} {σ : Hp} (hr1 : isW r1 = true) (hr2 : isL r2 = true)  (h : J_X2_passWatch_51   r1 r2 x3 x4 σ = some res) : Go wC v p l e R s m args below meth c 0 0 Q 6 51 [(0, .ref 26), (1, .ref r1), (2, .ref r2), (3, .int x3), (4, .int x4)] [] σ := by
  unfold J_X2_passWatch_51 at h
  refine go_iconst X (dk dt_X2_passWatch_1 10 rfl) ci_0 ?_
  refine go_istore (lv' := [(5, .int (0 : Int32)), (0, .ref 26), (1, .ref r1), (2, .ref r2), (3, .int x3), (4, .int x4)]) X (dk dt_X2_passWatch_1 11 rfl) (by decide) rfl ?_
  refine go_sub [1, 2, 3, 4, 5, 0] rfl ?_
  exact lkL_X2_passWatch_54 hi xc nx X rt (fun _ _ _ _ hq0 hh => lkJ_X2_passWatch_94 hi xc nx X rt hq0  hh) FU hr1 hr2 h
set_option maxRecDepth 20000 in
theorem lkF_X2_passWatch (hi : zInj wC v) (xc : XC wC v) (nx : NXC v) (X : Cx wC v p R s m args c 0 0 cX2_passWatch 6 RX2 10) (rt : Rt wC v p l e R s m args below meth c 0 0 Q cX2_passWatch false none res) {a1 : Nat} {a2 : Nat} {a3 : Int32} {σ : Hp} (ha1 : isW a1 = true) (ha2 : isL a2 = true) (h : F_X2_passWatch  a1 a2 a3 σ = some res) : Go wC v p l e R s m args below meth c 0 0 Q 6 0 [(0, .ref 26), (1, .ref a1), (2, .ref a2), (3, .int a3)] [] σ := by
  unfold F_X2_passWatch at h
  refine go_aload_n X 1 (dk dt_X2_passWatch_0 0 rfl) rfl rfl ?_
  refine go_Vi (As := []) (rest := []) X vo_X2_57 (fun q hq => ct_X10_sidesOut hi xc nx ha1 hq) (by decide) rfl (lW ha1) (sW ha1) rfl rfl (Nat.le_of_ble_eq_true rfl) (dk dt_X2_passWatch_0 1 rfl) h (fun q1 h => ?_)
  refine go_istore (lv' := [(4, .int q1.1), (0, .ref 26), (1, .ref a1), (2, .ref a2), (3, .int a3)]) X (dk dt_X2_passWatch_0 2 rfl) (by decide) rfl ?_
  refine go_iconst X (dk dt_X2_passWatch_0 3 rfl) ci_0 ?_
  refine go_istore (lv' := [(5, .int (0 : Int32)), (4, .int q1.1), (0, .ref 26), (1, .ref a1), (2, .ref a2), (3, .int a3)]) X (dk dt_X2_passWatch_0 4 rfl) (by decide) rfl ?_
  refine go_sub [2, 3, 4, 5, 1, 0] rfl ?_
  exact lkL_X2_passWatch_9 hi xc nx X rt (fun _ _ _ _ _ hq0 hq1 hh => lkJ_X2_passWatch_51 hi xc nx X rt hq0 hq1  hh) FU ha1 ha2 h
set_option maxRecDepth 20000 in
theorem ct_X2_passWatch (hi : zInj wC v) (xc : XC wC v) (nx : NXC v)  {a1 : Nat} {a2 : Nat} {a3 : Int32} {σ : Hp} (ha1 : isW a1 = true) (ha2 : isL a2 = true) {q : Hp} (h : F_X2_passWatch  a1 a2 a3 σ = some q) : Ct wC v l yX2_passWatch cX2_passWatch 6 none 10 [.ref 26, .ref a1, .ref a2, .int a3] σ none q :=
  Ct.intro false (by decide) hi xc (Nat.le_of_ble_eq_true rfl) rfl (fun p e R s m args below meth c Q X rt => lkF_X2_passWatch hi xc nx X rt ha1 ha2 h)
end
def T_X2_run_0 : DT := [(0, .aload_n 0, 1), (1, .getfield 9, 3), (4, .iconst 0, 1), (5, .invokestatic 35, 3), (8, .aload_n 0, 1), (9, .iconst 0, 1), (10, .putfield 15, 3), (13, .aload_n 0, 1), (14, .iconst 0, 1), (15, .putfield 19, 3), (18, .aload_n 0, 1), (19, .iconst 0, 1), (20, .putfield 22, 3), (23, .aload_n 0, 1), (24, .iconst (-1), 1), (25, .putfield 25, 3)]
theorem dt_X2_run_0 : dOk cX2_run T_X2_run_0 := by unfold dOk; decide +kernel
def T_X2_run_1 : DT := [(28, .aload_n 0, 1), (29, .iconst 0, 1), (30, .putfield 28, 3), (33, .aload_n 0, 1), (34, .getfield 31, 3), (37, .aload_n 1, 1), (38, .invokevirtual 41, 3), (41, .iconst 1, 1), (42, .istore 4, 2), (44, .iload 4, 2), (46, .iload_n 3, 1), (47, .if_icmp .gt 24, 3), (50, .aload_n 1, 1), (51, .invokevirtual 47, 3), (54, .ifCond .eq 17, 3), (57, .aload_n 0, 1)]
theorem dt_X2_run_1 : dOk cX2_run T_X2_run_1 := by unfold dOk; decide +kernel
def T_X2_run_2 : DT := [(58, .aload_n 1, 1), (59, .aload_n 2, 1), (60, .iload 4, 2), (62, .invokevirtual 53, 3), (65, .iinc 4 1, 3), (68, .goto (-24), 3), (71, .return_, 1)]
theorem dt_X2_run_2 : dOk cX2_run T_X2_run_2 := by unfold dOk; decide +kernel
section
variable {v : ZV} {l : Launch} {p : Program} {e : Env} {R : Room} {s : State} {m : MethodId} {args : Array Value} {below : List Frame} {meth : Method} {c : Code} {Q : State → Prop} {res : Hp} 
set_option maxRecDepth 20000 in
theorem lkB_X2_run_44 (hi : zInj wC v) (xc : XC wC v) (nx : NXC v) (X : Cx wC v p R s m args c 0 0 cX2_run 5 RX2 12) (rt : Rt wC v p l e R s m args below meth c 0 0 Q cX2_run false none res) {k44 : Nat → Nat → Int32 → Int32 → Hp → Option Hp} {r1 : Nat} {r2 : Nat} {x3 : Int32} {x4 : Int32} {σ : Hp} (hr1 : isW r1 = true) (hr2 : isL r2 = true) (hk44 : ∀ (r1 : Nat) (r2 : Nat) (x3 : Int32) (x4 : Int32) (σ : Hp), (hr1 : isW r1 = true) → (hr2 : isL r2 = true) → k44 r1 r2 x3 x4 σ = some res → Go wC v p l e R s m args below meth c 0 0 Q 5 44 [(0, .ref 26), (1, .ref r1), (2, .ref r2), (3, .int x3), (4, .int x4)] [] σ) (h : B_X2_run_44  k44 r1 r2 x3 x4 σ = some res) : Go wC v p l e R s m args below meth c 0 0 Q 5 44 [(0, .ref 26), (1, .ref r1), (2, .ref r2), (3, .int x3), (4, .int x4)] [] σ := by
  unfold B_X2_run_44 at h
  refine go_iload X 4 (dk dt_X2_run_1 9 rfl) rfl ?_
  refine go_iload_n X 3 (dk dt_X2_run_1 10 rfl) rfl rfl ?_
  refine go_icmp_gt (tgt := 71) X (dk dt_X2_run_1 11 rfl) (by decide) h (fun h => ?_) (fun h => ?_)
  · exact go_vret rt (dk dt_X2_run_2 6 rfl) h
  · refine go_aload_n X 1 (dk dt_X2_run_1 12 rfl) rfl rfl ?_
    refine go_Vi (As := []) (rest := []) X vo_X2_47 (fun q hq => ct_X10_goesOn hi xc nx hr1 hq) (by decide) rfl (lW hr1) (sW hr1) rfl rfl (Nat.le_of_ble_eq_true rfl) (dk dt_X2_run_1 13 rfl) h (fun q51 h => ?_)
    refine go_if_eq (tgt := 71) X (dk dt_X2_run_1 14 rfl) (by decide) h (fun h => ?_) (fun h => ?_)
    · exact go_vret rt (dk dt_X2_run_2 6 rfl) h
    · refine go_aload_n X 0 (dk dt_X2_run_1 15 rfl) rfl rfl ?_
      refine go_aload_n X 1 (dk dt_X2_run_2 0 rfl) rfl rfl ?_
      refine go_aload_n X 2 (dk dt_X2_run_2 1 rfl) rfl rfl ?_
      refine go_iload X 4 (dk dt_X2_run_2 2 rfl) rfl ?_
      refine go_Vv (As := [.ref r1, .ref r2, .int x4]) (rest := []) X vo_X2_53 (fun q hq => ct_X2_passWatch hi xc nx hr1 hr2 hq) (by decide) rfl lC_26 sC_26 rfl rfl (Nat.le_of_ble_eq_true rfl) (dk dt_X2_run_2 3 rfl) h (fun q62 h => ?_)
      refine go_iinc (lv' := [(4, .int (x4 + (1 : Int32))), (0, .ref 26), (1, .ref r1), (2, .ref r2), (3, .int x3)]) X 4 (dk dt_X2_run_2 4 rfl) rfl ci_1 (by decide) rfl ?_
      refine go_goto (tgt := 44) X (dk dt_X2_run_2 5 rfl) (by decide) ?_
      refine go_sub [1, 2, 3, 4, 0] rfl ?_
      exact hk44 _ _ _ _ _ hr1 hr2 h
set_option maxRecDepth 20000 in
theorem lkL_X2_run_44 (hi : zInj wC v) (xc : XC wC v) (nx : NXC v) (X : Cx wC v p R s m args c 0 0 cX2_run 5 RX2 12) (rt : Rt wC v p l e R s m args below meth c 0 0 Q cX2_run false none res)   (n : Nat) : ∀ {r1 : Nat} {r2 : Nat} {x3 : Int32} {x4 : Int32} {σ : Hp}, (hr1 : isW r1 = true) → (hr2 : isL r2 = true) → L_X2_run_44   n r1 r2 x3 x4 σ = some res → Go wC v p l e R s m args below meth c 0 0 Q 5 44 [(0, .ref 26), (1, .ref r1), (2, .ref r2), (3, .int x3), (4, .int x4)] [] σ := by
  induction n with
  | zero => intro r1 r2 x3 x4 σ hr1 hr2 h; cases h
  | succ n ih =>
    intro r1 r2 x3 x4 σ hr1 hr2 h
    exact lkB_X2_run_44 hi xc nx X rt hr1 hr2 (fun _ _ _ _ _ hq0 hq1 hh => ih hq0 hq1 hh) h
set_option maxRecDepth 20000 in
theorem lkF_X2_run (hi : zInj wC v) (xc : XC wC v) (nx : NXC v) (X : Cx wC v p R s m args c 0 0 cX2_run 5 RX2 12) (rt : Rt wC v p l e R s m args below meth c 0 0 Q cX2_run false none res) {a1 : Nat} {a2 : Nat} {a3 : Int32} {σ : Hp} (ha1 : isW a1 = true) (ha2 : isL a2 = true) (h : F_X2_run  a1 a2 a3 σ = some res) : Go wC v p l e R s m args below meth c 0 0 Q 5 0 [(0, .ref 26), (1, .ref a1), (2, .ref a2), (3, .int a3)] [] σ := by
  unfold F_X2_run at h
  refine go_aload_n X 0 (dk dt_X2_run_0 0 rfl) rfl rfl ?_
  refine go_getr X fo_X2_9 lC_26 sC_26 fC_26_1 (dk dt_X2_run_0 1 rfl) ?_
  refine go_iconst X (dk dt_X2_run_0 2 rfl) ci_0 ?_
  refine go_Sv (As := [.ref 27, .int (0 : Int32)]) (rest := []) X so_X2_35 (fun q hq => ct_J7_fill hi xc nx lC_27 sC_27 hq) (by decide) rfl rfl (Nat.le_of_ble_eq_true rfl) (dk dt_X2_run_0 3 rfl) h (fun q5 h => ?_)
  refine go_aload_n X 0 (dk dt_X2_run_0 4 rfl) rfl rfl ?_
  refine go_iconst X (dk dt_X2_run_0 5 rfl) ci_0 ?_
  refine go_puti X fo_X2_15 pf_2_2 lC_26 sC_26 fC_26_2 (dk dt_X2_run_0 6 rfl) ?_
  refine go_aload_n X 0 (dk dt_X2_run_0 7 rfl) rfl rfl ?_
  refine go_iconst X (dk dt_X2_run_0 8 rfl) ci_0 ?_
  refine go_puti X fo_X2_19 pf_2_3 lC_26 sC_26 fC_26_3 (dk dt_X2_run_0 9 rfl) ?_
  refine go_aload_n X 0 (dk dt_X2_run_0 10 rfl) rfl rfl ?_
  refine go_iconst X (dk dt_X2_run_0 11 rfl) ci_0 ?_
  refine go_puti X fo_X2_22 pf_2_4 lC_26 sC_26 fC_26_4 (dk dt_X2_run_0 12 rfl) ?_
  refine go_aload_n X 0 (dk dt_X2_run_0 13 rfl) rfl rfl ?_
  refine go_iconst X (dk dt_X2_run_0 14 rfl) ci_m1 ?_
  refine go_puti X fo_X2_25 pf_2_5 lC_26 sC_26 fC_26_5 (dk dt_X2_run_0 15 rfl) ?_
  refine go_aload_n X 0 (dk dt_X2_run_1 0 rfl) rfl rfl ?_
  refine go_iconst X (dk dt_X2_run_1 1 rfl) ci_0 ?_
  refine go_puti X fo_X2_28 pf_2_6 lC_26 sC_26 fC_26_6 (dk dt_X2_run_1 2 rfl) ?_
  refine go_aload_n X 0 (dk dt_X2_run_1 3 rfl) rfl rfl ?_
  refine go_getr X fo_X2_31 lC_26 sC_26 fC_26_0 (dk dt_X2_run_1 4 rfl) ?_
  refine go_aload_n X 1 (dk dt_X2_run_1 5 rfl) rfl rfl ?_
  refine go_Vv (As := [.ref a1]) (rest := []) X vo_X2_41 (fun q hq => ct_X9_lookAround hi xc nx ha1 hq) (by decide) rfl lC_19 sC_19 rfl rfl (Nat.le_of_ble_eq_true rfl) (dk dt_X2_run_1 6 rfl) h (fun q38 h => ?_)
  refine go_iconst X (dk dt_X2_run_1 7 rfl) ci_1 ?_
  refine go_istore (lv' := [(4, .int (1 : Int32)), (0, .ref 26), (1, .ref a1), (2, .ref a2), (3, .int a3)]) X (dk dt_X2_run_1 8 rfl) (by decide) rfl ?_
  refine go_sub [1, 2, 3, 4, 0] rfl ?_
  exact lkL_X2_run_44 hi xc nx X rt  FU ha1 ha2 h
set_option maxRecDepth 20000 in
theorem ct_X2_run (hi : zInj wC v) (xc : XC wC v) (nx : NXC v)  {a1 : Nat} {a2 : Nat} {a3 : Int32} {σ : Hp} (ha1 : isW a1 = true) (ha2 : isL a2 = true) {q : Hp} (h : F_X2_run  a1 a2 a3 σ = some q) : Ct wC v l yX2_run cX2_run 5 none 12 [.ref 26, .ref a1, .ref a2, .int a3] σ none q :=
  Ct.intro false (by decide) hi xc (Nat.le_of_ble_eq_true rfl) rfl (fun p e R s m args below meth c Q X rt => lkF_X2_run hi xc nx X rt ha1 ha2 h)
end
def T_V_tryWatches_0 : DT := [(0, .aload_n 0, 1), (1, .getfield 19, 3), (4, .aload_n 0, 1), (5, .getfield 10, 3), (8, .invokevirtual 165, 3), (11, .aload_n 0, 1), (12, .getfield 50, 3), (15, .aload_n 0, 1), (16, .getfield 19, 3), (19, .aload_n 0, 1), (20, .getfield 95, 3), (23, .iload_n 1, 1), (24, .invokevirtual 188, 3), (27, .return_, 1)]
theorem dt_V_tryWatches_0 : dOk cX11_tryWatches T_V_tryWatches_0 := by unfold dOk; decide +kernel
section
variable {v : ZV} {l : Launch} {p : Program} {e : Env} {R : Room} {s : State} {m : MethodId} {args : Array Value} {below : List Frame} {meth : Method} {c : Code} {Q : State → Prop} {res : Hp} 
set_option maxRecDepth 20000 in
theorem lkF_V_tryWatches (hi : zInj wC v) (xc : XC wC v) (nx : NXC v) (X : Cx wC v p R s m args c 0 0 cX11_tryWatches 2 RX11 14) (rt : Rt wC v p l e R s m args below meth c 0 0 Q cX11_tryWatches false none res) {a1 : Int32} {σ : Hp}  (h : F_V_tryWatches  a1 σ = some res) : Go wC v p l e R s m args below meth c 0 0 Q 2 0 [(0, .ref 0), (1, .int a1)] [] σ := by
  unfold F_V_tryWatches at h
  refine go_aload_n X 0 (dk dt_V_tryWatches_0 0 rfl) rfl rfl ?_
  refine go_getr X fo_X11_19 lC_0 sC_0 fC_0_2 (dk dt_V_tryWatches_0 1 rfl) ?_
  refine go_aload_n X 0 (dk dt_V_tryWatches_0 2 rfl) rfl rfl ?_
  refine go_getr X fo_X11_10 lC_0 sC_0 fC_0_0 (dk dt_V_tryWatches_0 3 rfl) ?_
  refine go_Vv (As := [.ref 1]) (rest := []) X vo_X11_165 (fun q hq => ct_X10_copy hi xc nx (by decide : isW 13 = true) (by decide : isW 1 = true) hq) (by decide) rfl lC_13 sC_13 rfl rfl (Nat.le_of_ble_eq_true rfl) (dk dt_V_tryWatches_0 4 rfl) h (fun q8 h => ?_)
  refine go_aload_n X 0 (dk dt_V_tryWatches_0 5 rfl) rfl rfl ?_
  refine go_getr X fo_X11_50 lC_0 sC_0 fC_0_6 (dk dt_V_tryWatches_0 6 rfl) ?_
  refine go_aload_n X 0 (dk dt_V_tryWatches_0 7 rfl) rfl rfl ?_
  refine go_getr X fo_X11_19 lC_0 sC_0 fC_0_2 (dk dt_V_tryWatches_0 8 rfl) ?_
  refine go_aload_n X 0 (dk dt_V_tryWatches_0 9 rfl) rfl rfl ?_
  refine go_getd X fo_X11_95 lC_0 sC_0 fC_0_14 (dk dt_V_tryWatches_0 10 rfl) ?_
  obtain ⟨g1, h⟩ := gd_some h
  refine go_iload_n X 1 (dk dt_V_tryWatches_0 11 rfl) rfl rfl ?_
  refine go_Vv (As := [.ref 13, .ref (Int32.toNatClampNeg (q8 0 14)), .int a1]) (rest := []) X vo_X11_188 (fun q hq => ct_X2_run hi xc nx (by decide : isW 13 = true) g1 hq) (by decide) rfl lC_26 sC_26 rfl rfl (Nat.le_of_ble_eq_true rfl) (dk dt_V_tryWatches_0 12 rfl) h (fun q24 h => ?_)
  exact go_vret rt (dk dt_V_tryWatches_0 13 rfl) h
set_option maxRecDepth 20000 in
theorem ct_V_tryWatches (hi : zInj wC v) (xc : XC wC v) (nx : NXC v)  {a1 : Int32} {σ : Hp}  {q : Hp} (h : F_V_tryWatches  a1 σ = some q) : Ct wC v l yX11_tryWatches cX11_tryWatches 2 none 14 [.ref 0, .int a1] σ none q :=
  Ct.intro false (by decide) hi xc (Nat.le_of_ble_eq_true rfl) rfl (fun p e R s m args below meth c Q X rt => lkF_V_tryWatches hi xc nx X rt  h)
end
def T_V_first_0 : DT := [(0, .iload_n 1, 1), (1, .iconst 1, 1), (2, .bipush 120, 2), (4, .invokestatic 119, 3), (7, .ifCond .eq 12, 3), (10, .iload_n 2, 1), (11, .iconst 0, 1), (12, .iconst 2, 1), (13, .invokestatic 119, 3), (16, .ifCond .ne 5, 3), (19, .iconst (-1), 1), (20, .ireturn, 1), (21, .aload_n 0, 1), (22, .iload_n 1, 1), (23, .invokevirtual 195, 3), (26, .aload_n 0, 1)]
theorem dt_V_first_0 : dOk cX11_first T_V_first_0 := by unfold dOk; decide +kernel
def T_V_first_1 : DT := [(27, .getfield 50, 3), (30, .getfield 261, 3), (33, .istore_n 3, 1), (34, .iload_n 3, 1), (35, .ifCond .lt 9, 3), (38, .iload_n 3, 1), (39, .bipush 16, 2), (41, .if_icmp .lt 6, 3), (44, .bipush (-2), 2), (46, .ireturn, 1), (47, .iload_n 2, 1), (48, .ifCond .ne 10, 3), (51, .iload_n 3, 1), (52, .bipush 8, 2), (54, .idiv, 1), (55, .goto 24, 3)]
theorem dt_V_first_1 : dOk cX11_first T_V_first_1 := by unfold dOk; decide +kernel
def T_V_first_2 : DT := [(58, .iload_n 2, 1), (59, .iconst 1, 1), (60, .if_icmp .ne 10, 3), (63, .iload_n 3, 1), (64, .bipush 8, 2), (66, .irem, 1), (67, .goto 12, 3), (70, .aload_n 0, 1), (71, .getfield 50, 3), (74, .getfield 258, 3), (77, .iload_n 3, 1), (78, .iaload, 1), (79, .ireturn, 1)]
theorem dt_V_first_2 : dOk cX11_first T_V_first_2 := by unfold dOk; decide +kernel
section
variable {v : ZV} {l : Launch} {p : Program} {e : Env} {R : Room} {s : State} {m : MethodId} {args : Array Value} {below : List Frame} {meth : Method} {c : Code} {Q : State → Prop} {res : (Int32 × Hp)} 
set_option maxRecDepth 20000 in
theorem lkF_V_first (hi : zInj wC v) (xc : XC wC v) (nx : NXC v) (X : Cx wC v p R s m args c 0 0 cX11_first 4 RX11 16) (rt : Rt wC v p l e R s m args below meth c 0 0 Q cX11_first false (some (.int res.1)) res.2) {a1 : Int32} {a2 : Int32} {σ : Hp}  (h : F_V_first  a1 a2 σ = some res) : Go wC v p l e R s m args below meth c 0 0 Q 4 0 [(0, .ref 0), (1, .int a1), (2, .int a2)] [] σ := by
  unfold F_V_first at h
  refine go_iload_n X 1 (dk dt_V_first_0 0 rfl) rfl rfl ?_
  refine go_iconst X (dk dt_V_first_0 1 rfl) ci_1 ?_
  refine go_bipush X (dk dt_V_first_0 2 rfl) cb_120 ?_
  refine go_Si (As := [.int a1, .int (1 : Int32), .int (120 : Int32)]) (rest := []) X so_X11_119 (fun q hq => ct_V_within hi xc nx  hq) (by decide) rfl rfl (Nat.le_of_ble_eq_true rfl) (dk dt_V_first_0 3 rfl) h (fun q4 h => ?_)
  refine go_if_eq (tgt := 19) X (dk dt_V_first_0 4 rfl) (by decide) h (fun h => ?_) (fun h => ?_)
  · refine go_iconst X (dk dt_V_first_0 10 rfl) ci_m1 ?_
    exact go_iret rt (dk dt_V_first_0 11 rfl) h (fun hh => nomatch hh)
  · refine go_iload_n X 2 (dk dt_V_first_0 5 rfl) rfl rfl ?_
    refine go_iconst X (dk dt_V_first_0 6 rfl) ci_0 ?_
    refine go_iconst X (dk dt_V_first_0 7 rfl) ci_2 ?_
    refine go_Si (As := [.int a2, .int (0 : Int32), .int (2 : Int32)]) (rest := []) X so_X11_119 (fun q hq => ct_V_within hi xc nx  hq) (by decide) rfl rfl (Nat.le_of_ble_eq_true rfl) (dk dt_V_first_0 8 rfl) h (fun q13 h => ?_)
    refine go_if_ne (tgt := 21) X (dk dt_V_first_0 9 rfl) (by decide) h (fun h => ?_) (fun h => ?_)
    · refine go_aload_n X 0 (dk dt_V_first_0 12 rfl) rfl rfl ?_
      refine go_iload_n X 1 (dk dt_V_first_0 13 rfl) rfl rfl ?_
      refine go_Vv (As := [.int a1]) (rest := []) X vo_X11_195 (fun q hq => ct_V_tryWatches hi xc nx  hq) (by decide) rfl lC_0 sC_0 rfl rfl (Nat.le_of_ble_eq_true rfl) (dk dt_V_first_0 14 rfl) h (fun q23 h => ?_)
      refine go_aload_n X 0 (dk dt_V_first_0 15 rfl) rfl rfl ?_
      refine go_getr X fo_X11_50 lC_0 sC_0 fC_0_6 (dk dt_V_first_1 0 rfl) ?_
      refine go_geti X fo_X11_261 lC_26 sC_26 fC_26_5 (dk dt_V_first_1 1 rfl) ?_
      refine go_istore_n (lv' := [(3, .int (q23 26 5)), (0, .ref 0), (1, .int a1), (2, .int a2)]) X (dk dt_V_first_1 2 rfl) rfl (by decide) rfl ?_
      refine go_iload_n X 0 (dk dt_V_first_1 3 rfl) rfl rfl ?_
      refine go_if_lt (tgt := 44) X (dk dt_V_first_1 4 rfl) (by decide) h (fun h => ?_) (fun h => ?_)
      · refine go_bipush X (dk dt_V_first_1 8 rfl) cb_m2 ?_
        exact go_iret rt (dk dt_V_first_1 9 rfl) h (fun hh => nomatch hh)
      · refine go_iload_n X 0 (dk dt_V_first_1 5 rfl) rfl rfl ?_
        refine go_bipush X (dk dt_V_first_1 6 rfl) cb_16 ?_
        refine go_icmp_lt (tgt := 47) X (dk dt_V_first_1 7 rfl) (by decide) h (fun h => ?_) (fun h => ?_)
        · refine go_iload_n X 3 (dk dt_V_first_1 10 rfl) rfl rfl ?_
          refine go_if_ne (tgt := 58) X (dk dt_V_first_1 11 rfl) (by decide) h (fun h => ?_) (fun h => ?_)
          · refine go_iload_n X 3 (dk dt_V_first_2 0 rfl) rfl rfl ?_
            refine go_iconst X (dk dt_V_first_2 1 rfl) ci_1 ?_
            refine go_icmp_ne (tgt := 70) X (dk dt_V_first_2 2 rfl) (by decide) h (fun h => ?_) (fun h => ?_)
            · refine go_aload_n X 1 (dk dt_V_first_2 7 rfl) rfl rfl ?_
              refine go_getr X fo_X11_50 lC_0 sC_0 fC_0_6 (dk dt_V_first_2 8 rfl) ?_
              refine go_getr X fo_X11_258 lC_26 sC_26 fC_26_1 (dk dt_V_first_2 9 rfl) ?_
              refine go_iload_n X 0 (dk dt_V_first_2 10 rfl) rfl rfl ?_
              refine go_iald X lC_27 sC_27 (dk dt_V_first_2 11 rfl) h (fun h => ?_)
              exact go_iret rt (dk dt_V_first_2 12 rfl) h (fun hh => nomatch hh)
            · refine go_iload_n X 0 (dk dt_V_first_2 3 rfl) rfl rfl ?_
              refine go_bipush X (dk dt_V_first_2 4 rfl) cb_8 ?_
              refine go_iremL X (dk dt_V_first_2 5 rfl) (by decide) ?_
              refine go_goto (tgt := 79) X (dk dt_V_first_2 6 rfl) (by decide) ?_
              exact go_iret rt (dk dt_V_first_2 12 rfl) h (fun hh => nomatch hh)
          · refine go_iload_n X 0 (dk dt_V_first_1 12 rfl) rfl rfl ?_
            refine go_bipush X (dk dt_V_first_1 13 rfl) cb_8 ?_
            refine go_idivL X (dk dt_V_first_1 14 rfl) (by decide) ?_
            refine go_goto (tgt := 79) X (dk dt_V_first_1 15 rfl) (by decide) ?_
            exact go_iret rt (dk dt_V_first_2 12 rfl) h (fun hh => nomatch hh)
        · refine go_bipush X (dk dt_V_first_1 8 rfl) cb_m2 ?_
          exact go_iret rt (dk dt_V_first_1 9 rfl) h (fun hh => nomatch hh)
    · refine go_iconst X (dk dt_V_first_0 10 rfl) ci_m1 ?_
      exact go_iret rt (dk dt_V_first_0 11 rfl) h (fun hh => nomatch hh)
set_option maxRecDepth 20000 in
theorem ct_V_first (hi : zInj wC v) (xc : XC wC v) (nx : NXC v)  {a1 : Int32} {a2 : Int32} {σ : Hp}  {q : (Int32 × Hp)} (h : F_V_first  a1 a2 σ = some q) : Ct wC v l yX11_first cX11_first 4 (some .int) 16 [.ref 0, .int a1, .int a2] σ (some (.int q.1)) q.2 :=
  Ct.intro false (by decide) hi xc (Nat.le_of_ble_eq_true rfl) rfl (fun p e R s m args below meth c Q X rt => lkF_V_first hi xc nx X rt  h)
end
def T_V_floor_0 : DT := [(0, .iload_n 1, 1), (1, .invokestatic 131, 3), (4, .ifCond .eq 13, 3), (7, .iload_n 2, 1), (8, .iconst 0, 1), (9, .bipush 99, 2), (11, .invokestatic 119, 3), (14, .ifCond .ne 5, 3), (17, .iconst 0, 1), (18, .ireturn, 1), (19, .aload_n 0, 1), (20, .getfield 25, 3), (23, .getfield 135, 3), (26, .iload_n 1, 1), (27, .iload_n 2, 1), (28, .iastore, 1)]
theorem dt_V_floor_0 : dOk cX11_floor T_V_floor_0 := by unfold dOk; decide +kernel
def T_V_floor_1 : DT := [(29, .iconst 1, 1), (30, .ireturn, 1)]
theorem dt_V_floor_1 : dOk cX11_floor T_V_floor_1 := by unfold dOk; decide +kernel
section
variable {v : ZV} {l : Launch} {p : Program} {e : Env} {R : Room} {s : State} {m : MethodId} {args : Array Value} {below : List Frame} {meth : Method} {c : Code} {Q : State → Prop} {res : (Int32 × Hp)} 
set_option maxRecDepth 20000 in
theorem lkF_V_floor (hi : zInj wC v) (xc : XC wC v) (nx : NXC v) (X : Cx wC v p R s m args c 0 0 cX11_floor 3 RX11 4) (rt : Rt wC v p l e R s m args below meth c 0 0 Q cX11_floor true (some (.int res.1)) res.2) {a1 : Int32} {a2 : Int32} {σ : Hp}  (h : F_V_floor  a1 a2 σ = some res) : Go wC v p l e R s m args below meth c 0 0 Q 3 0 [(0, .ref 0), (1, .int a1), (2, .int a2)] [] σ := by
  unfold F_V_floor at h
  refine go_iload_n X 1 (dk dt_V_floor_0 0 rfl) rfl rfl ?_
  refine go_Si (As := [.int a1]) (rest := []) X so_X11_131 (fun q hq => ct_V_isSide hi xc nx  hq) (by decide) rfl rfl (Nat.le_of_ble_eq_true rfl) (dk dt_V_floor_0 1 rfl) h (fun q1 h => ?_)
  refine go_if_eq (tgt := 17) X (dk dt_V_floor_0 2 rfl) (by decide) h (fun h => ?_) (fun h => ?_)
  · refine go_iconst X (dk dt_V_floor_0 8 rfl) ci_0 ?_
    exact go_iret rt (dk dt_V_floor_0 9 rfl) h (by decide)
  · refine go_iload_n X 2 (dk dt_V_floor_0 3 rfl) rfl rfl ?_
    refine go_iconst X (dk dt_V_floor_0 4 rfl) ci_0 ?_
    refine go_bipush X (dk dt_V_floor_0 5 rfl) cb_99 ?_
    refine go_Si (As := [.int a2, .int (0 : Int32), .int (99 : Int32)]) (rest := []) X so_X11_119 (fun q hq => ct_V_within hi xc nx  hq) (by decide) rfl rfl (Nat.le_of_ble_eq_true rfl) (dk dt_V_floor_0 6 rfl) h (fun q11 h => ?_)
    refine go_if_ne (tgt := 19) X (dk dt_V_floor_0 7 rfl) (by decide) h (fun h => ?_) (fun h => ?_)
    · refine go_aload_n X 0 (dk dt_V_floor_0 10 rfl) rfl rfl ?_
      refine go_getr X fo_X11_25 lC_0 sC_0 fC_0_3 (dk dt_V_floor_0 11 rfl) ?_
      refine go_getr X fo_X11_135 lC_19 sC_19 fC_19_1 (dk dt_V_floor_0 12 rfl) ?_
      refine go_iload_n X 1 (dk dt_V_floor_0 13 rfl) rfl rfl ?_
      refine go_iload_n X 2 (dk dt_V_floor_0 14 rfl) rfl rfl ?_
      refine go_iast X lC_21 sC_21 (dk dt_V_floor_0 15 rfl) h (fun h => ?_)
      refine go_iconst X (dk dt_V_floor_1 0 rfl) ci_1 ?_
      exact go_iret rt (dk dt_V_floor_1 1 rfl) h (by decide)
    · refine go_iconst X (dk dt_V_floor_0 8 rfl) ci_0 ?_
      exact go_iret rt (dk dt_V_floor_0 9 rfl) h (by decide)
set_option maxRecDepth 20000 in
theorem ct_V_floor (hi : zInj wC v) (xc : XC wC v) (nx : NXC v)  {a1 : Int32} {a2 : Int32} {σ : Hp}  {q : (Int32 × Hp)} (h : F_V_floor  a1 a2 σ = some q) : Ct wC v l yX11_floor cX11_floor 3 (some .boolean) 4 [.ref 0, .int a1, .int a2] σ (some (.int q.1)) q.2 :=
  Ct.intro true (by decide) hi xc (Nat.le_of_ble_eq_true rfl) rfl (fun p e R s m args below meth c Q X rt => lkF_V_floor hi xc nx X rt  h)
end
def T_X3_sits_0 : DT := [(0, .iload_n 0, 1), (1, .iload_n 1, 1), (2, .ishr, 1), (3, .iconst 1, 1), (4, .iand, 1), (5, .iconst 1, 1), (6, .if_icmp .ne 7, 3), (9, .iconst 1, 1), (10, .goto 4, 3), (13, .iconst 0, 1), (14, .ireturn, 1)]
theorem dt_X3_sits_0 : dOk cX3_sits T_X3_sits_0 := by unfold dOk; decide +kernel
section
variable {v : ZV} {l : Launch} {p : Program} {e : Env} {R : Room} {s : State} {m : MethodId} {args : Array Value} {below : List Frame} {meth : Method} {c : Code} {Q : State → Prop} {res : (Int32 × Hp)} 
set_option maxRecDepth 20000 in
theorem lkF_X3_sits (hi : zInj wC v) (xc : XC wC v) (nx : NXC v) (X : Cx wC v p R s m args c 0 0 cX3_sits 2 RX3 2) (rt : Rt wC v p l e R s m args below meth c 0 0 Q cX3_sits true (some (.int res.1)) res.2) {a0 : Int32} {a1 : Int32} {σ : Hp}  (h : F_X3_sits  a0 a1 σ = some res) : Go wC v p l e R s m args below meth c 0 0 Q 2 0 [(0, .int a0), (1, .int a1)] [] σ := by
  unfold F_X3_sits at h
  refine go_iload_n X 0 (dk dt_X3_sits_0 0 rfl) rfl rfl ?_
  refine go_iload_n X 1 (dk dt_X3_sits_0 1 rfl) rfl rfl ?_
  refine go_ishr X (dk dt_X3_sits_0 2 rfl) ?_
  refine go_iconst X (dk dt_X3_sits_0 3 rfl) ci_1 ?_
  refine go_iand X (dk dt_X3_sits_0 4 rfl) ?_
  refine go_iconst X (dk dt_X3_sits_0 5 rfl) ci_1 ?_
  refine go_icmp_ne (tgt := 13) X (dk dt_X3_sits_0 6 rfl) (by decide) h (fun h => ?_) (fun h => ?_)
  · refine go_iconst X (dk dt_X3_sits_0 9 rfl) ci_0 ?_
    exact go_iret rt (dk dt_X3_sits_0 10 rfl) h (by decide)
  · refine go_iconst X (dk dt_X3_sits_0 7 rfl) ci_1 ?_
    refine go_goto (tgt := 14) X (dk dt_X3_sits_0 8 rfl) (by decide) ?_
    exact go_iret rt (dk dt_X3_sits_0 10 rfl) h (by decide)
set_option maxRecDepth 20000 in
theorem ct_X3_sits (hi : zInj wC v) (xc : XC wC v) (nx : NXC v)  {a0 : Int32} {a1 : Int32} {σ : Hp}  {q : (Int32 × Hp)} (h : F_X3_sits  a0 a1 σ = some q) : Ct wC v l yX3_sits cX3_sits 2 (some .boolean) 2 [.int a0, .int a1] σ (some (.int q.1)) q.2 :=
  Ct.intro true (by decide) hi xc (Nat.le_of_ble_eq_true rfl) rfl (fun p e R s m args below meth c Q X rt => lkF_X3_sits hi xc nx X rt  h)
end
def T_X3_mayPass_0 : DT := [(0, .iload_n 0, 1), (1, .iload_n 2, 1), (2, .invokestatic 47, 3), (5, .ifCond .eq 14, 3), (8, .iload_n 0, 1), (9, .invokestatic 32, 3), (12, .iload_n 1, 1), (13, .invokestatic 32, 3), (16, .if_icmp .le 7, 3), (19, .iconst 1, 1), (20, .goto 4, 3), (23, .iconst 0, 1), (24, .ireturn, 1)]
theorem dt_X3_mayPass_0 : dOk cX3_mayPass T_X3_mayPass_0 := by unfold dOk; decide +kernel
section
variable {v : ZV} {l : Launch} {p : Program} {e : Env} {R : Room} {s : State} {m : MethodId} {args : Array Value} {below : List Frame} {meth : Method} {c : Code} {Q : State → Prop} {res : (Int32 × Hp)} 
set_option maxRecDepth 20000 in
theorem lkF_X3_mayPass (hi : zInj wC v) (xc : XC wC v) (nx : NXC v) (X : Cx wC v p R s m args c 0 0 cX3_mayPass 3 RX3 4) (rt : Rt wC v p l e R s m args below meth c 0 0 Q cX3_mayPass true (some (.int res.1)) res.2) {a0 : Int32} {a1 : Int32} {a2 : Int32} {σ : Hp}  (h : F_X3_mayPass  a0 a1 a2 σ = some res) : Go wC v p l e R s m args below meth c 0 0 Q 3 0 [(0, .int a0), (1, .int a1), (2, .int a2)] [] σ := by
  unfold F_X3_mayPass at h
  refine go_iload_n X 0 (dk dt_X3_mayPass_0 0 rfl) rfl rfl ?_
  refine go_iload_n X 2 (dk dt_X3_mayPass_0 1 rfl) rfl rfl ?_
  refine go_Si (As := [.int a0, .int a2]) (rest := []) X so_X3_47 (fun q hq => ct_X3_sits hi xc nx  hq) (by decide) rfl rfl (Nat.le_of_ble_eq_true rfl) (dk dt_X3_mayPass_0 2 rfl) h (fun q2 h => ?_)
  refine go_if_eq (tgt := 19) X (dk dt_X3_mayPass_0 3 rfl) (by decide) h (fun h => ?_) (fun h => ?_)
  · refine go_iconst X (dk dt_X3_mayPass_0 9 rfl) ci_1 ?_
    refine go_goto (tgt := 24) X (dk dt_X3_mayPass_0 10 rfl) (by decide) ?_
    exact go_iret rt (dk dt_X3_mayPass_0 12 rfl) h (by decide)
  · refine go_iload_n X 0 (dk dt_X3_mayPass_0 4 rfl) rfl rfl ?_
    refine go_Si (As := [.int a0]) (rest := []) X so_X3_32 (fun q hq => ct_J6_bitCount hi xc nx  hq) (by decide) rfl rfl (Nat.le_of_ble_eq_true rfl) (dk dt_X3_mayPass_0 5 rfl) h (fun q9 h => ?_)
    refine go_iload_n X 1 (dk dt_X3_mayPass_0 6 rfl) rfl rfl ?_
    refine go_Si (As := [.int a1]) (rest := [.int q9.1]) X so_X3_32 (fun q hq => ct_J6_bitCount hi xc nx  hq) (by decide) rfl rfl (Nat.le_of_ble_eq_true rfl) (dk dt_X3_mayPass_0 7 rfl) h (fun q13 h => ?_)
    refine go_icmp_le (tgt := 23) X (dk dt_X3_mayPass_0 8 rfl) (by decide) h (fun h => ?_) (fun h => ?_)
    · refine go_iconst X (dk dt_X3_mayPass_0 11 rfl) ci_0 ?_
      exact go_iret rt (dk dt_X3_mayPass_0 12 rfl) h (by decide)
    · refine go_iconst X (dk dt_X3_mayPass_0 9 rfl) ci_1 ?_
      refine go_goto (tgt := 24) X (dk dt_X3_mayPass_0 10 rfl) (by decide) ?_
      exact go_iret rt (dk dt_X3_mayPass_0 12 rfl) h (by decide)
set_option maxRecDepth 20000 in
theorem ct_X3_mayPass (hi : zInj wC v) (xc : XC wC v) (nx : NXC v)  {a0 : Int32} {a1 : Int32} {a2 : Int32} {σ : Hp}  {q : (Int32 × Hp)} (h : F_X3_mayPass  a0 a1 a2 σ = some q) : Ct wC v l yX3_mayPass cX3_mayPass 3 (some .boolean) 4 [.int a0, .int a1, .int a2] σ (some (.int q.1)) q.2 :=
  Ct.intro true (by decide) hi xc (Nat.le_of_ble_eq_true rfl) rfl (fun p e R s m args below meth c Q X rt => lkF_X3_mayPass hi xc nx X rt  h)
end
def T_X3_leastWay_0 : DT := [(0, .iload_n 1, 1), (1, .bipush 8, 2), (3, .if_icmp .lt 11, 3), (6, .iload_n 2, 1), (7, .bipush 8, 2), (9, .if_icmp .lt 5, 3), (12, .iconst 0, 1), (13, .ireturn, 1), (14, .sipush 1000, 3), (17, .istore_n 3, 1), (18, .iload_n 1, 1), (19, .bipush 8, 2), (21, .if_icmp .ge 36, 3), (24, .aload_n 0, 1), (25, .getfield 18, 3), (28, .aload_n 0, 1)]
theorem dt_X3_leastWay_0 : dOk cX3_leastWay T_X3_leastWay_0 := by unfold dOk; decide +kernel
def T_X3_leastWay_1 : DT := [(29, .getfield 22, 3), (32, .iload_n 1, 1), (33, .invokestatic 43, 3), (36, .ifCond .eq 21, 3), (39, .iload_n 3, 1), (40, .aload_n 0, 1), (41, .getfield 11, 3), (44, .iload_n 1, 1), (45, .iconst 1, 1), (46, .iadd, 1), (47, .bipush 9, 2), (49, .imul, 1), (50, .iload_n 2, 1), (51, .iadd, 1), (52, .iaload, 1), (53, .invokestatic 38, 3)]
theorem dt_X3_leastWay_1 : dOk cX3_leastWay T_X3_leastWay_1 := by unfold dOk; decide +kernel
def T_X3_leastWay_2 : DT := [(56, .istore_n 3, 1), (57, .iload_n 2, 1), (58, .bipush 8, 2), (60, .if_icmp .ge 36, 3), (63, .aload_n 0, 1), (64, .getfield 22, 3), (67, .aload_n 0, 1), (68, .getfield 18, 3), (71, .iload_n 2, 1), (72, .invokestatic 43, 3), (75, .ifCond .eq 21, 3), (78, .iload_n 3, 1), (79, .aload_n 0, 1), (80, .getfield 11, 3), (83, .iload_n 1, 1), (84, .bipush 9, 2)]
theorem dt_X3_leastWay_2 : dOk cX3_leastWay T_X3_leastWay_2 := by unfold dOk; decide +kernel
def T_X3_leastWay_3 : DT := [(86, .imul, 1), (87, .iload_n 2, 1), (88, .iadd, 1), (89, .iconst 1, 1), (90, .iadd, 1), (91, .iaload, 1), (92, .invokestatic 38, 3), (95, .istore_n 3, 1), (96, .iload_n 1, 1), (97, .bipush 8, 2), (99, .if_icmp .ge 58, 3), (102, .iload_n 2, 1), (103, .bipush 8, 2), (105, .if_icmp .ge 52, 3), (108, .aload_n 0, 1), (109, .getfield 18, 3)]
theorem dt_X3_leastWay_3 : dOk cX3_leastWay T_X3_leastWay_3 := by unfold dOk; decide +kernel
def T_X3_leastWay_4 : DT := [(112, .iload_n 1, 1), (113, .invokestatic 47, 3), (116, .ifCond .eq 41, 3), (119, .aload_n 0, 1), (120, .getfield 22, 3), (123, .iload_n 2, 1), (124, .invokestatic 47, 3), (127, .ifCond .eq 30, 3), (130, .iload_n 3, 1), (131, .iload_n 1, 1), (132, .iload_n 2, 1), (133, .isub, 1), (134, .invokestatic 51, 3), (137, .aload_n 0, 1), (138, .getfield 11, 3), (141, .iload_n 1, 1)]
theorem dt_X3_leastWay_4 : dOk cX3_leastWay T_X3_leastWay_4 := by unfold dOk; decide +kernel
def T_X3_leastWay_5 : DT := [(142, .iconst 1, 1), (143, .iadd, 1), (144, .bipush 9, 2), (146, .imul, 1), (147, .iload_n 2, 1), (148, .iadd, 1), (149, .iconst 1, 1), (150, .iadd, 1), (151, .iaload, 1), (152, .iadd, 1), (153, .invokestatic 38, 3), (156, .istore_n 3, 1), (157, .iload_n 3, 1), (158, .ireturn, 1)]
theorem dt_X3_leastWay_5 : dOk cX3_leastWay T_X3_leastWay_5 := by unfold dOk; decide +kernel
section
variable {v : ZV} {l : Launch} {p : Program} {e : Env} {R : Room} {s : State} {m : MethodId} {args : Array Value} {below : List Frame} {meth : Method} {c : Code} {Q : State → Prop} {res : (Int32 × Hp)} 
set_option maxRecDepth 20000 in
theorem lkJ_X3_leastWay_96 (hi : zInj wC v) (xc : XC wC v) (nx : NXC v) (X : Cx wC v p R s m args c 0 0 cX3_leastWay 4 RX3 6) (rt : Rt wC v p l e R s m args below meth c 0 0 Q cX3_leastWay false (some (.int res.1)) res.2)  {x1 : Int32} {x2 : Int32} {x3 : Int32} {σ : Hp}   (h : J_X3_leastWay_96   x1 x2 x3 σ = some res) : Go wC v p l e R s m args below meth c 0 0 Q 4 96 [(0, .ref 36), (1, .int x1), (2, .int x2), (3, .int x3)] [] σ := by
  unfold J_X3_leastWay_96 at h
  refine go_iload_n X 1 (dk dt_X3_leastWay_3 8 rfl) rfl rfl ?_
  refine go_bipush X (dk dt_X3_leastWay_3 9 rfl) cb_8 ?_
  refine go_icmp_ge (tgt := 157) X (dk dt_X3_leastWay_3 10 rfl) (by decide) h (fun h => ?_) (fun h => ?_)
  · refine go_iload_n X 3 (dk dt_X3_leastWay_5 12 rfl) rfl rfl ?_
    exact go_iret rt (dk dt_X3_leastWay_5 13 rfl) h (fun hh => nomatch hh)
  · refine go_iload_n X 2 (dk dt_X3_leastWay_3 11 rfl) rfl rfl ?_
    refine go_bipush X (dk dt_X3_leastWay_3 12 rfl) cb_8 ?_
    refine go_icmp_ge (tgt := 157) X (dk dt_X3_leastWay_3 13 rfl) (by decide) h (fun h => ?_) (fun h => ?_)
    · refine go_iload_n X 3 (dk dt_X3_leastWay_5 12 rfl) rfl rfl ?_
      exact go_iret rt (dk dt_X3_leastWay_5 13 rfl) h (fun hh => nomatch hh)
    · refine go_aload_n X 0 (dk dt_X3_leastWay_3 14 rfl) rfl rfl ?_
      refine go_geti X fo_X3_18 lC_36 sC_36 fC_36_2 (dk dt_X3_leastWay_3 15 rfl) ?_
      refine go_iload_n X 1 (dk dt_X3_leastWay_4 0 rfl) rfl rfl ?_
      refine go_Si (As := [.int (σ 36 2), .int x1]) (rest := []) X so_X3_47 (fun q hq => ct_X3_sits hi xc nx  hq) (by decide) rfl rfl (Nat.le_of_ble_eq_true rfl) (dk dt_X3_leastWay_4 1 rfl) h (fun q113 h => ?_)
      refine go_if_eq (tgt := 157) X (dk dt_X3_leastWay_4 2 rfl) (by decide) h (fun h => ?_) (fun h => ?_)
      · refine go_iload_n X 3 (dk dt_X3_leastWay_5 12 rfl) rfl rfl ?_
        exact go_iret rt (dk dt_X3_leastWay_5 13 rfl) h (fun hh => nomatch hh)
      · refine go_aload_n X 0 (dk dt_X3_leastWay_4 3 rfl) rfl rfl ?_
        refine go_geti X fo_X3_22 lC_36 sC_36 fC_36_3 (dk dt_X3_leastWay_4 4 rfl) ?_
        refine go_iload_n X 2 (dk dt_X3_leastWay_4 5 rfl) rfl rfl ?_
        refine go_Si (As := [.int (q113.2 36 3), .int x2]) (rest := []) X so_X3_47 (fun q hq => ct_X3_sits hi xc nx  hq) (by decide) rfl rfl (Nat.le_of_ble_eq_true rfl) (dk dt_X3_leastWay_4 6 rfl) h (fun q124 h => ?_)
        refine go_if_eq (tgt := 157) X (dk dt_X3_leastWay_4 7 rfl) (by decide) h (fun h => ?_) (fun h => ?_)
        · refine go_iload_n X 3 (dk dt_X3_leastWay_5 12 rfl) rfl rfl ?_
          exact go_iret rt (dk dt_X3_leastWay_5 13 rfl) h (fun hh => nomatch hh)
        · refine go_iload_n X 3 (dk dt_X3_leastWay_4 8 rfl) rfl rfl ?_
          refine go_iload_n X 1 (dk dt_X3_leastWay_4 9 rfl) rfl rfl ?_
          refine go_iload_n X 2 (dk dt_X3_leastWay_4 10 rfl) rfl rfl ?_
          refine go_isub X (dk dt_X3_leastWay_4 11 rfl) ?_
          refine go_mabs X mo_X3_51 (by decide) (Nat.le_of_ble_eq_true rfl) (dk dt_X3_leastWay_4 12 rfl) ?_
          refine go_aload_n X 0 (dk dt_X3_leastWay_4 13 rfl) rfl rfl ?_
          refine go_getr X fo_X3_11 lC_36 sC_36 fC_36_0 (dk dt_X3_leastWay_4 14 rfl) ?_
          refine go_iload_n X 1 (dk dt_X3_leastWay_4 15 rfl) rfl rfl ?_
          refine go_iconst X (dk dt_X3_leastWay_5 0 rfl) ci_1 ?_
          refine go_iadd X (dk dt_X3_leastWay_5 1 rfl) ?_
          refine go_bipush X (dk dt_X3_leastWay_5 2 rfl) cb_9 ?_
          refine go_imul X (dk dt_X3_leastWay_5 3 rfl) ?_
          refine go_iload_n X 2 (dk dt_X3_leastWay_5 4 rfl) rfl rfl ?_
          refine go_iadd X (dk dt_X3_leastWay_5 5 rfl) ?_
          refine go_iconst X (dk dt_X3_leastWay_5 6 rfl) ci_1 ?_
          refine go_iadd X (dk dt_X3_leastWay_5 7 rfl) ?_
          refine go_iald X lC_37 sC_37 (dk dt_X3_leastWay_5 8 rfl) h (fun h => ?_)
          refine go_iadd X (dk dt_X3_leastWay_5 9 rfl) ?_
          refine go_mmin X mo_X3_38 (by decide) (Nat.le_of_ble_eq_true rfl) (dk dt_X3_leastWay_5 10 rfl) ?_
          refine go_istore_n (lv' := [(3, .int (jmin x3 ((jabs (x1 - x2)) + (q124.2 37 (Int32.toNatClampNeg ((((x1 + (1 : Int32)) * (9 : Int32)) + x2) + (1 : Int32))))))), (0, .ref 36), (1, .int x1), (2, .int x2)]) X (dk dt_X3_leastWay_5 11 rfl) rfl (by decide) rfl ?_
          refine go_iload_n X 0 (dk dt_X3_leastWay_5 12 rfl) rfl rfl ?_
          exact go_iret rt (dk dt_X3_leastWay_5 13 rfl) h (fun hh => nomatch hh)
set_option maxRecDepth 20000 in
theorem lkJ_X3_leastWay_57 (hi : zInj wC v) (xc : XC wC v) (nx : NXC v) (X : Cx wC v p R s m args c 0 0 cX3_leastWay 4 RX3 6) (rt : Rt wC v p l e R s m args below meth c 0 0 Q cX3_leastWay false (some (.int res.1)) res.2)  {x1 : Int32} {x2 : Int32} {x3 : Int32} {σ : Hp}   (h : J_X3_leastWay_57   x1 x2 x3 σ = some res) : Go wC v p l e R s m args below meth c 0 0 Q 4 57 [(0, .ref 36), (1, .int x1), (2, .int x2), (3, .int x3)] [] σ := by
  unfold J_X3_leastWay_57 at h
  refine go_iload_n X 2 (dk dt_X3_leastWay_2 1 rfl) rfl rfl ?_
  refine go_bipush X (dk dt_X3_leastWay_2 2 rfl) cb_8 ?_
  refine go_icmp_ge (tgt := 96) X (dk dt_X3_leastWay_2 3 rfl) (by decide) h (fun h => ?_) (fun h => ?_)
  · exact lkJ_X3_leastWay_96 hi xc nx X rt   h
  · refine go_aload_n X 0 (dk dt_X3_leastWay_2 4 rfl) rfl rfl ?_
    refine go_geti X fo_X3_22 lC_36 sC_36 fC_36_3 (dk dt_X3_leastWay_2 5 rfl) ?_
    refine go_aload_n X 0 (dk dt_X3_leastWay_2 6 rfl) rfl rfl ?_
    refine go_geti X fo_X3_18 lC_36 sC_36 fC_36_2 (dk dt_X3_leastWay_2 7 rfl) ?_
    refine go_iload_n X 2 (dk dt_X3_leastWay_2 8 rfl) rfl rfl ?_
    refine go_Si (As := [.int (σ 36 3), .int (σ 36 2), .int x2]) (rest := []) X so_X3_43 (fun q hq => ct_X3_mayPass hi xc nx  hq) (by decide) rfl rfl (Nat.le_of_ble_eq_true rfl) (dk dt_X3_leastWay_2 9 rfl) h (fun q72 h => ?_)
    refine go_if_eq (tgt := 96) X (dk dt_X3_leastWay_2 10 rfl) (by decide) h (fun h => ?_) (fun h => ?_)
    · exact lkJ_X3_leastWay_96 hi xc nx X rt   h
    · refine go_iload_n X 3 (dk dt_X3_leastWay_2 11 rfl) rfl rfl ?_
      refine go_aload_n X 0 (dk dt_X3_leastWay_2 12 rfl) rfl rfl ?_
      refine go_getr X fo_X3_11 lC_36 sC_36 fC_36_0 (dk dt_X3_leastWay_2 13 rfl) ?_
      refine go_iload_n X 1 (dk dt_X3_leastWay_2 14 rfl) rfl rfl ?_
      refine go_bipush X (dk dt_X3_leastWay_2 15 rfl) cb_9 ?_
      refine go_imul X (dk dt_X3_leastWay_3 0 rfl) ?_
      refine go_iload_n X 2 (dk dt_X3_leastWay_3 1 rfl) rfl rfl ?_
      refine go_iadd X (dk dt_X3_leastWay_3 2 rfl) ?_
      refine go_iconst X (dk dt_X3_leastWay_3 3 rfl) ci_1 ?_
      refine go_iadd X (dk dt_X3_leastWay_3 4 rfl) ?_
      refine go_iald X lC_37 sC_37 (dk dt_X3_leastWay_3 5 rfl) h (fun h => ?_)
      refine go_mmin X mo_X3_38 (by decide) (Nat.le_of_ble_eq_true rfl) (dk dt_X3_leastWay_3 6 rfl) ?_
      refine go_istore_n (lv' := [(3, .int (jmin x3 (q72.2 37 (Int32.toNatClampNeg (((x1 * (9 : Int32)) + x2) + (1 : Int32)))))), (0, .ref 36), (1, .int x1), (2, .int x2)]) X (dk dt_X3_leastWay_3 7 rfl) rfl (by decide) rfl ?_
      refine go_sub [1, 2, 3, 0] rfl ?_
      exact lkJ_X3_leastWay_96 hi xc nx X rt   h
set_option maxRecDepth 20000 in
theorem lkJ_X3_leastWay_14 (hi : zInj wC v) (xc : XC wC v) (nx : NXC v) (X : Cx wC v p R s m args c 0 0 cX3_leastWay 4 RX3 6) (rt : Rt wC v p l e R s m args below meth c 0 0 Q cX3_leastWay false (some (.int res.1)) res.2)  {x1 : Int32} {x2 : Int32} {σ : Hp}   (h : J_X3_leastWay_14   x1 x2 σ = some res) : Go wC v p l e R s m args below meth c 0 0 Q 4 14 [(0, .ref 36), (1, .int x1), (2, .int x2)] [] σ := by
  unfold J_X3_leastWay_14 at h
  refine go_sipush X (dk dt_X3_leastWay_0 8 rfl) cs_1000 ?_
  refine go_istore_n (lv' := [(3, .int (1000 : Int32)), (0, .ref 36), (1, .int x1), (2, .int x2)]) X (dk dt_X3_leastWay_0 9 rfl) rfl (by decide) rfl ?_
  refine go_iload_n X 2 (dk dt_X3_leastWay_0 10 rfl) rfl rfl ?_
  refine go_bipush X (dk dt_X3_leastWay_0 11 rfl) cb_8 ?_
  refine go_icmp_ge (tgt := 57) X (dk dt_X3_leastWay_0 12 rfl) (by decide) h (fun h => ?_) (fun h => ?_)
  · refine go_sub [1, 2, 3, 0] rfl ?_
    exact lkJ_X3_leastWay_57 hi xc nx X rt   h
  · refine go_aload_n X 1 (dk dt_X3_leastWay_0 13 rfl) rfl rfl ?_
    refine go_geti X fo_X3_18 lC_36 sC_36 fC_36_2 (dk dt_X3_leastWay_0 14 rfl) ?_
    refine go_aload_n X 1 (dk dt_X3_leastWay_0 15 rfl) rfl rfl ?_
    refine go_geti X fo_X3_22 lC_36 sC_36 fC_36_3 (dk dt_X3_leastWay_1 0 rfl) ?_
    refine go_iload_n X 2 (dk dt_X3_leastWay_1 1 rfl) rfl rfl ?_
    refine go_Si (As := [.int (σ 36 2), .int (σ 36 3), .int x1]) (rest := []) X so_X3_43 (fun q hq => ct_X3_mayPass hi xc nx  hq) (by decide) rfl rfl (Nat.le_of_ble_eq_true rfl) (dk dt_X3_leastWay_1 2 rfl) h (fun q33 h => ?_)
    refine go_if_eq (tgt := 57) X (dk dt_X3_leastWay_1 3 rfl) (by decide) h (fun h => ?_) (fun h => ?_)
    · refine go_sub [1, 2, 3, 0] rfl ?_
      exact lkJ_X3_leastWay_57 hi xc nx X rt   h
    · refine go_iload_n X 0 (dk dt_X3_leastWay_1 4 rfl) rfl rfl ?_
      refine go_aload_n X 1 (dk dt_X3_leastWay_1 5 rfl) rfl rfl ?_
      refine go_getr X fo_X3_11 lC_36 sC_36 fC_36_0 (dk dt_X3_leastWay_1 6 rfl) ?_
      refine go_iload_n X 2 (dk dt_X3_leastWay_1 7 rfl) rfl rfl ?_
      refine go_iconst X (dk dt_X3_leastWay_1 8 rfl) ci_1 ?_
      refine go_iadd X (dk dt_X3_leastWay_1 9 rfl) ?_
      refine go_bipush X (dk dt_X3_leastWay_1 10 rfl) cb_9 ?_
      refine go_imul X (dk dt_X3_leastWay_1 11 rfl) ?_
      refine go_iload_n X 3 (dk dt_X3_leastWay_1 12 rfl) rfl rfl ?_
      refine go_iadd X (dk dt_X3_leastWay_1 13 rfl) ?_
      refine go_iald X lC_37 sC_37 (dk dt_X3_leastWay_1 14 rfl) h (fun h => ?_)
      refine go_mmin X mo_X3_38 (by decide) (Nat.le_of_ble_eq_true rfl) (dk dt_X3_leastWay_1 15 rfl) ?_
      refine go_istore_n (lv' := [(3, .int (jmin (1000 : Int32) (q33.2 37 (Int32.toNatClampNeg (((x1 + (1 : Int32)) * (9 : Int32)) + x2))))), (0, .ref 36), (1, .int x1), (2, .int x2)]) X (dk dt_X3_leastWay_2 0 rfl) rfl (by decide) rfl ?_
      refine go_sub [1, 2, 3, 0] rfl ?_
      exact lkJ_X3_leastWay_57 hi xc nx X rt   h
set_option maxRecDepth 20000 in
theorem lkF_X3_leastWay (hi : zInj wC v) (xc : XC wC v) (nx : NXC v) (X : Cx wC v p R s m args c 0 0 cX3_leastWay 4 RX3 6) (rt : Rt wC v p l e R s m args below meth c 0 0 Q cX3_leastWay false (some (.int res.1)) res.2) {a1 : Int32} {a2 : Int32} {σ : Hp}  (h : F_X3_leastWay  a1 a2 σ = some res) : Go wC v p l e R s m args below meth c 0 0 Q 4 0 [(0, .ref 36), (1, .int a1), (2, .int a2)] [] σ := by
  unfold F_X3_leastWay at h
  refine go_iload_n X 1 (dk dt_X3_leastWay_0 0 rfl) rfl rfl ?_
  refine go_bipush X (dk dt_X3_leastWay_0 1 rfl) cb_8 ?_
  refine go_icmp_lt (tgt := 14) X (dk dt_X3_leastWay_0 2 rfl) (by decide) h (fun h => ?_) (fun h => ?_)
  · exact lkJ_X3_leastWay_14 hi xc nx X rt   h
  · refine go_iload_n X 2 (dk dt_X3_leastWay_0 3 rfl) rfl rfl ?_
    refine go_bipush X (dk dt_X3_leastWay_0 4 rfl) cb_8 ?_
    refine go_icmp_lt (tgt := 14) X (dk dt_X3_leastWay_0 5 rfl) (by decide) h (fun h => ?_) (fun h => ?_)
    · exact lkJ_X3_leastWay_14 hi xc nx X rt   h
    · refine go_iconst X (dk dt_X3_leastWay_0 6 rfl) ci_0 ?_
      exact go_iret rt (dk dt_X3_leastWay_0 7 rfl) h (fun hh => nomatch hh)
set_option maxRecDepth 20000 in
theorem ct_X3_leastWay (hi : zInj wC v) (xc : XC wC v) (nx : NXC v)  {a1 : Int32} {a2 : Int32} {σ : Hp}  {q : (Int32 × Hp)} (h : F_X3_leastWay  a1 a2 σ = some q) : Ct wC v l yX3_leastWay cX3_leastWay 4 (some .int) 6 [.ref 36, .int a1, .int a2] σ (some (.int q.1)) q.2 :=
  Ct.intro false (by decide) hi xc (Nat.le_of_ble_eq_true rfl) rfl (fun p e R s m args below meth c Q X rt => lkF_X3_leastWay hi xc nx X rt  h)
end
