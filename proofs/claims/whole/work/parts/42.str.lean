theorem wd_118 : Cond.initialized RJ0 ∈ tb := tb_in (List.mem_of_getElem? (i := 118) (by decide +kernel)) (by decide)
theorem wd_119 : Cond.initialized RJ1 ∈ tb := tb_in (List.mem_of_getElem? (i := 119) (by decide +kernel)) (by decide)
theorem wd_586 : Cond.methodLink RX5 107 yJ0_indexOf_0f7a4 ∈ tb := tb_in (List.mem_of_getElem? (i := 586) (by decide +kernel)) (by decide)
theorem wd_587 : Cond.instanceMethod yJ0_indexOf_0f7a4 ∈ tb := tb_in (List.mem_of_getElem? (i := 587) (by decide +kernel)) (by decide)
theorem wd_588 : Cond.selects RJ0 yJ0_indexOf_0f7a4 yJ0_indexOf_0f7a4 ∈ tb := tb_in (List.mem_of_getElem? (i := 588) (by decide +kernel)) (by decide)
theorem wd_589 : Cond.code yJ0_indexOf_0f7a4 cJ0_indexOf_0f7a4 2 (some .int) ∈ tb := tb_in (List.mem_of_getElem? (i := 589) (by decide +kernel)) (by decide)
theorem wd_590 : Cond.methodLink RJ0 633 yJ0_indexOf_7cf53 ∈ tb := tb_in (List.mem_of_getElem? (i := 590) (by decide +kernel)) (by decide)
theorem wd_591 : Cond.instanceMethod yJ0_indexOf_7cf53 ∈ tb := tb_in (List.mem_of_getElem? (i := 591) (by decide +kernel)) (by decide)
theorem wd_592 : Cond.selects RJ0 yJ0_indexOf_7cf53 yJ0_indexOf_7cf53 ∈ tb := tb_in (List.mem_of_getElem? (i := 592) (by decide +kernel)) (by decide)
theorem wd_593 : Cond.code yJ0_indexOf_7cf53 cJ0_indexOf_7cf53 3 (some .int) ∈ tb := tb_in (List.mem_of_getElem? (i := 593) (by decide +kernel)) (by decide)
theorem wd_594 : Cond.methodLink RJ0 492 yJ0_isLatin1_aae02 ∈ tb := tb_in (List.mem_of_getElem? (i := 594) (by decide +kernel)) (by decide)
theorem wd_595 : Cond.instanceMethod yJ0_isLatin1_aae02 ∈ tb := tb_in (List.mem_of_getElem? (i := 595) (by decide +kernel)) (by decide)
theorem wd_596 : Cond.selects RJ0 yJ0_isLatin1_aae02 yJ0_isLatin1_aae02 ∈ tb := tb_in (List.mem_of_getElem? (i := 596) (by decide +kernel)) (by decide)
theorem wd_597 : Cond.code yJ0_isLatin1_aae02 cJ0_isLatin1_aae02 1 (some .boolean) ∈ tb := tb_in (List.mem_of_getElem? (i := 597) (by decide +kernel)) (by decide)
theorem wd_598 : Cond.fieldLink RJ0 38 "java/lang/String" "COMPACT_STRINGS" "Z" ∈ tb := tb_in (List.mem_of_getElem? (i := 598) (by decide +kernel)) (by decide)
theorem wd_600 : Cond.methodLink RJ0 505 yJ0_length_8abf5 ∈ tb := tb_in (List.mem_of_getElem? (i := 600) (by decide +kernel)) (by decide)
theorem wd_601 : Cond.instanceMethod yJ0_length_8abf5 ∈ tb := tb_in (List.mem_of_getElem? (i := 601) (by decide +kernel)) (by decide)
theorem wd_602 : Cond.selects RJ0 yJ0_length_8abf5 yJ0_length_8abf5 ∈ tb := tb_in (List.mem_of_getElem? (i := 602) (by decide +kernel)) (by decide)
theorem wd_603 : Cond.code yJ0_length_8abf5 cJ0_length_8abf5 1 (some .int) ∈ tb := tb_in (List.mem_of_getElem? (i := 603) (by decide +kernel)) (by decide)
theorem wd_604 : Cond.methodLink RJ0 335 yJ0_coder_7d493 ∈ tb := tb_in (List.mem_of_getElem? (i := 604) (by decide +kernel)) (by decide)
theorem wd_605 : Cond.instanceMethod yJ0_coder_7d493 ∈ tb := tb_in (List.mem_of_getElem? (i := 605) (by decide +kernel)) (by decide)
theorem wd_606 : Cond.selects RJ0 yJ0_coder_7d493 yJ0_coder_7d493 ∈ tb := tb_in (List.mem_of_getElem? (i := 606) (by decide +kernel)) (by decide)
theorem wd_607 : Cond.code yJ0_coder_7d493 cJ0_coder_7d493 1 (some .byte) ∈ tb := tb_in (List.mem_of_getElem? (i := 607) (by decide +kernel)) (by decide)
theorem wd_608 : Cond.methodLink RJ0 637 yJ1_indexOf_4cfef ∈ tb := tb_in (List.mem_of_getElem? (i := 608) (by decide +kernel)) (by decide)
theorem wd_609 : Cond.static yJ1_indexOf_4cfef ∈ tb := tb_in (List.mem_of_getElem? (i := 609) (by decide +kernel)) (by decide)
theorem wd_610 : Cond.code yJ1_indexOf_4cfef cJ1_indexOf_4cfef 4 (some .int) ∈ tb := tb_in (List.mem_of_getElem? (i := 610) (by decide +kernel)) (by decide)
theorem wd_611 : Cond.methodLink RJ1 88 yJ1_canEncode_9a6ad ∈ tb := tb_in (List.mem_of_getElem? (i := 611) (by decide +kernel)) (by decide)
theorem wd_612 : Cond.static yJ1_canEncode_9a6ad ∈ tb := tb_in (List.mem_of_getElem? (i := 612) (by decide +kernel)) (by decide)
theorem wd_613 : Cond.code yJ1_canEncode_9a6ad cJ1_canEncode_9a6ad 1 (some .boolean) ∈ tb := tb_in (List.mem_of_getElem? (i := 613) (by decide +kernel)) (by decide)
theorem wd_614 : Cond.methodLink RJ1 92 Lib.Math.max.name ∈ tb := tb_in (List.mem_of_getElem? (i := 614) (by decide +kernel)) (by decide)
theorem wd_617 : Cond.methodLink RJ1 38 Lib.Math.min.name ∈ tb := tb_in (List.mem_of_getElem? (i := 617) (by decide +kernel)) (by decide)
theorem wd_620 : Cond.methodLink RJ1 95 yJ1_indexOfChar_4cfef ∈ tb := tb_in (List.mem_of_getElem? (i := 620) (by decide +kernel)) (by decide)
theorem wd_621 : Cond.static yJ1_indexOfChar_4cfef ∈ tb := tb_in (List.mem_of_getElem? (i := 621) (by decide +kernel)) (by decide)
theorem wd_622 : Cond.code yJ1_indexOfChar_4cfef cJ1_indexOfChar_4cfef 6 (some .int) ∈ tb := tb_in (List.mem_of_getElem? (i := 622) (by decide +kernel)) (by decide)
theorem wd_1761 : Cond.fieldLink RJ0 15 "java/lang/String" "coder" "B" ∈ tb := tb_in (List.mem_of_getElem? (i := 1761) (by decide +kernel)) (by decide)
theorem wd_1762 : Cond.fieldLink RJ0 9 "java/lang/String" "value" "[B" ∈ tb := tb_in (List.mem_of_getElem? (i := 1762) (by decide +kernel)) (by decide)
theorem mo_J1_38 : MOk RJ1 38 Lib.Math.min.name Lib.Math.min.code 2 := ⟨wd_617, wd_618, wd_120, wd_619⟩
theorem mo_J1_92 : MOk RJ1 92 Lib.Math.max.name Lib.Math.max.code 2 := ⟨wd_614, wd_615, wd_120, wd_616⟩
theorem so_J0_637 : SOk RJ0 637 yJ1_indexOf_4cfef cJ1_indexOf_4cfef 4 (some .int) 4 := ⟨wd_608, wd_609, wd_119, wd_610, by decide +kernel, by decide⟩
theorem so_J1_88 : SOk RJ1 88 yJ1_canEncode_9a6ad cJ1_canEncode_9a6ad 1 (some .boolean) 1 := ⟨wd_611, wd_612, wd_119, wd_613, by decide +kernel, by decide⟩
theorem so_J1_95 : SOk RJ1 95 yJ1_indexOfChar_4cfef cJ1_indexOfChar_4cfef 6 (some .int) 4 := ⟨wd_620, wd_621, wd_119, wd_622, by decide +kernel, by decide⟩
theorem vo_J0_335 : VOk RJ0 335 yJ0_coder_7d493 cJ0_coder_7d493 1 (some .byte) 0 := ⟨wd_604, wd_605, wd_606, wd_118, wd_607, by decide +kernel, by decide⟩
theorem vo_J0_492 : VOk RJ0 492 yJ0_isLatin1_aae02 cJ0_isLatin1_aae02 1 (some .boolean) 0 := ⟨wd_594, wd_595, wd_596, wd_118, wd_597, by decide +kernel, by decide⟩
theorem vo_J0_505 : VOk RJ0 505 yJ0_length_8abf5 cJ0_length_8abf5 1 (some .int) 0 := ⟨wd_600, wd_601, wd_602, wd_118, wd_603, by decide +kernel, by decide⟩
theorem vo_J0_633 : VOk RJ0 633 yJ0_indexOf_7cf53 cJ0_indexOf_7cf53 3 (some .int) 2 := ⟨wd_590, wd_591, wd_592, wd_118, wd_593, by decide +kernel, by decide⟩
theorem vo_X5_107 : VOk RX5 107 yJ0_indexOf_0f7a4 cJ0_indexOf_0f7a4 2 (some .int) 1 := ⟨wd_586, wd_587, wd_588, wd_118, wd_589, by decide +kernel, by decide⟩
-- the constant text "sckalunovhd" and the JDK's own methods that look for a sign in it
def sbyt (j : Nat) : Int32 := [115, 99, 107, 97, 108, 117, 110, 111, 118, 104, 100].getD j 0
def AXC (v : ZV) : Nat → Prop := fun q => ∃ k, k < wC.1 ∧ q = v.1 k
def StrF (v : ZV) (U : State) : Prop := va_O "java/lang/String" (v.1 61) (AXC v) U U.heap ∧ va_OF "java/lang/String" "coder" "B" (.int 0) (v.1 61) (AXC v) U U.heap ∧ va_OF "java/lang/String" "value" "[B" (.ref (v.1 62)) (v.1 61) (AXC v) U U.heap ∧ va_T .byte (v.1 62) 11 (fun j => .int (sbyt j)) (AXC v) U U.heap ∧ va_Z "java/lang/String" "COMPACT_STRINGS" "Z" (.int 1) (AXC v) U U.heap
def SX (v : ZV) : Prop := ∀ U, zX v U → StrF v U
theorem axc_zA {v : ZV} {s : State} {t : Nat} {cell : Cell} (h : s.heap[t]? = some cell) (hA : ¬ AXC v t) : ¬ zA wC v s.heap.size t := by
  intro hh
  rcases hh with hh | hh
  · exact hA hh
  · have := (Array.getElem?_eq_some_iff.mp h).1
    omega
theorem Ct.introB {w : ZS} {v : ZV} {l : Launch} {y : MethodName} {cc : ByteArray} {maxL : Nat} {d : Nat} {av : List Value} {σ : Hp} {x : Int32} {σ' : Hp} (hy : plainName y.cls = true) (hi : zInj w v) (xc : XC w v) (hn : (lg_sl av).length ≤ maxL)
    (body : ∀ (p : Program) (e : Env) (R : Room) (s : State) (m : MethodId) (args : Array Value) (below : List Frame) (meth : Method) (c : Code) (Q : State → Prop), Cx w v p R s m args c 0 0 cc maxL y.cls d → Rt w v p l e R s m args below meth c 0 0 Q cc true (some (.int x)) σ' → Go w v p l e R s m args below meth c 0 0 Q maxL 0 (lv_args 0 av) [] σ) : Ct w v l y cc maxL (some .byte) d av σ (some (.int x)) σ' := by
  intro sz
  refine Met.ofW (cc := cc) (maxL := maxL) (ret := some .byte) hy rfl ?_
  intro p e s m args below meth c s₁ B hml hv
  obtain ⟨rfl, hsz, hP, hK, hX⟩ := hv
  subst hsz
  have hts := atoms_spec (ws := Cond.code y cc maxL (some .byte) :: tb) B.pre
  have hlocks := B.notSynchronized
  have hret := B.returns
  have C : Cx w v p (rmm d) s m (av.map (cv v.1)).toArray c 0 0 cc maxL y.cls d := ⟨B.exec, B.bytes, hml, findClass_of_methodNamed B.named, fun x hx => hts x (List.mem_cons_of_mem _ hx), hK, hi, ⟨Nat.le_refl _, Nat.le_refl _, Nat.le_refl _, Nat.le_refl _⟩, hX, xc⟩
  have hl := lv_entry (av.map (cv v.1)) (n := maxL) (by rw [lg_sl_len]; exact hn)
  rw [lg_entry_eq]
  rw [lv_args_map] at hl
  refine body p e (rmm d) s m _ below meth c _ C ?_ s.heap [] _ hP va_S.rf hl
  intro pc ls H locs hd hP1 hS1
  exact W.zret (ty := .byte) C.1 C.2.1 hret (by rcases hd.2 rfl with rfl | rfl <;> rfl) (fun t ht hW => ⟨⟨rfl, by rw [ht]; exact hP1⟩, hS1.F ht⟩) hS1.2.2 hd.1
section STRROWS
variable {v : ZV} {p : Program} {l : Launch} {e : Env} {R : Room} {s : State} {m : MethodId} {args : Array Value} {below : List Frame} {meth : Method} {c : Code} {cells slots : Nat} {Q : State → Prop} {cc : ByteArray} {nL : Nat} {own : String} {d : Nat} {pc : Nat} {lv lv' : List (Nat × Value)} {st : List Value} {σ : Hp} {β : Type} {T E : Option β} {res : β}
theorem go_sgs (X : Cx wC v p R s m args c cells slots cc nL own d) (nx : SX v) {ix : Nat} (hw : Cond.fieldLink own ix "java/lang/String" "COMPACT_STRINGS" "Z" ∈ tb) (hd : decode cc pc = .ok (.getstatic ix, 3)) (k : Go wC v p l e R s m args below meth c cells slots Q nL (pc + 3) lv (.int 1 :: st) σ) : Go wC v p l e R s m args below meth c cells slots Q nL pc lv st σ := fun H locs ls hP hS hl => by
  obtain ⟨-, -, -, -, cf, kf, fi, f, a, cell, h1, h2, h3, h4, h5, h6, h7, h8⟩ := nx s X.2.2.2.2.2.2.2.2.1
  have hZ : va_Z "java/lang/String" "COMPACT_STRINGS" "Z" (.int 1) (zA wC v s.heap.size) s s.heap := ⟨cf, kf, fi, f, a, cell, h1, h2, h3, h4, h5, h6, h7, axc_zA h5 h8⟩
  exact va_gets X.1 X.2.1 hZ hS X.2.2.2.1 (X.2.2.2.2.1 _ hw) (fun _ h9 => h9) hd (k H locs ls hP hS hl)
theorem go_sgetv (X : Cx wC v p R s m args c cells slots cc nL own d) (nx : SX v) {ix : Nat} (hw : Cond.fieldLink own ix "java/lang/String" "value" "[B" ∈ tb) (hd : decode cc pc = .ok (.getfield ix, 3)) (k : Go wC v p l e R s m args below meth c cells slots Q nL (pc + 3) lv (.ref 62 :: st) σ) : Go wC v p l e R s m args below meth c cells slots Q nL pc lv (.ref 61 :: st) σ := fun H locs ls hP hS hl => by
  obtain ⟨-, -, ⟨cf, kf, i, f, cell, h1, h2, h3, h4, h5, h6⟩, -, -⟩ := nx s X.2.2.2.2.2.2.2.2.1
  have hE : va_OF "java/lang/String" "value" "[B" (.ref (v.1 62)) (v.1 61) (zA wC v s.heap.size) s s.heap := ⟨cf, kf, i, f, cell, h1, h2, h3, h4, h5, axc_zA h3 h6⟩
  exact vk_getf X.1 X.2.1 hE hS X.2.2.2.1 (X.2.2.2.2.1 _ hw) (fun _ h9 => h9) hd (k H locs ls hP hS hl)
theorem go_sgetc (X : Cx wC v p R s m args c cells slots cc nL own d) (nx : SX v) {ix : Nat} (hw : Cond.fieldLink own ix "java/lang/String" "coder" "B" ∈ tb) (hd : decode cc pc = .ok (.getfield ix, 3)) (k : Go wC v p l e R s m args below meth c cells slots Q nL (pc + 3) lv (.int 0 :: st) σ) : Go wC v p l e R s m args below meth c cells slots Q nL pc lv (.ref 61 :: st) σ := fun H locs ls hP hS hl => by
  obtain ⟨-, ⟨cf, kf, i, f, cell, h1, h2, h3, h4, h5, h6⟩, -, -, -⟩ := nx s X.2.2.2.2.2.2.2.2.1
  have hE : va_OF "java/lang/String" "coder" "B" (.int 0) (v.1 61) (zA wC v s.heap.size) s s.heap := ⟨cf, kf, i, f, cell, h1, h2, h3, h4, h5, axc_zA h3 h6⟩
  exact vk_getf X.1 X.2.1 hE hS X.2.2.2.1 (X.2.2.2.2.1 _ hw) (fun _ h9 => h9) hd (k H locs ls hP hS hl)
theorem strT {v : ZV} {s : State} (h : StrF v s) : va_T .byte (v.1 62) 11 (fun j => .int (sbyt j)) (zA wC v s.heap.size) s s.heap := by
  obtain ⟨-, -, -, ⟨cell, h1, h2, h3, h4, h5, h6, h7⟩, -⟩ := h
  exact ⟨cell, h1, h2, h3, h4, h5, h6, axc_zA h1 h7⟩
theorem go_slen (X : Cx wC v p R s m args c cells slots cc nL own d) (nx : SX v) (hd : decode cc pc = .ok (.arraylength, 1)) (k : Go wC v p l e R s m args below meth c cells slots Q nL (pc + 1) lv (.int 11 :: st) σ) : Go wC v p l e R s m args below meth c cells slots Q nL pc lv (.ref 62 :: st) σ := fun H locs ls hP hS hl =>
  va_tlen X.1 X.2.1 (strT (nx s X.2.2.2.2.2.2.2.2.1)) hS (by decide) hd (k H locs ls hP hS hl)
theorem go_sbald (X : Cx wC v p R s m args c cells slots cc nL own d) (nx : SX v) {i : Int32} (hd : decode cc pc = .ok (.baload, 1)) (h : gd (inb i 11) T = some res) (kk : T = some res → Go wC v p l e R s m args below meth c cells slots Q nL (pc + 1) lv (.int (sbyt i.toNatClampNeg) :: st) σ) : Go wC v p l e R s m args below meth c cells slots Q nL pc lv (.int i :: .ref 62 :: st) σ := fun H locs ls hP hS hl =>
  va_tb X.1 X.2.1 (strT (nx s X.2.2.2.2.2.2.2.2.1)) hS (inb_in (gd_some h).1) rfl hd (kk (gd_some h).2 H locs ls hP hS hl)
theorem go_sV (X : Cx wC v p R s m args c cells slots cc nL own d) (nx : SX v) {y : MethodName} {bytes : ByteArray} {maxL ix d' n : Nat} {ret : Option FieldType} {As rest : List Value} {rv : Option Value} {σ' : Hp} (ok : VOk own ix y bytes maxL ret n) (hyc : y.cls = "java/lang/String") (hM : Ct wC v l y bytes maxL ret d' (.ref 61 :: As) σ rv σ') (hd' : d' < d) (hn : As.length = n) (hst : st = As.reverse ++ .ref 61 :: rest) (hr : (rest.map fun x => x.category).sum ≤ 8) (hd : decode cc pc = .ok (.invokevirtual ix, 3)) (kk : Go wC v p l e R s m args below meth c cells slots Q nL (pc + 3) lv (rv.toList ++ rest) σ') : Go wC v p l e R s m args below meth c cells slots Q nL pc lv st σ := fun H locs ls hP hS hl => by
  subst hst
  obtain ⟨o1, o2, o3, o4, o5, o6, o7⟩ := ok
  obtain ⟨hx, hbc, hml, ho, hts, hK, hi, ⟨r1, r2, r3, r4⟩, hX, xc⟩ := X
  have hp := preS (As := .ref 61 :: As) hK hX xc hP hS
  have hrec : ∃ cell : Cell, H[v.1 61]? = some cell ∧ cell.vm.isStatics = false ∧ s.vm.findClass y.cls = some cell.cls := by
    obtain ⟨⟨cell, h1, h2, h3, h4⟩, -⟩ := nx s hX
    refine ⟨cell, ?_, h2, by rw [hyc]; exact h3⟩
    rw [hS.2.1 _ (Array.getElem?_eq_some_iff.mp h1).1 (axc_zA h1 h4)]
    exact h1
  refine go_run (rest := rest) hS hl (va_runV (C := y.cls) (b := v.1 61) (As := As.map (cv v.1)) (Ts := tb) ⟨hx, hbc, hml, ho, hts⟩ (hM H.size) (cwV n hts (goodIn_tb (fun x hx => ?_)) rfl rfl rfl ⟨rfl, o6⟩ ⟨?_, ?_⟩) ⟨hp.1, hrec, hp.2⟩ rfl (by simp [hn]) hl.1 (by simp [cv]) (roomq hr (Nat.le_refl _)) hd ⟨r3, r4⟩) kk
  · simp only [wsV, List.mem_append, List.mem_cons, List.not_mem_nil, or_false] at hx
    rcases hx with (rfl | rfl | rfl | rfl) | (rfl | hx)
    · exact o1
    · exact o2
    · exact o3
    · exact o4
    · exact o5
    · exact hx
  · show d' + 1 ≤ R.frames
    omega
  · show 8 + (maxL + 11) + 60 * d' ≤ R.locals
    omega
theorem go_sVi (X : Cx wC v p R s m args c cells slots cc nL own d) (nx : SX v) {F : Option (Int32 × Hp)} {f : Int32 × Hp → Option β} {y : MethodName} {bytes : ByteArray} {maxL ix d' n : Nat} {ret : Option FieldType} {As rest : List Value} (ok : VOk own ix y bytes maxL ret n) (hM : ∀ q, F = some q → Ct wC v l y bytes maxL ret d' (.ref 61 :: As) σ (some (.int q.1)) q.2) (hd' : d' < d) (hn : As.length = n) (hst : st = As.reverse ++ .ref 61 :: rest) (hr : (rest.map fun x => x.category).sum ≤ 8) (hd : decode cc pc = .ok (.invokevirtual ix, 3)) (h : F.bind f = some res) (kk : ∀ q, f q = some res → Go wC v p l e R s m args below meth c cells slots Q nL (pc + 3) lv (.int q.1 :: rest) q.2) (hyc : y.cls = "java/lang/String" := by rfl) : Go wC v p l e R s m args below meth c cells slots Q nL pc lv st σ := by
  obtain ⟨q, h1, h2⟩ := Option.bind_eq_some_iff.mp h
  exact go_sV X nx ok hyc (hM q h1) hd' hn hst hr hd (kk q h2)
end STRROWS
def F_sL_canEncode (a0 : Int32) (σ : Hp) : Option (Int32 × Hp) :=
  if a0 < 0 then (some ((0 : Int32), σ)) else (if (255 : Int32) < a0 then (some ((0 : Int32), σ)) else (some ((1 : Int32), σ)))
def B_sL_indexOfChar_7  (k7 : Int32 → Int32 → Int32 → Hp → Option (Int32 × Hp)) (x3 : Int32) (x4 : Int32) (x5 : Int32) (σ : Hp) : Option (Int32 × Hp) :=
  if x3 ≤ x5 then (some ((-1 : Int32), σ)) else (gd (inb x5 11) (if (sbyt (Int32.toNatClampNeg x5)) = x4 then (some (x5, σ)) else (k7 x3 x4 (x5 + (1 : Int32)) σ)))
def L_sL_indexOfChar_7   : Nat → Int32 → Int32 → Int32 → Hp → Option (Int32 × Hp)
  | 0, _, _, _, _ => none
  | n + 1, x3, x4, x5, σ => B_sL_indexOfChar_7  (fun x3 x4 x5 σ => L_sL_indexOfChar_7   n x3 x4 x5 σ) x3 x4 x5 σ
def F_sL_indexOfChar (a1 : Int32) (a2 : Int32) (a3 : Int32) (σ : Hp) : Option (Int32 × Hp) :=
  L_sL_indexOfChar_7   FU a3 (Int8.toInt32 (Int32.toInt8 a1)) a2 σ
def F_sL_indexOf (a1 : Int32) (a2 : Int32) (a3 : Int32) (σ : Hp) : Option (Int32 × Hp) :=
  (F_sL_canEncode a1 σ).bind fun q1 => if q1.1 = 0 then (some ((-1 : Int32), q1.2)) else (if (jmax a2 (0 : Int32)) < (jmin a3 (11 : Int32)) then ((F_sL_indexOfChar a1 (jmax a2 (0 : Int32)) (jmin a3 (11 : Int32)) q1.2).bind fun q33 => some (q33.1, q33.2)) else (some ((-1 : Int32), q1.2)))
def F_s_coder  (σ : Hp) : Option (Int32 × Hp) :=
  if (1 : Int32) = 0 then (some ((1 : Int32), σ)) else (some ((0 : Int32), σ))
def F_s_length  (σ : Hp) : Option (Int32 × Hp) :=
  (F_s_coder  σ).bind fun q6 => some (((11 : Int32) >>> (q6.1 &&& 31)), q6.2)
def F_s_isLatin1  (σ : Hp) : Option (Int32 × Hp) :=
  if (1 : Int32) = 0 then (some ((0 : Int32), σ)) else (if (0 : Int32) = 0 then (some ((1 : Int32), σ)) else (some ((0 : Int32), σ)))
def F_s_indexOf2 (a1 : Int32) (a2 : Int32) (σ : Hp) : Option (Int32 × Hp) :=
  (F_s_isLatin1  σ).bind fun q1 => if q1.1 = 0 then ((F_s_length  q1.2).bind fun q30 => none) else ((F_s_length  q1.2).bind fun q14 => (F_sL_indexOf a1 a2 q14.1 q14.2).bind fun q17 => some (q17.1, q17.2))
def F_s_indexOf1 (a1 : Int32) (σ : Hp) : Option (Int32 × Hp) :=
  (F_s_indexOf2 a1 (0 : Int32) σ).bind fun q3 => some (q3.1, q3.2)
def T_sL_canEncode_0 : DT := [(0, .iload_n 0, 1), (1, .ifCond .lt 14, 3), (4, .iload_n 0, 1), (5, .sipush 255, 3), (8, .if_icmp .gt 7, 3), (11, .iconst 1, 1), (12, .goto 4, 3), (15, .iconst 0, 1), (16, .ireturn, 1)]
theorem dt_sL_canEncode_0 : dOk cJ1_canEncode_9a6ad T_sL_canEncode_0 := by unfold dOk; decide +kernel
section
variable {v : ZV} {l : Launch} {p : Program} {e : Env} {R : Room} {s : State} {m : MethodId} {args : Array Value} {below : List Frame} {meth : Method} {c : Code} {Q : State → Prop} {res : (Int32 × Hp)} 
set_option maxRecDepth 20000 in
theorem lkF_sL_canEncode (hi : zInj wC v) (xc : XC wC v) (nx : SX v) (X : Cx wC v p R s m args c 0 0 cJ1_canEncode_9a6ad 1 RJ1 2) (rt : Rt wC v p l e R s m args below meth c 0 0 Q cJ1_canEncode_9a6ad true (some (.int res.1)) res.2) {a0 : Int32} {σ : Hp} (h : F_sL_canEncode a0 σ = some res) : Go wC v p l e R s m args below meth c 0 0 Q 1 0 [(0, .int a0)] [] σ := by
  unfold F_sL_canEncode at h
  refine go_iload_n X 0 (dk dt_sL_canEncode_0 0 rfl) rfl rfl ?_
  refine go_if_lt (tgt := 15) X (dk dt_sL_canEncode_0 1 rfl) (by decide) h (fun h => ?_) (fun h => ?_)
  · refine go_iconst X (dk dt_sL_canEncode_0 7 rfl) ci_0 ?_
    exact go_iret rt (dk dt_sL_canEncode_0 8 rfl) h (by decide)
  · refine go_iload_n X 0 (dk dt_sL_canEncode_0 2 rfl) rfl rfl ?_
    refine go_sipush X (dk dt_sL_canEncode_0 3 rfl) cs_255 ?_
    refine go_icmp_gt (tgt := 15) X (dk dt_sL_canEncode_0 4 rfl) (by decide) h (fun h => ?_) (fun h => ?_)
    · refine go_iconst X (dk dt_sL_canEncode_0 7 rfl) ci_0 ?_
      exact go_iret rt (dk dt_sL_canEncode_0 8 rfl) h (by decide)
    · refine go_iconst X (dk dt_sL_canEncode_0 5 rfl) ci_1 ?_
      refine go_goto (tgt := 16) X (dk dt_sL_canEncode_0 6 rfl) (by decide) ?_
      exact go_iret rt (dk dt_sL_canEncode_0 8 rfl) h (by decide)
set_option maxRecDepth 20000 in
theorem ct_sL_canEncode (hi : zInj wC v) (xc : XC wC v) (nx : SX v) {a0 : Int32} {σ : Hp} {q : (Int32 × Hp)} (h : F_sL_canEncode a0 σ = some q) : Ct wC v l yJ1_canEncode_9a6ad cJ1_canEncode_9a6ad 1 (some .boolean) 2 [.int a0] σ (some (.int q.1)) q.2 :=
  Ct.intro true (by decide) hi xc (Nat.le_of_ble_eq_true rfl) rfl (fun p e R s m args below meth c Q X rt => lkF_sL_canEncode hi xc nx X rt h)
end
def T_sL_indexOfChar_0 : DT := [(0, .iload_n 1, 1), (1, .i2b, 1), (2, .istore 4, 2), (4, .iload_n 2, 1), (5, .istore 5, 2), (7, .iload 5, 2), (9, .iload_n 3, 1), (10, .if_icmp .ge 21, 3), (13, .aload_n 0, 1), (14, .iload 5, 2), (16, .baload, 1), (17, .iload 4, 2), (19, .if_icmp .ne 6, 3), (22, .iload 5, 2), (24, .ireturn, 1), (25, .iinc 5 1, 3)]
theorem dt_sL_indexOfChar_0 : dOk cJ1_indexOfChar_4cfef T_sL_indexOfChar_0 := by unfold dOk; decide +kernel
def T_sL_indexOfChar_1 : DT := [(28, .goto (-21), 3), (31, .iconst (-1), 1), (32, .ireturn, 1)]
theorem dt_sL_indexOfChar_1 : dOk cJ1_indexOfChar_4cfef T_sL_indexOfChar_1 := by unfold dOk; decide +kernel
section
variable {v : ZV} {l : Launch} {p : Program} {e : Env} {R : Room} {s : State} {m : MethodId} {args : Array Value} {below : List Frame} {meth : Method} {c : Code} {Q : State → Prop} {res : (Int32 × Hp)} 
set_option maxRecDepth 20000 in
theorem lkB_sL_indexOfChar_7 (hi : zInj wC v) (xc : XC wC v) (nx : SX v) (X : Cx wC v p R s m args c 0 0 cJ1_indexOfChar_4cfef 6 RJ1 2) (rt : Rt wC v p l e R s m args below meth c 0 0 Q cJ1_indexOfChar_4cfef false (some (.int res.1)) res.2) {k7 : Int32 → Int32 → Int32 → Hp → Option (Int32 × Hp)} {x3 : Int32} {x4 : Int32} {x5 : Int32} {σ : Hp}  (hk7 : ∀ (x3 : Int32) (x4 : Int32) (x5 : Int32) (σ : Hp),  k7 x3 x4 x5 σ = some res → Go wC v p l e R s m args below meth c 0 0 Q 6 7 [(0, .ref 62), (3, .int x3), (4, .int x4), (5, .int x5)] [] σ) (h : B_sL_indexOfChar_7  k7 x3 x4 x5 σ = some res) : Go wC v p l e R s m args below meth c 0 0 Q 6 7 [(0, .ref 62), (3, .int x3), (4, .int x4), (5, .int x5)] [] σ := by
  unfold B_sL_indexOfChar_7 at h
  refine go_iload X 3 (dk dt_sL_indexOfChar_0 5 rfl) rfl ?_
  refine go_iload_n X 1 (dk dt_sL_indexOfChar_0 6 rfl) rfl rfl ?_
  refine go_icmp_ge (tgt := 31) X (dk dt_sL_indexOfChar_0 7 rfl) (by decide) h (fun h => ?_) (fun h => ?_)
  · refine go_iconst X (dk dt_sL_indexOfChar_1 1 rfl) ci_m1 ?_
    exact go_iret rt (dk dt_sL_indexOfChar_1 2 rfl) h (fun hh => nomatch hh)
  · refine go_aload_n X 0 (dk dt_sL_indexOfChar_0 8 rfl) rfl rfl ?_
    refine go_iload X 3 (dk dt_sL_indexOfChar_0 9 rfl) rfl ?_
    refine go_sbald X nx (dk dt_sL_indexOfChar_0 10 rfl) h (fun h => ?_)
    refine go_iload X 2 (dk dt_sL_indexOfChar_0 11 rfl) rfl ?_
    refine go_icmp_ne (tgt := 25) X (dk dt_sL_indexOfChar_0 12 rfl) (by decide) h (fun h => ?_) (fun h => ?_)
    · refine go_iinc (lv' := [(5, .int (x5 + (1 : Int32))), (0, .ref 62), (3, .int x3), (4, .int x4)]) X 3 (dk dt_sL_indexOfChar_0 15 rfl) rfl ci_1 (by decide) rfl ?_
      refine go_goto (tgt := 7) X (dk dt_sL_indexOfChar_1 0 rfl) (by decide) ?_
      refine go_sub [1, 2, 3, 0] rfl ?_
      exact hk7 _ _ _ _  h
    · refine go_iload X 3 (dk dt_sL_indexOfChar_0 13 rfl) rfl ?_
      exact go_iret rt (dk dt_sL_indexOfChar_0 14 rfl) h (fun hh => nomatch hh)
set_option maxRecDepth 20000 in
theorem lkL_sL_indexOfChar_7 (hi : zInj wC v) (xc : XC wC v) (nx : SX v) (X : Cx wC v p R s m args c 0 0 cJ1_indexOfChar_4cfef 6 RJ1 2) (rt : Rt wC v p l e R s m args below meth c 0 0 Q cJ1_indexOfChar_4cfef false (some (.int res.1)) res.2)   (n : Nat) : ∀ {x3 : Int32} {x4 : Int32} {x5 : Int32} {σ : Hp},  L_sL_indexOfChar_7   n x3 x4 x5 σ = some res → Go wC v p l e R s m args below meth c 0 0 Q 6 7 [(0, .ref 62), (3, .int x3), (4, .int x4), (5, .int x5)] [] σ := by
  induction n with
  | zero => intro x3 x4 x5 σ  h; cases h
  | succ n ih =>
    intro x3 x4 x5 σ  h
    exact lkB_sL_indexOfChar_7 hi xc nx X rt  (fun _ _ _ _  hh => ih  hh) h
set_option maxRecDepth 20000 in
theorem lkF_sL_indexOfChar (hi : zInj wC v) (xc : XC wC v) (nx : SX v) (X : Cx wC v p R s m args c 0 0 cJ1_indexOfChar_4cfef 6 RJ1 2) (rt : Rt wC v p l e R s m args below meth c 0 0 Q cJ1_indexOfChar_4cfef false (some (.int res.1)) res.2) {a1 : Int32} {a2 : Int32} {a3 : Int32} {σ : Hp} (h : F_sL_indexOfChar a1 a2 a3 σ = some res) : Go wC v p l e R s m args below meth c 0 0 Q 6 0 [(0, .ref 62), (1, .int a1), (2, .int a2), (3, .int a3)] [] σ := by
  unfold F_sL_indexOfChar at h
  refine go_iload_n X 1 (dk dt_sL_indexOfChar_0 0 rfl) rfl rfl ?_
  refine go_i2b X (dk dt_sL_indexOfChar_0 1 rfl) ?_
  refine go_istore (lv' := [(4, .int (Int8.toInt32 (Int32.toInt8 a1))), (0, .ref 62), (1, .int a1), (2, .int a2), (3, .int a3)]) X (dk dt_sL_indexOfChar_0 2 rfl) (by decide) rfl ?_
  refine go_iload_n X 3 (dk dt_sL_indexOfChar_0 3 rfl) rfl rfl ?_
  refine go_istore (lv' := [(5, .int a2), (4, .int (Int8.toInt32 (Int32.toInt8 a1))), (0, .ref 62), (1, .int a1), (2, .int a2), (3, .int a3)]) X (dk dt_sL_indexOfChar_0 4 rfl) (by decide) rfl ?_
  refine go_sub [2, 5, 1, 0] rfl ?_
  exact lkL_sL_indexOfChar_7 hi xc nx X rt  FU  h
set_option maxRecDepth 20000 in
theorem ct_sL_indexOfChar (hi : zInj wC v) (xc : XC wC v) (nx : SX v) {a1 : Int32} {a2 : Int32} {a3 : Int32} {σ : Hp} {q : (Int32 × Hp)} (h : F_sL_indexOfChar a1 a2 a3 σ = some q) : Ct wC v l yJ1_indexOfChar_4cfef cJ1_indexOfChar_4cfef 6 (some .int) 2 [.ref 62, .int a1, .int a2, .int a3] σ (some (.int q.1)) q.2 :=
  Ct.intro false (by decide) hi xc (Nat.le_of_ble_eq_true rfl) rfl (fun p e R s m args below meth c Q X rt => lkF_sL_indexOfChar hi xc nx X rt h)
end
def T_sL_indexOf_0 : DT := [(0, .iload_n 1, 1), (1, .invokestatic 88, 3), (4, .ifCond .ne 5, 3), (7, .iconst (-1), 1), (8, .ireturn, 1), (9, .iload_n 2, 1), (10, .iconst 0, 1), (11, .invokestatic 92, 3), (14, .istore_n 2, 1), (15, .iload_n 3, 1), (16, .aload_n 0, 1), (17, .arraylength, 1), (18, .invokestatic 38, 3), (21, .istore_n 3, 1), (22, .iload_n 2, 1), (23, .iload_n 3, 1)]
theorem dt_sL_indexOf_0 : dOk cJ1_indexOf_4cfef T_sL_indexOf_0 := by unfold dOk; decide +kernel
def T_sL_indexOf_1 : DT := [(24, .if_icmp .lt 5, 3), (27, .iconst (-1), 1), (28, .ireturn, 1), (29, .aload_n 0, 1), (30, .iload_n 1, 1), (31, .iload_n 2, 1), (32, .iload_n 3, 1), (33, .invokestatic 95, 3), (36, .ireturn, 1)]
theorem dt_sL_indexOf_1 : dOk cJ1_indexOf_4cfef T_sL_indexOf_1 := by unfold dOk; decide +kernel
section
variable {v : ZV} {l : Launch} {p : Program} {e : Env} {R : Room} {s : State} {m : MethodId} {args : Array Value} {below : List Frame} {meth : Method} {c : Code} {Q : State → Prop} {res : (Int32 × Hp)} 
set_option maxRecDepth 20000 in
theorem lkF_sL_indexOf (hi : zInj wC v) (xc : XC wC v) (nx : SX v) (X : Cx wC v p R s m args c 0 0 cJ1_indexOf_4cfef 4 RJ1 4) (rt : Rt wC v p l e R s m args below meth c 0 0 Q cJ1_indexOf_4cfef false (some (.int res.1)) res.2) {a1 : Int32} {a2 : Int32} {a3 : Int32} {σ : Hp} (h : F_sL_indexOf a1 a2 a3 σ = some res) : Go wC v p l e R s m args below meth c 0 0 Q 4 0 [(0, .ref 62), (1, .int a1), (2, .int a2), (3, .int a3)] [] σ := by
  unfold F_sL_indexOf at h
  refine go_iload_n X 1 (dk dt_sL_indexOf_0 0 rfl) rfl rfl ?_
  refine go_Si (As := [.int a1]) (rest := []) X so_J1_88 (fun q hq => ct_sL_canEncode hi xc nx hq) (by decide) rfl rfl (Nat.le_of_ble_eq_true rfl) (dk dt_sL_indexOf_0 1 rfl) h (fun q1 h => ?_)
  refine go_if_ne (tgt := 9) X (dk dt_sL_indexOf_0 2 rfl) (by decide) h (fun h => ?_) (fun h => ?_)
  · refine go_iload_n X 2 (dk dt_sL_indexOf_0 5 rfl) rfl rfl ?_
    refine go_iconst X (dk dt_sL_indexOf_0 6 rfl) ci_0 ?_
    refine go_mmax X mo_J1_92 (by decide) (Nat.le_of_ble_eq_true rfl) (dk dt_sL_indexOf_0 7 rfl) ?_
    refine go_istore_n (lv' := [(2, .int (jmax a2 (0 : Int32))), (0, .ref 62), (1, .int a1), (3, .int a3)]) X (dk dt_sL_indexOf_0 8 rfl) rfl (by decide) rfl ?_
    refine go_iload_n X 3 (dk dt_sL_indexOf_0 9 rfl) rfl rfl ?_
    refine go_aload_n X 1 (dk dt_sL_indexOf_0 10 rfl) rfl rfl ?_
    refine go_slen X nx (dk dt_sL_indexOf_0 11 rfl) ?_
    refine go_mmin X mo_J1_38 (by decide) (Nat.le_of_ble_eq_true rfl) (dk dt_sL_indexOf_0 12 rfl) ?_
    refine go_istore_n (lv' := [(3, .int (jmin a3 (11 : Int32))), (2, .int (jmax a2 (0 : Int32))), (0, .ref 62), (1, .int a1)]) X (dk dt_sL_indexOf_0 13 rfl) rfl (by decide) rfl ?_
    refine go_iload_n X 1 (dk dt_sL_indexOf_0 14 rfl) rfl rfl ?_
    refine go_iload_n X 0 (dk dt_sL_indexOf_0 15 rfl) rfl rfl ?_
    refine go_icmp_lt (tgt := 29) X (dk dt_sL_indexOf_1 0 rfl) (by decide) h (fun h => ?_) (fun h => ?_)
    · refine go_aload_n X 2 (dk dt_sL_indexOf_1 3 rfl) rfl rfl ?_
      refine go_iload_n X 3 (dk dt_sL_indexOf_1 4 rfl) rfl rfl ?_
      refine go_iload_n X 1 (dk dt_sL_indexOf_1 5 rfl) rfl rfl ?_
      refine go_iload_n X 0 (dk dt_sL_indexOf_1 6 rfl) rfl rfl ?_
      refine go_Si (As := [.ref 62, .int a1, .int (jmax a2 (0 : Int32)), .int (jmin a3 (11 : Int32))]) (rest := []) X so_J1_95 (fun q hq => ct_sL_indexOfChar hi xc nx hq) (by decide) rfl rfl (Nat.le_of_ble_eq_true rfl) (dk dt_sL_indexOf_1 7 rfl) h (fun q33 h => ?_)
      exact go_iret rt (dk dt_sL_indexOf_1 8 rfl) h (fun hh => nomatch hh)
    · refine go_iconst X (dk dt_sL_indexOf_1 1 rfl) ci_m1 ?_
      exact go_iret rt (dk dt_sL_indexOf_1 2 rfl) h (fun hh => nomatch hh)
  · refine go_iconst X (dk dt_sL_indexOf_0 3 rfl) ci_m1 ?_
    exact go_iret rt (dk dt_sL_indexOf_0 4 rfl) h (fun hh => nomatch hh)
set_option maxRecDepth 20000 in
theorem ct_sL_indexOf (hi : zInj wC v) (xc : XC wC v) (nx : SX v) {a1 : Int32} {a2 : Int32} {a3 : Int32} {σ : Hp} {q : (Int32 × Hp)} (h : F_sL_indexOf a1 a2 a3 σ = some q) : Ct wC v l yJ1_indexOf_4cfef cJ1_indexOf_4cfef 4 (some .int) 4 [.ref 62, .int a1, .int a2, .int a3] σ (some (.int q.1)) q.2 :=
  Ct.intro false (by decide) hi xc (Nat.le_of_ble_eq_true rfl) rfl (fun p e R s m args below meth c Q X rt => lkF_sL_indexOf hi xc nx X rt h)
end
def T_s_coder_0 : DT := [(0, .getstatic 38, 3), (3, .ifCond .eq 10, 3), (6, .aload_n 0, 1), (7, .getfield 15, 3), (10, .goto 4, 3), (13, .iconst 1, 1), (14, .ireturn, 1)]
theorem dt_s_coder_0 : dOk cJ0_coder_7d493 T_s_coder_0 := by unfold dOk; decide +kernel
section
variable {v : ZV} {l : Launch} {p : Program} {e : Env} {R : Room} {s : State} {m : MethodId} {args : Array Value} {below : List Frame} {meth : Method} {c : Code} {Q : State → Prop} {res : (Int32 × Hp)} 
set_option maxRecDepth 20000 in
theorem lkF_s_coder (hi : zInj wC v) (xc : XC wC v) (nx : SX v) (X : Cx wC v p R s m args c 0 0 cJ0_coder_7d493 1 RJ0 2) (rt : Rt wC v p l e R s m args below meth c 0 0 Q cJ0_coder_7d493 true (some (.int res.1)) res.2)  {σ : Hp} (h : F_s_coder  σ = some res) : Go wC v p l e R s m args below meth c 0 0 Q 1 0 [(0, .ref 61)] [] σ := by
  unfold F_s_coder at h
  refine go_sgs X nx wd_598 (dk dt_s_coder_0 0 rfl) ?_
  refine go_if_eq (tgt := 13) X (dk dt_s_coder_0 1 rfl) (by decide) h (fun h => ?_) (fun h => ?_)
  · refine go_iconst X (dk dt_s_coder_0 5 rfl) ci_1 ?_
    exact go_iret rt (dk dt_s_coder_0 6 rfl) h (by decide)
  · refine go_aload_n X 0 (dk dt_s_coder_0 2 rfl) rfl rfl ?_
    refine go_sgetc X nx wd_1761 (dk dt_s_coder_0 3 rfl) ?_
    refine go_goto (tgt := 14) X (dk dt_s_coder_0 4 rfl) (by decide) ?_
    exact go_iret rt (dk dt_s_coder_0 6 rfl) h (by decide)
set_option maxRecDepth 20000 in
theorem ct_s_coder (hi : zInj wC v) (xc : XC wC v) (nx : SX v)  {σ : Hp} {q : (Int32 × Hp)} (h : F_s_coder  σ = some q) : Ct wC v l yJ0_coder_7d493 cJ0_coder_7d493 1 (some .byte) 2 [.ref 61] σ (some (.int q.1)) q.2 :=
  Ct.introB (by decide) hi xc (Nat.le_of_ble_eq_true rfl)  (fun p e R s m args below meth c Q X rt => lkF_s_coder hi xc nx X rt h)
end
def T_s_length_0 : DT := [(0, .aload_n 0, 1), (1, .getfield 9, 3), (4, .arraylength, 1), (5, .aload_n 0, 1), (6, .invokevirtual 335, 3), (9, .ishr, 1), (10, .ireturn, 1)]
theorem dt_s_length_0 : dOk cJ0_length_8abf5 T_s_length_0 := by unfold dOk; decide +kernel
section
variable {v : ZV} {l : Launch} {p : Program} {e : Env} {R : Room} {s : State} {m : MethodId} {args : Array Value} {below : List Frame} {meth : Method} {c : Code} {Q : State → Prop} {res : (Int32 × Hp)} 
set_option maxRecDepth 20000 in
theorem lkF_s_length (hi : zInj wC v) (xc : XC wC v) (nx : SX v) (X : Cx wC v p R s m args c 0 0 cJ0_length_8abf5 1 RJ0 4) (rt : Rt wC v p l e R s m args below meth c 0 0 Q cJ0_length_8abf5 false (some (.int res.1)) res.2)  {σ : Hp} (h : F_s_length  σ = some res) : Go wC v p l e R s m args below meth c 0 0 Q 1 0 [(0, .ref 61)] [] σ := by
  unfold F_s_length at h
  refine go_aload_n X 0 (dk dt_s_length_0 0 rfl) rfl rfl ?_
  refine go_sgetv X nx wd_1762 (dk dt_s_length_0 1 rfl) ?_
  refine go_slen X nx (dk dt_s_length_0 2 rfl) ?_
  refine go_aload_n X 0 (dk dt_s_length_0 3 rfl) rfl rfl ?_
  refine go_sVi (As := []) (rest := [.int (11 : Int32)]) X nx vo_J0_335 (fun q hq => ct_s_coder hi xc nx hq) (by decide) rfl rfl (Nat.le_of_ble_eq_true rfl) (dk dt_s_length_0 4 rfl) h (fun q6 h => ?_)
  refine go_ishr X (dk dt_s_length_0 5 rfl) ?_
  exact go_iret rt (dk dt_s_length_0 6 rfl) h (fun hh => nomatch hh)
set_option maxRecDepth 20000 in
theorem ct_s_length (hi : zInj wC v) (xc : XC wC v) (nx : SX v)  {σ : Hp} {q : (Int32 × Hp)} (h : F_s_length  σ = some q) : Ct wC v l yJ0_length_8abf5 cJ0_length_8abf5 1 (some .int) 4 [.ref 61] σ (some (.int q.1)) q.2 :=
  Ct.intro false (by decide) hi xc (Nat.le_of_ble_eq_true rfl) rfl (fun p e R s m args below meth c Q X rt => lkF_s_length hi xc nx X rt h)
end
def T_s_isLatin1_0 : DT := [(0, .getstatic 38, 3), (3, .ifCond .eq 14, 3), (6, .aload_n 0, 1), (7, .getfield 15, 3), (10, .ifCond .ne 7, 3), (13, .iconst 1, 1), (14, .goto 4, 3), (17, .iconst 0, 1), (18, .ireturn, 1)]
theorem dt_s_isLatin1_0 : dOk cJ0_isLatin1_aae02 T_s_isLatin1_0 := by unfold dOk; decide +kernel
section
variable {v : ZV} {l : Launch} {p : Program} {e : Env} {R : Room} {s : State} {m : MethodId} {args : Array Value} {below : List Frame} {meth : Method} {c : Code} {Q : State → Prop} {res : (Int32 × Hp)} 
set_option maxRecDepth 20000 in
theorem lkF_s_isLatin1 (hi : zInj wC v) (xc : XC wC v) (nx : SX v) (X : Cx wC v p R s m args c 0 0 cJ0_isLatin1_aae02 1 RJ0 2) (rt : Rt wC v p l e R s m args below meth c 0 0 Q cJ0_isLatin1_aae02 true (some (.int res.1)) res.2)  {σ : Hp} (h : F_s_isLatin1  σ = some res) : Go wC v p l e R s m args below meth c 0 0 Q 1 0 [(0, .ref 61)] [] σ := by
  unfold F_s_isLatin1 at h
  refine go_sgs X nx wd_598 (dk dt_s_isLatin1_0 0 rfl) ?_
  refine go_if_eq (tgt := 17) X (dk dt_s_isLatin1_0 1 rfl) (by decide) h (fun h => ?_) (fun h => ?_)
  · refine go_iconst X (dk dt_s_isLatin1_0 7 rfl) ci_0 ?_
    exact go_iret rt (dk dt_s_isLatin1_0 8 rfl) h (by decide)
  · refine go_aload_n X 0 (dk dt_s_isLatin1_0 2 rfl) rfl rfl ?_
    refine go_sgetc X nx wd_1761 (dk dt_s_isLatin1_0 3 rfl) ?_
    refine go_if_ne (tgt := 17) X (dk dt_s_isLatin1_0 4 rfl) (by decide) h (fun h => ?_) (fun h => ?_)
    · refine go_iconst X (dk dt_s_isLatin1_0 7 rfl) ci_0 ?_
      exact go_iret rt (dk dt_s_isLatin1_0 8 rfl) h (by decide)
    · refine go_iconst X (dk dt_s_isLatin1_0 5 rfl) ci_1 ?_
      refine go_goto (tgt := 18) X (dk dt_s_isLatin1_0 6 rfl) (by decide) ?_
      exact go_iret rt (dk dt_s_isLatin1_0 8 rfl) h (by decide)
set_option maxRecDepth 20000 in
theorem ct_s_isLatin1 (hi : zInj wC v) (xc : XC wC v) (nx : SX v)  {σ : Hp} {q : (Int32 × Hp)} (h : F_s_isLatin1  σ = some q) : Ct wC v l yJ0_isLatin1_aae02 cJ0_isLatin1_aae02 1 (some .boolean) 2 [.ref 61] σ (some (.int q.1)) q.2 :=
  Ct.intro true (by decide) hi xc (Nat.le_of_ble_eq_true rfl) rfl (fun p e R s m args below meth c Q X rt => lkF_s_isLatin1 hi xc nx X rt h)
end
def T_s_indexOf2_0 : DT := [(0, .aload_n 0, 1), (1, .invokevirtual 492, 3), (4, .ifCond .eq 19, 3), (7, .aload_n 0, 1), (8, .getfield 9, 3), (11, .iload_n 1, 1), (12, .iload_n 2, 1), (13, .aload_n 0, 1), (14, .invokevirtual 505, 3), (17, .invokestatic 637, 3), (20, .goto 16, 3), (23, .aload_n 0, 1), (24, .getfield 9, 3), (27, .iload_n 1, 1), (28, .iload_n 2, 1), (29, .aload_n 0, 1)]
theorem dt_s_indexOf2_0 : dOk cJ0_indexOf_7cf53 T_s_indexOf2_0 := by unfold dOk; decide +kernel
def T_s_indexOf2_1 : DT := [(30, .invokevirtual 505, 3), (33, .invokestatic 640, 3), (36, .ireturn, 1)]
theorem dt_s_indexOf2_1 : dOk cJ0_indexOf_7cf53 T_s_indexOf2_1 := by unfold dOk; decide +kernel
section
variable {v : ZV} {l : Launch} {p : Program} {e : Env} {R : Room} {s : State} {m : MethodId} {args : Array Value} {below : List Frame} {meth : Method} {c : Code} {Q : State → Prop} {res : (Int32 × Hp)} 
set_option maxRecDepth 20000 in
theorem lkF_s_indexOf2 (hi : zInj wC v) (xc : XC wC v) (nx : SX v) (X : Cx wC v p R s m args c 0 0 cJ0_indexOf_7cf53 3 RJ0 6) (rt : Rt wC v p l e R s m args below meth c 0 0 Q cJ0_indexOf_7cf53 false (some (.int res.1)) res.2) {a1 : Int32} {a2 : Int32} {σ : Hp} (h : F_s_indexOf2 a1 a2 σ = some res) : Go wC v p l e R s m args below meth c 0 0 Q 3 0 [(0, .ref 61), (1, .int a1), (2, .int a2)] [] σ := by
  unfold F_s_indexOf2 at h
  refine go_aload_n X 0 (dk dt_s_indexOf2_0 0 rfl) rfl rfl ?_
  refine go_sVi (As := []) (rest := []) X nx vo_J0_492 (fun q hq => ct_s_isLatin1 hi xc nx hq) (by decide) rfl rfl (Nat.le_of_ble_eq_true rfl) (dk dt_s_indexOf2_0 1 rfl) h (fun q1 h => ?_)
  refine go_if_eq (tgt := 23) X (dk dt_s_indexOf2_0 2 rfl) (by decide) h (fun h => ?_) (fun h => ?_)
  · refine go_aload_n X 0 (dk dt_s_indexOf2_0 11 rfl) rfl rfl ?_
    refine go_sgetv X nx wd_1762 (dk dt_s_indexOf2_0 12 rfl) ?_
    refine go_iload_n X 1 (dk dt_s_indexOf2_0 13 rfl) rfl rfl ?_
    refine go_iload_n X 2 (dk dt_s_indexOf2_0 14 rfl) rfl rfl ?_
    refine go_aload_n X 0 (dk dt_s_indexOf2_0 15 rfl) rfl rfl ?_
    refine go_sVi (As := []) (rest := [.int a2, .int a1, .ref 62]) X nx vo_J0_505 (fun q hq => ct_s_length hi xc nx hq) (by decide) rfl rfl (Nat.le_of_ble_eq_true rfl) (dk dt_s_indexOf2_1 0 rfl) h (fun q30 h => ?_)
    cases h
  · refine go_aload_n X 0 (dk dt_s_indexOf2_0 3 rfl) rfl rfl ?_
    refine go_sgetv X nx wd_1762 (dk dt_s_indexOf2_0 4 rfl) ?_
    refine go_iload_n X 1 (dk dt_s_indexOf2_0 5 rfl) rfl rfl ?_
    refine go_iload_n X 2 (dk dt_s_indexOf2_0 6 rfl) rfl rfl ?_
    refine go_aload_n X 0 (dk dt_s_indexOf2_0 7 rfl) rfl rfl ?_
    refine go_sVi (As := []) (rest := [.int a2, .int a1, .ref 62]) X nx vo_J0_505 (fun q hq => ct_s_length hi xc nx hq) (by decide) rfl rfl (Nat.le_of_ble_eq_true rfl) (dk dt_s_indexOf2_0 8 rfl) h (fun q14 h => ?_)
    refine go_Si (As := [.ref 62, .int a1, .int a2, .int q14.1]) (rest := []) X so_J0_637 (fun q hq => ct_sL_indexOf hi xc nx hq) (by decide) rfl rfl (Nat.le_of_ble_eq_true rfl) (dk dt_s_indexOf2_0 9 rfl) h (fun q17 h => ?_)
    refine go_goto (tgt := 36) X (dk dt_s_indexOf2_0 10 rfl) (by decide) ?_
    exact go_iret rt (dk dt_s_indexOf2_1 2 rfl) h (fun hh => nomatch hh)
set_option maxRecDepth 20000 in
theorem ct_s_indexOf2 (hi : zInj wC v) (xc : XC wC v) (nx : SX v) {a1 : Int32} {a2 : Int32} {σ : Hp} {q : (Int32 × Hp)} (h : F_s_indexOf2 a1 a2 σ = some q) : Ct wC v l yJ0_indexOf_7cf53 cJ0_indexOf_7cf53 3 (some .int) 6 [.ref 61, .int a1, .int a2] σ (some (.int q.1)) q.2 :=
  Ct.intro false (by decide) hi xc (Nat.le_of_ble_eq_true rfl) rfl (fun p e R s m args below meth c Q X rt => lkF_s_indexOf2 hi xc nx X rt h)
end
def T_s_indexOf1_0 : DT := [(0, .aload_n 0, 1), (1, .iload_n 1, 1), (2, .iconst 0, 1), (3, .invokevirtual 633, 3), (6, .ireturn, 1)]
theorem dt_s_indexOf1_0 : dOk cJ0_indexOf_0f7a4 T_s_indexOf1_0 := by unfold dOk; decide +kernel
section
variable {v : ZV} {l : Launch} {p : Program} {e : Env} {R : Room} {s : State} {m : MethodId} {args : Array Value} {below : List Frame} {meth : Method} {c : Code} {Q : State → Prop} {res : (Int32 × Hp)} 
set_option maxRecDepth 20000 in
theorem lkF_s_indexOf1 (hi : zInj wC v) (xc : XC wC v) (nx : SX v) (X : Cx wC v p R s m args c 0 0 cJ0_indexOf_0f7a4 2 RJ0 8) (rt : Rt wC v p l e R s m args below meth c 0 0 Q cJ0_indexOf_0f7a4 false (some (.int res.1)) res.2) {a1 : Int32} {σ : Hp} (h : F_s_indexOf1 a1 σ = some res) : Go wC v p l e R s m args below meth c 0 0 Q 2 0 [(0, .ref 61), (1, .int a1)] [] σ := by
  unfold F_s_indexOf1 at h
  refine go_aload_n X 0 (dk dt_s_indexOf1_0 0 rfl) rfl rfl ?_
  refine go_iload_n X 1 (dk dt_s_indexOf1_0 1 rfl) rfl rfl ?_
  refine go_iconst X (dk dt_s_indexOf1_0 2 rfl) ci_0 ?_
  refine go_sVi (As := [.int a1, .int (0 : Int32)]) (rest := []) X nx vo_J0_633 (fun q hq => ct_s_indexOf2 hi xc nx hq) (by decide) rfl rfl (Nat.le_of_ble_eq_true rfl) (dk dt_s_indexOf1_0 3 rfl) h (fun q3 h => ?_)
  exact go_iret rt (dk dt_s_indexOf1_0 4 rfl) h (fun hh => nomatch hh)
set_option maxRecDepth 20000 in
theorem ct_s_indexOf1 (hi : zInj wC v) (xc : XC wC v) (nx : SX v) {a1 : Int32} {σ : Hp} {q : (Int32 × Hp)} (h : F_s_indexOf1 a1 σ = some q) : Ct wC v l yJ0_indexOf_0f7a4 cJ0_indexOf_0f7a4 2 (some .int) 8 [.ref 61, .int a1] σ (some (.int q.1)) q.2 :=
  Ct.intro false (by decide) hi xc (Nat.le_of_ble_eq_true rfl) rfl (fun p e R s m args below meth c Q X rt => lkF_s_indexOf1 hi xc nx X rt h)
end
/-- where a sign is in the text, from place j on -/
def sfind (x : Int32) : Nat → Nat → Int32
  | 0, _ => -1
  | k + 1, j => if sbyt j = x then nI j else sfind x k (j + 1)
theorem str_loop (x : Int32) (σ : Hp) : ∀ (k j N : Nat), 11 - j = k → j ≤ 11 → k < N → L_sL_indexOfChar_7 N 11 x (nI j) σ = some (sfind x k j, σ) := by
  intro k
  induction k with
  | zero =>
    intro j N hk hj hN
    obtain ⟨N, rfl⟩ : ∃ M, N = M + 1 := ⟨N - 1, by omega⟩
    have : j = 11 := by omega
    subst this
    simp only [L_sL_indexOfChar_7, B_sL_indexOfChar_7]
    rw [if_pos (by decide)]
    rfl
  | succ k ih =>
    intro j N hk hj hN
    obtain ⟨N, rfl⟩ : ∃ M, N = M + 1 := ⟨N - 1, by omega⟩
    simp only [L_sL_indexOfChar_7, B_sL_indexOfChar_7]
    rw [if_neg (show ¬ (11 : Int32) ≤ nI j from nI_ge (b := 11) (by omega) (by omega)), gd_true (inb_nI (by omega) (by omega)), nI_clamp (by omega)]
    by_cases hc : sbyt j = x
    · rw [if_pos hc, sfind, if_pos hc]
    · rw [if_neg hc, nI_1, ih (j + 1) N (by omega) (by omega) (by omega), sfind, if_neg hc]
theorem sfind_sidx : ∀ j : Nat, j < 256 → sfind (Int8.toInt32 (Int32.toInt8 (nI j))) 11 0 = sidx (nI j) := by decide +kernel
theorem sidx_none {x : Int32} (h : x < 0 ∨ 255 < x) : sidx x = -1 := by
  have key : ∀ c : Int32, (0 ≤ c ∧ c ≤ 255) → ¬ x = c := by
    intro c hc he
    subst he
    rcases h with h | h
    · exact absurd hc.1 (Int32.not_le.mpr h)
    · exact absurd hc.2 (Int32.not_le.mpr h)
  unfold sidx
  rw [if_neg (key _ (by decide)), if_neg (key _ (by decide)), if_neg (key _ (by decide)), if_neg (key _ (by decide)), if_neg (key _ (by decide)), if_neg (key _ (by decide)), if_neg (key _ (by decide)), if_neg (key _ (by decide)), if_neg (key _ (by decide)), if_neg (key _ (by decide)), if_neg (key _ (by decide))]
theorem F_indexOf_eq (x : Int32) (σ : Hp) : F_s_indexOf1 x σ = some (sidx x, σ) := by
  have e1 : F_s_isLatin1 σ = some (1, σ) := by simp [F_s_isLatin1]
  have e2 : F_s_coder σ = some (0, σ) := by simp [F_s_coder]
  have e3 : F_s_length σ = some (11, σ) := by
    simp only [F_s_length, e2, Option.bind_some]
    congr 1
  simp only [F_s_indexOf1, F_s_indexOf2, e1, e3, Option.bind_some, F_sL_indexOf, F_sL_canEncode]
  rw [if_neg (by decide)]
  by_cases h1 : x < 0
  · rw [if_pos h1]
    simp [sidx_none (Or.inl h1)]
  · rw [if_neg h1]
    by_cases h2 : 255 < x
    · rw [if_pos h2]
      simp [sidx_none (Or.inr h2)]
    · rw [if_neg h2]
      obtain ⟨j, hj, rfl⟩ := nI_of2 (x := x) (M := 255) (n := 255) (by decide) h1 (Int32.not_lt.mp h2)
      have e4 : jmax 0 0 = 0 := by decide
      have e5 : jmin 11 11 = 11 := by decide
      simp only [Option.bind_some, e4, e5]
      rw [if_neg (by decide), if_pos (by decide)]
      simp only [F_sL_indexOfChar]
      have := str_loop (Int8.toInt32 (Int32.toInt8 (nI j))) σ 11 0 FU rfl (by omega) (by show 11 < 1000000; omega)
      rw [nI_0] at this
      rw [this]
      simp [sfind_sidx j (by omega)]
theorem ixc_of {v : ZV} (hi : zInj wC v) (xc : XC wC v) (nx : SX v) : IXC v := by
  intro p l e R s m args below meth c Q cc nL d pc lv st σ x X hd12 hr hd k
  exact go_sV (As := [.int x]) (rest := st) X nx vo_X5_107 rfl (ct_s_indexOf1 hi xc nx (F_indexOf_eq x σ)) (by omega) rfl rfl hr hd k
