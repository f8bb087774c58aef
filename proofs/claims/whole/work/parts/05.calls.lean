/-- the method's end: with this answer and this heap the machine comes to Q -/
def Rt (w : ZS) (v : ZV) (p : Program) (l : Launch) (e : Env) (R : Room) (s : State) (m : MethodId) (args : Array Value) (below : List Frame) (meth : Method) (c : Code) (cells slots : Nat) (Q : State → Prop) (cc : ByteArray) (bz : Bool) (rv : Option Value) (σ' : Hp) : Prop :=
  ∀ (pc : Nat) (ls : Array Slot) (H : Heap) (locs : List Loc), (match rv with
    | some (.int x) => decode cc pc = .ok (.ireturn, 1) ∧ (bz = true → x = 0 ∨ x = 1)
    | some (.ref _) => decode cc pc = .ok (.areturn, 1)
    | none => decode cc pc = .ok (.return_, 1)
    | _ => False) → zP w v σ' H → va_S (zA w v s.heap.size) s.heap H locs → W p l e R s m args below meth c H locs cells slots Q (F0 m pc ls (rv.toList.map (cv v.1)))
theorem lv_args_map (al : Nat → Nat) (av : List Value) : ∀ i, lv_args i (av.map (cv al)) = (lv_args i av).map fun q => (q.1, cv al q.2) := by
  induction av with
  | nil => intro i; rfl
  | cons a t ih => intro i; simp only [List.map_cons, lv_args, cv_cat, ih]
theorem lg_sl_len (al : Nat → Nat) (av : List Value) : (lg_sl (av.map (cv al))).length = (lg_sl av).length := by
  induction av with
  | nil => rfl
  | cons a t ih =>
    simp only [lg_sl, List.map_cons, List.flatMap_cons, List.length_append, cv_cat] at ih ⊢
    rw [ih]
    congr 1
    split <;> rfl
theorem goodIn_tb {ws : List Cond} (h : ∀ x ∈ ws, x ∈ tb) : GoodIn tb ws := fun x hx => ⟨h x hx, good_of_word (List.mem_filter.mp (h x hx)).2⟩
theorem Ct.intro {w : ZS} {v : ZV} {l : Launch} {y : MethodName} {cc : ByteArray} {maxL : Nat} {ret : Option FieldType} {d : Nat} {av : List Value} {σ : Hp} {rv : Option Value} {σ' : Hp} (bz : Bool) (hy : plainName y.cls = true) (hi : zInj w v) (xc : XC w v) (hn : (lg_sl av).length ≤ maxL)
    (hr : match rv with | some (.int _) => ret = if bz then some .boolean else some .int | some (.ref _) => ∃ n, ret = some (.object n) | none => ret = none | _ => False)
    (body : ∀ (p : Program) (e : Env) (R : Room) (s : State) (m : MethodId) (args : Array Value) (below : List Frame) (meth : Method) (c : Code) (Q : State → Prop), Cx w v p R s m args c 0 0 cc maxL y.cls d → Rt w v p l e R s m args below meth c 0 0 Q cc bz rv σ' → Go w v p l e R s m args below meth c 0 0 Q maxL 0 (lv_args 0 av) [] σ) : Ct w v l y cc maxL ret d av σ rv σ' := by
  intro sz
  refine Met.ofW (cc := cc) (maxL := maxL) (ret := ret) hy rfl ?_
  intro p e s m args below meth c s₁ B hml hv
  obtain ⟨rfl, hsz, hP, hK, hX⟩ := hv
  subst hsz
  have hts := atoms_spec (ws := Cond.code y cc maxL ret :: tb) B.pre
  have hlocks := B.notSynchronized
  have hret := B.returns
  have C : Cx w v p (rmm d) s m (av.map (cv v.1)).toArray c 0 0 cc maxL y.cls d := ⟨B.exec, B.bytes, hml, findClass_of_methodNamed B.named, fun x hx => hts x (List.mem_cons_of_mem _ hx), hK, hi, ⟨Nat.le_refl _, Nat.le_refl _, Nat.le_refl _, Nat.le_refl _⟩, hX, xc⟩
  have hl := lv_entry (av.map (cv v.1)) (n := maxL) (by rw [lg_sl_len]; exact hn)
  rw [lg_entry_eq]
  rw [lv_args_map] at hl
  refine body p e (rmm d) s m _ below meth c _ C ?_ s.heap [] _ hP va_S.rf hl
  intro pc ls H locs hd hP1 hS1
  match rv, hr, hd with
  | none, hr, hd =>
    exact W.vret C.1 C.2.1 (hret.trans hr) (fun t ht hW => ⟨⟨rfl, by rw [ht]; exact hP1⟩, hS1.F ht⟩) hS1.2.2 hd
  | some (.int x), hr, hd =>
    cases bz
    · exact W.iret C.1 C.2.1 (hret.trans hr) (fun t ht hW => ⟨⟨rfl, by rw [ht]; exact hP1⟩, hS1.F ht⟩) hS1.2.2 hd.1
    · exact W.zret (ty := .boolean) C.1 C.2.1 (hret.trans hr) (by rcases hd.2 rfl with rfl | rfl <;> rfl) (fun t ht hW => ⟨⟨rfl, by rw [ht]; exact hP1⟩, hS1.F ht⟩) hS1.2.2 hd.1
  | some (.ref a), hr, hd =>
    obtain ⟨n, hr⟩ := hr
    exact W.aret (rt := .object n) C.1 C.2.1 (hret.trans hr) (Or.inl ⟨n, rfl⟩) (Or.inr ⟨_, rfl⟩) (fun t ht hW => ⟨⟨rfl, by rw [ht]; exact hP1⟩, hS1.F ht⟩) hS1.2.2 hd
/-- an instance method that code of 'own' names by 'ix' -/
def VOk (own : String) (ix : Nat) (y : MethodName) (bytes : ByteArray) (maxL : Nat) (ret : Option FieldType) (n : Nat) : Prop := Cond.methodLink own ix y ∈ tb ∧ Cond.instanceMethod y ∈ tb ∧ Cond.selects y.cls y y ∈ tb ∧ Cond.initialized y.cls ∈ tb ∧ Cond.code y bytes maxL ret ∈ tb ∧ (y.cls ≠ "java/lang/invoke/MethodHandle" ∧ y.cls ≠ "java/lang/invoke/VarHandle" ∧ (parseMethodDescriptor y.desc).map (fun d => d.parameters.length) = some n) ∧ maxL ≤ 41
def SOk (own : String) (ix : Nat) (y : MethodName) (bytes : ByteArray) (maxL : Nat) (ret : Option FieldType) (n : Nat) : Prop := Cond.methodLink own ix y ∈ tb ∧ Cond.static y ∈ tb ∧ Cond.initialized y.cls ∈ tb ∧ Cond.code y bytes maxL ret ∈ tb ∧ (y.cls ≠ "java/lang/invoke/MethodHandle" ∧ y.cls ≠ "java/lang/invoke/VarHandle" ∧ (parseMethodDescriptor y.desc).map (fun d => d.parameters.length) = some n) ∧ maxL ≤ 41
def NOk (y : MethodName) (bytes : ByteArray) (maxL : Nat) (ret : Option FieldType) (n : Nat) : Prop := Cond.static y ∈ tb ∧ Cond.initialized y.cls ∈ tb ∧ Cond.code y bytes maxL ret ∈ tb ∧ (y.cls ≠ "java/lang/invoke/MethodHandle" ∧ y.cls ≠ "java/lang/invoke/VarHandle" ∧ (parseMethodDescriptor y.desc).map (fun d => d.parameters.length) = some n) ∧ maxL ≤ 41
section ZCALLS
variable {w : ZS} {v : ZV} {p : Program} {l : Launch} {e : Env} {R : Room} {s : State} {m : MethodId} {args : Array Value} {below : List Frame} {meth : Method} {c : Code} {cells slots : Nat} {Q : State → Prop} {cc : ByteArray} {nL : Nat} {own : String} {d : Nat} {pc : Nat} {lv lv' : List (Nat × Value)} {st : List Value} {σ : Hp} {β : Type} {T E : Option β} {res : β}
theorem map_cat (al : Nat → Nat) (rest : List Value) : ((rest.map (cv al)).map fun x => x.category).sum = (rest.map fun x => x.category).sum := by
  rw [List.map_map]
  congr 2
  funext x
  exact cv_cat al x
theorem roomq {n : Nat} {al : Nat → Nat} {m : MethodId} {pc : Nat} {ls : Array Slot} {st rest : List Value} (h : (rest.map fun x => x.category).sum ≤ n) (hn : n ≤ 8) : 2 * (F0 m pc ls st).monitorRoom + ((rest.map (cv al)).map fun x => x.category).sum ≤ 8 := by
  rw [map_cat]
  show 2 * 0 + _ ≤ 8
  omega
/-- what a callee's start wants -/
theorem preS {w : ZS} {v : ZV} {s : State} {H : Heap} {σ : Hp} {locs : List Loc} {As : List Value} (hK : zK v s) (hX : zX v s) (xc : XC w v) (hP : zP w v σ H) (hS : va_S (zA w v s.heap.size) s.heap H locs) : PreS s H (va_Pc (As.map (cv v.1)) (fun U => U.heap.size = H.size ∧ zP w v σ U.heap ∧ zK v U ∧ zX v U)) (As.map (cv v.1)) := by
  refine ⟨fun a U g mk q => ⟨q.1, q.2.1, q.2.2.1, va_K.moved (u := U) (U := U.calling g mk a) (Vm.Alike.refl U.vm) q.2.2.2.1, xc.2 U g mk a q.2.2.2.2⟩, fun U hU hW => ⟨rfl, by rw [hU], by rw [hU]; exact hP, va_K.moved hW.alike hK, xc.1 s U hX hW (fun q h1 h2 => ?_)⟩⟩
  rw [hU]
  refine hS.2.1 q h1 (fun h => ?_)
  rcases h with h | h
  · exact h2 h
  · omega

/-- behind a call -/
theorem go_run {rv : Option Value} {σ' : Hp} {rest : List Value} {H : Heap} {locs : List Loc} {ls : Array Slot} {st0 : List Value} (hS : va_S (zA w v s.heap.size) s.heap H locs) (hl : lv_has ls nL (lv.map fun q => (q.1, cv v.1 q.2)))
    (hr : va_Run p l e R s m args below meth c H locs cells slots 0 0 (F0 m pc ls st0) (rest.map (cv v.1)) (fun st oc t => (oc = .returned (rv.map (cv v.1)) ∧ zP w v σ' t.heap) ∧ va_F (zA w v H.size) st t) (zA w v H.size))
    (kk : Go w v p l e R s m args below meth c cells slots Q nL (pc + 3) lv (rv.toList ++ rest) σ') : W p l e R s m args below meth c H locs cells slots Q (F0 m pc ls st0) := by
  intro T hT X
  obtain ⟨r, st₀, t, T', L, h0, X', hL, e1, e2, ⟨⟨hv, hp⟩, hz, hk⟩, st⟩ := hr T hT X
  cases hv
  rw [h0] at hz hk
  have hA : ∀ q, zA w v H.size q → zA w v s.heap.size q := fun q h => h.elim Or.inl (fun h => Or.inr (Nat.le_trans hS.1 h))
  have hS1 : va_S (zA w v s.heap.size) s.heap T'.heap (locs ++ L) := ⟨Nat.le_trans hS.1 (by rw [e1]; exact hz), fun q h1 h2 => by rw [e1, hk q (Nat.lt_of_lt_of_le h1 hS.1) (fun z => h2 (hA q z))]; exact hS.2.1 q h1 h2, fun q hq => by
      rcases List.mem_append.mp hq with h | h
      · exact hS.2.2 q h
      · exact hA _ (hL q h)⟩
  obtain ⟨t2, a1, b1⟩ := kk T'.heap (locs ++ L) ls (by rw [e1]; exact hp) hS1 hl T' rfl X'
  refine ⟨t2, st t2 ?_, b1⟩
  have : (List.map (cv v.1) (rv.toList ++ rest)) = (Option.map (cv v.1) rv).toList ++ rest.map (cv v.1) := by cases rv <;> simp
  rw [this] at a1
  exact a1
theorem go_callV (X : Cx w v p R s m args c cells slots cc nL own d) {y : MethodName} {bytes : ByteArray} {maxL ix d' n b ci nf : Nat} {ret : Option FieldType} {As rest : List Value} {rv : Option Value} {σ' : Hp} {Tt : u_T} (ok : VOk own ix y bytes maxL ret n) (hM : Ct w v l y bytes maxL ret d' (.ref b :: As) σ rv σ') (hd' : d' < d) (hn : As.length = n) (hb : b < w.1) (hs : w.2.1 b = (ci + 2, nf)) (hc : vwCl[ci]? = some (y.cls, Tt, nf)) (hst : st = As.reverse ++ .ref b :: rest) (hr : (rest.map fun x => x.category).sum ≤ 8) (hd : decode cc pc = .ok (.invokevirtual ix, 3)) (kk : Go w v p l e R s m args below meth c cells slots Q nL (pc + 3) lv (rv.toList ++ rest) σ') : Go w v p l e R s m args below meth c cells slots Q nL pc lv st σ := fun H locs ls hP hS hl => by
  subst hst
  obtain ⟨o1, o2, o3, o4, o5, o6, o7⟩ := ok
  obtain ⟨hx, hbc, hml, ho, hts, hK, hi, ⟨r1, r2, r3, r4⟩, hX, xc⟩ := X
  have hp := preS (As := .ref b :: As) hK hX xc hP hS
  refine go_run (rest := rest) hS hl (va_runV (C := y.cls) (b := v.1 b) (As := As.map (cv v.1)) (Ts := tb) ⟨hx, hbc, hml, ho, hts⟩ (hM H.size) (cwV n hts (goodIn_tb (fun x hx => ?_)) rfl rfl rfl ⟨rfl, o6⟩ ⟨?_, ?_⟩) ⟨hp.1, va_recv hK hP hc (zobj hb hs), hp.2⟩ rfl (by simp [hn]) hl.1 (by simp [cv]) (roomq hr (Nat.le_refl _)) hd ⟨r3, r4⟩) kk
  · simp only [wsV, List.mem_append, List.mem_cons, List.not_mem_nil, or_false] at hx
    rcases hx with (rfl | rfl | rfl | rfl) | (rfl | hx)
    · exact o1
    · exact o2
    · exact o3
    · exact o4
    · exact o5
    · exact hx
  · show d' + 1 ≤ R.frames
    omega
  · show 8 + (maxL + 11) + 60 * d' ≤ R.locals
    omega
theorem go_callS (X : Cx w v p R s m args c cells slots cc nL own d) {y : MethodName} {bytes : ByteArray} {maxL ix d' n : Nat} {ret : Option FieldType} {As rest : List Value} {rv : Option Value} {σ' : Hp} (ok : SOk own ix y bytes maxL ret n) (hM : Ct w v l y bytes maxL ret d' As σ rv σ') (hd' : d' < d) (hn : As.length = n) (hst : st = As.reverse ++ rest) (hr : (rest.map fun x => x.category).sum ≤ 8) (hd : decode cc pc = .ok (.invokestatic ix, 3)) (kk : Go w v p l e R s m args below meth c cells slots Q nL (pc + 3) lv (rv.toList ++ rest) σ') : Go w v p l e R s m args below meth c cells slots Q nL pc lv st σ := fun H locs ls hP hS hl => by
  subst hst
  obtain ⟨o1, o2, o4, o5, o6, o7⟩ := ok
  obtain ⟨hx, hbc, hml, ho, hts, hK, hi, ⟨r1, r2, r3, r4⟩, hX, xc⟩ := X
  have hp := preS (As := As) hK hX xc hP hS
  refine go_run (rest := rest) hS hl (va_runS (As := As.map (cv v.1)) (Ts := tb) ⟨hx, hbc, hml, ho, hts⟩ (hM H.size) (va_cwS n hts (goodIn_tb (fun x hx => ?_)) rfl rfl rfl o6 ⟨?_, ?_⟩) hp rfl (by simp [hn]) hl.1 (by simp) (roomq hr (Nat.le_refl _)) hd ⟨r3, r4⟩) kk
  · simp only [va_wsS, List.mem_append, List.mem_cons, List.not_mem_nil, or_false] at hx
    rcases hx with (rfl | rfl | rfl) | (rfl | hx)
    · exact o1
    · exact o2
    · exact o4
    · exact o5
    · exact hx
  · show d' + 1 ≤ R.frames
    omega
  · show 8 + (maxL + 11) + 60 * d' ≤ R.locals
    omega
theorem go_callN (X : Cx w v p R s m args c cells slots cc nL own d) {y : MethodName} {host : String} {bytes : ByteArray} {maxL ix d' n : Nat} {ret : Option FieldType} {As rest : List Value} {rv : Option Value} {σ' : Hp} (ok : NOk y bytes maxL ret n) (hnw : ∀ U, zX v U → va_Nw (.methodLinkNest own ix y host) U) (hM : Ct w v l y bytes maxL ret d' As σ rv σ') (hd' : d' < d) (hn : As.length = n) (hst : st = As.reverse ++ rest) (hr : (rest.map fun x => x.category).sum ≤ 8) (hd : decode cc pc = .ok (.invokestatic ix, 3)) (kk : Go w v p l e R s m args below meth c cells slots Q nL (pc + 3) lv (rv.toList ++ rest) σ') : Go w v p l e R s m args below meth c cells slots Q nL pc lv st σ := fun H locs ls hP hS hl => by
  subst hst
  obtain ⟨o2, o4, o5, o6, o7⟩ := ok
  obtain ⟨hx, hbc, hml, ho, hts, hK, hi, ⟨r1, r2, r3, r4⟩, hX, xc⟩ := X
  have hp := preS (As := As) hK hX xc hP hS
  refine go_run (rest := rest) hS hl (va_runSN (host := host) (As := As.map (cv v.1)) (Ts := tb) ⟨hx, hbc, hml, ho, hts⟩ (hM H.size) ⟨va_cnB n hts (goodIn_tb (fun x hx => ?_)) rfl rfl rfl (hnw s hX) (hts _ o4) o6 ⟨?_, ?_⟩, hts _ o2, trivial⟩ hp rfl (by simp [hn]) hl.1 (by simp) (roomq hr (Nat.le_refl _)) hd ⟨r3, r4⟩) kk
  · simp only [List.mem_cons] at hx
    rcases hx with rfl | hx
    · exact o5
    · exact hx
  · show d' + 1 ≤ R.frames
    omega
  · show 8 + (maxL + 11) + 60 * d' ≤ R.locals
    omega
theorem go_iret {res : Int32 × Hp} {bz : Bool} {x : Int32} (rt : Rt w v p l e R s m args below meth c cells slots Q cc bz (some (.int res.1)) res.2) (hd : decode cc pc = .ok (.ireturn, 1)) (h : some (x, σ) = some res) (hb : bz = true → x = 0 ∨ x = 1) : Go w v p l e R s m args below meth c cells slots Q nL pc lv [.int x] σ := fun H locs ls hP hS hl => by
  cases h
  exact rt pc ls H locs ⟨hd, hb⟩ hP hS
theorem go_zret {res : Int32 × Hp} {bz : Bool} {x : Int32} (rt : Rt w v p l e R s m args below meth c cells slots Q cc bz (some (.int res.1)) res.2) (hd : decode cc pc = .ok (.ireturn, 1)) (h : gd (isb x) (some (x, σ)) = some res) : Go w v p l e R s m args below meth c cells slots Q nL pc lv [.int x] σ := go_iret rt hd (gd_some h).2 (fun _ => isb_or (gd_some h).1)
theorem go_vret {res : Hp} {bz : Bool} (rt : Rt w v p l e R s m args below meth c cells slots Q cc bz none res) (hd : decode cc pc = .ok (.return_, 1)) (h : some σ = some res) : Go w v p l e R s m args below meth c cells slots Q nL pc lv [] σ := fun H locs ls hP hS hl => by
  cases h
  exact rt pc ls H locs hd hP hS
theorem go_aret {res : Nat × Hp} {bz : Bool} {x : Nat} (rt : Rt w v p l e R s m args below meth c cells slots Q cc bz (some (.ref res.1)) res.2) (hd : decode cc pc = .ok (.areturn, 1)) (h : some (x, σ) = some res) : Go w v p l e R s m args below meth c cells slots Q nL pc lv [.ref x] σ := fun H locs ls hP hS hl => by
  cases h
  exact rt pc ls H locs hd hP hS
def jmin (x y : Int32) : Int32 := if y < x then y else x
def jmax (x y : Int32) : Int32 := if x < y then y else x
def jabs (x : Int32) : Int32 := if 0 ≤ x then x else 0 - x
def MOk (own : String) (ix : Nat) (y : MethodName) (bytes : ByteArray) (n : Nat) : Prop := Cond.methodLink own ix y ∈ tb ∧ Cond.static y ∈ tb ∧ Cond.initialized "java/lang/Math" ∈ tb ∧ Cond.code y bytes n (some .int) ∈ tb
theorem go_mmax (X : Cx w v p R s m args c cells slots cc nL own d) {ix : Nat} {x y : Int32} (ok : MOk own ix Lib.Math.max.name Lib.Math.max.code 2) (hd1 : 1 ≤ d) (hr : (st.map fun x => x.category).sum ≤ 8) (hd : decode cc pc = .ok (.invokestatic ix, 3)) (kk : Go w v p l e R s m args below meth c cells slots Q nL (pc + 3) lv (.int (jmax x y) :: st) σ) : Go w v p l e R s m args below meth c cells slots Q nL pc lv (.int y :: .int x :: st) σ := fun H locs ls hP hS hl => by
  obtain ⟨hx, hbc, hml, ho, hts, hK, hi, ⟨r1, r2, r3, r4⟩, hX, xc⟩ := X
  exact va_mmax hx hbc (hml.trans hl.1.symm) ho (hts _ ok.1) (hts _ ok.2.1) (hts _ ok.2.2.1) (hts _ ok.2.2.2) (by omega) (by rw [map_cat]; omega) r3 r4 hd (kk H locs ls hP hS hl)
theorem go_mmin (X : Cx w v p R s m args c cells slots cc nL own d) {ix : Nat} {x y : Int32} (ok : MOk own ix Lib.Math.min.name Lib.Math.min.code 2) (hd1 : 1 ≤ d) (hr : (st.map fun x => x.category).sum ≤ 8) (hd : decode cc pc = .ok (.invokestatic ix, 3)) (kk : Go w v p l e R s m args below meth c cells slots Q nL (pc + 3) lv (.int (jmin x y) :: st) σ) : Go w v p l e R s m args below meth c cells slots Q nL pc lv (.int y :: .int x :: st) σ := fun H locs ls hP hS hl => by
  obtain ⟨hx, hbc, hml, ho, hts, hK, hi, ⟨r1, r2, r3, r4⟩, hX, xc⟩ := X
  exact va_mmin hx hbc (hml.trans hl.1.symm) ho (hts _ ok.1) (hts _ ok.2.1) (hts _ ok.2.2.1) (hts _ ok.2.2.2) (by omega) (by rw [map_cat]; omega) r3 r4 hd (kk H locs ls hP hS hl)
theorem go_mabs (X : Cx w v p R s m args c cells slots cc nL own d) {ix : Nat} {x : Int32} (ok : MOk own ix Lib.Math.abs.name Lib.Math.abs.code 1) (hd1 : 1 ≤ d) (hr : (st.map fun x => x.category).sum ≤ 8) (hd : decode cc pc = .ok (.invokestatic ix, 3)) (kk : Go w v p l e R s m args below meth c cells slots Q nL (pc + 3) lv (.int (jabs x) :: st) σ) : Go w v p l e R s m args below meth c cells slots Q nL pc lv (.int x :: st) σ := fun H locs ls hP hS hl => by
  obtain ⟨hx, hbc, hml, ho, hts, hK, hi, ⟨r1, r2, r3, r4⟩, hX, xc⟩ := X
  exact va_mabs hx hbc (hml.trans hl.1.symm) ho (hts _ ok.1) (hts _ ok.2.1) (hts _ ok.2.2.1) (hts _ ok.2.2.2) (by omega) (by rw [map_cat]; omega) r3 r4 hd (kk H locs ls hP hS hl)
/-- the first n places of row k0 into row k1 -/
def zcp (σ : Hp) (k1 k0 n : Nat) : Hp := zr σ k1 (va_cpy (σ k0) (σ k1) 0 0 n)
def AOk (own : String) (ix : Nat) : Prop := Cond.methodLink own ix arraycopyName ∈ tb ∧ Cond.native arraycopyName ∈ tb ∧ Cond.static arraycopyName ∈ tb ∧ Cond.initialized "java/lang/System" ∈ tb
theorem go_copy (X : Cx w v p R s m args c cells slots cc nL own d) {ix k0 k1 n0 n1 n : Nat} {y : Int32} (ok : AOk own ix) (hd1 : 1 ≤ d) (h0 : k0 < w.1) (h1 : k1 < w.1) (s0 : w.2.1 k0 = (0, n0)) (s1 : w.2.1 k1 = (0, n1)) (hy : y = nI n) (hn : n < 2 ^ 31) (hn0 : n ≤ n0) (hn1 : n ≤ n1) (hr : (st.map fun x => x.category).sum ≤ 8) (hd : decode cc pc = .ok (.invokestatic ix, 3)) (kk : Go w v p l e R s m args below meth c cells slots Q nL (pc + 3) lv st (zcp σ k1 k0 n)) : Go w v p l e R s m args below meth c cells slots Q nL pc lv (.int y :: .int 0 :: .ref k1 :: .int 0 :: .ref k0 :: st) σ := fun H locs ls hP hS hl => by
  obtain ⟨hx, hbc, hml, ho, hts, hK, hi, ⟨r1, r2, r3, r4⟩, hX, xc⟩ := X
  subst hy
  have z0 : (0 : Int32).toNatClampNeg = 0 := by decide
  refine va_copyi (ty := .int) hx hbc (hml.trans hl.1.symm) ho (hts _ ok.1) (hts _ ok.2.1) (hts _ ok.2.2.1) (hts _ ok.2.2.2) hK hP (zw_D hi) hS k0 k1 0 0 ((zw_at h0).trans (by rw [zcell_i s0])) ((zw_at h1).trans (by rw [zcell_i s1])) rfl rfl rfl (by decide) (by decide) (nI_pos hn) (by rw [z0, nI_clamp hn]; omega) (by rw [z0, nI_clamp hn]; omega) (fun i _ => rfl) (by omega) (by rw [map_cat]; show _ + (5 + 2 + 11) ≤ _; omega) hd (fun H1 locs1 hP1 hD1 hS1 => ?_)
  rw [z0, nI_clamp hn, zw_set (r := va_cpy (σ k0) (σ k1) 0 0 n) (zcell_i s1)] at hP1
  exact kk H1 locs1 ls hP1 hS1 hl
theorem go_Vi (X : Cx w v p R s m args c cells slots cc nL own d) {F : Option (Int32 × Hp)} {f : Int32 × Hp → Option β} {y : MethodName} {bytes : ByteArray} {maxL ix d' n b ci nf : Nat} {ret : Option FieldType} {As rest : List Value} {Tt : u_T} (ok : VOk own ix y bytes maxL ret n) (hM : ∀ q, F = some q → Ct w v l y bytes maxL ret d' (.ref b :: As) σ (some (.int q.1)) q.2) (hd' : d' < d) (hn : As.length = n) (hb : b < w.1) (hs : w.2.1 b = (ci + 2, nf)) (hc : vwCl[ci]? = some (y.cls, Tt, nf)) (hst : st = As.reverse ++ .ref b :: rest) (hr : (rest.map fun x => x.category).sum ≤ 8) (hd : decode cc pc = .ok (.invokevirtual ix, 3)) (h : F.bind f = some res) (kk : ∀ q, f q = some res → Go w v p l e R s m args below meth c cells slots Q nL (pc + 3) lv (.int q.1 :: rest) q.2) : Go w v p l e R s m args below meth c cells slots Q nL pc lv st σ := by
  obtain ⟨q, h1, h2⟩ := Option.bind_eq_some_iff.mp h
  exact go_callV X ok (hM q h1) hd' hn hb hs hc hst hr hd (kk q h2)
theorem go_Si (X : Cx w v p R s m args c cells slots cc nL own d) {F : Option (Int32 × Hp)} {f : Int32 × Hp → Option β} {y : MethodName} {bytes : ByteArray} {maxL ix d' n : Nat} {ret : Option FieldType} {As rest : List Value} (ok : SOk own ix y bytes maxL ret n) (hM : ∀ q, F = some q → Ct w v l y bytes maxL ret d' As σ (some (.int q.1)) q.2) (hd' : d' < d) (hn : As.length = n) (hst : st = As.reverse ++ rest) (hr : (rest.map fun x => x.category).sum ≤ 8) (hd : decode cc pc = .ok (.invokestatic ix, 3)) (h : F.bind f = some res) (kk : ∀ q, f q = some res → Go w v p l e R s m args below meth c cells slots Q nL (pc + 3) lv (.int q.1 :: rest) q.2) : Go w v p l e R s m args below meth c cells slots Q nL pc lv st σ := by
  obtain ⟨q, h1, h2⟩ := Option.bind_eq_some_iff.mp h
  exact go_callS X ok (hM q h1) hd' hn hst hr hd (kk q h2)
theorem go_Ni (X : Cx w v p R s m args c cells slots cc nL own d) {F : Option (Int32 × Hp)} {f : Int32 × Hp → Option β} {y : MethodName} {host : String} {bytes : ByteArray} {maxL ix d' n : Nat} {ret : Option FieldType} {As rest : List Value} (ok : NOk y bytes maxL ret n) (hnw : ∀ U, zX v U → va_Nw (.methodLinkNest own ix y host) U) (hM : ∀ q, F = some q → Ct w v l y bytes maxL ret d' As σ (some (.int q.1)) q.2) (hd' : d' < d) (hn : As.length = n) (hst : st = As.reverse ++ rest) (hr : (rest.map fun x => x.category).sum ≤ 8) (hd : decode cc pc = .ok (.invokestatic ix, 3)) (h : F.bind f = some res) (kk : ∀ q, f q = some res → Go w v p l e R s m args below meth c cells slots Q nL (pc + 3) lv (.int q.1 :: rest) q.2) : Go w v p l e R s m args below meth c cells slots Q nL pc lv st σ := by
  obtain ⟨q, h1, h2⟩ := Option.bind_eq_some_iff.mp h
  exact go_callN X ok hnw (hM q h1) hd' hn hst hr hd (kk q h2)
theorem go_Vv (X : Cx w v p R s m args c cells slots cc nL own d) {F : Option (Hp)} {f : Hp → Option β} {y : MethodName} {bytes : ByteArray} {maxL ix d' n b ci nf : Nat} {ret : Option FieldType} {As rest : List Value} {Tt : u_T} (ok : VOk own ix y bytes maxL ret n) (hM : ∀ q, F = some q → Ct w v l y bytes maxL ret d' (.ref b :: As) σ (none) q) (hd' : d' < d) (hn : As.length = n) (hb : b < w.1) (hs : w.2.1 b = (ci + 2, nf)) (hc : vwCl[ci]? = some (y.cls, Tt, nf)) (hst : st = As.reverse ++ .ref b :: rest) (hr : (rest.map fun x => x.category).sum ≤ 8) (hd : decode cc pc = .ok (.invokevirtual ix, 3)) (h : F.bind f = some res) (kk : ∀ q, f q = some res → Go w v p l e R s m args below meth c cells slots Q nL (pc + 3) lv rest q) : Go w v p l e R s m args below meth c cells slots Q nL pc lv st σ := by
  obtain ⟨q, h1, h2⟩ := Option.bind_eq_some_iff.mp h
  exact go_callV X ok (hM q h1) hd' hn hb hs hc hst hr hd (kk q h2)
theorem go_Sv (X : Cx w v p R s m args c cells slots cc nL own d) {F : Option (Hp)} {f : Hp → Option β} {y : MethodName} {bytes : ByteArray} {maxL ix d' n : Nat} {ret : Option FieldType} {As rest : List Value} (ok : SOk own ix y bytes maxL ret n) (hM : ∀ q, F = some q → Ct w v l y bytes maxL ret d' As σ (none) q) (hd' : d' < d) (hn : As.length = n) (hst : st = As.reverse ++ rest) (hr : (rest.map fun x => x.category).sum ≤ 8) (hd : decode cc pc = .ok (.invokestatic ix, 3)) (h : F.bind f = some res) (kk : ∀ q, f q = some res → Go w v p l e R s m args below meth c cells slots Q nL (pc + 3) lv rest q) : Go w v p l e R s m args below meth c cells slots Q nL pc lv st σ := by
  obtain ⟨q, h1, h2⟩ := Option.bind_eq_some_iff.mp h
  exact go_callS X ok (hM q h1) hd' hn hst hr hd (kk q h2)
theorem go_Nv (X : Cx w v p R s m args c cells slots cc nL own d) {F : Option (Hp)} {f : Hp → Option β} {y : MethodName} {host : String} {bytes : ByteArray} {maxL ix d' n : Nat} {ret : Option FieldType} {As rest : List Value} (ok : NOk y bytes maxL ret n) (hnw : ∀ U, zX v U → va_Nw (.methodLinkNest own ix y host) U) (hM : ∀ q, F = some q → Ct w v l y bytes maxL ret d' As σ (none) q) (hd' : d' < d) (hn : As.length = n) (hst : st = As.reverse ++ rest) (hr : (rest.map fun x => x.category).sum ≤ 8) (hd : decode cc pc = .ok (.invokestatic ix, 3)) (h : F.bind f = some res) (kk : ∀ q, f q = some res → Go w v p l e R s m args below meth c cells slots Q nL (pc + 3) lv rest q) : Go w v p l e R s m args below meth c cells slots Q nL pc lv st σ := by
  obtain ⟨q, h1, h2⟩ := Option.bind_eq_some_iff.mp h
  exact go_callN X ok hnw (hM q h1) hd' hn hst hr hd (kk q h2)
theorem go_Vr (X : Cx w v p R s m args c cells slots cc nL own d) {F : Option (Nat × Hp)} {f : Nat × Hp → Option β} {y : MethodName} {bytes : ByteArray} {maxL ix d' n b ci nf : Nat} {ret : Option FieldType} {As rest : List Value} {Tt : u_T} (ok : VOk own ix y bytes maxL ret n) (hM : ∀ q, F = some q → Ct w v l y bytes maxL ret d' (.ref b :: As) σ (some (.ref q.1)) q.2) (hd' : d' < d) (hn : As.length = n) (hb : b < w.1) (hs : w.2.1 b = (ci + 2, nf)) (hc : vwCl[ci]? = some (y.cls, Tt, nf)) (hst : st = As.reverse ++ .ref b :: rest) (hr : (rest.map fun x => x.category).sum ≤ 8) (hd : decode cc pc = .ok (.invokevirtual ix, 3)) (h : F.bind f = some res) (kk : ∀ q, f q = some res → Go w v p l e R s m args below meth c cells slots Q nL (pc + 3) lv (.ref q.1 :: rest) q.2) : Go w v p l e R s m args below meth c cells slots Q nL pc lv st σ := by
  obtain ⟨q, h1, h2⟩ := Option.bind_eq_some_iff.mp h
  exact go_callV X ok (hM q h1) hd' hn hb hs hc hst hr hd (kk q h2)
theorem go_Sr (X : Cx w v p R s m args c cells slots cc nL own d) {F : Option (Nat × Hp)} {f : Nat × Hp → Option β} {y : MethodName} {bytes : ByteArray} {maxL ix d' n : Nat} {ret : Option FieldType} {As rest : List Value} (ok : SOk own ix y bytes maxL ret n) (hM : ∀ q, F = some q → Ct w v l y bytes maxL ret d' As σ (some (.ref q.1)) q.2) (hd' : d' < d) (hn : As.length = n) (hst : st = As.reverse ++ rest) (hr : (rest.map fun x => x.category).sum ≤ 8) (hd : decode cc pc = .ok (.invokestatic ix, 3)) (h : F.bind f = some res) (kk : ∀ q, f q = some res → Go w v p l e R s m args below meth c cells slots Q nL (pc + 3) lv (.ref q.1 :: rest) q.2) : Go w v p l e R s m args below meth c cells slots Q nL pc lv st σ := by
  obtain ⟨q, h1, h2⟩ := Option.bind_eq_some_iff.mp h
  exact go_callS X ok (hM q h1) hd' hn hst hr hd (kk q h2)
theorem go_Nr (X : Cx w v p R s m args c cells slots cc nL own d) {F : Option (Nat × Hp)} {f : Nat × Hp → Option β} {y : MethodName} {host : String} {bytes : ByteArray} {maxL ix d' n : Nat} {ret : Option FieldType} {As rest : List Value} (ok : NOk y bytes maxL ret n) (hnw : ∀ U, zX v U → va_Nw (.methodLinkNest own ix y host) U) (hM : ∀ q, F = some q → Ct w v l y bytes maxL ret d' As σ (some (.ref q.1)) q.2) (hd' : d' < d) (hn : As.length = n) (hst : st = As.reverse ++ rest) (hr : (rest.map fun x => x.category).sum ≤ 8) (hd : decode cc pc = .ok (.invokestatic ix, 3)) (h : F.bind f = some res) (kk : ∀ q, f q = some res → Go w v p l e R s m args below meth c cells slots Q nL (pc + 3) lv (.ref q.1 :: rest) q.2) : Go w v p l e R s m args below meth c cells slots Q nL pc lv st σ := by
  obtain ⟨q, h1, h2⟩ := Option.bind_eq_some_iff.mp h
  exact go_callN X ok hnw (hM q h1) hd' hn hst hr hd (kk q h2)
/-- where a tableswitch goes -/
def swo (dflt lo hi : Int) (offs : Array Int) (z : Int) : Int := if z < lo ∨ hi < z then dflt else offs.getD (z - lo).toNat dflt
theorem go_tsw (X : Cx w v p R s m args c cells slots cc nL own d) {dflt lo hi : Int} {offs : Array Int} {len : Nat} {x : Int32} {off : Int} {tgt : Nat} (hd : decode cc pc = .ok (.tableswitch dflt lo hi offs, len)) (hsz : (hi - lo).toNat < offs.size) (ho : swo dflt lo hi offs x.toInt = off) (ht : (pc : Int) + off = (tgt : Int)) (k : Go w v p l e R s m args below meth c cells slots Q nL tgt lv st σ) : Go w v p l e R s m args below meth c cells slots Q nL pc lv (.int x :: st) σ := fun H locs ls hP hS hl => by
  unfold swo at ho
  split at ho
  · rename_i hh
    subst ho
    exact lv_tableOut X.1 X.2.1 hd hh ht (k H locs ls hP hS hl)
  · rename_i hh
    have h1 : ¬ x.toInt < lo := fun q => hh (Or.inl q)
    have h2 : ¬ hi < x.toInt := fun q => hh (Or.inr q)
    have h3 : (x.toInt - lo).toNat < offs.size := by omega
    refine lv_tableIn (off := off) X.1 X.2.1 hd h1 h2 ?_ ht (k H locs ls hP hS hl)
    rw [← ho, Array.getElem?_eq_getElem h3]
    simp [Array.getD, h3]
theorem sw_dflt {dflt lo hi : Int} {offs : Array Int} {z : Int} (keys : List Int) (hk : ∀ j, j < offs.size → (lo + (j : Int)) ∈ keys ∨ offs.getD j dflt = dflt) (hz : z ∉ keys) : swo dflt lo hi offs z = dflt := by
  unfold swo
  split
  · rfl
  · rename_i hh
    by_cases hj : (z - lo).toNat < offs.size
    · rcases hk _ hj with h | h
      · exfalso
        apply hz
        have : lo + (((z - lo).toNat : Nat) : Int) = z := by omega
        rw [this] at h
        exact h
      · exact h
    · simp [Array.getD, hj]
theorem i32_ne {x : Int32} {k : Int} (h : ¬ x = Int32.ofInt k) : x.toInt ≠ k := fun q => h (by rw [← q]; exact (Int32.ofInt_toInt x).symm)
theorem go_lsw (X : Cx w v p R s m args c cells slots cc nL own d) {dflt : Int} {ps : Array (Int × Int)} {len : Nat} {x : Int32} {off : Int} {tgt : Nat} (hd : decode cc pc = .ok (.lookupswitch dflt ps, len)) (hp : (ps.toList.zip (ps.toList.drop 1)).all (fun (a, next) => a.1 < next.1) = true) (ho : Op.lookupswitch.offset ps.toList dflt x.toInt = off) (ht : (pc : Int) + off = (tgt : Int)) (k : Go w v p l e R s m args below meth c cells slots Q nL tgt lv st σ) : Go w v p l e R s m args below meth c cells slots Q nL pc lv (.int x :: st) σ := fun H locs ls hP hS hl => lv_lookup X.1 X.2.1 hd hp ho ht (k H locs ls hP hS hl)
end ZCALLS
