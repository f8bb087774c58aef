-- THE ABSTRACT HEAP: a row of Int32 for each cell; a world is the list of cells that such a heap stands for
abbrev Hp : Type := Nat → Nat → Int32
/-- a row put in place of another -/
def zr (σ : Hp) (k : Nat) (r : Nat → Int32) : Hp := fun j => if j = k then r else σ j
/-- one place of one row -/
def zu (σ : Hp) (k i : Nat) (x : Int32) : Hp := zr σ k (upd (σ k) i x)
/-- what is fixed of a world: how many cells, their shapes (0 n: ints; 1 n: bytes; c + 2, n: an object of class c with n fields), the kinds of fields (0 a number, 1 a cell's number, t + 2 always cell t) -/
abbrev ZS : Type := Nat × (Nat → Nat × Nat) × (Nat → Nat → Nat)
/-- what a run chooses: addresses, the tables' numbers, the classes of int and byte arrays, what else holds -/
abbrev ZV : Type := (Nat → Nat) × va_G × ClassId × ClassId × (State → Prop)
def zval (w : ZS) (al : Nat → Nat) (r : Nat → Int32) (k j : Nat) : Value := match w.2.2 k j with
  | 0 => .int (r j)
  | 1 => .ref (al (r j).toNatClampNeg)
  | t + 2 => .ref (al t)
def zcell (w : ZS) (v : ZV) (r : Nat → Int32) (k : Nat) : va_E := match w.2.1 k with
  | (0, n) => .inl (v.2.2.1, n, .inl r)
  | (1, n) => .inl (v.2.2.2.1, n, .inl r)
  | (c + 2, n) => .inr (c, (List.range n).map (zval w v.1 r k))
def zw (w : ZS) (v : ZV) (σ : Hp) : va_W := (List.range w.1).map (fun k => (v.1 k, zcell w v (σ k) k))
def cv (al : Nat → Nat) : Value → Value
  | .ref a => .ref (al a)
  | x => x
theorem cv_cat (al : Nat → Nat) (x : Value) : (cv al x).category = x.category := by cases x <;> rfl
theorem zw_at {w : ZS} {v : ZV} {σ : Hp} {k : Nat} (hk : k < w.1) : (zw w v σ)[k]? = some (v.1 k, zcell w v (σ k) k) := by
  simp [zw, hk]
theorem zr_self (σ : Hp) (k : Nat) (r : Nat → Int32) : zr σ k r k = r := by simp [zr]
theorem zr_ne (σ : Hp) {k j : Nat} (r : Nat → Int32) (h : j ≠ k) : zr σ k r j = σ j := by simp [zr, h]
theorem zw_set {w : ZS} {v : ZV} {σ : Hp} {k : Nat} {r : Nat → Int32} {x : va_E} (he : zcell w v r k = x) : (zw w v σ).set k (v.1 k, x) = zw w v (zr σ k r) := by
  subst he
  apply List.ext_getElem?
  intro j
  by_cases hj : j = k
  · subst hj
    by_cases hl : j < w.1
    · rw [List.getElem?_set_self (by simp [zw, hl]), zw_at hl, zr_self]
    · rw [List.getElem?_eq_none (by simp [zw]; omega), List.getElem?_eq_none (by simp [zw]; omega)]
  · rw [List.getElem?_set_ne (Ne.symm hj)]
    by_cases hl : j < w.1
    · rw [zw_at hl, zw_at hl, zr_ne _ _ hj]
    · rw [List.getElem?_eq_none (by simp [zw]; omega), List.getElem?_eq_none (by simp [zw]; omega)]
theorem zcell_i {w : ZS} {v : ZV} {r : Nat → Int32} {k n : Nat} (hs : w.2.1 k = (0, n)) : zcell w v r k = .inl (v.2.2.1, n, .inl r) := by simp [zcell, hs]
theorem zcell_b {w : ZS} {v : ZV} {r : Nat → Int32} {k n : Nat} (hs : w.2.1 k = (1, n)) : zcell w v r k = .inl (v.2.2.2.1, n, .inl r) := by simp [zcell, hs]
theorem zcell_o {w : ZS} {v : ZV} {r : Nat → Int32} {k c n : Nat} (hs : w.2.1 k = (c + 2, n)) : zcell w v r k = .inr (c, (List.range n).map (zval w v.1 r k)) := by simp [zcell, hs]
def zA (w : ZS) (v : ZV) (sz : Nat) : Nat → Prop := fun q => (∃ k, k < w.1 ∧ q = v.1 k) ∨ sz ≤ q
def zInj (w : ZS) (v : ZV) : Prop := ∀ i j, i < w.1 → j < w.1 → v.1 i = v.1 j → i = j
theorem zw_lt {w : ZS} {v : ZV} {σ : Hp} {k : Nat} {q : Nat × va_E} (h : (zw w v σ)[k]? = some q) : k < w.1 := by
  by_cases hl : k < w.1
  · exact hl
  · rw [List.getElem?_eq_none (by simp [zw]; omega)] at h; cases h
theorem zw_D {w : ZS} {v : ZV} {σ : Hp} {sz : Nat} (hi : zInj w v) : va_D (zA w v sz) (zw w v σ) := by
  refine ⟨fun i j p q h1 h2 h3 => ?_, fun k q h => ?_⟩
  · have l1 := zw_lt h1
    have l2 := zw_lt h2
    rw [zw_at l1] at h1; rw [zw_at l2] at h2
    cases h1; cases h2
    exact hi i j l1 l2 h3
  · have l1 := zw_lt h
    rw [zw_at l1] at h
    cases h
    exact Or.inl ⟨k, l1, rfl⟩
theorem zw_A {w : ZS} {v : ZV} {σ : Hp} {sz q : Nat} (h : va_A (zw w v σ) sz q) : zA w v sz q := by
  rcases h with ⟨k, e, h⟩ | h
  · have l1 := zw_lt h
    rw [zw_at l1] at h
    cases h
    exact Or.inl ⟨k, l1, rfl⟩
  · exact Or.inr h
/-- the words that every method of this proof knows -/
def tb : List Cond := lw_tbl.filter goodWord
theorem tb_in {c : Cond} (h : c ∈ lw_tbl) (hg : goodWord c = true) : c ∈ tb := List.mem_filter.mpr ⟨h, hg⟩
/-- the room of a method of depth d -/
def rmm (d : Nat) : Room := { frames := d, cells := 0, slots := 0, locals := 60 * d }
def zX (v : ZV) : State → Prop := v.2.2.2.2
/-- what else holds is kept by calls and by writes into the world -/
def XC (w : ZS) (v : ZV) : Prop := (∀ u U : State, zX v u → u.WarmedH U.vm → (∀ q : Nat, q < u.heap.size → ¬ (∃ k, k < w.1 ∧ q = v.1 k) → U.heap[q]? = u.heap[q]?) → zX v U) ∧ ∀ (U : State) (g : JFrame) (mk : MethodId) (a : Array Value), zX v U → zX v (U.calling g mk a)
def zK (v : ZV) (U : State) : Prop := va_K v.2.1 vwCl [(v.2.2.1, .int), (v.2.2.2.1, .byte)] U
def zP (w : ZS) (v : ZV) (σ : Hp) (H : Heap) : Prop := va_P v.2.1 vwCl (zw w v σ) H
/-- THE CONTRACT: method y, from the heap σ with the arguments av, answers rv and leaves the heap σ' -/
def Ct (w : ZS) (v : ZV) (l : Launch) (y : MethodName) (cc : ByteArray) (maxL : Nat) (ret : Option FieldType) (d : Nat) (av : List Value) (σ : Hp) (rv : Option Value) (σ' : Hp) : Prop :=
  ∀ sz : Nat, Met l y (.code y cc maxL ret :: tb) (rmm d) (va_Pc (av.map (cv v.1)) (fun U => U.heap.size = sz ∧ zP w v σ U.heap ∧ zK v U ∧ zX v U))
    (fun _ st oc t => (oc = .returned (rv.map (cv v.1)) ∧ zP w v σ' t.heap) ∧ va_F (zA w v sz) st t) 0 0 (zA w v sz)
/-- what stands at every instruction of a method: the machine, its code, the words, the room -/
def Cx (w : ZS) (v : ZV) (p : Program) (R : Room) (s : State) (m : MethodId) (args : Array Value) (c : Code) (cells slots : Nat) (cc : ByteArray) (nL : Nat) (own : String) (d : Nat) : Prop :=
  p.tables.exec = Jvm.exec ∧ c.code = cc ∧ c.maxLocals = nL ∧ s.vm.findClass own = some m.cls ∧ (∀ x ∈ tb, x.before args s = true) ∧ zK v s ∧ zInj w v ∧ (d ≤ R.frames ∧ 60 * d ≤ R.locals ∧ cells ≤ R.cells ∧ slots ≤ R.slots) ∧ zX v s ∧ XC w v
/-- from here the machine comes to Q -/
def Go (w : ZS) (v : ZV) (p : Program) (l : Launch) (e : Env) (R : Room) (s : State) (m : MethodId) (args : Array Value) (below : List Frame) (meth : Method) (c : Code) (cells slots : Nat) (Q : State → Prop) (nL : Nat) (pc : Nat) (lv : List (Nat × Value)) (st : List Value) (σ : Hp) : Prop :=
  ∀ (H : Heap) (locs : List Loc) (ls : Array Slot), zP w v σ H → va_S (zA w v s.heap.size) s.heap H locs → lv_has ls nL (lv.map fun q => (q.1, cv v.1 q.2)) → W p l e R s m args below meth c H locs cells slots Q (F0 m pc ls (st.map (cv v.1)))
/-- an index within a row -/
def inb (i : Int32) (n : Nat) : Bool := decide (0 ≤ i) && decide (i.toNatClampNeg < n)
theorem inb_in {i : Int32} {n : Nat} (h : inb i n = true) : vp_in i n := by
  simp only [inb, Bool.and_eq_true, decide_eq_true_eq] at h
  intro hh
  rcases hh with hh | hh
  · exact absurd h.1 (by rw [Int32.not_le]; exact hh)
  · omega
/-- a guard -/
def gd {α : Type} (b : Bool) (x : Option α) : Option α := match b with
  | true => x
  | false => none
theorem gd_some {α : Type} {b : Bool} {x : Option α} {r : α} (h : gd b x = some r) : b = true ∧ x = some r := by
  cases b
  · cases h
  · exact ⟨rfl, h⟩
theorem gd_true {α : Type} {b : Bool} {x : Option α} (h : b = true) : gd b x = x := by subst h; rfl
/-- a truth value -/
def isb (x : Int32) : Bool := decide (x = 0) || decide (x = 1)
theorem isb_or {x : Int32} (h : isb x = true) : x = 0 ∨ x = 1 := by simpa [isb] using h
def FU : Nat := 1000000
/-- a table of decoded instructions -/
abbrev DT : Type := List (Nat × Instr × Nat)
def dOk (cc : ByteArray) (T : DT) : Prop := ∀ q ∈ T, decode cc q.1 = .ok q.2
theorem dk {cc : ByteArray} {T : DT} (h : dOk cc T) (i : Nat) {pc n : Nat} {x : Instr} (hi : T[i]? = some (pc, x, n)) : decode cc pc = .ok (x, n) := h (pc, x, n) (List.mem_of_getElem? hi)
theorem lmap_filter (al : Nat → Nat) (i : Nat) (lv : List (Nat × Value)) : ((lv.map fun q => (q.1, cv al q.2)).filter (fun q => !(q.1 == i) && !(q.1 + 1 == i && q.2.category == 2))) = (lv.filter (fun q => !(q.1 == i) && !(q.1 + 1 == i && q.2.category == 2))).map fun q => (q.1, cv al q.2) := by
  rw [List.filter_map]
  congr 1
  apply List.filter_congr
  intro q _
  simp [cv_cat]
theorem lmap_filter2 (al : Nat → Nat) (i : Nat) (lv : List (Nat × Value)) : ((lv.map fun q => (q.1, cv al q.2)).filter (fun q => !(q.1 == i) && (!(q.1 == i + 1) && !(q.1 + 1 == i && q.2.category == 2)))) = (lv.filter (fun q => !(q.1 == i) && (!(q.1 == i + 1) && !(q.1 + 1 == i && q.2.category == 2)))).map fun q => (q.1, cv al q.2) := by
  rw [List.filter_map]
  congr 1
  apply List.filter_congr
  intro q _
  simp [cv_cat]
theorem lmap_at {al : Nat → Nat} {lv : List (Nat × Value)} {k i : Nat} {x : Value} (h : lv[k]? = some (i, x)) : (lv.map fun q => (q.1, cv al q.2))[k]? = some (i, cv al x) := by simp [h]
