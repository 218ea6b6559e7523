section BASE
/-- the tables' words that a call may carry along -/
def BIG : List Cond := lw_tbl.filter goodWord
theorem big_t {w : Cond} (i : Nat) (h : tables_1[i]? = some w) (g : goodWord w = true) : w ∈ BIG := List.mem_filter.mpr ⟨List.mem_append_right _ (List.mem_of_getElem? h), g⟩
theorem big_s {w : Cond} (i : Nat) (h : (k2_sels lw_privs)[i]? = some w) (g : goodWord w = true) : w ∈ BIG := List.mem_filter.mpr ⟨List.mem_append_left _ (List.mem_of_getElem? h), g⟩
def wsy (y : MethodName) (cc : ByteArray) (n : Nat) (ret : Option FieldType) : List Cond := Cond.code y cc n ret :: BIG
theorem big_good {w : Cond} (h : w ∈ BIG) : w ∈ BIG ∧ ((w.onTables && w.keeps) = true ∨ ∃ ty, w = .arrayClass ty) := ⟨h, good_of_word (List.mem_filter.mp h).2⟩
theorem good_V {own CN : String} {ix n : Nat} {y : MethodName} {cc : ByteArray} {ret : Option FieldType} (k1 : Cond.methodLink own ix y ∈ BIG) (k2 : Cond.instanceMethod y ∈ BIG) (k3 : Cond.selects CN y y ∈ BIG) (k4 : Cond.initialized CN ∈ BIG) (k5 : Cond.code y cc n ret ∈ BIG) : GoodIn BIG (wsV own ix CN y (wsy y cc n ret)) := by
  intro w hw
  simp only [wsV, wsy, List.cons_append, List.nil_append, List.mem_cons] at hw
  rcases hw with rfl | rfl | rfl | rfl | rfl | hw
  · exact big_good k1
  · exact big_good k2
  · exact big_good k3
  · exact big_good k4
  · exact big_good k5
  · exact big_good hw
theorem good_S {own : String} {ix n : Nat} {y : MethodName} {cc : ByteArray} {ret : Option FieldType} (k1 : Cond.methodLink own ix y ∈ BIG) (k2 : Cond.static y ∈ BIG) (k4 : Cond.initialized y.cls ∈ BIG) (k5 : Cond.code y cc n ret ∈ BIG) : GoodIn BIG (va_wsS own ix y (wsy y cc n ret)) := by
  intro w hw
  simp only [va_wsS, wsy, List.cons_append, List.nil_append, List.mem_cons] at hw
  rcases hw with rfl | rfl | rfl | rfl | hw
  · exact big_good k1
  · exact big_good k2
  · exact big_good k4
  · exact big_good k5
  · exact big_good hw
/-- a cell: an array (its sort 0 int, 1 long, 2 boolean, 3 Shape, 4 Word; its length and contents), or an object (its class among vwCl, its fields) -/
abbrev Cl : Type := (Nat × vp_A) ⊕ (Nat × List Value)
abbrev Mem : Type := Nat → Cl
def jk : Cl := .inr (99, [])
def toE (cy : Nat → ClassId) (c : Cl) : va_E := match c with
  | .inl a => .inl (cy a.1, a.2)
  | .inr o => .inr o
abbrev ty5 (cy : Nat → ClassId) : List (ClassId × FieldType) := [(cy 0, .int), (cy 1, .long), (cy 2, .boolean), (cy 3, .object RX4), (cy 4, .object RX8)]
abbrev pw (cy : Nat → ClassId) (L : List Nat) (F : Mem) : va_W := ([] : va_W) ++ va_pl L (fun a => toE cy (F a))
def wo (D : va_G) (cy : Nat → ClassId) (A : Nat → Prop) (H0 : Heap) (L : List Nat) (F : Mem) (H : Heap) (locs : List Loc) : Prop :=
  (∀ a, a ∉ L → F a = jk) ∧ va_P D vwCl (pw cy L F) H ∧ va_D A (pw cy L F) ∧ va_S A H0 H locs
/-- the surroundings of a body that runs -/
abbrev Cx : Type := Program × Launch × Env × Room × State × MethodId × Array Value × List Frame × Method × Code × (State → Prop) × va_G × (Nat → ClassId) × (Nat → Prop) × Nat
def Wp (C : Cx) (cs sl pc : Nat) (lv : List (Nat × Value)) (st : List Value) (F : Mem) : Prop := match C with
  | (p, l, e, R, s, m, args, below, meth, c, Q, D, cy, A, nL) => ∀ (L : List Nat) (H : Heap) (locs : List Loc) (ls : Array Slot), wo D cy A s.heap L F H locs → lv_has ls nL lv → W p l e R s m args below meth c H locs cs sl Q (F0 m pc ls st)
def Fx (C : Cx) (cc : ByteArray) (own : String) (rt : Option FieldType) (R0 : Room) (n0 : Nat) : Prop := match C with
  | (p, l, e, R, s, m, args, below, meth, c, Q, D, cy, A, nL) => p.tables.exec = Jvm.exec ∧ c.code = cc ∧ c.maxLocals = nL ∧ s.vm.findClass own = some m.cls ∧ (∀ w ∈ BIG, w.before args s = true) ∧ va_K D vwCl (ty5 cy) s ∧ (∀ q, s.heap.size ≤ q → A q) ∧ meth.sig.returnType = rt ∧ meth.locks = false ∧ R = R0 ∧ nL = n0
theorem wo_mem {D : va_G} {cy : Nat → ClassId} {A : Nat → Prop} {H0 H : Heap} {L : List Nat} {F : Mem} {locs : List Loc} (hw : wo D cy A H0 L F H locs) {a : Nat} (h : F a ≠ jk) : a ∈ L := by
  by_cases h1 : a ∈ L
  · exact h1
  · exact absurd (hw.1 a h1) h
theorem toE_up (cy : Nat → ClassId) (F : Mem) (a : Nat) (c : Cl) : va_up (fun b => toE cy (F b)) a (toE cy c) = fun b => toE cy (va_up F a c b) := by
  funext b
  by_cases h : b = a
  · simp [va_up, h]
  · simp [va_up, h]
theorem wo_set {D : va_G} {cy : Nat → ClassId} {A : Nat → Prop} {H0 H1 : Heap} {L : List Nat} {F : Mem} {locs1 : List Loc} {a k : Nat} {c : Cl} (h0 : ∀ b, b ∉ L → F b = jk) (hDo : va_D A (pw cy L F)) (ha : a ∈ L) (hk : (pw cy L F)[k]? = some (a, toE cy (F a)))
    (hP : va_P D vwCl ((pw cy L F).set k (a, toE cy c)) H1) (hD : va_D A ((pw cy L F).set k (a, toE cy c))) (hS : va_S A H0 H1 locs1) : wo D cy A H0 L (va_up F a c) H1 locs1 := by
  have e : (pw cy L F).set k (a, toE cy c) = pw cy L (va_up F a c) := by
    have := va_pl_set (X := ([] : va_W)) (f := fun b => toE cy (F b)) (e := toE cy c) hDo ha hk
    rw [toE_up] at this
    exact this
  rw [e] at hP hD
  refine ⟨fun b hb => ?_, hP, hD, hS⟩
  have : b ≠ a := fun q => hb (q ▸ ha)
  rw [va_up_ne _ _ this]
  exact h0 b hb
theorem wo_free {D : va_G} {cy : Nat → ClassId} {A : Nat → Prop} {H0 H : Heap} {L : List Nat} {F : Mem} {locs : List Loc} (hw : wo D cy A H0 L F H locs) (hA : ∀ q, H0.size ≤ q → A q) : ∀ q, va_A (pw cy L F) H.size q → A q := by
  intro q h
  rcases h with ⟨k, e, h⟩ | h
  · exact hw.2.2.1.2 k _ h
  · exact hA q (Nat.le_trans hw.2.2.2.1 h)
/-! reads and writes of the memory -/
def inb (i : Int32) (n : Nat) : Bool := decide (¬ i < 0) && decide (i.toNatClampNeg < n)
theorem inb_vp {i : Int32} {n : Nat} (h : inb i n = true) : vp_in i n := by
  simp only [inb, Bool.and_eq_true, decide_eq_true_eq] at h
  intro q
  rcases q with q | q
  · exact h.1 q
  · omega
def obj (F : Mem) (a ci : Nat) : Option (List Value) := match F a with
  | .inr (c, fs) => if c = ci then some fs else none
  | _ => none
theorem obj_eq {F : Mem} {a ci : Nat} {fs : List Value} (h : obj F a ci = some fs) : F a = .inr (ci, fs) := by
  unfold obj at h
  split at h
  · next c fs' e => split at h
                    · next q => cases h; rw [e, q]
                    · cases h
  · cases h
theorem obj_of {F : Mem} {a ci : Nat} {fs : List Value} (h : F a = .inr (ci, fs)) : obj F a ci = some fs := by simp [obj, h]
def gfI (F : Mem) (a ci k : Nat) : Option Int32 := (obj F a ci).bind fun fs => match fs[k]? with
  | some (.int v) => some v
  | _ => none
def gfJ (F : Mem) (a ci k : Nat) : Option Int64 := (obj F a ci).bind fun fs => match fs[k]? with
  | some (.long v) => some v
  | _ => none
def gfR (F : Mem) (a ci k : Nat) : Option Nat := (obj F a ci).bind fun fs => match fs[k]? with
  | some (.ref v) => some v
  | _ => none
def pf (F : Mem) (a ci k : Nat) (v : Value) : Option Mem := (obj F a ci).bind fun fs => if k < fs.length then some (va_up F a (.inr (ci, fs.set k v))) else none
def arI (F : Mem) (t a : Nat) : Option (Nat × (Nat → Int32)) := match F a with
  | .inl (t', n, .inl f) => if t' = t then some (n, f) else none
  | _ => none
def arJ (F : Mem) (a : Nat) : Option (Nat × (Nat → Int64)) := match F a with
  | .inl (t', n, .inr (.inl f)) => if t' = 1 then some (n, f) else none
  | _ => none
def arQ (F : Mem) (t a : Nat) : Option (Nat × (Nat → Option Nat)) := match F a with
  | .inl (t', n, .inr (.inr (.inr (.inr f)))) => if t' = t then some (n, f) else none
  | _ => none
theorem arI_eq {F : Mem} {t a n : Nat} {f : Nat → Int32} (h : arI F t a = some (n, f)) : F a = .inl (t, n, .inl f) := by
  unfold arI at h
  split at h
  · next e => split at h
              · next q => cases h; rw [e, q]
              · cases h
  · cases h
theorem arJ_eq {F : Mem} {a n : Nat} {f : Nat → Int64} (h : arJ F a = some (n, f)) : F a = .inl (1, n, .inr (.inl f)) := by
  unfold arJ at h
  split at h
  · next e => split at h
              · next q => cases h; rw [e, q]
              · cases h
  · cases h
theorem arQ_eq {F : Mem} {t a n : Nat} {f : Nat → Option Nat} (h : arQ F t a = some (n, f)) : F a = .inl (t, n, .inr (.inr (.inr (.inr f)))) := by
  unfold arQ at h
  split at h
  · next e => split at h
              · next q => cases h; rw [e, q]
              · cases h
  · cases h
theorem arI_of {F : Mem} {t a n : Nat} {f : Nat → Int32} (h : F a = .inl (t, n, .inl f)) : arI F t a = some (n, f) := by simp [arI, h]
theorem arJ_of {F : Mem} {a n : Nat} {f : Nat → Int64} (h : F a = .inl (1, n, .inr (.inl f))) : arJ F a = some (n, f) := by simp [arJ, h]
theorem arQ_of {F : Mem} {t a n : Nat} {f : Nat → Option Nat} (h : F a = .inl (t, n, .inr (.inr (.inr (.inr f))))) : arQ F t a = some (n, f) := by simp [arQ, h]
/-- an array's element (t: 0 int, 2 boolean) -/
def rdI (F : Mem) (t a : Nat) (i : Int32) : Option Int32 := (arI F t a).bind fun q => if inb i q.1 then some (q.2 i.toNatClampNeg) else none
def rdJ (F : Mem) (a : Nat) (i : Int32) : Option Int64 := (arJ F a).bind fun q => if inb i q.1 then some (q.2 i.toNatClampNeg) else none
def rdQ (F : Mem) (t a : Nat) (i : Int32) : Option Nat := (arQ F t a).bind fun q => if inb i q.1 then q.2 i.toNatClampNeg else none
def wrI (F : Mem) (a : Nat) (i x : Int32) : Option Mem := (arI F 0 a).bind fun q => if inb i q.1 then some (va_up F a (.inl (0, q.1, .inl (upd q.2 i.toNatClampNeg x)))) else none
def wrZ (F : Mem) (a : Nat) (i x : Int32) : Option Mem := (arI F 2 a).bind fun q => if inb i q.1 then some (va_up F a (.inl (2, q.1, .inl (upd q.2 i.toNatClampNeg (vp_nar .boolean x))))) else none
def wrJ (F : Mem) (a : Nat) (i : Int32) (x : Int64) : Option Mem := (arJ F a).bind fun q => if inb i q.1 then some (va_up F a (.inl (1, q.1, .inr (.inl (vp_updL q.2 i.toNatClampNeg x))))) else none
def alI (F : Mem) (t a : Nat) : Option Int32 := (arI F t a).bind fun q => some (Int32.ofNat q.1)
def cpI (F : Mem) (a : Nat) (sp : Int32) (b : Nat) (dp n : Int32) : Option Mem := (arI F 0 a).bind fun q => (arI F 0 b).bind fun r =>
  if decide (¬ sp < 0) && decide (¬ dp < 0) && decide (¬ n < 0) && decide (sp.toNatClampNeg + n.toNatClampNeg ≤ q.1) && decide (dp.toNatClampNeg + n.toNatClampNeg ≤ r.1) then some (va_up F b (.inl (0, r.1, .inl (va_cpy q.2 r.2 sp.toNatClampNeg dp.toNatClampNeg n.toNatClampNeg)))) else none
theorem bnd {α β : Type} {o : Option α} {f : α → Option β} {r : β} (h : o.bind f = some r) : ∃ v, o = some v ∧ f v = some r := by
  cases o with
  | none => cases h
  | some v => exact ⟨v, rfl, h⟩
theorem gfI_eq {F : Mem} {a ci k : Nat} {v : Int32} (h : gfI F a ci k = some v) : ∃ fs, F a = .inr (ci, fs) ∧ fs[k]? = some (.int v) := by
  obtain ⟨fs, h1, h2⟩ := bnd h
  refine ⟨fs, obj_eq h1, ?_⟩
  split at h2
  · next e => cases h2; exact e
  · cases h2
theorem gfJ_eq {F : Mem} {a ci k : Nat} {v : Int64} (h : gfJ F a ci k = some v) : ∃ fs, F a = .inr (ci, fs) ∧ fs[k]? = some (.long v) := by
  obtain ⟨fs, h1, h2⟩ := bnd h
  refine ⟨fs, obj_eq h1, ?_⟩
  split at h2
  · next e => cases h2; exact e
  · cases h2
theorem gfR_eq {F : Mem} {a ci k : Nat} {v : Nat} (h : gfR F a ci k = some v) : ∃ fs, F a = .inr (ci, fs) ∧ fs[k]? = some (.ref v) := by
  obtain ⟨fs, h1, h2⟩ := bnd h
  refine ⟨fs, obj_eq h1, ?_⟩
  split at h2
  · next e => cases h2; exact e
  · cases h2
theorem ne_jk_l {F : Mem} {a : Nat} {x : Nat × vp_A} (h : F a = .inl x) : F a ≠ jk := by rw [h]; intro q; cases q
theorem ne_jk_r {F : Mem} {a ci : Nat} {fs : List Value} (h : F a = .inr (ci, fs)) (hc : ci ≠ 99) : F a ≠ jk := by
  rw [h]
  intro q
  injection q with q
  injection q with q1 q2
  exact hc q1
def iush (x y : Int32) : Int32 := (x.toUInt32 >>> (y.toUInt32 &&& Int32.toUInt32 31)).toInt32
def lush (x : Int64) (y : Int32) : Int64 := (x.toUInt64 >>> (y.toInt64.toUInt64 &&& Int64.toUInt64 63)).toInt64
def idiv0 (x y : Int32) : Option Int32 := if y = 0 then none else some (x / y)
def irem0 (x y : Int32) : Option Int32 := if y = 0 then none else some (x - x / y * y)
def ldiv0 (x y : Int64) : Option Int64 := if y = 0 then none else some (x / y)
def lrem0 (x y : Int64) : Option Int64 := if y = 0 then none else some (x - x / y * y)
def bz (v : Int32) : Option Int32 := if v = 0 ∨ v = 1 then some v else none
theorem bz_eq {v u : Int32} (h : bz v = some u) : u = v ∧ narrow .boolean (.int v) = .int v := by
  unfold bz at h
  split at h
  · next q => cases h; refine ⟨rfl, ?_⟩; rcases q with q | q <;> subst q <;> rfl
  · cases h
end BASE
section ROWS
variable {C : Cx} {cc : ByteArray} {own : String} {rt : Option FieldType} {R0 : Room} {n0 cs sl pc : Nat} {lv : List (Nat × Value)} {st : List Value} {F : Mem}

theorem wp_iconst (X : Fx C cc own rt R0 n0) {n : Int} {v : Int32} (d : decode cc pc = .ok (.iconst n, 1)) (hv : Int32.ofInt n = v) (K : Wp C cs sl (pc + 1) lv (.int v :: st) F) : Wp C cs sl pc lv (st) F := by
  obtain ⟨p, l, e, R, s, m, args, below, meth, c, Q, D, cy, A, nL⟩ := C
  obtain ⟨hx, hb, hml, hown, hts, hK, hA, hr, hlk, hR, hn0⟩ := X
  intro L H locs ls hw hl
  exact lv_iconst hx hb d hv (K L H locs ls hw hl)
theorem wp_bipush (X : Fx C cc own rt R0 n0) {n : Int} {v : Int32} (d : decode cc pc = .ok (.bipush n, 2)) (hv : (Int8.ofInt n).toInt32 = v) (K : Wp C cs sl (pc + 2) lv (.int v :: st) F) : Wp C cs sl pc lv (st) F := by
  obtain ⟨p, l, e, R, s, m, args, below, meth, c, Q, D, cy, A, nL⟩ := C
  obtain ⟨hx, hb, hml, hown, hts, hK, hA, hr, hlk, hR, hn0⟩ := X
  intro L H locs ls hw hl
  exact lv_bipush hx hb d hv (K L H locs ls hw hl)
theorem wp_sipush (X : Fx C cc own rt R0 n0) {n : Int} {v : Int32} (d : decode cc pc = .ok (.sipush n, 3)) (hv : (Int16.ofInt n).toInt32 = v) (K : Wp C cs sl (pc + 3) lv (.int v :: st) F) : Wp C cs sl pc lv (st) F := by
  obtain ⟨p, l, e, R, s, m, args, below, meth, c, Q, D, cy, A, nL⟩ := C
  obtain ⟨hx, hb, hml, hown, hts, hK, hA, hr, hlk, hR, hn0⟩ := X
  intro L H locs ls hw hl
  exact lv_sipush hx hb d hv (K L H locs ls hw hl)
theorem wp_lconst (X : Fx C cc own rt R0 n0) {n : Fin 2} {v : Int64} (d : decode cc pc = .ok (.lconst n, 1)) (hv : Int64.ofNat (n : Nat) = v) (K : Wp C cs sl (pc + 1) lv (.long v :: st) F) : Wp C cs sl pc lv (st) F := by
  obtain ⟨p, l, e, R, s, m, args, below, meth, c, Q, D, cy, A, nL⟩ := C
  obtain ⟨hx, hb, hml, hown, hts, hK, hA, hr, hlk, hR, hn0⟩ := X
  intro L H locs ls hw hl
  exact lv_lconst hx hb d hv (K L H locs ls hw hl)
theorem wp_ldc (X : Fx C cc own rt R0 n0) {ix : Nat} {v : Int32} (d : decode cc pc = .ok (.ldc ix, 2)) (hc : Cond.constant own ix v ∈ BIG) (K : Wp C cs sl (pc + 2) lv (.int v :: st) F) : Wp C cs sl pc lv (st) F := by
  obtain ⟨p, l, e, R, s, m, args, below, meth, c, Q, D, cy, A, nL⟩ := C
  obtain ⟨hx, hb, hml, hown, hts, hK, hA, hr, hlk, hR, hn0⟩ := X
  intro L H locs ls hw hl
  exact lv_ldc hx hb hown (hts _ hc) d (K L H locs ls hw hl)
theorem wp_ldcw (X : Fx C cc own rt R0 n0) {ix : Nat} {v : Int32} (d : decode cc pc = .ok (.ldc_w ix, 3)) (hc : Cond.constant own ix v ∈ BIG) (K : Wp C cs sl (pc + 3) lv (.int v :: st) F) : Wp C cs sl pc lv (st) F := by
  obtain ⟨p, l, e, R, s, m, args, below, meth, c, Q, D, cy, A, nL⟩ := C
  obtain ⟨hx, hb, hml, hown, hts, hK, hA, hr, hlk, hR, hn0⟩ := X
  intro L H locs ls hw hl
  exact lv_ldcw hx hb hown (hts _ hc) d (K L H locs ls hw hl)
theorem wp_ldc2 (X : Fx C cc own rt R0 n0) {ix : Nat} {v : Int64} (d : decode cc pc = .ok (.ldc2_w ix, 3)) (hc : Cond.constantLong own ix v ∈ BIG) (K : Wp C cs sl (pc + 3) lv (.long v :: st) F) : Wp C cs sl pc lv (st) F := by
  obtain ⟨p, l, e, R, s, m, args, below, meth, c, Q, D, cy, A, nL⟩ := C
  obtain ⟨hx, hb, hml, hown, hts, hK, hA, hr, hlk, hR, hn0⟩ := X
  intro L H locs ls hw hl
  exact lv_ldc2 hx hb hown (hts _ hc) d (K L H locs ls hw hl)
theorem wp_iadd (X : Fx C cc own rt R0 n0) {x y : Int32} (d : decode cc pc = .ok (.iadd, 1))  (K : Wp C cs sl (pc + 1) lv (.int (x + y) :: st) F) : Wp C cs sl pc lv (.int y :: .int x :: st) F := by
  obtain ⟨p, l, e, R, s, m, args, below, meth, c, Q, D, cy, A, nL⟩ := C
  obtain ⟨hx, hb, hml, hown, hts, hK, hA, hr, hlk, hR, hn0⟩ := X
  intro L H locs ls hw hl
  exact lv_iadd hx hb d (K L H locs ls hw hl)
theorem wp_isub (X : Fx C cc own rt R0 n0) {x y : Int32} (d : decode cc pc = .ok (.isub, 1))  (K : Wp C cs sl (pc + 1) lv (.int (x - y) :: st) F) : Wp C cs sl pc lv (.int y :: .int x :: st) F := by
  obtain ⟨p, l, e, R, s, m, args, below, meth, c, Q, D, cy, A, nL⟩ := C
  obtain ⟨hx, hb, hml, hown, hts, hK, hA, hr, hlk, hR, hn0⟩ := X
  intro L H locs ls hw hl
  exact lv_isub hx hb d (K L H locs ls hw hl)
theorem wp_imul (X : Fx C cc own rt R0 n0) {x y : Int32} (d : decode cc pc = .ok (.imul, 1))  (K : Wp C cs sl (pc + 1) lv (.int (x * y) :: st) F) : Wp C cs sl pc lv (.int y :: .int x :: st) F := by
  obtain ⟨p, l, e, R, s, m, args, below, meth, c, Q, D, cy, A, nL⟩ := C
  obtain ⟨hx, hb, hml, hown, hts, hK, hA, hr, hlk, hR, hn0⟩ := X
  intro L H locs ls hw hl
  exact lv_imul hx hb d (K L H locs ls hw hl)
theorem wp_iand (X : Fx C cc own rt R0 n0) {x y : Int32} (d : decode cc pc = .ok (.iand, 1))  (K : Wp C cs sl (pc + 1) lv (.int (x &&& y) :: st) F) : Wp C cs sl pc lv (.int y :: .int x :: st) F := by
  obtain ⟨p, l, e, R, s, m, args, below, meth, c, Q, D, cy, A, nL⟩ := C
  obtain ⟨hx, hb, hml, hown, hts, hK, hA, hr, hlk, hR, hn0⟩ := X
  intro L H locs ls hw hl
  exact lv_iand hx hb d (K L H locs ls hw hl)
theorem wp_ior (X : Fx C cc own rt R0 n0) {x y : Int32} (d : decode cc pc = .ok (.ior, 1))  (K : Wp C cs sl (pc + 1) lv (.int (x ||| y) :: st) F) : Wp C cs sl pc lv (.int y :: .int x :: st) F := by
  obtain ⟨p, l, e, R, s, m, args, below, meth, c, Q, D, cy, A, nL⟩ := C
  obtain ⟨hx, hb, hml, hown, hts, hK, hA, hr, hlk, hR, hn0⟩ := X
  intro L H locs ls hw hl
  exact lv_ior hx hb d (K L H locs ls hw hl)
theorem wp_ixor (X : Fx C cc own rt R0 n0) {x y : Int32} (d : decode cc pc = .ok (.ixor, 1))  (K : Wp C cs sl (pc + 1) lv (.int (x ^^^ y) :: st) F) : Wp C cs sl pc lv (.int y :: .int x :: st) F := by
  obtain ⟨p, l, e, R, s, m, args, below, meth, c, Q, D, cy, A, nL⟩ := C
  obtain ⟨hx, hb, hml, hown, hts, hK, hA, hr, hlk, hR, hn0⟩ := X
  intro L H locs ls hw hl
  exact lv_ixor hx hb d (K L H locs ls hw hl)
theorem wp_ladd (X : Fx C cc own rt R0 n0) {x y : Int64} (d : decode cc pc = .ok (.ladd, 1))  (K : Wp C cs sl (pc + 1) lv (.long (x + y) :: st) F) : Wp C cs sl pc lv (.long y :: .long x :: st) F := by
  obtain ⟨p, l, e, R, s, m, args, below, meth, c, Q, D, cy, A, nL⟩ := C
  obtain ⟨hx, hb, hml, hown, hts, hK, hA, hr, hlk, hR, hn0⟩ := X
  intro L H locs ls hw hl
  exact lv_ladd hx hb d (K L H locs ls hw hl)
theorem wp_lsub (X : Fx C cc own rt R0 n0) {x y : Int64} (d : decode cc pc = .ok (.lsub, 1))  (K : Wp C cs sl (pc + 1) lv (.long (x - y) :: st) F) : Wp C cs sl pc lv (.long y :: .long x :: st) F := by
  obtain ⟨p, l, e, R, s, m, args, below, meth, c, Q, D, cy, A, nL⟩ := C
  obtain ⟨hx, hb, hml, hown, hts, hK, hA, hr, hlk, hR, hn0⟩ := X
  intro L H locs ls hw hl
  exact lv_lsub hx hb d (K L H locs ls hw hl)
theorem wp_lmul (X : Fx C cc own rt R0 n0) {x y : Int64} (d : decode cc pc = .ok (.lmul, 1))  (K : Wp C cs sl (pc + 1) lv (.long (x * y) :: st) F) : Wp C cs sl pc lv (.long y :: .long x :: st) F := by
  obtain ⟨p, l, e, R, s, m, args, below, meth, c, Q, D, cy, A, nL⟩ := C
  obtain ⟨hx, hb, hml, hown, hts, hK, hA, hr, hlk, hR, hn0⟩ := X
  intro L H locs ls hw hl
  exact lv_lmul hx hb d (K L H locs ls hw hl)
theorem wp_land (X : Fx C cc own rt R0 n0) {x y : Int64} (d : decode cc pc = .ok (.land, 1))  (K : Wp C cs sl (pc + 1) lv (.long (x &&& y) :: st) F) : Wp C cs sl pc lv (.long y :: .long x :: st) F := by
  obtain ⟨p, l, e, R, s, m, args, below, meth, c, Q, D, cy, A, nL⟩ := C
  obtain ⟨hx, hb, hml, hown, hts, hK, hA, hr, hlk, hR, hn0⟩ := X
  intro L H locs ls hw hl
  exact lv_land hx hb d (K L H locs ls hw hl)
theorem wp_lor (X : Fx C cc own rt R0 n0) {x y : Int64} (d : decode cc pc = .ok (.lor, 1))  (K : Wp C cs sl (pc + 1) lv (.long (x ||| y) :: st) F) : Wp C cs sl pc lv (.long y :: .long x :: st) F := by
  obtain ⟨p, l, e, R, s, m, args, below, meth, c, Q, D, cy, A, nL⟩ := C
  obtain ⟨hx, hb, hml, hown, hts, hK, hA, hr, hlk, hR, hn0⟩ := X
  intro L H locs ls hw hl
  exact lv_lor hx hb d (K L H locs ls hw hl)
theorem wp_lxor (X : Fx C cc own rt R0 n0) {x y : Int64} (d : decode cc pc = .ok (.lxor, 1))  (K : Wp C cs sl (pc + 1) lv (.long (x ^^^ y) :: st) F) : Wp C cs sl pc lv (.long y :: .long x :: st) F := by
  obtain ⟨p, l, e, R, s, m, args, below, meth, c, Q, D, cy, A, nL⟩ := C
  obtain ⟨hx, hb, hml, hown, hts, hK, hA, hr, hlk, hR, hn0⟩ := X
  intro L H locs ls hw hl
  exact lv_lxor hx hb d (K L H locs ls hw hl)
theorem wp_ineg (X : Fx C cc own rt R0 n0) {x : Int32} (d : decode cc pc = .ok (.ineg, 1))  (K : Wp C cs sl (pc + 1) lv (.int (-x) :: st) F) : Wp C cs sl pc lv (.int x :: st) F := by
  obtain ⟨p, l, e, R, s, m, args, below, meth, c, Q, D, cy, A, nL⟩ := C
  obtain ⟨hx, hb, hml, hown, hts, hK, hA, hr, hlk, hR, hn0⟩ := X
  intro L H locs ls hw hl
  exact lv_ineg hx hb d (K L H locs ls hw hl)
theorem wp_lneg (X : Fx C cc own rt R0 n0) {x : Int64} (d : decode cc pc = .ok (.lneg, 1))  (K : Wp C cs sl (pc + 1) lv (.long (-x) :: st) F) : Wp C cs sl pc lv (.long x :: st) F := by
  obtain ⟨p, l, e, R, s, m, args, below, meth, c, Q, D, cy, A, nL⟩ := C
  obtain ⟨hx, hb, hml, hown, hts, hK, hA, hr, hlk, hR, hn0⟩ := X
  intro L H locs ls hw hl
  exact lv_lneg hx hb d (K L H locs ls hw hl)
theorem wp_ishl (X : Fx C cc own rt R0 n0) {x y : Int32} (d : decode cc pc = .ok (.ishl, 1))  (K : Wp C cs sl (pc + 1) lv (.int (x <<< (y &&& 31)) :: st) F) : Wp C cs sl pc lv (.int y :: .int x :: st) F := by
  obtain ⟨p, l, e, R, s, m, args, below, meth, c, Q, D, cy, A, nL⟩ := C
  obtain ⟨hx, hb, hml, hown, hts, hK, hA, hr, hlk, hR, hn0⟩ := X
  intro L H locs ls hw hl
  exact lv_ishl hx hb d (K L H locs ls hw hl)
theorem wp_ishr (X : Fx C cc own rt R0 n0) {x y : Int32} (d : decode cc pc = .ok (.ishr, 1))  (K : Wp C cs sl (pc + 1) lv (.int (x >>> (y &&& 31)) :: st) F) : Wp C cs sl pc lv (.int y :: .int x :: st) F := by
  obtain ⟨p, l, e, R, s, m, args, below, meth, c, Q, D, cy, A, nL⟩ := C
  obtain ⟨hx, hb, hml, hown, hts, hK, hA, hr, hlk, hR, hn0⟩ := X
  intro L H locs ls hw hl
  exact lv_ishr hx hb d (K L H locs ls hw hl)
theorem wp_iushr (X : Fx C cc own rt R0 n0) {x y : Int32} (d : decode cc pc = .ok (.iushr, 1))  (K : Wp C cs sl (pc + 1) lv (.int (iush x y) :: st) F) : Wp C cs sl pc lv (.int y :: .int x :: st) F := by
  obtain ⟨p, l, e, R, s, m, args, below, meth, c, Q, D, cy, A, nL⟩ := C
  obtain ⟨hx, hb, hml, hown, hts, hK, hA, hr, hlk, hR, hn0⟩ := X
  intro L H locs ls hw hl
  exact lv_iushr hx hb d rfl (K L H locs ls hw hl)
theorem wp_lushr (X : Fx C cc own rt R0 n0) {x : Int64} {y : Int32} (d : decode cc pc = .ok (.lushr, 1))  (K : Wp C cs sl (pc + 1) lv (.long (lush x y) :: st) F) : Wp C cs sl pc lv (.int y :: .long x :: st) F := by
  obtain ⟨p, l, e, R, s, m, args, below, meth, c, Q, D, cy, A, nL⟩ := C
  obtain ⟨hx, hb, hml, hown, hts, hK, hA, hr, hlk, hR, hn0⟩ := X
  intro L H locs ls hw hl
  exact lv_lushr hx hb d rfl (K L H locs ls hw hl)
theorem wp_lshl (X : Fx C cc own rt R0 n0) {x : Int64} {y : Int32} (d : decode cc pc = .ok (.lshl, 1))  (K : Wp C cs sl (pc + 1) lv (.long (x <<< (y.toInt64 &&& 63)) :: st) F) : Wp C cs sl pc lv (.int y :: .long x :: st) F := by
  obtain ⟨p, l, e, R, s, m, args, below, meth, c, Q, D, cy, A, nL⟩ := C
  obtain ⟨hx, hb, hml, hown, hts, hK, hA, hr, hlk, hR, hn0⟩ := X
  intro L H locs ls hw hl
  exact lv_lshl hx hb d rfl (K L H locs ls hw hl)
theorem wp_lshr (X : Fx C cc own rt R0 n0) {x : Int64} {y : Int32} (d : decode cc pc = .ok (.lshr, 1))  (K : Wp C cs sl (pc + 1) lv (.long (x >>> (y.toInt64 &&& 63)) :: st) F) : Wp C cs sl pc lv (.int y :: .long x :: st) F := by
  obtain ⟨p, l, e, R, s, m, args, below, meth, c, Q, D, cy, A, nL⟩ := C
  obtain ⟨hx, hb, hml, hown, hts, hK, hA, hr, hlk, hR, hn0⟩ := X
  intro L H locs ls hw hl
  exact lv_lshr hx hb d rfl (K L H locs ls hw hl)
theorem wp_i2l (X : Fx C cc own rt R0 n0) {x : Int32} (d : decode cc pc = .ok (.i2l, 1))  (K : Wp C cs sl (pc + 1) lv (.long x.toInt64 :: st) F) : Wp C cs sl pc lv (.int x :: st) F := by
  obtain ⟨p, l, e, R, s, m, args, below, meth, c, Q, D, cy, A, nL⟩ := C
  obtain ⟨hx, hb, hml, hown, hts, hK, hA, hr, hlk, hR, hn0⟩ := X
  intro L H locs ls hw hl
  exact lv_i2l hx hb d rfl (K L H locs ls hw hl)
theorem wp_l2i (X : Fx C cc own rt R0 n0) {x : Int64} (d : decode cc pc = .ok (.l2i, 1))  (K : Wp C cs sl (pc + 1) lv (.int x.toInt32 :: st) F) : Wp C cs sl pc lv (.long x :: st) F := by
  obtain ⟨p, l, e, R, s, m, args, below, meth, c, Q, D, cy, A, nL⟩ := C
  obtain ⟨hx, hb, hml, hown, hts, hK, hA, hr, hlk, hR, hn0⟩ := X
  intro L H locs ls hw hl
  exact lv_l2i hx hb d rfl (K L H locs ls hw hl)
theorem wp_lcmp (X : Fx C cc own rt R0 n0) {x y : Int64} (d : decode cc pc = .ok (.lcmp, 1))  (K : Wp C cs sl (pc + 1) lv (.int (lg_cmp x y) :: st) F) : Wp C cs sl pc lv (.long y :: .long x :: st) F := by
  obtain ⟨p, l, e, R, s, m, args, below, meth, c, Q, D, cy, A, nL⟩ := C
  obtain ⟨hx, hb, hml, hown, hts, hK, hA, hr, hlk, hR, hn0⟩ := X
  intro L H locs ls hw hl
  exact W.lcmp hx hb d (K L H locs ls hw hl)
theorem wp_dup (X : Fx C cc own rt R0 n0) {va : Value} (d : decode cc pc = .ok (.dup, 1)) (hv : va.category = 1) (K : Wp C cs sl (pc + 1) lv (va :: va :: st) F) : Wp C cs sl pc lv (va :: st) F := by
  obtain ⟨p, l, e, R, s, m, args, below, meth, c, Q, D, cy, A, nL⟩ := C
  obtain ⟨hx, hb, hml, hown, hts, hK, hA, hr, hlk, hR, hn0⟩ := X
  intro L H locs ls hw hl
  exact lv_dup hx hb d hv (K L H locs ls hw hl)
theorem wp_pop (X : Fx C cc own rt R0 n0) {va : Value} (d : decode cc pc = .ok (.pop, 1)) (hv : va.category = 1) (K : Wp C cs sl (pc + 1) lv (st) F) : Wp C cs sl pc lv (va :: st) F := by
  obtain ⟨p, l, e, R, s, m, args, below, meth, c, Q, D, cy, A, nL⟩ := C
  obtain ⟨hx, hb, hml, hown, hts, hK, hA, hr, hlk, hR, hn0⟩ := X
  intro L H locs ls hw hl
  exact lv_pop hx hb d hv (K L H locs ls hw hl)
theorem wp_dup2 (X : Fx C cc own rt R0 n0) {va vb : Value} (d : decode cc pc = .ok (.dup2, 1)) (hv : va.category = 1) (hw2 : vb.category = 1) (K : Wp C cs sl (pc + 1) lv (va :: vb :: va :: vb :: st) F) : Wp C cs sl pc lv (va :: vb :: st) F := by
  obtain ⟨p, l, e, R, s, m, args, below, meth, c, Q, D, cy, A, nL⟩ := C
  obtain ⟨hx, hb, hml, hown, hts, hK, hA, hr, hlk, hR, hn0⟩ := X
  intro L H locs ls hw hl
  exact lv_dup2_11 hx hb d hv hw2 (K L H locs ls hw hl)
theorem wp_iload_n (X : Fx C cc own rt R0 n0) {kk : Fin 4} {x : Int32} (d : decode cc pc = .ok (.iload_n kk, 1)) (k : Nat) (hk : lv[k]? = some ((kk : Nat), .int x)) (K : Wp C cs sl (pc + 1) lv (.int x :: st) F) : Wp C cs sl pc lv st F := by
  obtain ⟨p, l, e, R, s, m, args, below, meth, c, Q, D, cy, A, nL⟩ := C
  obtain ⟨hx, hb, hml, hown, hts, hK, hA, hr, hlk, hR, hn0⟩ := X
  intro L H locs ls hw hl
  exact lv_iload_n hx hb d rfl (lv_at hl k hk) (K L H locs ls hw hl)
theorem wp_iload (X : Fx C cc own rt R0 n0) {i : Nat} {x : Int32} (d : decode cc pc = .ok (.iload i, 2)) (k : Nat) (hk : lv[k]? = some (i, .int x)) (K : Wp C cs sl (pc + 2) lv (.int x :: st) F) : Wp C cs sl pc lv st F := by
  obtain ⟨p, l, e, R, s, m, args, below, meth, c, Q, D, cy, A, nL⟩ := C
  obtain ⟨hx, hb, hml, hown, hts, hK, hA, hr, hlk, hR, hn0⟩ := X
  intro L H locs ls hw hl
  exact lv_iload hx hb d (lv_at hl k hk) (K L H locs ls hw hl)
theorem wp_lload_n (X : Fx C cc own rt R0 n0) {kk : Fin 4} {x : Int64} (d : decode cc pc = .ok (.lload_n kk, 1)) (k : Nat) (hk : lv[k]? = some ((kk : Nat), .long x)) (K : Wp C cs sl (pc + 1) lv (.long x :: st) F) : Wp C cs sl pc lv st F := by
  obtain ⟨p, l, e, R, s, m, args, below, meth, c, Q, D, cy, A, nL⟩ := C
  obtain ⟨hx, hb, hml, hown, hts, hK, hA, hr, hlk, hR, hn0⟩ := X
  intro L H locs ls hw hl
  exact lv_lload_n hx hb d rfl (lv_at hl k hk) (K L H locs ls hw hl)
theorem wp_lload (X : Fx C cc own rt R0 n0) {i : Nat} {x : Int64} (d : decode cc pc = .ok (.lload i, 2)) (k : Nat) (hk : lv[k]? = some (i, .long x)) (K : Wp C cs sl (pc + 2) lv (.long x :: st) F) : Wp C cs sl pc lv st F := by
  obtain ⟨p, l, e, R, s, m, args, below, meth, c, Q, D, cy, A, nL⟩ := C
  obtain ⟨hx, hb, hml, hown, hts, hK, hA, hr, hlk, hR, hn0⟩ := X
  intro L H locs ls hw hl
  exact lv_lload hx hb d (lv_at hl k hk) (K L H locs ls hw hl)
theorem wp_aload_n (X : Fx C cc own rt R0 n0) {kk : Fin 4} {x : Nat} (d : decode cc pc = .ok (.aload_n kk, 1)) (k : Nat) (hk : lv[k]? = some ((kk : Nat), .ref x)) (K : Wp C cs sl (pc + 1) lv (.ref x :: st) F) : Wp C cs sl pc lv st F := by
  obtain ⟨p, l, e, R, s, m, args, below, meth, c, Q, D, cy, A, nL⟩ := C
  obtain ⟨hx, hb, hml, hown, hts, hK, hA, hr, hlk, hR, hn0⟩ := X
  intro L H locs ls hw hl
  exact lv_aload_n hx hb d rfl (lv_at hl k hk) (K L H locs ls hw hl)
theorem wp_aload (X : Fx C cc own rt R0 n0) {i : Nat} {x : Nat} (d : decode cc pc = .ok (.aload i, 2)) (k : Nat) (hk : lv[k]? = some (i, .ref x)) (K : Wp C cs sl (pc + 2) lv (.ref x :: st) F) : Wp C cs sl pc lv st F := by
  obtain ⟨p, l, e, R, s, m, args, below, meth, c, Q, D, cy, A, nL⟩ := C
  obtain ⟨hx, hb, hml, hown, hts, hK, hA, hr, hlk, hR, hn0⟩ := X
  intro L H locs ls hw hl
  exact lv_aload hx hb d (lv_at hl k hk) (K L H locs ls hw hl)
theorem wp_istore_n (X : Fx C cc own rt R0 n0) {kk : Fin 4} {x : Int32} {lv' : List (Nat × Value)} (d : decode cc pc = .ok (.istore_n kk, 1)) (hi : (kk : Nat) < n0) (ks : List Nat) (hl' : lv_pick (((kk : Nat), .int x) :: lv.filter (fun q => !(q.1 == (kk : Nat)) && !(q.1 + 1 == (kk : Nat) && q.2.category == 2))) ks = lv') (K : Wp C cs sl (pc + 1) lv' st F) : Wp C cs sl pc lv (.int x :: st) F := by
  obtain ⟨p, l, e, R, s, m, args, below, meth, c, Q, D, cy, A, nL⟩ := C
  obtain ⟨hx, hb, hml, hown, hts, hK, hA, hr, hlk, hR, hn0⟩ := X
  intro L H locs ls hw hl
  subst hn0
  exact lv_istore_n hx hb d rfl hl hi rfl (fun ls' hl2 => K L H locs ls' hw (lv_sub hl2 ks hl'))
theorem wp_istore (X : Fx C cc own rt R0 n0) {i : Nat} {x : Int32} {lv' : List (Nat × Value)} (d : decode cc pc = .ok (.istore i, 2)) (hi : i < n0) (ks : List Nat) (hl' : lv_pick ((i, .int x) :: lv.filter (fun q => !(q.1 == i) && !(q.1 + 1 == i && q.2.category == 2))) ks = lv') (K : Wp C cs sl (pc + 2) lv' st F) : Wp C cs sl pc lv (.int x :: st) F := by
  obtain ⟨p, l, e, R, s, m, args, below, meth, c, Q, D, cy, A, nL⟩ := C
  obtain ⟨hx, hb, hml, hown, hts, hK, hA, hr, hlk, hR, hn0⟩ := X
  intro L H locs ls hw hl
  subst hn0
  exact lv_istore hx hb d hl hi rfl (fun ls' hl2 => K L H locs ls' hw (lv_sub hl2 ks hl'))
theorem wp_lstore_n (X : Fx C cc own rt R0 n0) {kk : Fin 4} {x : Int64} {lv' : List (Nat × Value)} (d : decode cc pc = .ok (.lstore_n kk, 1)) (hi : (kk : Nat) + 1 < n0) (ks : List Nat) (hl' : lv_pick (((kk : Nat), .long x) :: lv.filter (fun q => !(q.1 == (kk : Nat)) && (!(q.1 == (kk : Nat) + 1) && !(q.1 + 1 == (kk : Nat) && q.2.category == 2)))) ks = lv') (K : Wp C cs sl (pc + 1) lv' st F) : Wp C cs sl pc lv (.long x :: st) F := by
  obtain ⟨p, l, e, R, s, m, args, below, meth, c, Q, D, cy, A, nL⟩ := C
  obtain ⟨hx, hb, hml, hown, hts, hK, hA, hr, hlk, hR, hn0⟩ := X
  intro L H locs ls hw hl
  subst hn0
  exact lv_lstore_n hx hb d rfl hl hi rfl (fun ls' hl2 => K L H locs ls' hw (lv_sub hl2 ks hl'))
theorem wp_lstore (X : Fx C cc own rt R0 n0) {i : Nat} {x : Int64} {lv' : List (Nat × Value)} (d : decode cc pc = .ok (.lstore i, 2)) (hi : i + 1 < n0) (ks : List Nat) (hl' : lv_pick ((i, .long x) :: lv.filter (fun q => !(q.1 == i) && (!(q.1 == i + 1) && !(q.1 + 1 == i && q.2.category == 2)))) ks = lv') (K : Wp C cs sl (pc + 2) lv' st F) : Wp C cs sl pc lv (.long x :: st) F := by
  obtain ⟨p, l, e, R, s, m, args, below, meth, c, Q, D, cy, A, nL⟩ := C
  obtain ⟨hx, hb, hml, hown, hts, hK, hA, hr, hlk, hR, hn0⟩ := X
  intro L H locs ls hw hl
  subst hn0
  exact lv_lstore hx hb d hl hi rfl (fun ls' hl2 => K L H locs ls' hw (lv_sub hl2 ks hl'))
theorem wp_astore_n (X : Fx C cc own rt R0 n0) {kk : Fin 4} {x : Nat} {lv' : List (Nat × Value)} (d : decode cc pc = .ok (.astore_n kk, 1)) (hi : (kk : Nat) < n0) (ks : List Nat) (hl' : lv_pick (((kk : Nat), .ref x) :: lv.filter (fun q => !(q.1 == (kk : Nat)) && !(q.1 + 1 == (kk : Nat) && q.2.category == 2))) ks = lv') (K : Wp C cs sl (pc + 1) lv' st F) : Wp C cs sl pc lv (.ref x :: st) F := by
  obtain ⟨p, l, e, R, s, m, args, below, meth, c, Q, D, cy, A, nL⟩ := C
  obtain ⟨hx, hb, hml, hown, hts, hK, hA, hr, hlk, hR, hn0⟩ := X
  intro L H locs ls hw hl
  subst hn0
  exact lv_astore_n hx hb d rfl hl hi rfl (fun ls' hl2 => K L H locs ls' hw (lv_sub hl2 ks hl'))
theorem wp_astore (X : Fx C cc own rt R0 n0) {i : Nat} {x : Nat} {lv' : List (Nat × Value)} (d : decode cc pc = .ok (.astore i, 2)) (hi : i < n0) (ks : List Nat) (hl' : lv_pick ((i, .ref x) :: lv.filter (fun q => !(q.1 == i) && !(q.1 + 1 == i && q.2.category == 2))) ks = lv') (K : Wp C cs sl (pc + 2) lv' st F) : Wp C cs sl pc lv (.ref x :: st) F := by
  obtain ⟨p, l, e, R, s, m, args, below, meth, c, Q, D, cy, A, nL⟩ := C
  obtain ⟨hx, hb, hml, hown, hts, hK, hA, hr, hlk, hR, hn0⟩ := X
  intro L H locs ls hw hl
  subst hn0
  exact lv_astore hx hb d hl hi rfl (fun ls' hl2 => K L H locs ls' hw (lv_sub hl2 ks hl'))
theorem wp_iinc (X : Fx C cc own rt R0 n0) {i : Nat} {n : Int} {x v : Int32} {lv' : List (Nat × Value)} (d : decode cc pc = .ok (.iinc i n, 3)) (hi : i < n0) (k : Nat) (hk : lv[k]? = some (i, .int x)) (hv : x + Int32.ofInt n = v) (ks : List Nat) (hl' : lv_pick ((i, .int v) :: lv.filter (fun q => !(q.1 == i) && !(q.1 + 1 == i && q.2.category == 2))) ks = lv') (K : Wp C cs sl (pc + 3) lv' st F) : Wp C cs sl pc lv st F := by
  obtain ⟨p, l, e, R, s, m, args, below, meth, c, Q, D, cy, A, nL⟩ := C
  obtain ⟨hx, hb, hml, hown, hts, hK, hA, hr, hlk, hR, hn0⟩ := X
  intro L H locs ls hw hl
  subst hn0
  exact lv_iinc hx hb d hl hk hv hi rfl (fun ls' hl2 => K L H locs ls' hw (lv_sub hl2 ks hl'))
theorem wp_sub {lv' : List (Nat × Value)} (ks : List Nat) (hl' : lv_pick lv ks = lv') (K : Wp C cs sl pc lv' st F) : Wp C cs sl pc lv st F := by
  obtain ⟨p, l, e, R, s, m, args, below, meth, c, Q, D, cy, A, nL⟩ := C
  intro L H locs ls hw hl
  exact K L H locs ls hw (lv_sub hl ks hl')
theorem wp_widen {cs' sl' : Nat} (h1 : cs ≤ cs') (h2 : sl ≤ sl') (K : Wp C cs' sl' pc lv st F) : Wp C cs sl pc lv st F := by
  obtain ⟨p, l, e, R, s, m, args, below, meth, c, Q, D, cy, A, nL⟩ := C
  intro L H locs ls hw hl
  exact W.widen h1 h2 (K L H locs ls hw hl)
theorem wp_goto (X : Fx C cc own rt R0 n0) {off : Int} {tgt : Nat} (d : decode cc pc = .ok (.goto off, 3)) (ht : (pc : Int) + off = (tgt : Int)) (K : Wp C cs sl tgt lv st F) : Wp C cs sl pc lv st F := by
  obtain ⟨p, l, e, R, s, m, args, below, meth, c, Q, D, cy, A, nL⟩ := C
  obtain ⟨hx, hb, hml, hown, hts, hK, hA, hr, hlk, hR, hn0⟩ := X
  intro L H locs ls hw hl
  exact lv_goto hx hb d ht (K L H locs ls hw hl)
theorem wp_if_eq (X : Fx C cc own rt R0 n0) {x : Int32} {off : Int} {tgt : Nat} {β : Type} {fT fE : Option β} {res : β} (d : decode cc pc = .ok (.ifCond .eq off, 3)) (ht : (pc : Int) + off = (tgt : Int)) (h : (if x = 0 then fT else fE) = some res) (kt : fT = some res → Wp C cs sl tgt lv st F) (kf : fE = some res → Wp C cs sl (pc + 3) lv st F) : Wp C cs sl pc lv (.int x :: st) F := by
  obtain ⟨p, l, e, R, s, m, args, below, meth, c, Q, D, cy, A, nL⟩ := C
  obtain ⟨hx, hb, hml, hown, hts, hK, hA, hr, hlk, hR, hn0⟩ := X
  intro L H locs ls hw hl
  exact lv_if_eq hx hb d ht (fun q => kt (by rw [if_pos q] at h; exact h) L H locs ls hw hl) (fun q => kf (by rw [if_neg q] at h; exact h) L H locs ls hw hl)
theorem wp_icmp_eq (X : Fx C cc own rt R0 n0) {x y : Int32} {off : Int} {tgt : Nat} {β : Type} {fT fE : Option β} {res : β} (d : decode cc pc = .ok (.if_icmp .eq off, 3)) (ht : (pc : Int) + off = (tgt : Int)) (h : (if x = y then fT else fE) = some res) (kt : fT = some res → Wp C cs sl tgt lv st F) (kf : fE = some res → Wp C cs sl (pc + 3) lv st F) : Wp C cs sl pc lv (.int y :: .int x :: st) F := by
  obtain ⟨p, l, e, R, s, m, args, below, meth, c, Q, D, cy, A, nL⟩ := C
  obtain ⟨hx, hb, hml, hown, hts, hK, hA, hr, hlk, hR, hn0⟩ := X
  intro L H locs ls hw hl
  exact lv_icmp_eq hx hb d ht (fun q => kt (by rw [if_pos q] at h; exact h) L H locs ls hw hl) (fun q => kf (by rw [if_neg q] at h; exact h) L H locs ls hw hl)
theorem wp_if_ne (X : Fx C cc own rt R0 n0) {x : Int32} {off : Int} {tgt : Nat} {β : Type} {fT fE : Option β} {res : β} (d : decode cc pc = .ok (.ifCond .ne off, 3)) (ht : (pc : Int) + off = (tgt : Int)) (h : (if x = 0 then fE else fT) = some res) (kt : fT = some res → Wp C cs sl tgt lv st F) (kf : fE = some res → Wp C cs sl (pc + 3) lv st F) : Wp C cs sl pc lv (.int x :: st) F := by
  obtain ⟨p, l, e, R, s, m, args, below, meth, c, Q, D, cy, A, nL⟩ := C
  obtain ⟨hx, hb, hml, hown, hts, hK, hA, hr, hlk, hR, hn0⟩ := X
  intro L H locs ls hw hl
  exact lv_if_ne hx hb d ht (fun q => kt (by rw [if_neg q] at h; exact h) L H locs ls hw hl) (fun q => kf (by rw [if_pos q] at h; exact h) L H locs ls hw hl)
theorem wp_icmp_ne (X : Fx C cc own rt R0 n0) {x y : Int32} {off : Int} {tgt : Nat} {β : Type} {fT fE : Option β} {res : β} (d : decode cc pc = .ok (.if_icmp .ne off, 3)) (ht : (pc : Int) + off = (tgt : Int)) (h : (if x = y then fE else fT) = some res) (kt : fT = some res → Wp C cs sl tgt lv st F) (kf : fE = some res → Wp C cs sl (pc + 3) lv st F) : Wp C cs sl pc lv (.int y :: .int x :: st) F := by
  obtain ⟨p, l, e, R, s, m, args, below, meth, c, Q, D, cy, A, nL⟩ := C
  obtain ⟨hx, hb, hml, hown, hts, hK, hA, hr, hlk, hR, hn0⟩ := X
  intro L H locs ls hw hl
  exact lv_icmp_ne hx hb d ht (fun q => kt (by rw [if_neg q] at h; exact h) L H locs ls hw hl) (fun q => kf (by rw [if_pos q] at h; exact h) L H locs ls hw hl)
theorem wp_if_lt (X : Fx C cc own rt R0 n0) {x : Int32} {off : Int} {tgt : Nat} {β : Type} {fT fE : Option β} {res : β} (d : decode cc pc = .ok (.ifCond .lt off, 3)) (ht : (pc : Int) + off = (tgt : Int)) (h : (if x < 0 then fT else fE) = some res) (kt : fT = some res → Wp C cs sl tgt lv st F) (kf : fE = some res → Wp C cs sl (pc + 3) lv st F) : Wp C cs sl pc lv (.int x :: st) F := by
  obtain ⟨p, l, e, R, s, m, args, below, meth, c, Q, D, cy, A, nL⟩ := C
  obtain ⟨hx, hb, hml, hown, hts, hK, hA, hr, hlk, hR, hn0⟩ := X
  intro L H locs ls hw hl
  exact lv_if_lt hx hb d ht (fun q => kt (by rw [if_pos q] at h; exact h) L H locs ls hw hl) (fun q => kf (by rw [if_neg q] at h; exact h) L H locs ls hw hl)
theorem wp_icmp_lt (X : Fx C cc own rt R0 n0) {x y : Int32} {off : Int} {tgt : Nat} {β : Type} {fT fE : Option β} {res : β} (d : decode cc pc = .ok (.if_icmp .lt off, 3)) (ht : (pc : Int) + off = (tgt : Int)) (h : (if x < y then fT else fE) = some res) (kt : fT = some res → Wp C cs sl tgt lv st F) (kf : fE = some res → Wp C cs sl (pc + 3) lv st F) : Wp C cs sl pc lv (.int y :: .int x :: st) F := by
  obtain ⟨p, l, e, R, s, m, args, below, meth, c, Q, D, cy, A, nL⟩ := C
  obtain ⟨hx, hb, hml, hown, hts, hK, hA, hr, hlk, hR, hn0⟩ := X
  intro L H locs ls hw hl
  exact lv_icmp_lt hx hb d ht (fun q => kt (by rw [if_pos q] at h; exact h) L H locs ls hw hl) (fun q => kf (by rw [if_neg q] at h; exact h) L H locs ls hw hl)
theorem wp_if_ge (X : Fx C cc own rt R0 n0) {x : Int32} {off : Int} {tgt : Nat} {β : Type} {fT fE : Option β} {res : β} (d : decode cc pc = .ok (.ifCond .ge off, 3)) (ht : (pc : Int) + off = (tgt : Int)) (h : (if 0 ≤ x then fT else fE) = some res) (kt : fT = some res → Wp C cs sl tgt lv st F) (kf : fE = some res → Wp C cs sl (pc + 3) lv st F) : Wp C cs sl pc lv (.int x :: st) F := by
  obtain ⟨p, l, e, R, s, m, args, below, meth, c, Q, D, cy, A, nL⟩ := C
  obtain ⟨hx, hb, hml, hown, hts, hK, hA, hr, hlk, hR, hn0⟩ := X
  intro L H locs ls hw hl
  exact lv_if_ge hx hb d ht (fun q => kt (by rw [if_pos q] at h; exact h) L H locs ls hw hl) (fun q => kf (by rw [if_neg q] at h; exact h) L H locs ls hw hl)
theorem wp_icmp_ge (X : Fx C cc own rt R0 n0) {x y : Int32} {off : Int} {tgt : Nat} {β : Type} {fT fE : Option β} {res : β} (d : decode cc pc = .ok (.if_icmp .ge off, 3)) (ht : (pc : Int) + off = (tgt : Int)) (h : (if y ≤ x then fT else fE) = some res) (kt : fT = some res → Wp C cs sl tgt lv st F) (kf : fE = some res → Wp C cs sl (pc + 3) lv st F) : Wp C cs sl pc lv (.int y :: .int x :: st) F := by
  obtain ⟨p, l, e, R, s, m, args, below, meth, c, Q, D, cy, A, nL⟩ := C
  obtain ⟨hx, hb, hml, hown, hts, hK, hA, hr, hlk, hR, hn0⟩ := X
  intro L H locs ls hw hl
  exact lv_icmp_ge hx hb d ht (fun q => kt (by rw [if_pos q] at h; exact h) L H locs ls hw hl) (fun q => kf (by rw [if_neg q] at h; exact h) L H locs ls hw hl)
theorem wp_if_gt (X : Fx C cc own rt R0 n0) {x : Int32} {off : Int} {tgt : Nat} {β : Type} {fT fE : Option β} {res : β} (d : decode cc pc = .ok (.ifCond .gt off, 3)) (ht : (pc : Int) + off = (tgt : Int)) (h : (if 0 < x then fT else fE) = some res) (kt : fT = some res → Wp C cs sl tgt lv st F) (kf : fE = some res → Wp C cs sl (pc + 3) lv st F) : Wp C cs sl pc lv (.int x :: st) F := by
  obtain ⟨p, l, e, R, s, m, args, below, meth, c, Q, D, cy, A, nL⟩ := C
  obtain ⟨hx, hb, hml, hown, hts, hK, hA, hr, hlk, hR, hn0⟩ := X
  intro L H locs ls hw hl
  exact lv_if_gt hx hb d ht (fun q => kt (by rw [if_pos q] at h; exact h) L H locs ls hw hl) (fun q => kf (by rw [if_neg q] at h; exact h) L H locs ls hw hl)
theorem wp_icmp_gt (X : Fx C cc own rt R0 n0) {x y : Int32} {off : Int} {tgt : Nat} {β : Type} {fT fE : Option β} {res : β} (d : decode cc pc = .ok (.if_icmp .gt off, 3)) (ht : (pc : Int) + off = (tgt : Int)) (h : (if y < x then fT else fE) = some res) (kt : fT = some res → Wp C cs sl tgt lv st F) (kf : fE = some res → Wp C cs sl (pc + 3) lv st F) : Wp C cs sl pc lv (.int y :: .int x :: st) F := by
  obtain ⟨p, l, e, R, s, m, args, below, meth, c, Q, D, cy, A, nL⟩ := C
  obtain ⟨hx, hb, hml, hown, hts, hK, hA, hr, hlk, hR, hn0⟩ := X
  intro L H locs ls hw hl
  exact lv_icmp_gt hx hb d ht (fun q => kt (by rw [if_pos q] at h; exact h) L H locs ls hw hl) (fun q => kf (by rw [if_neg q] at h; exact h) L H locs ls hw hl)
theorem wp_if_le (X : Fx C cc own rt R0 n0) {x : Int32} {off : Int} {tgt : Nat} {β : Type} {fT fE : Option β} {res : β} (d : decode cc pc = .ok (.ifCond .le off, 3)) (ht : (pc : Int) + off = (tgt : Int)) (h : (if x ≤ 0 then fT else fE) = some res) (kt : fT = some res → Wp C cs sl tgt lv st F) (kf : fE = some res → Wp C cs sl (pc + 3) lv st F) : Wp C cs sl pc lv (.int x :: st) F := by
  obtain ⟨p, l, e, R, s, m, args, below, meth, c, Q, D, cy, A, nL⟩ := C
  obtain ⟨hx, hb, hml, hown, hts, hK, hA, hr, hlk, hR, hn0⟩ := X
  intro L H locs ls hw hl
  exact lv_if_le hx hb d ht (fun q => kt (by rw [if_pos q] at h; exact h) L H locs ls hw hl) (fun q => kf (by rw [if_neg q] at h; exact h) L H locs ls hw hl)
theorem wp_icmp_le (X : Fx C cc own rt R0 n0) {x y : Int32} {off : Int} {tgt : Nat} {β : Type} {fT fE : Option β} {res : β} (d : decode cc pc = .ok (.if_icmp .le off, 3)) (ht : (pc : Int) + off = (tgt : Int)) (h : (if x ≤ y then fT else fE) = some res) (kt : fT = some res → Wp C cs sl tgt lv st F) (kf : fE = some res → Wp C cs sl (pc + 3) lv st F) : Wp C cs sl pc lv (.int y :: .int x :: st) F := by
  obtain ⟨p, l, e, R, s, m, args, below, meth, c, Q, D, cy, A, nL⟩ := C
  obtain ⟨hx, hb, hml, hown, hts, hK, hA, hr, hlk, hR, hn0⟩ := X
  intro L H locs ls hw hl
  exact lv_icmp_le hx hb d ht (fun q => kt (by rw [if_pos q] at h; exact h) L H locs ls hw hl) (fun q => kf (by rw [if_neg q] at h; exact h) L H locs ls hw hl)
theorem wp_idiv (X : Fx C cc own rt R0 n0) {x y : Int32} {β : Type} {f : Int32 → Option β} {res : β} (d : decode cc pc = .ok (.idiv, 1)) (h : (idiv0 x y).bind f = some res) (K : ∀ v, f v = some res → Wp C cs sl (pc + 1) lv (.int v :: st) F) : Wp C cs sl pc lv (.int y :: .int x :: st) F := by
  obtain ⟨p, l, e, R, s, m, args, below, meth, c, Q, D, cy, A, nL⟩ := C
  obtain ⟨hx, hb, hml, hown, hts, hK, hA, hr, hlk, hR, hn0⟩ := X
  intro L H locs ls hw hl
  obtain ⟨v, h1, h2⟩ := bnd h
  unfold idiv0 at h1
  split at h1
  · cases h1
  · next hne =>
    cases h1
    exact lv_idiv hx hb d hne (K _ h2 L H locs ls hw hl)
theorem wp_irem (X : Fx C cc own rt R0 n0) {x y : Int32} {β : Type} {f : Int32 → Option β} {res : β} (d : decode cc pc = .ok (.irem, 1)) (h : (irem0 x y).bind f = some res) (K : ∀ v, f v = some res → Wp C cs sl (pc + 1) lv (.int v :: st) F) : Wp C cs sl pc lv (.int y :: .int x :: st) F := by
  obtain ⟨p, l, e, R, s, m, args, below, meth, c, Q, D, cy, A, nL⟩ := C
  obtain ⟨hx, hb, hml, hown, hts, hK, hA, hr, hlk, hR, hn0⟩ := X
  intro L H locs ls hw hl
  obtain ⟨v, h1, h2⟩ := bnd h
  unfold irem0 at h1
  split at h1
  · cases h1
  · next hne =>
    cases h1
    exact lv_irem hx hb d hne (K _ h2 L H locs ls hw hl)
theorem wp_ldiv (X : Fx C cc own rt R0 n0) {x y : Int64} {β : Type} {f : Int64 → Option β} {res : β} (d : decode cc pc = .ok (.ldiv, 1)) (h : (ldiv0 x y).bind f = some res) (K : ∀ v, f v = some res → Wp C cs sl (pc + 1) lv (.long v :: st) F) : Wp C cs sl pc lv (.long y :: .long x :: st) F := by
  obtain ⟨p, l, e, R, s, m, args, below, meth, c, Q, D, cy, A, nL⟩ := C
  obtain ⟨hx, hb, hml, hown, hts, hK, hA, hr, hlk, hR, hn0⟩ := X
  intro L H locs ls hw hl
  obtain ⟨v, h1, h2⟩ := bnd h
  unfold ldiv0 at h1
  split at h1
  · cases h1
  · next hne =>
    cases h1
    exact lv_ldiv hx hb d hne (K _ h2 L H locs ls hw hl)
theorem wp_lrem (X : Fx C cc own rt R0 n0) {x y : Int64} {β : Type} {f : Int64 → Option β} {res : β} (d : decode cc pc = .ok (.lrem, 1)) (h : (lrem0 x y).bind f = some res) (K : ∀ v, f v = some res → Wp C cs sl (pc + 1) lv (.long v :: st) F) : Wp C cs sl pc lv (.long y :: .long x :: st) F := by
  obtain ⟨p, l, e, R, s, m, args, below, meth, c, Q, D, cy, A, nL⟩ := C
  obtain ⟨hx, hb, hml, hown, hts, hK, hA, hr, hlk, hR, hn0⟩ := X
  intro L H locs ls hw hl
  obtain ⟨v, h1, h2⟩ := bnd h
  unfold lrem0 at h1
  split at h1
  · cases h1
  · next hne =>
    cases h1
    exact lv_lrem hx hb d hne (K _ h2 L H locs ls hw hl)
theorem wp_iaload (X : Fx C cc own rt R0 n0) {a : Nat} {i : Int32} {β : Type} {f : Int32 → Option β} {res : β} (d : decode cc pc = .ok (.iaload, 1)) (h : (rdI F 0 a i).bind f = some res) (K : ∀ v, f v = some res → Wp C cs sl (pc + 1) lv (.int v :: st) F) : Wp C cs sl pc lv (.int i :: .ref a :: st) F := by
  obtain ⟨p, l, e, R, s, m, args, below, meth, c, Q, D, cy, A, nL⟩ := C
  obtain ⟨hx, hb, hml, hown, hts, hK, hA, hr, hlk, hR, hn0⟩ := X
  intro L H locs ls hw hl
  obtain ⟨v, h1, h2⟩ := bnd h
  obtain ⟨⟨n, g⟩, h3, h4⟩ := bnd h1
  have e := arI_eq h3
  obtain ⟨k, hk⟩ := va_pl_get (X := ([] : va_W)) (f := fun a => toE cy (F a)) (wo_mem hw (ne_jk_l e))
  by_cases hi : inb i n = true
  · simp only [hi, if_true] at h4
    cases h4
    exact va_iald hx hb hK hw.2.1 k 0 (hk.trans (by simp only [e]; rfl)) rfl (inb_vp hi) d (K _ h2 L H locs ls hw hl)
  · simp only [hi] at h4
    cases h4
theorem wp_zaload (X : Fx C cc own rt R0 n0) {a : Nat} {i : Int32} {β : Type} {f : Int32 → Option β} {res : β} (d : decode cc pc = .ok (.baload, 1)) (h : (rdI F 2 a i).bind f = some res) (K : ∀ v, f v = some res → Wp C cs sl (pc + 1) lv (.int v :: st) F) : Wp C cs sl pc lv (.int i :: .ref a :: st) F := by
  obtain ⟨p, l, e, R, s, m, args, below, meth, c, Q, D, cy, A, nL⟩ := C
  obtain ⟨hx, hb, hml, hown, hts, hK, hA, hr, hlk, hR, hn0⟩ := X
  intro L H locs ls hw hl
  obtain ⟨v, h1, h2⟩ := bnd h
  obtain ⟨⟨n, g⟩, h3, h4⟩ := bnd h1
  have e := arI_eq h3
  obtain ⟨k, hk⟩ := va_pl_get (X := ([] : va_W)) (f := fun a => toE cy (F a)) (wo_mem hw (ne_jk_l e))
  by_cases hi : inb i n = true
  · simp only [hi, if_true] at h4
    cases h4
    exact va_zald hx hb hK hw.2.1 k 2 (hk.trans (by simp only [e]; rfl)) rfl (inb_vp hi) d (K _ h2 L H locs ls hw hl)
  · simp only [hi] at h4
    cases h4
theorem wp_laload (X : Fx C cc own rt R0 n0) {a : Nat} {i : Int32} {β : Type} {f : Int64 → Option β} {res : β} (d : decode cc pc = .ok (.laload, 1)) (h : (rdJ F a i).bind f = some res) (K : ∀ v, f v = some res → Wp C cs sl (pc + 1) lv (.long v :: st) F) : Wp C cs sl pc lv (.int i :: .ref a :: st) F := by
  obtain ⟨p, l, e, R, s, m, args, below, meth, c, Q, D, cy, A, nL⟩ := C
  obtain ⟨hx, hb, hml, hown, hts, hK, hA, hr, hlk, hR, hn0⟩ := X
  intro L H locs ls hw hl
  obtain ⟨v, h1, h2⟩ := bnd h
  obtain ⟨⟨n, g⟩, h3, h4⟩ := bnd h1
  have e := arJ_eq h3
  obtain ⟨k, hk⟩ := va_pl_get (X := ([] : va_W)) (f := fun a => toE cy (F a)) (wo_mem hw (ne_jk_l e))
  by_cases hi : inb i n = true
  · simp only [hi, if_true] at h4
    cases h4
    exact va_lald hx hb hK hw.2.1 k 1 (hk.trans (by simp only [e]; rfl)) rfl (inb_vp hi) d (K _ h2 L H locs ls hw hl)
  · simp only [hi] at h4
    cases h4
theorem wp_aaload (X : Fx C cc own rt R0 n0) (t : Nat) {CN : String} {a : Nat} {i : Int32} {β : Type} {f : Nat → Option β} {res : β} (ht : ∀ cy : Nat → ClassId, (ty5 cy)[t]? = some (cy t, .object CN)) (d : decode cc pc = .ok (.aaload, 1)) (h : (rdQ F t a i).bind f = some res) (K : ∀ v, f v = some res → Wp C cs sl (pc + 1) lv (.ref v :: st) F) : Wp C cs sl pc lv (.int i :: .ref a :: st) F := by
  obtain ⟨p, l, e, R, s, m, args, below, meth, c, Q, D, cy, A, nL⟩ := C
  obtain ⟨hx, hb, hml, hown, hts, hK, hA, hr, hlk, hR, hn0⟩ := X
  intro L H locs ls hw hl
  obtain ⟨v, h1, h2⟩ := bnd h
  obtain ⟨⟨n, g⟩, h3, h4⟩ := bnd h1
  have e := arQ_eq h3
  obtain ⟨k, hk⟩ := va_pl_get (X := ([] : va_W)) (f := fun a => toE cy (F a)) (wo_mem hw (ne_jk_l e))
  by_cases hi : inb i n = true
  · simp only [hi, if_true] at h4
    refine va_aldq hx hb hK hw.2.1 k t (hk.trans (by simp only [e]; rfl)) (ht cy) (inb_vp hi) d ?_
    rw [h4]
    exact K _ h2 L H locs ls hw hl
  · simp only [hi] at h4
    cases h4
theorem wp_iastore (X : Fx C cc own rt R0 n0) {a : Nat} {i : Int32} {x : Int32} {β : Type} {f : Mem → Option β} {res : β} (d : decode cc pc = .ok (.iastore, 1)) (h : (wrI F a i x).bind f = some res) (K : ∀ F', f F' = some res → Wp C cs sl (pc + 1) lv st F') : Wp C cs sl pc lv (.int x :: .int i :: .ref a :: st) F := by
  obtain ⟨p, l, e, R, s, m, args, below, meth, c, Q, D, cy, A, nL⟩ := C
  obtain ⟨hx, hb, hml, hown, hts, hK, hA, hr, hlk, hR, hn0⟩ := X
  intro L H locs ls hw hl
  obtain ⟨v, h1, h2⟩ := bnd h
  obtain ⟨⟨n, g⟩, h3, h4⟩ := bnd h1
  have e := arI_eq h3
  have hm := wo_mem hw (ne_jk_l e)
  obtain ⟨k, hk⟩ := va_pl_get (X := ([] : va_W)) (f := fun a => toE cy (F a)) hm
  by_cases hi : inb i n = true
  · simp only [hi, if_true] at h4
    cases h4
    exact va_iast hx hb hK hw.2.1 hw.2.2.1 hw.2.2.2 k 0 (hk.trans (by simp only [e]; rfl)) rfl (inb_vp hi) d (fun H1 locs1 hP hD hS => K _ h2 L H1 locs1 ls (wo_set (c := .inl (0, n, .inl (upd g i.toNatClampNeg x))) hw.1 hw.2.2.1 hm hk hP hD hS) hl)
  · simp only [hi] at h4
    cases h4
theorem wp_zastore (X : Fx C cc own rt R0 n0) {a : Nat} {i : Int32} {x : Int32} {β : Type} {f : Mem → Option β} {res : β} (d : decode cc pc = .ok (.bastore, 1)) (h : (wrZ F a i x).bind f = some res) (K : ∀ F', f F' = some res → Wp C cs sl (pc + 1) lv st F') : Wp C cs sl pc lv (.int x :: .int i :: .ref a :: st) F := by
  obtain ⟨p, l, e, R, s, m, args, below, meth, c, Q, D, cy, A, nL⟩ := C
  obtain ⟨hx, hb, hml, hown, hts, hK, hA, hr, hlk, hR, hn0⟩ := X
  intro L H locs ls hw hl
  obtain ⟨v, h1, h2⟩ := bnd h
  obtain ⟨⟨n, g⟩, h3, h4⟩ := bnd h1
  have e := arI_eq h3
  have hm := wo_mem hw (ne_jk_l e)
  obtain ⟨k, hk⟩ := va_pl_get (X := ([] : va_W)) (f := fun a => toE cy (F a)) hm
  by_cases hi : inb i n = true
  · simp only [hi, if_true] at h4
    cases h4
    exact va_zast hx hb hK hw.2.1 hw.2.2.1 hw.2.2.2 k 2 (hk.trans (by simp only [e]; rfl)) rfl (inb_vp hi) d (fun H1 locs1 hP hD hS => K _ h2 L H1 locs1 ls (wo_set (c := .inl (2, n, .inl (upd g i.toNatClampNeg (vp_nar .boolean x)))) hw.1 hw.2.2.1 hm hk hP hD hS) hl)
  · simp only [hi] at h4
    cases h4
theorem wp_lastore (X : Fx C cc own rt R0 n0) {a : Nat} {i : Int32} {x : Int64} {β : Type} {f : Mem → Option β} {res : β} (d : decode cc pc = .ok (.lastore, 1)) (h : (wrJ F a i x).bind f = some res) (K : ∀ F', f F' = some res → Wp C cs sl (pc + 1) lv st F') : Wp C cs sl pc lv (.long x :: .int i :: .ref a :: st) F := by
  obtain ⟨p, l, e, R, s, m, args, below, meth, c, Q, D, cy, A, nL⟩ := C
  obtain ⟨hx, hb, hml, hown, hts, hK, hA, hr, hlk, hR, hn0⟩ := X
  intro L H locs ls hw hl
  obtain ⟨v, h1, h2⟩ := bnd h
  obtain ⟨⟨n, g⟩, h3, h4⟩ := bnd h1
  have e := arJ_eq h3
  have hm := wo_mem hw (ne_jk_l e)
  obtain ⟨k, hk⟩ := va_pl_get (X := ([] : va_W)) (f := fun a => toE cy (F a)) hm
  by_cases hi : inb i n = true
  · simp only [hi, if_true] at h4
    cases h4
    exact va_last hx hb hK hw.2.1 hw.2.2.1 hw.2.2.2 k 1 (hk.trans (by simp only [e]; rfl)) rfl (inb_vp hi) d (fun H1 locs1 hP hD hS => K _ h2 L H1 locs1 ls (wo_set (c := .inl (1, n, .inr (.inl (vp_updL g i.toNatClampNeg x)))) hw.1 hw.2.2.1 hm hk hP hD hS) hl)
  · simp only [hi] at h4
    cases h4
theorem wp_alen (X : Fx C cc own rt R0 n0) (t : Nat) {ty : FieldType} {a : Nat} {β : Type} {f : Int32 → Option β} {res : β} (ht : ∀ cy : Nat → ClassId, (ty5 cy)[t]? = some (cy t, ty)) (d : decode cc pc = .ok (.arraylength, 1)) (h : (alI F t a).bind f = some res) (K : ∀ v, f v = some res → Wp C cs sl (pc + 1) lv (.int v :: st) F) : Wp C cs sl pc lv (.ref a :: st) F := by
  obtain ⟨p, l, e, R, s, m, args, below, meth, c, Q, D, cy, A, nL⟩ := C
  obtain ⟨hx, hb, hml, hown, hts, hK, hA, hr, hlk, hR, hn0⟩ := X
  intro L H locs ls hw hl
  obtain ⟨v, h1, h2⟩ := bnd h
  obtain ⟨⟨n, g⟩, h3, h4⟩ := bnd h1
  have e := arI_eq h3
  obtain ⟨k, hk⟩ := va_pl_get (X := ([] : va_W)) (f := fun a => toE cy (F a)) (wo_mem hw (ne_jk_l e))
  cases h4
  exact va_alen hx hb hK hw.2.1 k t (hk.trans (by simp only [e]; rfl)) (ht cy) rfl d (K _ h2 L H locs ls hw hl)
theorem wp_getI (X : Fx C cc own rt R0 n0) {CN : String} {T : u_T} {N ix a ci k : Nat} {β : Type} {f : Int32 → Option β} {res : β} (hc : vwCl[ci]? = some (CN, T, N)) (hci : ci ≠ 99) (hk : k < N) (hin : ∀ w ∈ u_ws CN T N, w ∈ BIG) (hlink : Cond.fieldLink own ix (T k).1 (T k).2.1 (T k).2.2.1 ∈ BIG) (d : decode cc pc = .ok (.getfield ix, 3)) (h : (gfI F a ci k).bind f = some res) (K : ∀ v, f v = some res → Wp C cs sl (pc + 3) lv (.int v :: st) F) : Wp C cs sl pc lv (.ref a :: st) F := by
  obtain ⟨p, l, e, R, s, m, args, below, meth, c, Q, D, cy, A, nL⟩ := C
  obtain ⟨hx, hb, hml, hown, hts, hK, hA, hr, hlk, hR, hn0⟩ := X
  intro L H locs ls hw hl
  obtain ⟨v, h1, h2⟩ := bnd h
  obtain ⟨fs, e, hv⟩ := gfI_eq h1
  obtain ⟨q, hq⟩ := va_pl_get (X := ([] : va_W)) (f := fun a => toE cy (F a)) (wo_mem hw (ne_jk_r e hci))
  exact va_get hx hb hts hin hown hK hw.2.1 q (hq.trans (by simp only [e]; rfl)) hc k hk (hts _ hlink) (fun _ h9 => h9) hv d (K _ h2 L H locs ls hw hl)
theorem wp_getJ (X : Fx C cc own rt R0 n0) {CN : String} {T : u_T} {N ix a ci k : Nat} {β : Type} {f : Int64 → Option β} {res : β} (hc : vwCl[ci]? = some (CN, T, N)) (hci : ci ≠ 99) (hk : k < N) (hin : ∀ w ∈ u_ws CN T N, w ∈ BIG) (hlink : Cond.fieldLink own ix (T k).1 (T k).2.1 (T k).2.2.1 ∈ BIG) (d : decode cc pc = .ok (.getfield ix, 3)) (h : (gfJ F a ci k).bind f = some res) (K : ∀ v, f v = some res → Wp C cs sl (pc + 3) lv (.long v :: st) F) : Wp C cs sl pc lv (.ref a :: st) F := by
  obtain ⟨p, l, e, R, s, m, args, below, meth, c, Q, D, cy, A, nL⟩ := C
  obtain ⟨hx, hb, hml, hown, hts, hK, hA, hr, hlk, hR, hn0⟩ := X
  intro L H locs ls hw hl
  obtain ⟨v, h1, h2⟩ := bnd h
  obtain ⟨fs, e, hv⟩ := gfJ_eq h1
  obtain ⟨q, hq⟩ := va_pl_get (X := ([] : va_W)) (f := fun a => toE cy (F a)) (wo_mem hw (ne_jk_r e hci))
  exact va_get hx hb hts hin hown hK hw.2.1 q (hq.trans (by simp only [e]; rfl)) hc k hk (hts _ hlink) (fun _ h9 => h9) hv d (K _ h2 L H locs ls hw hl)
theorem wp_getR (X : Fx C cc own rt R0 n0) {CN : String} {T : u_T} {N ix a ci k : Nat} {β : Type} {f : Nat → Option β} {res : β} (hc : vwCl[ci]? = some (CN, T, N)) (hci : ci ≠ 99) (hk : k < N) (hin : ∀ w ∈ u_ws CN T N, w ∈ BIG) (hlink : Cond.fieldLink own ix (T k).1 (T k).2.1 (T k).2.2.1 ∈ BIG) (d : decode cc pc = .ok (.getfield ix, 3)) (h : (gfR F a ci k).bind f = some res) (K : ∀ v, f v = some res → Wp C cs sl (pc + 3) lv (.ref v :: st) F) : Wp C cs sl pc lv (.ref a :: st) F := by
  obtain ⟨p, l, e, R, s, m, args, below, meth, c, Q, D, cy, A, nL⟩ := C
  obtain ⟨hx, hb, hml, hown, hts, hK, hA, hr, hlk, hR, hn0⟩ := X
  intro L H locs ls hw hl
  obtain ⟨v, h1, h2⟩ := bnd h
  obtain ⟨fs, e, hv⟩ := gfR_eq h1
  obtain ⟨q, hq⟩ := va_pl_get (X := ([] : va_W)) (f := fun a => toE cy (F a)) (wo_mem hw (ne_jk_r e hci))
  exact va_get hx hb hts hin hown hK hw.2.1 q (hq.trans (by simp only [e]; rfl)) hc k hk (hts _ hlink) (fun _ h9 => h9) hv d (K _ h2 L H locs ls hw hl)
theorem wp_put (X : Fx C cc own rt R0 n0) {CN : String} {T : u_T} {N ix a ci k : Nat} {v : Value} (ty0 : Nat → FieldType) {ty : FieldType} {β : Type} {f : Mem → Option β} {res : β} (hc : vwCl[ci]? = some (CN, T, N)) (hci : ci ≠ 99) (hk : k < N) (hin : ∀ w ∈ u_ws CN T N, w ∈ BIG) (hlink : Cond.fieldLink own ix (T k).1 (T k).2.1 (T k).2.2.1 ∈ BIG) (hty : ∀ k, k < N → parseFieldDescriptor (T k).2.2.1 = some (ty0 k)) (hnm : ∀ a, a < N → ∀ b, b < N → a ≠ b → (T a).2.1 ≠ (T b).2.1) (hfin : (T k).2.2.2 = false) (hd : ty0 k = ty) (hn : narrow ty v = v) (hfit : fits ty v = true) (d : decode cc pc = .ok (.putfield ix, 3)) (h : (pf F a ci k v).bind f = some res) (K : ∀ F', f F' = some res → Wp C cs sl (pc + 3) lv st F') : Wp C cs sl pc lv (v :: .ref a :: st) F := by
  obtain ⟨p, l, e, R, s, m, args, below, meth, c, Q, D, cy, A, nL⟩ := C
  obtain ⟨hx, hb, hml, hown, hts, hK, hA, hr, hlk, hR, hn0⟩ := X
  intro L H locs ls hw hl
  obtain ⟨F2, h1, h2⟩ := bnd h
  obtain ⟨fs, h3, h4⟩ := bnd h1
  have e := obj_eq h3
  have hm := wo_mem hw (ne_jk_r e hci)
  obtain ⟨q, hq⟩ := va_pl_get (X := ([] : va_W)) (f := fun a => toE cy (F a)) hm
  by_cases hlt : k < fs.length
  · simp only [hlt, if_true] at h4
    cases h4
    exact va_put hx hb hts hin ty0 hty hnm hown hK hw.2.1 hw.2.2.1 hw.2.2.2 q (hq.trans (by simp only [e]; rfl)) hc k hk (hts _ hlink) (fun _ h9 => h9) hfin (by rw [hty k hk, hd]) hn hfit hlt d (fun H1 locs1 hP hD hS => K _ h2 L H1 locs1 ls (wo_set (c := .inr (ci, fs.set k v)) hw.1 hw.2.2.1 hm hq hP hD hS) hl)
  · simp only [hlt, if_false] at h4
    cases h4
theorem wp_copyi (X : Fx C cc own rt R0 n0) {ix a b : Nat} {sp dp n : Int32} {β : Type} {f : Mem → Option β} {res : β} (hlink : Cond.methodLink own ix arraycopyName ∈ BIG) (hnat : Cond.native arraycopyName ∈ BIG) (hstat : Cond.static arraycopyName ∈ BIG) (hini : Cond.initialized "java/lang/System" ∈ BIG) (hf1 : 1 ≤ R0.frames) (hf2 : (st.map fun v => v.category).sum + (nativeFrameWords "java/lang/System" "arraycopy" 5 + 11) ≤ R0.locals) (d : decode cc pc = .ok (.invokestatic ix, 3)) (h : (cpI F a sp b dp n).bind f = some res) (K : ∀ F', f F' = some res → Wp C cs sl (pc + 3) lv st F') : Wp C cs sl pc lv (.int n :: .int dp :: .ref b :: .int sp :: .ref a :: st) F := by
  obtain ⟨p, l, e, R, s, m, args, below, meth, c, Q, D, cy, A, nL⟩ := C
  obtain ⟨hx, hb, hml, hown, hts, hK, hA, hr, hlk, hR, hn0⟩ := X
  intro L H locs ls hw hl
  obtain ⟨F2, h1, h2⟩ := bnd h
  obtain ⟨⟨n1, g1⟩, h3, h4⟩ := bnd h1
  obtain ⟨⟨n2, g2⟩, h5, h6⟩ := bnd h4
  have e1 := arI_eq h3
  have e2 := arI_eq h5
  have hm := wo_mem hw (ne_jk_l e2)
  obtain ⟨k1, hk1⟩ := va_pl_get (X := ([] : va_W)) (f := fun a => toE cy (F a)) (wo_mem hw (ne_jk_l e1))
  obtain ⟨k2, hk2⟩ := va_pl_get (X := ([] : va_W)) (f := fun a => toE cy (F a)) hm
  split at h6
  · next hcond =>
    cases h6
    simp only [Bool.and_eq_true, decide_eq_true_eq] at hcond
    obtain ⟨⟨⟨⟨q1, q2⟩, q3⟩, q4⟩, q5⟩ := hcond
    subst hR
    exact va_copyi hx hb (by rw [hml, hl.1]) hown (hts _ hlink) (hts _ hnat) (hts _ hstat) (hts _ hini) hK hw.2.1 hw.2.2.1 hw.2.2.2 k1 k2 0 0 (ty := .int) (hk1.trans (by simp only [e1]; rfl)) (hk2.trans (by simp only [e2]; rfl)) rfl rfl rfl q1 q2 q3 q4 q5 (fun _ _ => rfl) hf1 hf2 d (fun H1 locs1 hP hD hS => K _ h2 L H1 locs1 ls (wo_set (c := .inl (0, n2, .inl (va_cpy g1 g2 sp.toNatClampNeg dp.toNatClampNeg n.toNatClampNeg))) hw.1 hw.2.2.1 hm hk2 hP hD hS) hl)
  · cases h6
theorem wp_mmax (X : Fx C cc own rt R0 n0) {ix : Nat} {x y : Int32} (hlink : Cond.methodLink own ix Lib.Math.max.name ∈ BIG) (hstat : Cond.static Lib.Math.max.name ∈ BIG) (hini : Cond.initialized "java/lang/Math" ∈ BIG) (hcode : Cond.code Lib.Math.max.name Lib.Math.max.code 2 (some .int) ∈ BIG) (hf1 : 1 ≤ R0.frames) (hf2 : (st.map fun v => v.category).sum + 13 ≤ R0.locals) (hc1 : cs ≤ R0.cells) (hs1 : sl ≤ R0.slots) (d : decode cc pc = .ok (.invokestatic ix, 3)) (K : Wp C cs sl (pc + 3) lv (.int (if x < y then y else x) :: st) F) : Wp C cs sl pc lv (.int y :: .int x :: st) F := by
  obtain ⟨p, l, e, R, s, m, args, below, meth, c, Q, D, cy, A, nL⟩ := C
  obtain ⟨hx, hb, hml, hown, hts, hK, hA, hr, hlk, hR, hn0⟩ := X
  intro L H locs ls hw hl
  subst hR
  exact va_mmax hx hb (by rw [hml, hl.1]) hown (hts _ hlink) (hts _ hstat) (hts _ hini) (hts _ hcode) hf1 hf2 hc1 hs1 d (K L H locs ls hw hl)
theorem wp_mmin (X : Fx C cc own rt R0 n0) {ix : Nat} {x y : Int32} (hlink : Cond.methodLink own ix Lib.Math.min.name ∈ BIG) (hstat : Cond.static Lib.Math.min.name ∈ BIG) (hini : Cond.initialized "java/lang/Math" ∈ BIG) (hcode : Cond.code Lib.Math.min.name Lib.Math.min.code 2 (some .int) ∈ BIG) (hf1 : 1 ≤ R0.frames) (hf2 : (st.map fun v => v.category).sum + 13 ≤ R0.locals) (hc1 : cs ≤ R0.cells) (hs1 : sl ≤ R0.slots) (d : decode cc pc = .ok (.invokestatic ix, 3)) (K : Wp C cs sl (pc + 3) lv (.int (if y < x then y else x) :: st) F) : Wp C cs sl pc lv (.int y :: .int x :: st) F := by
  obtain ⟨p, l, e, R, s, m, args, below, meth, c, Q, D, cy, A, nL⟩ := C
  obtain ⟨hx, hb, hml, hown, hts, hK, hA, hr, hlk, hR, hn0⟩ := X
  intro L H locs ls hw hl
  subst hR
  exact va_mmin hx hb (by rw [hml, hl.1]) hown (hts _ hlink) (hts _ hstat) (hts _ hini) (hts _ hcode) hf1 hf2 hc1 hs1 d (K L H locs ls hw hl)
end ROWS
section CALLS
def Pre0 (D : va_G) (cy : Nat → ClassId) (L : List Nat) (F : Mem) (sz : Nat) (U : State) : Prop := U.heap.size = sz ∧ (∀ a, a ∉ L → F a = jk) ∧ va_P D vwCl (pw cy L F) U.heap ∧ va_K D vwCl (ty5 cy) U ∧ va_D (fun _ => True) (pw cy L F)
def Post0 (D : va_G) (cy : Nat → ClassId) (A : Nat → Prop) (F' : Mem) (t : State) : Prop := ∃ L' : List Nat, (∀ a, a ∉ L' → F' a = jk) ∧ va_P D vwCl (pw cy L' F') t.heap ∧ va_K D vwCl (ty5 cy) t ∧ va_D A (pw cy L' F')
theorem pre0_blind {av : List Value} {D : va_G} {cy : Nat → ClassId} {L : List Nat} {F : Mem} {sz : Nat} : FrameBlind (va_Pc av (Pre0 D cy L F sz)) := fun a U g mk q => by
  obtain ⟨q0, q1, q2, qP, qK, qD⟩ := q
  exact ⟨q0, q1, q2, qP, va_K.moved (u := U) (U := U.calling g mk a) (Vm.Alike.refl U.vm) qK, qD⟩
/-- contracts: a method from the memory F with the arguments av answers res -/
def MI (l : Launch) (y : MethodName) (cc : ByteArray) (n : Nat) (ret : Option FieldType) (rm : Room) (D : va_G) (cy : Nat → ClassId) (F : Mem) (av : List Value) (res : Int32 × Mem) : Prop := ∀ (L : List Nat) (sz : Nat), Met l y (wsy y cc n ret) rm (va_Pc av (Pre0 D cy L F sz)) (va_Qi (fun r F' => (r, F') = res) (Post0 D cy (va_A (pw cy L F) sz)) (va_A (pw cy L F) sz)) rm.cells rm.slots (va_A (pw cy L F) sz)
def ML (l : Launch) (y : MethodName) (cc : ByteArray) (n : Nat) (ret : Option FieldType) (rm : Room) (D : va_G) (cy : Nat → ClassId) (F : Mem) (av : List Value) (res : Int64 × Mem) : Prop := ∀ (L : List Nat) (sz : Nat), Met l y (wsy y cc n ret) rm (va_Pc av (Pre0 D cy L F sz)) (va_Ql (fun r F' => (r, F') = res) (Post0 D cy (va_A (pw cy L F) sz)) (va_A (pw cy L F) sz)) rm.cells rm.slots (va_A (pw cy L F) sz)
def MV (l : Launch) (y : MethodName) (cc : ByteArray) (n : Nat) (ret : Option FieldType) (rm : Room) (D : va_G) (cy : Nat → ClassId) (F : Mem) (av : List Value) (res : Mem) : Prop := ∀ (L : List Nat) (sz : Nat), Met l y (wsy y cc n ret) rm (va_Pc av (Pre0 D cy L F sz)) (va_Qv (fun F' => F' = res) (Post0 D cy (va_A (pw cy L F) sz)) (va_A (pw cy L F) sz)) rm.cells rm.slots (va_A (pw cy L F) sz)
/-- what a body owes at its end -/
def RI (C : Cx) (mc ms : Nat) (res : Int32 × Mem) : Prop := match C with
  | (p, l, e, R, s, m, args, below, meth, c, Q, D, cy, A, nL) => Q = MQ below (va_Qi (fun r F' => (r, F') = res) (Post0 D cy A) A) args s mc ms A
def RJ (C : Cx) (mc ms : Nat) (res : Int64 × Mem) : Prop := match C with
  | (p, l, e, R, s, m, args, below, meth, c, Q, D, cy, A, nL) => Q = MQ below (va_Ql (fun r F' => (r, F') = res) (Post0 D cy A) A) args s mc ms A
def RV (C : Cx) (mc ms : Nat) (res : Mem) : Prop := match C with
  | (p, l, e, R, s, m, args, below, meth, c, Q, D, cy, A, nL) => Q = MQ below (va_Qv (fun F' => F' = res) (Post0 D cy A) A) args s mc ms A
def CD (C : Cx) (l0 : Launch) (D0 : va_G) (cy0 : Nat → ClassId) : Prop := match C with
  | (p, l, e, R, s, m, args, below, meth, c, Q, D, cy, A, nL) => l = l0 ∧ D = D0 ∧ cy = cy0

variable {C : Cx} {cc : ByteArray} {own : String} {rt : Option FieldType} {R0 : Room} {n0 cs sl pc : Nat} {lv : List (Nat × Value)} {st st0 : List Value} {F : Mem}
theorem wp_ireturn (X : Fx C cc own rt R0 n0) {ty : FieldType} {v : Int32} {res : Int32 × Mem} (Qr : RI C cs sl res) (hrt : rt = some ty) (hn : narrow ty (.int v) = .int v) (d : decode cc pc = .ok (.ireturn, 1)) (h : some (v, F) = some res) : Wp C cs sl pc lv [.int v] F := by
  obtain ⟨p, l, e, R, s, m, args, below, meth, c, Q, D, cy, A, nL⟩ := C
  obtain ⟨hx, hb, hml, hown, hts, hK, hA, hr, hlk, hR, hn0⟩ := X
  intro L H locs ls hw hl
  cases Qr
  have e9 := Option.some.inj h
  exact W.zret hx hb (hr.trans hrt) hn (fun t ht hW => ⟨⟨v, F, rfl, e9, L, hw.1, by rw [ht]; exact hw.2.1, va_K.moved hW.alike hK, hw.2.2.1⟩, hw.2.2.2.F ht⟩) hw.2.2.2.2.2 d hlk
theorem wp_lreturn (X : Fx C cc own rt R0 n0) {v : Int64} {res : Int64 × Mem} (Qr : RJ C cs sl res) (hrt : rt = some .long) (d : decode cc pc = .ok (.lreturn, 1)) (h : some (v, F) = some res) : Wp C cs sl pc lv [.long v] F := by
  obtain ⟨p, l, e, R, s, m, args, below, meth, c, Q, D, cy, A, nL⟩ := C
  obtain ⟨hx, hb, hml, hown, hts, hK, hA, hr, hlk, hR, hn0⟩ := X
  intro L H locs ls hw hl
  cases Qr
  have e9 := Option.some.inj h
  exact W.lret hx hb (hr.trans hrt) (fun t ht hW => ⟨⟨v, F, rfl, e9, L, hw.1, by rw [ht]; exact hw.2.1, va_K.moved hW.alike hK, hw.2.2.1⟩, hw.2.2.2.F ht⟩) hw.2.2.2.2.2 d hlk
theorem wp_return (X : Fx C cc own rt R0 n0) {res : Mem} (Qr : RV C cs sl res) (hrt : rt = none) (d : decode cc pc = .ok (.return_, 1)) (h : some F = some res) : Wp C cs sl pc lv [] F := by
  obtain ⟨p, l, e, R, s, m, args, below, meth, c, Q, D, cy, A, nL⟩ := C
  obtain ⟨hx, hb, hml, hown, hts, hK, hA, hr, hlk, hR, hn0⟩ := X
  intro L H locs ls hw hl
  cases Qr
  have e9 := Option.some.inj h
  exact W.vret hx hb (hr.trans hrt) (fun t ht hW => ⟨⟨F, rfl, e9, L, hw.1, by rw [ht]; exact hw.2.1, va_K.moved hW.alike hK, hw.2.2.1⟩, hw.2.2.2.F ht⟩) hw.2.2.2.2.2 d hlk
theorem mi_of {l : Launch} {y : MethodName} {rm : Room} {D : va_G} {cy : Nat → ClassId} {av : List Value} {res : Int32 × Mem} {cc : ByteArray} {maxL : Nat} {ret : Option FieldType} (hy : plainName y.cls = true) (hlen : (lg_sl av).length ≤ maxL) (lv : List (Nat × Value)) (hlv : lv_args 0 av = lv)
    (body : ∀ C : Cx, Fx C cc y.cls ret rm maxL → CD C l D cy → RI C rm.cells rm.slots res → Wp C 0 0 0 lv [] F) : MI l y cc maxL ret rm D cy F av res := by
  intro L sz
  refine Met.ofW (cc := cc) (maxL := maxL) (ret := ret) hy rfl ?_
  intro p e s m args below meth c s₁ B hml hv
  obtain ⟨rfl, hsz, h0, hP, hK, hD0⟩ := hv
  subst hsz
  have hl := lv_entry av (n := maxL) hlen
  rw [lg_entry_eq]
  rw [hlv] at hl
  exact body (p, l, e, rm, s, m, av.toArray, below, meth, c, _, D, cy, va_A (pw cy L F) s.heap.size, maxL)
    ⟨B.exec, B.bytes, hml, findClass_of_methodNamed B.named, fun w h9 => atoms_spec (ws := wsy y cc maxL ret) B.pre w (List.mem_cons_of_mem _ h9), hK, fun q h => Or.inr h, B.returns, B.notSynchronized, rfl, rfl⟩ ⟨rfl, rfl, rfl⟩ rfl
    L s.heap [] _ ⟨h0, hP, hD0.self (sz := s.heap.size), va_S.rf⟩ hl
theorem ml_of {l : Launch} {y : MethodName} {rm : Room} {D : va_G} {cy : Nat → ClassId} {av : List Value} {res : Int64 × Mem} {cc : ByteArray} {maxL : Nat} {ret : Option FieldType} (hy : plainName y.cls = true) (hlen : (lg_sl av).length ≤ maxL) (lv : List (Nat × Value)) (hlv : lv_args 0 av = lv)
    (body : ∀ C : Cx, Fx C cc y.cls ret rm maxL → CD C l D cy → RJ C rm.cells rm.slots res → Wp C 0 0 0 lv [] F) : ML l y cc maxL ret rm D cy F av res := by
  intro L sz
  refine Met.ofW (cc := cc) (maxL := maxL) (ret := ret) hy rfl ?_
  intro p e s m args below meth c s₁ B hml hv
  obtain ⟨rfl, hsz, h0, hP, hK, hD0⟩ := hv
  subst hsz
  have hl := lv_entry av (n := maxL) hlen
  rw [lg_entry_eq]
  rw [hlv] at hl
  exact body (p, l, e, rm, s, m, av.toArray, below, meth, c, _, D, cy, va_A (pw cy L F) s.heap.size, maxL)
    ⟨B.exec, B.bytes, hml, findClass_of_methodNamed B.named, fun w h9 => atoms_spec (ws := wsy y cc maxL ret) B.pre w (List.mem_cons_of_mem _ h9), hK, fun q h => Or.inr h, B.returns, B.notSynchronized, rfl, rfl⟩ ⟨rfl, rfl, rfl⟩ rfl
    L s.heap [] _ ⟨h0, hP, hD0.self (sz := s.heap.size), va_S.rf⟩ hl
theorem mv_of {l : Launch} {y : MethodName} {rm : Room} {D : va_G} {cy : Nat → ClassId} {av : List Value} {res : Mem} {cc : ByteArray} {maxL : Nat} {ret : Option FieldType} (hy : plainName y.cls = true) (hlen : (lg_sl av).length ≤ maxL) (lv : List (Nat × Value)) (hlv : lv_args 0 av = lv)
    (body : ∀ C : Cx, Fx C cc y.cls ret rm maxL → CD C l D cy → RV C rm.cells rm.slots res → Wp C 0 0 0 lv [] F) : MV l y cc maxL ret rm D cy F av res := by
  intro L sz
  refine Met.ofW (cc := cc) (maxL := maxL) (ret := ret) hy rfl ?_
  intro p e s m args below meth c s₁ B hml hv
  obtain ⟨rfl, hsz, h0, hP, hK, hD0⟩ := hv
  subst hsz
  have hl := lv_entry av (n := maxL) hlen
  rw [lg_entry_eq]
  rw [hlv] at hl
  exact body (p, l, e, rm, s, m, av.toArray, below, meth, c, _, D, cy, va_A (pw cy L F) s.heap.size, maxL)
    ⟨B.exec, B.bytes, hml, findClass_of_methodNamed B.named, fun w h9 => atoms_spec (ws := wsy y cc maxL ret) B.pre w (List.mem_cons_of_mem _ h9), hK, fun q h => Or.inr h, B.returns, B.notSynchronized, rfl, rfl⟩ ⟨rfl, rfl, rfl⟩ rfl
    L s.heap [] _ ⟨h0, hP, hD0.self (sz := s.heap.size), va_S.rf⟩ hl
theorem wp_callVI (X : Fx C cc own rt R0 n0) {y : MethodName} {rm : Room} {ix n maxL ci b : Nat} {bytes : ByteArray} {ret : Option FieldType} {CN : String} {T : u_T} {N : Nat} (As : List Value) {o : Option (Int32 × Mem)} {β : Type} {f : Int32 × Mem → Option β} {res : β} {l0 : Launch} {D0 : va_G} {cy0 : Nat → ClassId} (hcd : CD C l0 D0 cy0)
    (hM : ∀ q, o = some q → MI l0 y bytes maxL ret rm D0 cy0 F (.ref b :: As) q) (k1 : Cond.methodLink own ix y ∈ BIG) (k2 : Cond.instanceMethod y ∈ BIG) (k3 : Cond.selects CN y y ∈ BIG) (k4 : Cond.initialized CN ∈ BIG) (k5 : Cond.code y bytes maxL ret ∈ BIG) (hd : y.cls = CN ∧ y.cls ≠ "java/lang/invoke/MethodHandle" ∧ y.cls ≠ "java/lang/invoke/VarHandle" ∧ (parseMethodDescriptor y.desc).map (fun d => d.parameters.length) = some n)
    (hRf : rm.frames + 1 ≤ R0.frames ∧ 8 + (maxL + 11) + rm.locals ≤ R0.locals) (hcap : cs + rm.cells ≤ R0.cells ∧ sl + rm.slots ≤ R0.slots) {cs2 sl2 : Nat} (hcs : cs + rm.cells = cs2) (hsl : sl + rm.slots = sl2) (hc : vwCl[ci]? = some (CN, T, N)) (hci : ci ≠ 99) (hn : As.length = n) (hst : st0 = As.reverse ++ .ref b :: st) (hrm : (st.map fun v => v.category).sum ≤ 8) (d : decode cc pc = .ok (.invokevirtual ix, 3))
    (h : ((obj F b ci).bind fun _ => o.bind f) = some res) (K : ∀ q, f q = some res → Wp C cs2 sl2 (pc + 3) lv (.int q.1 :: st) q.2) : Wp C cs sl pc lv st0 F := by
  obtain ⟨p, l, e, R, s, m, args, below, meth, c, Q, D, cy, A, nL⟩ := C
  obtain ⟨hx, hb, hml, hown, hts, hK, hA, hr, hlk, hR, hn0⟩ := X
  obtain ⟨rfl, rfl, rfl⟩ := hcd
  intro L H locs ls hw hl
  subst hst
  subst hR
  subst hcs
  subst hsl
  obtain ⟨fs, h0, h1⟩ := bnd h
  obtain ⟨q, h3, h2⟩ := bnd h1
  have e := obj_eq h0
  obtain ⟨k, hk⟩ := va_pl_get (X := ([] : va_W)) (f := fun a => toE cy (F a)) (wo_mem hw (ne_jk_r e hci))
  have hFc := wo_free hw hA
  refine va_calli (va_runV (As := As) (rest := st) ⟨hx, hb, hml, hown, hts⟩ (hM q h3 L H.size) (cwV n hts (good_V k1 k2 k3 k4 k5) rfl rfl rfl hd hRf) ⟨pre0_blind, va_recv hK hw.2.1 hc (hk.trans (by simp only [e]; rfl)), fun U hU hW => ⟨rfl, by rw [hU], hw.1, by rw [hU]; exact hw.2.1, va_K.moved hW.alike hK, hw.2.2.1.weaken (fun _ _ _ _ => trivial)⟩⟩ rfl hn hl.1 rfl (lv_room hrm) d hcap) hw.2.2.2 (fun q _ h => hFc q h) hFc (fun r u t H1 locs1 ht hvm hw1 hB hz1 hk1 hS => ?_)
  subst hw1
  obtain ⟨L', g0, g1, g2, g3⟩ := hB
  rw [ht] at g1
  exact K _ h2 L' H1 locs1 ls ⟨g0, g1, g3.weaken (fun k q hk ha => hFc _ ha), hS⟩ hl
theorem wp_callSI (X : Fx C cc own rt R0 n0) {y : MethodName} {rm : Room} {ix n maxL : Nat} {bytes : ByteArray} {ret : Option FieldType} (As : List Value) {o : Option (Int32 × Mem)} {β : Type} {f : Int32 × Mem → Option β} {res : β} {l0 : Launch} {D0 : va_G} {cy0 : Nat → ClassId} (hcd : CD C l0 D0 cy0)
    (hM : ∀ q, o = some q → MI l0 y bytes maxL ret rm D0 cy0 F As q) (k1 : Cond.methodLink own ix y ∈ BIG) (k2 : Cond.static y ∈ BIG) (k4 : Cond.initialized y.cls ∈ BIG) (k5 : Cond.code y bytes maxL ret ∈ BIG) (hd : y.cls ≠ "java/lang/invoke/MethodHandle" ∧ y.cls ≠ "java/lang/invoke/VarHandle" ∧ (parseMethodDescriptor y.desc).map (fun d => d.parameters.length) = some n)
    (hRf : rm.frames + 1 ≤ R0.frames ∧ 8 + (maxL + 11) + rm.locals ≤ R0.locals) (hcap : cs + rm.cells ≤ R0.cells ∧ sl + rm.slots ≤ R0.slots) {cs2 sl2 : Nat} (hcs : cs + rm.cells = cs2) (hsl : sl + rm.slots = sl2) (hn : As.length = n) (hst : st0 = As.reverse ++ st) (hrm : (st.map fun v => v.category).sum ≤ 8) (d : decode cc pc = .ok (.invokestatic ix, 3))
    (h : o.bind f = some res) (K : ∀ q, f q = some res → Wp C cs2 sl2 (pc + 3) lv (.int q.1 :: st) q.2) : Wp C cs sl pc lv st0 F := by
  obtain ⟨p, l, e, R, s, m, args, below, meth, c, Q, D, cy, A, nL⟩ := C
  obtain ⟨hx, hb, hml, hown, hts, hK, hA, hr, hlk, hR, hn0⟩ := X
  obtain ⟨rfl, rfl, rfl⟩ := hcd
  intro L H locs ls hw hl
  subst hst
  subst hR
  subst hcs
  subst hsl
  obtain ⟨q, h3, h2⟩ := bnd h
  have hFc := wo_free hw hA
  refine va_calli (va_runS (As := As) (rest := st) ⟨hx, hb, hml, hown, hts⟩ (hM q h3 L H.size) (va_cwS n hts (good_S k1 k2 k4 k5) rfl rfl rfl hd hRf) ⟨pre0_blind, fun U hU hW => ⟨rfl, by rw [hU], hw.1, by rw [hU]; exact hw.2.1, va_K.moved hW.alike hK, hw.2.2.1.weaken (fun _ _ _ _ => trivial)⟩⟩ rfl hn hl.1 rfl (lv_room hrm) d hcap) hw.2.2.2 (fun q _ h => hFc q h) hFc (fun r u t H1 locs1 ht hvm hw1 hB hz1 hk1 hS => ?_)
  subst hw1
  obtain ⟨L', g0, g1, g2, g3⟩ := hB
  rw [ht] at g1
  exact K _ h2 L' H1 locs1 ls ⟨g0, g1, g3.weaken (fun k q hk ha => hFc _ ha), hS⟩ hl
theorem wp_callVL (X : Fx C cc own rt R0 n0) {y : MethodName} {rm : Room} {ix n maxL ci b : Nat} {bytes : ByteArray} {ret : Option FieldType} {CN : String} {T : u_T} {N : Nat} (As : List Value) {o : Option (Int64 × Mem)} {β : Type} {f : Int64 × Mem → Option β} {res : β} {l0 : Launch} {D0 : va_G} {cy0 : Nat → ClassId} (hcd : CD C l0 D0 cy0)
    (hM : ∀ q, o = some q → ML l0 y bytes maxL ret rm D0 cy0 F (.ref b :: As) q) (k1 : Cond.methodLink own ix y ∈ BIG) (k2 : Cond.instanceMethod y ∈ BIG) (k3 : Cond.selects CN y y ∈ BIG) (k4 : Cond.initialized CN ∈ BIG) (k5 : Cond.code y bytes maxL ret ∈ BIG) (hd : y.cls = CN ∧ y.cls ≠ "java/lang/invoke/MethodHandle" ∧ y.cls ≠ "java/lang/invoke/VarHandle" ∧ (parseMethodDescriptor y.desc).map (fun d => d.parameters.length) = some n)
    (hRf : rm.frames + 1 ≤ R0.frames ∧ 8 + (maxL + 11) + rm.locals ≤ R0.locals) (hcap : cs + rm.cells ≤ R0.cells ∧ sl + rm.slots ≤ R0.slots) {cs2 sl2 : Nat} (hcs : cs + rm.cells = cs2) (hsl : sl + rm.slots = sl2) (hc : vwCl[ci]? = some (CN, T, N)) (hci : ci ≠ 99) (hn : As.length = n) (hst : st0 = As.reverse ++ .ref b :: st) (hrm : (st.map fun v => v.category).sum ≤ 8) (d : decode cc pc = .ok (.invokevirtual ix, 3))
    (h : ((obj F b ci).bind fun _ => o.bind f) = some res) (K : ∀ q, f q = some res → Wp C cs2 sl2 (pc + 3) lv (.long q.1 :: st) q.2) : Wp C cs sl pc lv st0 F := by
  obtain ⟨p, l, e, R, s, m, args, below, meth, c, Q, D, cy, A, nL⟩ := C
  obtain ⟨hx, hb, hml, hown, hts, hK, hA, hr, hlk, hR, hn0⟩ := X
  obtain ⟨rfl, rfl, rfl⟩ := hcd
  intro L H locs ls hw hl
  subst hst
  subst hR
  subst hcs
  subst hsl
  obtain ⟨fs, h0, h1⟩ := bnd h
  obtain ⟨q, h3, h2⟩ := bnd h1
  have e := obj_eq h0
  obtain ⟨k, hk⟩ := va_pl_get (X := ([] : va_W)) (f := fun a => toE cy (F a)) (wo_mem hw (ne_jk_r e hci))
  have hFc := wo_free hw hA
  refine va_calll (va_runV (As := As) (rest := st) ⟨hx, hb, hml, hown, hts⟩ (hM q h3 L H.size) (cwV n hts (good_V k1 k2 k3 k4 k5) rfl rfl rfl hd hRf) ⟨pre0_blind, va_recv hK hw.2.1 hc (hk.trans (by simp only [e]; rfl)), fun U hU hW => ⟨rfl, by rw [hU], hw.1, by rw [hU]; exact hw.2.1, va_K.moved hW.alike hK, hw.2.2.1.weaken (fun _ _ _ _ => trivial)⟩⟩ rfl hn hl.1 rfl (lv_room hrm) d hcap) hw.2.2.2 (fun q _ h => hFc q h) hFc (fun r u t H1 locs1 ht hvm hw1 hB hz1 hk1 hS => ?_)
  subst hw1
  obtain ⟨L', g0, g1, g2, g3⟩ := hB
  rw [ht] at g1
  exact K _ h2 L' H1 locs1 ls ⟨g0, g1, g3.weaken (fun k q hk ha => hFc _ ha), hS⟩ hl
theorem wp_callSL (X : Fx C cc own rt R0 n0) {y : MethodName} {rm : Room} {ix n maxL : Nat} {bytes : ByteArray} {ret : Option FieldType} (As : List Value) {o : Option (Int64 × Mem)} {β : Type} {f : Int64 × Mem → Option β} {res : β} {l0 : Launch} {D0 : va_G} {cy0 : Nat → ClassId} (hcd : CD C l0 D0 cy0)
    (hM : ∀ q, o = some q → ML l0 y bytes maxL ret rm D0 cy0 F As q) (k1 : Cond.methodLink own ix y ∈ BIG) (k2 : Cond.static y ∈ BIG) (k4 : Cond.initialized y.cls ∈ BIG) (k5 : Cond.code y bytes maxL ret ∈ BIG) (hd : y.cls ≠ "java/lang/invoke/MethodHandle" ∧ y.cls ≠ "java/lang/invoke/VarHandle" ∧ (parseMethodDescriptor y.desc).map (fun d => d.parameters.length) = some n)
    (hRf : rm.frames + 1 ≤ R0.frames ∧ 8 + (maxL + 11) + rm.locals ≤ R0.locals) (hcap : cs + rm.cells ≤ R0.cells ∧ sl + rm.slots ≤ R0.slots) {cs2 sl2 : Nat} (hcs : cs + rm.cells = cs2) (hsl : sl + rm.slots = sl2) (hn : As.length = n) (hst : st0 = As.reverse ++ st) (hrm : (st.map fun v => v.category).sum ≤ 8) (d : decode cc pc = .ok (.invokestatic ix, 3))
    (h : o.bind f = some res) (K : ∀ q, f q = some res → Wp C cs2 sl2 (pc + 3) lv (.long q.1 :: st) q.2) : Wp C cs sl pc lv st0 F := by
  obtain ⟨p, l, e, R, s, m, args, below, meth, c, Q, D, cy, A, nL⟩ := C
  obtain ⟨hx, hb, hml, hown, hts, hK, hA, hr, hlk, hR, hn0⟩ := X
  obtain ⟨rfl, rfl, rfl⟩ := hcd
  intro L H locs ls hw hl
  subst hst
  subst hR
  subst hcs
  subst hsl
  obtain ⟨q, h3, h2⟩ := bnd h
  have hFc := wo_free hw hA
  refine va_calll (va_runS (As := As) (rest := st) ⟨hx, hb, hml, hown, hts⟩ (hM q h3 L H.size) (va_cwS n hts (good_S k1 k2 k4 k5) rfl rfl rfl hd hRf) ⟨pre0_blind, fun U hU hW => ⟨rfl, by rw [hU], hw.1, by rw [hU]; exact hw.2.1, va_K.moved hW.alike hK, hw.2.2.1.weaken (fun _ _ _ _ => trivial)⟩⟩ rfl hn hl.1 rfl (lv_room hrm) d hcap) hw.2.2.2 (fun q _ h => hFc q h) hFc (fun r u t H1 locs1 ht hvm hw1 hB hz1 hk1 hS => ?_)
  subst hw1
  obtain ⟨L', g0, g1, g2, g3⟩ := hB
  rw [ht] at g1
  exact K _ h2 L' H1 locs1 ls ⟨g0, g1, g3.weaken (fun k q hk ha => hFc _ ha), hS⟩ hl
theorem wp_callVV (X : Fx C cc own rt R0 n0) {y : MethodName} {rm : Room} {ix n maxL ci b : Nat} {bytes : ByteArray} {ret : Option FieldType} {CN : String} {T : u_T} {N : Nat} (As : List Value) {o : Option (Mem)} {β : Type} {f : Mem → Option β} {res : β} {l0 : Launch} {D0 : va_G} {cy0 : Nat → ClassId} (hcd : CD C l0 D0 cy0)
    (hM : ∀ q, o = some q → MV l0 y bytes maxL ret rm D0 cy0 F (.ref b :: As) q) (k1 : Cond.methodLink own ix y ∈ BIG) (k2 : Cond.instanceMethod y ∈ BIG) (k3 : Cond.selects CN y y ∈ BIG) (k4 : Cond.initialized CN ∈ BIG) (k5 : Cond.code y bytes maxL ret ∈ BIG) (hd : y.cls = CN ∧ y.cls ≠ "java/lang/invoke/MethodHandle" ∧ y.cls ≠ "java/lang/invoke/VarHandle" ∧ (parseMethodDescriptor y.desc).map (fun d => d.parameters.length) = some n)
    (hRf : rm.frames + 1 ≤ R0.frames ∧ 8 + (maxL + 11) + rm.locals ≤ R0.locals) (hcap : cs + rm.cells ≤ R0.cells ∧ sl + rm.slots ≤ R0.slots) {cs2 sl2 : Nat} (hcs : cs + rm.cells = cs2) (hsl : sl + rm.slots = sl2) (hc : vwCl[ci]? = some (CN, T, N)) (hci : ci ≠ 99) (hn : As.length = n) (hst : st0 = As.reverse ++ .ref b :: st) (hrm : (st.map fun v => v.category).sum ≤ 8) (d : decode cc pc = .ok (.invokevirtual ix, 3))
    (h : ((obj F b ci).bind fun _ => o.bind f) = some res) (K : ∀ q, f q = some res → Wp C cs2 sl2 (pc + 3) lv (st) q) : Wp C cs sl pc lv st0 F := by
  obtain ⟨p, l, e, R, s, m, args, below, meth, c, Q, D, cy, A, nL⟩ := C
  obtain ⟨hx, hb, hml, hown, hts, hK, hA, hr, hlk, hR, hn0⟩ := X
  obtain ⟨rfl, rfl, rfl⟩ := hcd
  intro L H locs ls hw hl
  subst hst
  subst hR
  subst hcs
  subst hsl
  obtain ⟨fs, h0, h1⟩ := bnd h
  obtain ⟨q, h3, h2⟩ := bnd h1
  have e := obj_eq h0
  obtain ⟨k, hk⟩ := va_pl_get (X := ([] : va_W)) (f := fun a => toE cy (F a)) (wo_mem hw (ne_jk_r e hci))
  have hFc := wo_free hw hA
  refine va_callv (va_runV (As := As) (rest := st) ⟨hx, hb, hml, hown, hts⟩ (hM q h3 L H.size) (cwV n hts (good_V k1 k2 k3 k4 k5) rfl rfl rfl hd hRf) ⟨pre0_blind, va_recv hK hw.2.1 hc (hk.trans (by simp only [e]; rfl)), fun U hU hW => ⟨rfl, by rw [hU], hw.1, by rw [hU]; exact hw.2.1, va_K.moved hW.alike hK, hw.2.2.1.weaken (fun _ _ _ _ => trivial)⟩⟩ rfl hn hl.1 rfl (lv_room hrm) d hcap) hw.2.2.2 (fun q _ h => hFc q h) hFc (fun u t H1 locs1 ht hvm hw1 hB hz1 hk1 hS => ?_)
  subst hw1
  obtain ⟨L', g0, g1, g2, g3⟩ := hB
  rw [ht] at g1
  exact K _ h2 L' H1 locs1 ls ⟨g0, g1, g3.weaken (fun k q hk ha => hFc _ ha), hS⟩ hl
theorem wp_callSV (X : Fx C cc own rt R0 n0) {y : MethodName} {rm : Room} {ix n maxL : Nat} {bytes : ByteArray} {ret : Option FieldType} (As : List Value) {o : Option (Mem)} {β : Type} {f : Mem → Option β} {res : β} {l0 : Launch} {D0 : va_G} {cy0 : Nat → ClassId} (hcd : CD C l0 D0 cy0)
    (hM : ∀ q, o = some q → MV l0 y bytes maxL ret rm D0 cy0 F As q) (k1 : Cond.methodLink own ix y ∈ BIG) (k2 : Cond.static y ∈ BIG) (k4 : Cond.initialized y.cls ∈ BIG) (k5 : Cond.code y bytes maxL ret ∈ BIG) (hd : y.cls ≠ "java/lang/invoke/MethodHandle" ∧ y.cls ≠ "java/lang/invoke/VarHandle" ∧ (parseMethodDescriptor y.desc).map (fun d => d.parameters.length) = some n)
    (hRf : rm.frames + 1 ≤ R0.frames ∧ 8 + (maxL + 11) + rm.locals ≤ R0.locals) (hcap : cs + rm.cells ≤ R0.cells ∧ sl + rm.slots ≤ R0.slots) {cs2 sl2 : Nat} (hcs : cs + rm.cells = cs2) (hsl : sl + rm.slots = sl2) (hn : As.length = n) (hst : st0 = As.reverse ++ st) (hrm : (st.map fun v => v.category).sum ≤ 8) (d : decode cc pc = .ok (.invokestatic ix, 3))
    (h : o.bind f = some res) (K : ∀ q, f q = some res → Wp C cs2 sl2 (pc + 3) lv (st) q) : Wp C cs sl pc lv st0 F := by
  obtain ⟨p, l, e, R, s, m, args, below, meth, c, Q, D, cy, A, nL⟩ := C
  obtain ⟨hx, hb, hml, hown, hts, hK, hA, hr, hlk, hR, hn0⟩ := X
  obtain ⟨rfl, rfl, rfl⟩ := hcd
  intro L H locs ls hw hl
  subst hst
  subst hR
  subst hcs
  subst hsl
  obtain ⟨q, h3, h2⟩ := bnd h
  have hFc := wo_free hw hA
  refine va_callv (va_runS (As := As) (rest := st) ⟨hx, hb, hml, hown, hts⟩ (hM q h3 L H.size) (va_cwS n hts (good_S k1 k2 k4 k5) rfl rfl rfl hd hRf) ⟨pre0_blind, fun U hU hW => ⟨rfl, by rw [hU], hw.1, by rw [hU]; exact hw.2.1, va_K.moved hW.alike hK, hw.2.2.1.weaken (fun _ _ _ _ => trivial)⟩⟩ rfl hn hl.1 rfl (lv_room hrm) d hcap) hw.2.2.2 (fun q _ h => hFc q h) hFc (fun u t H1 locs1 ht hvm hw1 hB hz1 hk1 hS => ?_)
  subst hw1
  obtain ⟨L', g0, g1, g2, g3⟩ := hB
  rw [ht] at g1
  exact K _ h2 L' H1 locs1 ls ⟨g0, g1, g3.weaken (fun k q hk ha => hFc _ ha), hS⟩ hl
end CALLS
