section THROWS
def stx : List (Nat × String) := [(289, "no such slot"), (115, "no shape here has so many boxes"), (126, "no shape has this rank"), (135, "the shape has too many rows"), (292, "no such word"), (174, "Q is away"), (200, "the reading of P is no word"), (215, "no such order, or no skew shape"), (218, "the word has not as many letters as the filling boxes"), (227, "the filling is not column-strict"), (235, "P is not standard"), (277, "the shapes have not as many boxes"), (279, "the shapes have too many boxes")]
abbrev nmx : List String := ["java/lang/RuntimeException", "java/lang/Exception"]
def ngw : List Cond := [.declares ⟨"java/lang/RuntimeException", "<init>", "(Ljava/lang/String;)V"⟩, .declares ⟨"java/lang/Exception", "<init>", "(Ljava/lang/String;)V"⟩, .declares ⟨"java/lang/Throwable", "<init>", "(Ljava/lang/String;)V"⟩, .castable "java/lang/IndexOutOfBoundsException" "java/lang/IndexOutOfBoundsException", .castable "java/lang/IllegalArgumentException" "java/lang/IllegalArgumentException", .castable "java/lang/UnsupportedOperationException" "java/lang/UnsupportedOperationException", .castable "java/lang/IllegalStateException" "java/lang/IllegalStateException", .castable "java/util/NoSuchElementException" "java/util/NoSuchElementException"]
theorem xg291 : ∀ w ∈ (vx_atS RX9 291 "java/lang/IndexOutOfBoundsException" nmx).filter goodWord, w ∈ BIG := by decide +kernel
theorem xn291 : ∀ w ∈ (vx_atS RX9 291 "java/lang/IndexOutOfBoundsException" nmx).filter (fun w => !goodWord w), w ∈ ngw := by decide +kernel
theorem xo291 : ∀ w ∈ vx_atS RX9 291 "java/lang/IndexOutOfBoundsException" nmx, vx_ot w = true := by decide +kernel
theorem xg117 : ∀ w ∈ (vx_atS RX9 117 "java/lang/IllegalArgumentException" nmx).filter goodWord, w ∈ BIG := by decide +kernel
theorem xn117 : ∀ w ∈ (vx_atS RX9 117 "java/lang/IllegalArgumentException" nmx).filter (fun w => !goodWord w), w ∈ ngw := by decide +kernel
theorem xo117 : ∀ w ∈ vx_atS RX9 117 "java/lang/IllegalArgumentException" nmx, vx_ot w = true := by decide +kernel
theorem xg137 : ∀ w ∈ (vx_atS RX9 137 "java/lang/UnsupportedOperationException" nmx).filter goodWord, w ∈ BIG := by decide +kernel
theorem xn137 : ∀ w ∈ (vx_atS RX9 137 "java/lang/UnsupportedOperationException" nmx).filter (fun w => !goodWord w), w ∈ ngw := by decide +kernel
theorem xo137 : ∀ w ∈ vx_atS RX9 137 "java/lang/UnsupportedOperationException" nmx, vx_ot w = true := by decide +kernel
theorem xg176 : ∀ w ∈ (vx_atS RX9 176 "java/lang/IllegalStateException" nmx).filter goodWord, w ∈ BIG := by decide +kernel
theorem xn176 : ∀ w ∈ (vx_atS RX9 176 "java/lang/IllegalStateException" nmx).filter (fun w => !goodWord w), w ∈ ngw := by decide +kernel
theorem xo176 : ∀ w ∈ vx_atS RX9 176 "java/lang/IllegalStateException" nmx, vx_ot w = true := by decide +kernel
theorem ngw_f : ∀ w ∈ ngw, w.faceAtom = true ∧ w.onTables = true := by decide +kernel
theorem ng_move {w : Cond} (h0 : w ∈ ngw) {u U : State} (hvm : u.vm.Alike U.vm) (h : w.before #[] u = true) : w.before #[] U = true := by
  obtain ⟨hf, ho⟩ := ngw_f w h0
  have h1 := Cond.faceAtom_setVm (args := #[]) (s := u) (vm' := U.vm) hvm w hf h
  rw [Cond.onTables_vm (A := #[]) (A' := #[]) (U := u) (U' := U) U.vm w ho] at h1
  rwa [State.setVm_self] at h1
/-- what a throw rests on -/
def TH (A : Nat → Prop) (U : State) (H : Heap) : Prop := vx_Zq Bundle.tN "UNASSIGNED_STACK" Bundle.steD A U H ∧ vx_Zq Bundle.tN "SUPPRESSED_SENTINEL" Bundle.listD A U H ∧ (∀ q ∈ stx, ∃ sa, vk_R RX9 q.1 q.2 sa U) ∧ ∀ w ∈ ngw, w.before #[] U = true
theorem TH.call {A A1 : Nat → Prop} {s U : State} {H : Heap} {locs : List Loc} (h : TH A s s.heap) (hS : va_S A s.heap H locs) (hW : s.WarmedH U.vm) (hU : U.heap = H) (hA1 : ∀ q, A1 q → A q) : TH A1 U U.heap := by
  obtain ⟨h1, h2, h3, h4⟩ := h
  rw [hU]
  refine ⟨vx_Zq.moved hW.alike ((h1.kept hS.2.1).narrow hA1), vx_Zq.moved hW.alike ((h2.kept hS.2.1).narrow hA1), fun q hq => ?_, fun w hw => ng_move hw hW.alike (h4 w hw)⟩
  obtain ⟨sa, hsa⟩ := h3 q hq
  exact ⟨sa, vk_R.warm hW hsa⟩
theorem TH.blind {A : Nat → Prop} {U : State} {g : JFrame} {mk : MethodId} {a : Array Value} (h : TH A U U.heap) : TH A (U.calling g mk a) (U.calling g mk a).heap := by
  obtain ⟨h1, h2, h3, h4⟩ := h
  refine ⟨vx_Zq.moved (u := U) (U := U.calling g mk a) (Vm.Alike.refl U.vm) h1, vx_Zq.moved (u := U) (U := U.calling g mk a) (Vm.Alike.refl U.vm) h2, fun q hq => ?_, fun w hw => ng_move (u := U) (U := U.calling g mk a) hw (Vm.Alike.refl U.vm) (h4 w hw)⟩
  obtain ⟨sa, hsa⟩ := h3 q hq
  exact ⟨sa, vk_R.same (u := U) (U := U.calling g mk a) rfl hsa⟩
def TT (C : Cx) : Prop := match C with
  | (p, l, e, R, s, m, args, below, meth, c, Q, D, cy, A, nL) => l.stackTraces = false ∧ TH A s s.heap ∧ ∀ x ∈ c.exceptionTable.toList, False
def Pre1 (D : va_G) (cy : Nat → ClassId) (L : List Nat) (F : Mem) (sz : Nat) (U : State) : Prop := Pre0 D cy L F sz U ∧ TH (va_A (pw cy L F) sz) U U.heap
theorem pre1_blind {av : List Value} {D : va_G} {cy : Nat → ClassId} {L : List Nat} {F : Mem} {sz : Nat} : FrameBlind (va_Pc av (Pre1 D cy L F sz)) := fun a U g mk q => ⟨q.1, (pre0_blind a U g mk ⟨q.1, q.2.1⟩).2, q.2.2.blind⟩
abbrev XE (D : va_G) (cy : Nat → ClassId) (A : Nat → Prop) (rE : String → Mem → Prop) : String → State → State → Prop := vx_X (fun _ : Mem => True) (fun E F' t => rE E F' ∧ Post0 D cy A F' t) A
def thn {R R' : Type} (o : Option ((String ⊕ R) × Mem)) (f : R → Mem → Option ((String ⊕ R') × Mem)) : Option ((String ⊕ R') × Mem) := o.bind fun q => match q.1 with
  | .inl E => some (.inl E, q.2)
  | .inr v => f v q.2
theorem thn_l {R R' : Type} {E : String} {F : Mem} {f : R → Mem → Option ((String ⊕ R') × Mem)} : thn (some (.inl E, F)) f = some (.inl E, F) := rfl
theorem thn_r {R R' : Type} {v : R} {F : Mem} {f : R → Mem → Option ((String ⊕ R') × Mem)} : thn (some (.inr v, F)) f = f v F := rfl
def TQX (C : Cx) (mc ms : Nat) (rE : String → Mem → Prop) : Prop := match C with
  | (p, l, e, R, s, m, args, below, meth, c, Q, D, cy, A, nL) => ∃ Qc, Q = vx_MQ below Qc (XE D cy A rE) args s mc ms A

def TI (l : Launch) (y : MethodName) (cc : ByteArray) (n : Nat) (ret : Option FieldType) (rm : Room) (D : va_G) (cy : Nat → ClassId) (F : Mem) (av : List Value) (res : (String ⊕ Int32) × Mem) : Prop := ∀ (L : List Nat) (sz : Nat), vx_Met l y (wsy y cc n ret) rm (va_Pc av (Pre1 D cy L F sz)) (va_Qi (fun r F' => (Sum.inr r, F') = res) (Post0 D cy (va_A (pw cy L F) sz)) (va_A (pw cy L F) sz)) (XE D cy (va_A (pw cy L F) sz) (fun E F' => (Sum.inl E, F') = res)) rm.cells rm.slots (va_A (pw cy L F) sz)
def TQI (C : Cx) (mc ms : Nat) (res : (String ⊕ Int32) × Mem) : Prop := match C with
  | (p, l, e, R, s, m, args, below, meth, c, Q, D, cy, A, nL) => Q = vx_MQ below (va_Qi (fun r F' => (Sum.inr r, F') = res) (Post0 D cy A) A) (XE D cy A (fun E F' => (Sum.inl E, F') = res)) args s mc ms A
theorem TQI.x {C : Cx} {mc ms : Nat} {res : (String ⊕ Int32) × Mem} (h : TQI C mc ms res) : TQX C mc ms (fun E F' => (Sum.inl E, F') = res) := by
  obtain ⟨p, l, e, R, s, m, args, below, meth, c, Q, D, cy, A, nL⟩ := C
  exact ⟨_, h⟩
theorem ti_of {l : Launch} {y : MethodName} {rm : Room} {D : va_G} {cy : Nat → ClassId} {F : Mem} {av : List Value} {res : (String ⊕ Int32) × Mem} {cc : ByteArray} {maxL : Nat} {ret : Option FieldType} (hst : l.stackTraces = false) (hy : plainName y.cls = true) (hlen : (lg_sl av).length ≤ maxL) (lv : List (Nat × Value)) (hlv : lv_args 0 av = lv)
    (body : ∀ C : Cx, Fx C cc y.cls ret rm maxL → CD C l D cy → TT C → TQI C rm.cells rm.slots res → Wp C 0 0 0 lv [] F) : TI l y cc maxL ret rm D cy F av res := by
  intro L sz
  refine vx_ofW (cc := cc) (maxL := maxL) (ret := ret) hy rfl ?_
  intro p e s m args below meth c s₁ B hml htab hv
  obtain ⟨rfl, ⟨hsz, h0, hP, hK, hD0⟩, hTH⟩ := hv
  subst hsz
  have hl := lv_entry av (n := maxL) hlen
  rw [lg_entry_eq]
  rw [hlv] at hl
  exact body (p, l, e, rm, s, m, av.toArray, below, meth, c, _, D, cy, va_A (pw cy L F) s.heap.size, maxL)
    ⟨B.exec, B.bytes, hml, findClass_of_methodNamed B.named, fun w h9 => atoms_spec (ws := wsy y cc maxL ret) B.pre w (List.mem_cons_of_mem _ h9), hK, fun q h => Or.inr h, B.returns, B.notSynchronized, rfl, rfl⟩ ⟨rfl, rfl, rfl⟩ ⟨hst, hTH, htab⟩ rfl
    L s.heap [] _ ⟨h0, hP, hD0.self (sz := s.heap.size), va_S.rf⟩ hl
def TL (l : Launch) (y : MethodName) (cc : ByteArray) (n : Nat) (ret : Option FieldType) (rm : Room) (D : va_G) (cy : Nat → ClassId) (F : Mem) (av : List Value) (res : (String ⊕ Int64) × Mem) : Prop := ∀ (L : List Nat) (sz : Nat), vx_Met l y (wsy y cc n ret) rm (va_Pc av (Pre1 D cy L F sz)) (va_Ql (fun r F' => (Sum.inr r, F') = res) (Post0 D cy (va_A (pw cy L F) sz)) (va_A (pw cy L F) sz)) (XE D cy (va_A (pw cy L F) sz) (fun E F' => (Sum.inl E, F') = res)) rm.cells rm.slots (va_A (pw cy L F) sz)
def TQL (C : Cx) (mc ms : Nat) (res : (String ⊕ Int64) × Mem) : Prop := match C with
  | (p, l, e, R, s, m, args, below, meth, c, Q, D, cy, A, nL) => Q = vx_MQ below (va_Ql (fun r F' => (Sum.inr r, F') = res) (Post0 D cy A) A) (XE D cy A (fun E F' => (Sum.inl E, F') = res)) args s mc ms A
theorem TQL.x {C : Cx} {mc ms : Nat} {res : (String ⊕ Int64) × Mem} (h : TQL C mc ms res) : TQX C mc ms (fun E F' => (Sum.inl E, F') = res) := by
  obtain ⟨p, l, e, R, s, m, args, below, meth, c, Q, D, cy, A, nL⟩ := C
  exact ⟨_, h⟩
theorem tl_of {l : Launch} {y : MethodName} {rm : Room} {D : va_G} {cy : Nat → ClassId} {F : Mem} {av : List Value} {res : (String ⊕ Int64) × Mem} {cc : ByteArray} {maxL : Nat} {ret : Option FieldType} (hst : l.stackTraces = false) (hy : plainName y.cls = true) (hlen : (lg_sl av).length ≤ maxL) (lv : List (Nat × Value)) (hlv : lv_args 0 av = lv)
    (body : ∀ C : Cx, Fx C cc y.cls ret rm maxL → CD C l D cy → TT C → TQL C rm.cells rm.slots res → Wp C 0 0 0 lv [] F) : TL l y cc maxL ret rm D cy F av res := by
  intro L sz
  refine vx_ofW (cc := cc) (maxL := maxL) (ret := ret) hy rfl ?_
  intro p e s m args below meth c s₁ B hml htab hv
  obtain ⟨rfl, ⟨hsz, h0, hP, hK, hD0⟩, hTH⟩ := hv
  subst hsz
  have hl := lv_entry av (n := maxL) hlen
  rw [lg_entry_eq]
  rw [hlv] at hl
  exact body (p, l, e, rm, s, m, av.toArray, below, meth, c, _, D, cy, va_A (pw cy L F) s.heap.size, maxL)
    ⟨B.exec, B.bytes, hml, findClass_of_methodNamed B.named, fun w h9 => atoms_spec (ws := wsy y cc maxL ret) B.pre w (List.mem_cons_of_mem _ h9), hK, fun q h => Or.inr h, B.returns, B.notSynchronized, rfl, rfl⟩ ⟨rfl, rfl, rfl⟩ ⟨hst, hTH, htab⟩ rfl
    L s.heap [] _ ⟨h0, hP, hD0.self (sz := s.heap.size), va_S.rf⟩ hl
def TV (l : Launch) (y : MethodName) (cc : ByteArray) (n : Nat) (ret : Option FieldType) (rm : Room) (D : va_G) (cy : Nat → ClassId) (F : Mem) (av : List Value) (res : (String ⊕ Unit) × Mem) : Prop := ∀ (L : List Nat) (sz : Nat), vx_Met l y (wsy y cc n ret) rm (va_Pc av (Pre1 D cy L F sz)) (va_Qv (fun F' => (Sum.inr (), F') = res) (Post0 D cy (va_A (pw cy L F) sz)) (va_A (pw cy L F) sz)) (XE D cy (va_A (pw cy L F) sz) (fun E F' => (Sum.inl E, F') = res)) rm.cells rm.slots (va_A (pw cy L F) sz)
def TQV (C : Cx) (mc ms : Nat) (res : (String ⊕ Unit) × Mem) : Prop := match C with
  | (p, l, e, R, s, m, args, below, meth, c, Q, D, cy, A, nL) => Q = vx_MQ below (va_Qv (fun F' => (Sum.inr (), F') = res) (Post0 D cy A) A) (XE D cy A (fun E F' => (Sum.inl E, F') = res)) args s mc ms A
theorem TQV.x {C : Cx} {mc ms : Nat} {res : (String ⊕ Unit) × Mem} (h : TQV C mc ms res) : TQX C mc ms (fun E F' => (Sum.inl E, F') = res) := by
  obtain ⟨p, l, e, R, s, m, args, below, meth, c, Q, D, cy, A, nL⟩ := C
  exact ⟨_, h⟩
theorem tv_of {l : Launch} {y : MethodName} {rm : Room} {D : va_G} {cy : Nat → ClassId} {F : Mem} {av : List Value} {res : (String ⊕ Unit) × Mem} {cc : ByteArray} {maxL : Nat} {ret : Option FieldType} (hst : l.stackTraces = false) (hy : plainName y.cls = true) (hlen : (lg_sl av).length ≤ maxL) (lv : List (Nat × Value)) (hlv : lv_args 0 av = lv)
    (body : ∀ C : Cx, Fx C cc y.cls ret rm maxL → CD C l D cy → TT C → TQV C rm.cells rm.slots res → Wp C 0 0 0 lv [] F) : TV l y cc maxL ret rm D cy F av res := by
  intro L sz
  refine vx_ofW (cc := cc) (maxL := maxL) (ret := ret) hy rfl ?_
  intro p e s m args below meth c s₁ B hml htab hv
  obtain ⟨rfl, ⟨hsz, h0, hP, hK, hD0⟩, hTH⟩ := hv
  subst hsz
  have hl := lv_entry av (n := maxL) hlen
  rw [lg_entry_eq]
  rw [hlv] at hl
  exact body (p, l, e, rm, s, m, av.toArray, below, meth, c, _, D, cy, va_A (pw cy L F) s.heap.size, maxL)
    ⟨B.exec, B.bytes, hml, findClass_of_methodNamed B.named, fun w h9 => atoms_spec (ws := wsy y cc maxL ret) B.pre w (List.mem_cons_of_mem _ h9), hK, fun q h => Or.inr h, B.returns, B.notSynchronized, rfl, rfl⟩ ⟨rfl, rfl, rfl⟩ ⟨hst, hTH, htab⟩ rfl
    L s.heap [] _ ⟨h0, hP, hD0.self (sz := s.heap.size), va_S.rf⟩ hl
def TR (l : Launch) (y : MethodName) (cc : ByteArray) (n : Nat) (ret : Option FieldType) (rm : Room) (D : va_G) (cy : Nat → ClassId) (F : Mem) (av : List Value) (res : (String ⊕ Nat) × Mem) : Prop := ∀ (L : List Nat) (sz : Nat), vx_Met l y (wsy y cc n ret) rm (va_Pc av (Pre1 D cy L F sz)) (va_Qr (fun _ : Mem => True) (fun F' r t => (Sum.inr r, F') = res ∧ Post0 D cy (va_A (pw cy L F) sz) F' t) (va_A (pw cy L F) sz)) (XE D cy (va_A (pw cy L F) sz) (fun E F' => (Sum.inl E, F') = res)) rm.cells rm.slots (va_A (pw cy L F) sz)
def TQR (C : Cx) (mc ms : Nat) (res : (String ⊕ Nat) × Mem) : Prop := match C with
  | (p, l, e, R, s, m, args, below, meth, c, Q, D, cy, A, nL) => Q = vx_MQ below (va_Qr (fun _ : Mem => True) (fun F' r t => (Sum.inr r, F') = res ∧ Post0 D cy A F' t) A) (XE D cy A (fun E F' => (Sum.inl E, F') = res)) args s mc ms A
theorem TQR.x {C : Cx} {mc ms : Nat} {res : (String ⊕ Nat) × Mem} (h : TQR C mc ms res) : TQX C mc ms (fun E F' => (Sum.inl E, F') = res) := by
  obtain ⟨p, l, e, R, s, m, args, below, meth, c, Q, D, cy, A, nL⟩ := C
  exact ⟨_, h⟩
theorem tr_of {l : Launch} {y : MethodName} {rm : Room} {D : va_G} {cy : Nat → ClassId} {F : Mem} {av : List Value} {res : (String ⊕ Nat) × Mem} {cc : ByteArray} {maxL : Nat} {ret : Option FieldType} (hst : l.stackTraces = false) (hy : plainName y.cls = true) (hlen : (lg_sl av).length ≤ maxL) (lv : List (Nat × Value)) (hlv : lv_args 0 av = lv)
    (body : ∀ C : Cx, Fx C cc y.cls ret rm maxL → CD C l D cy → TT C → TQR C rm.cells rm.slots res → Wp C 0 0 0 lv [] F) : TR l y cc maxL ret rm D cy F av res := by
  intro L sz
  refine vx_ofW (cc := cc) (maxL := maxL) (ret := ret) hy rfl ?_
  intro p e s m args below meth c s₁ B hml htab hv
  obtain ⟨rfl, ⟨hsz, h0, hP, hK, hD0⟩, hTH⟩ := hv
  subst hsz
  have hl := lv_entry av (n := maxL) hlen
  rw [lg_entry_eq]
  rw [hlv] at hl
  exact body (p, l, e, rm, s, m, av.toArray, below, meth, c, _, D, cy, va_A (pw cy L F) s.heap.size, maxL)
    ⟨B.exec, B.bytes, hml, findClass_of_methodNamed B.named, fun w h9 => atoms_spec (ws := wsy y cc maxL ret) B.pre w (List.mem_cons_of_mem _ h9), hK, fun q h => Or.inr h, B.returns, B.notSynchronized, rfl, rfl⟩ ⟨rfl, rfl, rfl⟩ ⟨hst, hTH, htab⟩ rfl
    L s.heap [] _ ⟨h0, hP, hD0.self (sz := s.heap.size), va_S.rf⟩ hl
variable {C : Cx} {cc : ByteArray} {own : String} {rt : Option FieldType} {R0 : Room} {n0 cs sl pc mc ms : Nat} {lv : List (Nat × Value)} {st st0 : List Value} {F : Mem}
theorem wp_ireturnT (X : Fx C cc own rt R0 n0) {ty : FieldType} {v : Int32} {res : (String ⊕ Int32) × Mem} (Qr : TQI C mc ms res) (hc : cs ≤ mc) (hs : sl ≤ ms) (hrt : rt = some ty) (hn : narrow ty (.int v) = .int v) (d : decode cc pc = .ok (.ireturn, 1)) (h : some (Sum.inr v, F) = some res) : Wp C cs sl pc lv [.int v] F := by
  obtain ⟨p, l, e, R, s, m, args, below, meth, c, Q, D, cy, A, nL⟩ := C
  obtain ⟨hx, hb, hml, hown, hts, hK, hA, hr, hlk, hR, hn0⟩ := X
  intro L H locs ls hw hl
  cases Qr
  have e9 := Option.some.inj h
  exact W.widen hc hs (vx_ret (W.zret hx hb (hr.trans hrt) hn (fun t ht hW => ⟨⟨v, F, rfl, e9, L, hw.1, by rw [ht]; exact hw.2.1, va_K.moved hW.alike hK, hw.2.2.1⟩, hw.2.2.2.F ht⟩) hw.2.2.2.2.2 d hlk))
theorem wp_lreturnT (X : Fx C cc own rt R0 n0) {v : Int64} {res : (String ⊕ Int64) × Mem} (Qr : TQL C mc ms res) (hc : cs ≤ mc) (hs : sl ≤ ms) (hrt : rt = some .long) (d : decode cc pc = .ok (.lreturn, 1)) (h : some (Sum.inr v, F) = some res) : Wp C cs sl pc lv [.long v] F := by
  obtain ⟨p, l, e, R, s, m, args, below, meth, c, Q, D, cy, A, nL⟩ := C
  obtain ⟨hx, hb, hml, hown, hts, hK, hA, hr, hlk, hR, hn0⟩ := X
  intro L H locs ls hw hl
  cases Qr
  have e9 := Option.some.inj h
  exact W.widen hc hs (vx_ret (W.lret hx hb (hr.trans hrt) (fun t ht hW => ⟨⟨v, F, rfl, e9, L, hw.1, by rw [ht]; exact hw.2.1, va_K.moved hW.alike hK, hw.2.2.1⟩, hw.2.2.2.F ht⟩) hw.2.2.2.2.2 d hlk))
theorem wp_returnT (X : Fx C cc own rt R0 n0) {res : (String ⊕ Unit) × Mem} (Qr : TQV C mc ms res) (hc : cs ≤ mc) (hs : sl ≤ ms) (hrt : rt = none) (d : decode cc pc = .ok (.return_, 1)) (h : some (Sum.inr (), F) = some res) : Wp C cs sl pc lv [] F := by
  obtain ⟨p, l, e, R, s, m, args, below, meth, c, Q, D, cy, A, nL⟩ := C
  obtain ⟨hx, hb, hml, hown, hts, hK, hA, hr, hlk, hR, hn0⟩ := X
  intro L H locs ls hw hl
  cases Qr
  have e9 := Option.some.inj h
  exact W.widen hc hs (vx_ret (W.vret hx hb (hr.trans hrt) (fun t ht hW => ⟨⟨F, rfl, e9, L, hw.1, by rw [ht]; exact hw.2.1, va_K.moved hW.alike hK, hw.2.2.1⟩, hw.2.2.2.F ht⟩) hw.2.2.2.2.2 d hlk))
theorem wp_areturnT (X : Fx C cc own rt R0 n0) {CN : String} {v : Nat} {res : (String ⊕ Nat) × Mem} (Qr : TQR C mc ms res) (hc : cs ≤ mc) (hs : sl ≤ ms) (hrt : rt = some (.object CN)) (d : decode cc pc = .ok (.areturn, 1)) (h : some (Sum.inr v, F) = some res) : Wp C cs sl pc lv [.ref v] F := by
  obtain ⟨p, l, e, R, s, m, args, below, meth, c, Q, D, cy, A, nL⟩ := C
  obtain ⟨hx, hb, hml, hown, hts, hK, hA, hr, hlk, hR, hn0⟩ := X
  intro L H locs ls hw hl
  cases Qr
  have e9 := Option.some.inj h
  exact W.widen hc hs (vx_ret (W.aret hx hb (hr.trans hrt) (Or.inl ⟨CN, rfl⟩) (Or.inr ⟨v, rfl⟩) (fun t ht hW => ⟨⟨F, v, rfl, trivial, e9, L, hw.1, by rw [ht]; exact hw.2.1, va_K.moved hW.alike hK, hw.2.2.1⟩, hw.2.2.2.F ht⟩) hw.2.2.2.2.2 d hlk))
theorem wp_throwS (X : Fx C cc own rt R0 n0) (Tt : TT C) {rE : String → Mem → Prop} (Qr : TQX C mc ms rE) {cls text : String} {ik is ic : Nat} (ho : own = RX9) (hcls : Bundle.fit cls = true) (k1 : Cond.classLink own ik cls ∈ BIG) (k2 : Cond.initialized cls ∈ BIG) (hst : (is, text) ∈ stx) (hg : ∀ w ∈ (vx_atS RX9 ic cls nmx).filter goodWord, w ∈ BIG) (hn : ∀ w ∈ (vx_atS RX9 ic cls nmx).filter (fun w => !goodWord w), w ∈ ngw) (hot : ∀ w ∈ vx_atS RX9 ic cls nmx, vx_ot w = true)
    (d0 : decode cc pc = .ok (.new ik, 3)) (d3 : decode cc (pc + 3) = .ok (.dup, 1)) (d4 : decode cc (pc + 4) = .ok (.ldc is, 2)) (d6 : decode cc (pc + 6) = .ok (.invokespecial ic, 3)) (d9 : decode cc (pc + 9) = .ok (.athrow, 1))
    (hf1 : 5 < R0.frames) (hf2 : (st.map fun v => v.category).sum + 82 ≤ R0.locals) (hf3 : cs + 1 ≤ R0.cells) (hf4 : sl + 6 ≤ R0.slots) (hc : cs + 1 ≤ mc) (hs : sl + 6 ≤ ms) (h : rE cls F) : Wp C cs sl pc lv st F := by
  obtain ⟨p, l, e, R, s, m, args, below, meth, c, Q, D, cy, A, nL⟩ := C
  obtain ⟨hx, hb, hml, hown, hts, hK, hA, hr, hlk, hR, hn0⟩ := X
  obtain ⟨hst0, hTH, htab⟩ := Tt
  intro L H locs ls hw hl
  obtain ⟨Qc, rfl⟩ := Qr
  subst ho
  subst hR
  obtain ⟨sa, hsa⟩ := hTH.2.2.1 _ hst
  refine vx_throwS hx hb hst0 (own := RX9) (cls := cls) (text := text) (names := nmx) (ik := ik) (is := is) (ic := ic) (sa := sa) (A := A) hown hcls (by decide) (hts _ k1) (hts _ k2) hsa (vx_hat (fun w hw9 => hts _ (hg w hw9)) hn (fun w hw9 => va_any (ngw_f w hw9).2 (hTH.2.2.2 w hw9))) (fun w hw9 => ?_) hTH.1 hTH.2.1 hw.2.2.2 (by rw [hl.1, hml]) d0 d3 d4 d6 d9 (fun x hx9 => (htab x hx9).elim) (by show 2 + 3 < _; omega) (by show _ + (13 * (2 + 1) + 43) ≤ _; omega) hf3 hf4 hlk (fun t hal hsz hkp => ?_) hw.2.2.2.2.2 hc hs
  · rcases List.mem_cons.mp hw9 with rfl | hw9
    · rfl
    · rcases List.mem_cons.mp hw9 with rfl | hw9
      · rfl
      · exact hot w hw9
  · refine ⟨F, trivial, ⟨h, L, hw.1, ?_, va_K.moved hal hK, hw.2.2.1⟩, ?_, ?_⟩
    · exact hw.2.1.kept (fun k q hk => hkp q.1 ((hw.2.1 k q hk).lt))
    · exact Nat.le_trans hw.2.2.2.1 hsz
    · intro q h1 h2
      rw [hkp q (Nat.lt_of_lt_of_le h1 hw.2.2.2.1)]
      exact hw.2.2.2.2.1 q h1 h2
theorem wp_throwSW (X : Fx C cc own rt R0 n0) (Tt : TT C) {rE : String → Mem → Prop} (Qr : TQX C mc ms rE) {cls text : String} {ik is ic : Nat} (ho : own = RX9) (hcls : Bundle.fit cls = true) (k1 : Cond.classLink own ik cls ∈ BIG) (k2 : Cond.initialized cls ∈ BIG) (hst : (is, text) ∈ stx) (hg : ∀ w ∈ (vx_atS RX9 ic cls nmx).filter goodWord, w ∈ BIG) (hn : ∀ w ∈ (vx_atS RX9 ic cls nmx).filter (fun w => !goodWord w), w ∈ ngw) (hot : ∀ w ∈ vx_atS RX9 ic cls nmx, vx_ot w = true)
    (d0 : decode cc pc = .ok (.new ik, 3)) (d3 : decode cc (pc + 3) = .ok (.dup, 1)) (d4 : decode cc (pc + 4) = .ok (.ldc_w is, 3)) (d6 : decode cc (pc + 7) = .ok (.invokespecial ic, 3)) (d9 : decode cc (pc + 10) = .ok (.athrow, 1))
    (hf1 : 5 < R0.frames) (hf2 : (st.map fun v => v.category).sum + 82 ≤ R0.locals) (hf3 : cs + 1 ≤ R0.cells) (hf4 : sl + 6 ≤ R0.slots) (hc : cs + 1 ≤ mc) (hs : sl + 6 ≤ ms) (h : rE cls F) : Wp C cs sl pc lv st F := by
  obtain ⟨p, l, e, R, s, m, args, below, meth, c, Q, D, cy, A, nL⟩ := C
  obtain ⟨hx, hb, hml, hown, hts, hK, hA, hr, hlk, hR, hn0⟩ := X
  obtain ⟨hst0, hTH, htab⟩ := Tt
  intro L H locs ls hw hl
  obtain ⟨Qc, rfl⟩ := Qr
  subst ho
  subst hR
  obtain ⟨sa, hsa⟩ := hTH.2.2.1 _ hst
  refine vx_throwSW hx hb hst0 (own := RX9) (cls := cls) (text := text) (names := nmx) (ik := ik) (is := is) (ic := ic) (sa := sa) (A := A) hown hcls (by decide) (hts _ k1) (hts _ k2) hsa (vx_hat (fun w hw9 => hts _ (hg w hw9)) hn (fun w hw9 => va_any (ngw_f w hw9).2 (hTH.2.2.2 w hw9))) (fun w hw9 => ?_) hTH.1 hTH.2.1 hw.2.2.2 (by rw [hl.1, hml]) d0 d3 d4 d6 d9 (fun x hx9 => (htab x hx9).elim) (by show 2 + 3 < _; omega) (by show _ + (13 * (2 + 1) + 43) ≤ _; omega) hf3 hf4 hlk (fun t hal hsz hkp => ?_) hw.2.2.2.2.2 hc hs
  · rcases List.mem_cons.mp hw9 with rfl | hw9
    · rfl
    · rcases List.mem_cons.mp hw9 with rfl | hw9
      · rfl
      · exact hot w hw9
  · refine ⟨F, trivial, ⟨h, L, hw.1, ?_, va_K.moved hal hK, hw.2.2.1⟩, ?_, ?_⟩
    · exact hw.2.1.kept (fun k q hk => hkp q.1 ((hw.2.1 k q hk).lt))
    · exact Nat.le_trans hw.2.2.2.1 hsz
    · intro q h1 h2
      rw [hkp q (Nat.lt_of_lt_of_le h1 hw.2.2.2.1)]
      exact hw.2.2.2.2.1 q h1 h2
theorem vx_callr {p : Program} {l : Launch} {e : Env} {R : Room} {s : State} {m : MethodId} {args : Array Value} {below : List Frame} {meth : Method} {c : Code} {H : Heap} {locs : List Loc} {cells slots : Nat} {Q : State → Prop} {mc ms : Nat} {free : Addr → Prop} {A0 A1 : Nat → Prop} {H0 : Heap} {a : Array Value} {pc : Nat} {ls : Array Slot} {st0 rest : List Value} {S SX : Type} {post : S → Prop} {px : SX → Prop} {B : S → Nat → State → Prop} {BX : String → SX → State → Prop} {AX : Nat → Prop} (hr : vx_Run p l e R s m args below meth c H locs cells slots mc ms (F0 m pc ls st0) rest (va_Qr post B A1 a) (vx_X px BX AX) free) (hS : va_S A0 H0 H locs) (hA : ∀ q, q < H.size → A1 q → A0 q) (hf : ∀ q, free q → A0 q) (hAX : ∀ q, q < H.size → AX q → A0 q)
    (kx : ∀ (E : String) (ce : Cell) (q9 : Addr) (u : SX) (t : State) (H1 : Heap) (locs1 : List Loc), t.heap = H1 → s.vm.Alike t.vm → px u → BX E u t → H.size ≤ H1.size → (∀ q : Nat, q < H.size → ¬ AX q → H1[q]? = H[q]?) → va_S A0 H0 H1 locs1 → H1[q9]? = some ce → ce.vm = .none → s.vm.findClass E = some ce.cls → vx_W p l e R s m args below meth c H1 locs1 (cells + mc) (slots + ms) Q (F0 m pc ls rest) q9)
    (kk : ∀ (r : Nat) (u : S) (t : State) (H1 : Heap) (locs1 : List Loc), t.heap = H1 → s.vm.Alike t.vm → post u → B u r t → H.size ≤ H1.size → (∀ q : Nat, q < H.size → ¬ A1 q → H1[q]? = H[q]?) → va_S A0 H0 H1 locs1 → W p l e R s m args below meth c H1 locs1 (cells + mc) (slots + ms) Q (F0 m (pc + 3) ls (.ref r :: rest))) : W p l e R s m args below meth c H locs cells slots Q (F0 m pc ls st0) := by
  intro T hT X
  rcases hr T hT X with ⟨v, st₀, t, T', L, h0, X', hL, e1, e2, ⟨⟨u, r, hv, hp, hb⟩, hF⟩, st⟩ | ⟨q, st₀, t, T', L, E, ce, h0, X', hL, e1, e2, ⟨u, hp, hb, hF⟩, hce, hcv, hcl, st⟩
  · cases hv
    obtain ⟨k1, k2, k3⟩ := vx_keep h0 e1 hS hA hf hL hF
    obtain ⟨t2, a1, b1⟩ := kk r u t T'.heap (locs ++ L) e1.symm (by rw [← e2]; exact X'.warmed.alike) hp hb k1 k2 k3 T' rfl X'
    exact ⟨t2, st t2 a1, b1⟩
  · obtain ⟨k1, k2, k3⟩ := vx_keep h0 e1 hS hAX hf hL hF
    obtain ⟨t2, a1, b1⟩ := kx E ce q u t T'.heap (locs ++ L) e1.symm (by rw [← e2]; exact X'.warmed.alike) hp hb k1 k2 k3 (by rw [e1]; exact hce) hcv hcl T' rfl X'
    exact ⟨t2, st.trans a1, b1⟩
theorem wp_callTI (X : Fx C cc own rt R0 n0) (Tt : TT C) {R' : Type} {y : MethodName} {rm : Room} {ix n maxL ci b : Nat} {bytes : ByteArray} {ret : Option FieldType} {CN : String} {T : u_T} {N : Nat} (As : List Value) {o : Option ((String ⊕ Int32) × Mem)} {f : Int32 → Mem → Option ((String ⊕ R') × Mem)} {res : (String ⊕ R') × Mem} (Qr : TQX C mc ms (fun E F' => (Sum.inl E, F') = res)) {l0 : Launch} {D0 : va_G} {cy0 : Nat → ClassId} (hcd : CD C l0 D0 cy0)
    (hM : ∀ q, o = some q → TI l0 y bytes maxL ret rm D0 cy0 F (.ref b :: As) q) (k1 : Cond.methodLink own ix y ∈ BIG) (k2 : Cond.instanceMethod y ∈ BIG) (k3 : Cond.selects CN y y ∈ BIG) (k4 : Cond.initialized CN ∈ BIG) (k5 : Cond.code y bytes maxL ret ∈ BIG) (hd : y.cls = CN ∧ y.cls ≠ "java/lang/invoke/MethodHandle" ∧ y.cls ≠ "java/lang/invoke/VarHandle" ∧ (parseMethodDescriptor y.desc).map (fun d => d.parameters.length) = some n)
    (hRf : rm.frames + 1 ≤ R0.frames ∧ 8 + (maxL + 11) + rm.locals ≤ R0.locals) (hcap : cs + rm.cells ≤ R0.cells ∧ sl + rm.slots ≤ R0.slots) {cs2 sl2 : Nat} (hcs : cs + rm.cells = cs2) (hsl : sl + rm.slots = sl2) (hmc : cs2 ≤ mc) (hms : sl2 ≤ ms) (hc : vwCl[ci]? = some (CN, T, N)) (hci : ci ≠ 99) (hn : As.length = n) (hst : st0 = As.reverse ++ .ref b :: st) (hrm : (st.map fun v => v.category).sum ≤ 8) (d : decode cc pc = .ok (.invokevirtual ix, 3))
    (h : ((obj F b ci).bind fun _ => thn o f) = some res) (K : ∀ v F', f v F' = some res → Wp C cs2 sl2 (pc + 3) lv (.int v :: st) F') : Wp C cs sl pc lv st0 F := by
  obtain ⟨p, l, e, R, s, m, args, below, meth, c, Q, D, cy, A, nL⟩ := C
  obtain ⟨hx, hb, hml, hown, hts, hK, hA, hr, hlk, hR, hn0⟩ := X
  obtain ⟨hst0, hTH, htab⟩ := Tt
  obtain ⟨rfl, rfl, rfl⟩ := hcd
  obtain ⟨Qc, rfl⟩ := Qr
  intro L H locs ls hw hl
  subst hst
  subst hR
  subst hcs
  subst hsl
  obtain ⟨fs, h0, h1⟩ := bnd h
  have e := obj_eq h0
  obtain ⟨k, hk⟩ := va_pl_get (X := ([] : va_W)) (f := fun a => toE cy (F a)) (wo_mem hw (ne_jk_r e hci))
  have hFc := wo_free hw hA
  obtain ⟨q, h3, -⟩ := bnd h1
  refine vx_calli (vx_runV (As := As) (rest := st) ⟨hx, hb, hml, hown, hts⟩ (hM q h3 L H.size) (cwV n hts (good_V k1 k2 k3 k4 k5) rfl rfl rfl hd hRf) ⟨pre1_blind, va_recv hK hw.2.1 hc (hk.trans (by simp only [e]; rfl)), fun U hU hW => ⟨rfl, ⟨by rw [hU], hw.1, by rw [hU]; exact hw.2.1, va_K.moved hW.alike hK, hw.2.2.1.weaken (fun _ _ _ _ => trivial)⟩, hTH.call hw.2.2.2 hW hU (fun q h9 => hFc q h9)⟩⟩ rfl hn hl.1 rfl (lv_room hrm) d hcap) hw.2.2.2 (fun q _ h => hFc q h) hFc (fun q _ h => hFc q h) (fun E ce q9 u t H1 locs1 ht hvm hw1 hB hz1 hk1 hS hce hcv hcl => ?_) (fun r u t H1 locs1 ht hvm hw1 hB hz1 hk1 hS => ?_)
  · obtain ⟨hq1, L', g0, g1, g2, g3⟩ := hB
    subst hq1
    rw [h3, thn_l] at h1
    rw [ht] at g1
    exact vx_out (fun x hx9 => (htab x hx9).elim) hlk hce hcv hcl (fun t9 ht9 hal9 => ⟨u, trivial, ⟨Option.some.inj h1, L', g0, by rw [ht9]; exact g1, va_K.moved hal9 hK, g3.weaken (fun k q hk ha => hFc _ ha)⟩, hS.F ht9⟩) hS.2.2 hmc hms
  · skip
    subst hw1
    rw [h3, thn_r] at h1
    obtain ⟨L', g0, g1, g2, g3⟩ := hB
    rw [ht] at g1
    exact K _ _ h1 L' H1 locs1 ls ⟨g0, g1, g3.weaken (fun k q hk ha => hFc _ ha), hS⟩ hl
theorem wp_callTL (X : Fx C cc own rt R0 n0) (Tt : TT C) {R' : Type} {y : MethodName} {rm : Room} {ix n maxL ci b : Nat} {bytes : ByteArray} {ret : Option FieldType} {CN : String} {T : u_T} {N : Nat} (As : List Value) {o : Option ((String ⊕ Int64) × Mem)} {f : Int64 → Mem → Option ((String ⊕ R') × Mem)} {res : (String ⊕ R') × Mem} (Qr : TQX C mc ms (fun E F' => (Sum.inl E, F') = res)) {l0 : Launch} {D0 : va_G} {cy0 : Nat → ClassId} (hcd : CD C l0 D0 cy0)
    (hM : ∀ q, o = some q → TL l0 y bytes maxL ret rm D0 cy0 F (.ref b :: As) q) (k1 : Cond.methodLink own ix y ∈ BIG) (k2 : Cond.instanceMethod y ∈ BIG) (k3 : Cond.selects CN y y ∈ BIG) (k4 : Cond.initialized CN ∈ BIG) (k5 : Cond.code y bytes maxL ret ∈ BIG) (hd : y.cls = CN ∧ y.cls ≠ "java/lang/invoke/MethodHandle" ∧ y.cls ≠ "java/lang/invoke/VarHandle" ∧ (parseMethodDescriptor y.desc).map (fun d => d.parameters.length) = some n)
    (hRf : rm.frames + 1 ≤ R0.frames ∧ 8 + (maxL + 11) + rm.locals ≤ R0.locals) (hcap : cs + rm.cells ≤ R0.cells ∧ sl + rm.slots ≤ R0.slots) {cs2 sl2 : Nat} (hcs : cs + rm.cells = cs2) (hsl : sl + rm.slots = sl2) (hmc : cs2 ≤ mc) (hms : sl2 ≤ ms) (hc : vwCl[ci]? = some (CN, T, N)) (hci : ci ≠ 99) (hn : As.length = n) (hst : st0 = As.reverse ++ .ref b :: st) (hrm : (st.map fun v => v.category).sum ≤ 8) (d : decode cc pc = .ok (.invokevirtual ix, 3))
    (h : ((obj F b ci).bind fun _ => thn o f) = some res) (K : ∀ v F', f v F' = some res → Wp C cs2 sl2 (pc + 3) lv (.long v :: st) F') : Wp C cs sl pc lv st0 F := by
  obtain ⟨p, l, e, R, s, m, args, below, meth, c, Q, D, cy, A, nL⟩ := C
  obtain ⟨hx, hb, hml, hown, hts, hK, hA, hr, hlk, hR, hn0⟩ := X
  obtain ⟨hst0, hTH, htab⟩ := Tt
  obtain ⟨rfl, rfl, rfl⟩ := hcd
  obtain ⟨Qc, rfl⟩ := Qr
  intro L H locs ls hw hl
  subst hst
  subst hR
  subst hcs
  subst hsl
  obtain ⟨fs, h0, h1⟩ := bnd h
  have e := obj_eq h0
  obtain ⟨k, hk⟩ := va_pl_get (X := ([] : va_W)) (f := fun a => toE cy (F a)) (wo_mem hw (ne_jk_r e hci))
  have hFc := wo_free hw hA
  obtain ⟨q, h3, -⟩ := bnd h1
  refine vx_calll (vx_runV (As := As) (rest := st) ⟨hx, hb, hml, hown, hts⟩ (hM q h3 L H.size) (cwV n hts (good_V k1 k2 k3 k4 k5) rfl rfl rfl hd hRf) ⟨pre1_blind, va_recv hK hw.2.1 hc (hk.trans (by simp only [e]; rfl)), fun U hU hW => ⟨rfl, ⟨by rw [hU], hw.1, by rw [hU]; exact hw.2.1, va_K.moved hW.alike hK, hw.2.2.1.weaken (fun _ _ _ _ => trivial)⟩, hTH.call hw.2.2.2 hW hU (fun q h9 => hFc q h9)⟩⟩ rfl hn hl.1 rfl (lv_room hrm) d hcap) hw.2.2.2 (fun q _ h => hFc q h) hFc (fun q _ h => hFc q h) (fun E ce q9 u t H1 locs1 ht hvm hw1 hB hz1 hk1 hS hce hcv hcl => ?_) (fun r u t H1 locs1 ht hvm hw1 hB hz1 hk1 hS => ?_)
  · obtain ⟨hq1, L', g0, g1, g2, g3⟩ := hB
    subst hq1
    rw [h3, thn_l] at h1
    rw [ht] at g1
    exact vx_out (fun x hx9 => (htab x hx9).elim) hlk hce hcv hcl (fun t9 ht9 hal9 => ⟨u, trivial, ⟨Option.some.inj h1, L', g0, by rw [ht9]; exact g1, va_K.moved hal9 hK, g3.weaken (fun k q hk ha => hFc _ ha)⟩, hS.F ht9⟩) hS.2.2 hmc hms
  · skip
    subst hw1
    rw [h3, thn_r] at h1
    obtain ⟨L', g0, g1, g2, g3⟩ := hB
    rw [ht] at g1
    exact K _ _ h1 L' H1 locs1 ls ⟨g0, g1, g3.weaken (fun k q hk ha => hFc _ ha), hS⟩ hl
theorem wp_callTV (X : Fx C cc own rt R0 n0) (Tt : TT C) {R' : Type} {y : MethodName} {rm : Room} {ix n maxL ci b : Nat} {bytes : ByteArray} {ret : Option FieldType} {CN : String} {T : u_T} {N : Nat} (As : List Value) {o : Option ((String ⊕ Unit) × Mem)} {f : Unit → Mem → Option ((String ⊕ R') × Mem)} {res : (String ⊕ R') × Mem} (Qr : TQX C mc ms (fun E F' => (Sum.inl E, F') = res)) {l0 : Launch} {D0 : va_G} {cy0 : Nat → ClassId} (hcd : CD C l0 D0 cy0)
    (hM : ∀ q, o = some q → TV l0 y bytes maxL ret rm D0 cy0 F (.ref b :: As) q) (k1 : Cond.methodLink own ix y ∈ BIG) (k2 : Cond.instanceMethod y ∈ BIG) (k3 : Cond.selects CN y y ∈ BIG) (k4 : Cond.initialized CN ∈ BIG) (k5 : Cond.code y bytes maxL ret ∈ BIG) (hd : y.cls = CN ∧ y.cls ≠ "java/lang/invoke/MethodHandle" ∧ y.cls ≠ "java/lang/invoke/VarHandle" ∧ (parseMethodDescriptor y.desc).map (fun d => d.parameters.length) = some n)
    (hRf : rm.frames + 1 ≤ R0.frames ∧ 8 + (maxL + 11) + rm.locals ≤ R0.locals) (hcap : cs + rm.cells ≤ R0.cells ∧ sl + rm.slots ≤ R0.slots) {cs2 sl2 : Nat} (hcs : cs + rm.cells = cs2) (hsl : sl + rm.slots = sl2) (hmc : cs2 ≤ mc) (hms : sl2 ≤ ms) (hc : vwCl[ci]? = some (CN, T, N)) (hci : ci ≠ 99) (hn : As.length = n) (hst : st0 = As.reverse ++ .ref b :: st) (hrm : (st.map fun v => v.category).sum ≤ 8) (d : decode cc pc = .ok (.invokevirtual ix, 3))
    (h : ((obj F b ci).bind fun _ => thn o f) = some res) (K : ∀ v F', f v F' = some res → Wp C cs2 sl2 (pc + 3) lv (st) F') : Wp C cs sl pc lv st0 F := by
  obtain ⟨p, l, e, R, s, m, args, below, meth, c, Q, D, cy, A, nL⟩ := C
  obtain ⟨hx, hb, hml, hown, hts, hK, hA, hr, hlk, hR, hn0⟩ := X
  obtain ⟨hst0, hTH, htab⟩ := Tt
  obtain ⟨rfl, rfl, rfl⟩ := hcd
  obtain ⟨Qc, rfl⟩ := Qr
  intro L H locs ls hw hl
  subst hst
  subst hR
  subst hcs
  subst hsl
  obtain ⟨fs, h0, h1⟩ := bnd h
  have e := obj_eq h0
  obtain ⟨k, hk⟩ := va_pl_get (X := ([] : va_W)) (f := fun a => toE cy (F a)) (wo_mem hw (ne_jk_r e hci))
  have hFc := wo_free hw hA
  obtain ⟨q, h3, -⟩ := bnd h1
  refine vx_callv (vx_runV (As := As) (rest := st) ⟨hx, hb, hml, hown, hts⟩ (hM q h3 L H.size) (cwV n hts (good_V k1 k2 k3 k4 k5) rfl rfl rfl hd hRf) ⟨pre1_blind, va_recv hK hw.2.1 hc (hk.trans (by simp only [e]; rfl)), fun U hU hW => ⟨rfl, ⟨by rw [hU], hw.1, by rw [hU]; exact hw.2.1, va_K.moved hW.alike hK, hw.2.2.1.weaken (fun _ _ _ _ => trivial)⟩, hTH.call hw.2.2.2 hW hU (fun q h9 => hFc q h9)⟩⟩ rfl hn hl.1 rfl (lv_room hrm) d hcap) hw.2.2.2 (fun q _ h => hFc q h) hFc (fun q _ h => hFc q h) (fun E ce q9 u t H1 locs1 ht hvm hw1 hB hz1 hk1 hS hce hcv hcl => ?_) (fun u t H1 locs1 ht hvm hw1 hB hz1 hk1 hS => ?_)
  · obtain ⟨hq1, L', g0, g1, g2, g3⟩ := hB
    subst hq1
    rw [h3, thn_l] at h1
    rw [ht] at g1
    exact vx_out (fun x hx9 => (htab x hx9).elim) hlk hce hcv hcl (fun t9 ht9 hal9 => ⟨u, trivial, ⟨Option.some.inj h1, L', g0, by rw [ht9]; exact g1, va_K.moved hal9 hK, g3.weaken (fun k q hk ha => hFc _ ha)⟩, hS.F ht9⟩) hS.2.2 hmc hms
  · skip
    subst hw1
    rw [h3, thn_r] at h1
    obtain ⟨L', g0, g1, g2, g3⟩ := hB
    rw [ht] at g1
    exact K _ _ h1 L' H1 locs1 ls ⟨g0, g1, g3.weaken (fun k q hk ha => hFc _ ha), hS⟩ hl
theorem wp_callTR (X : Fx C cc own rt R0 n0) (Tt : TT C) {R' : Type} {y : MethodName} {rm : Room} {ix n maxL ci b : Nat} {bytes : ByteArray} {ret : Option FieldType} {CN : String} {T : u_T} {N : Nat} (As : List Value) {o : Option ((String ⊕ Nat) × Mem)} {f : Nat → Mem → Option ((String ⊕ R') × Mem)} {res : (String ⊕ R') × Mem} (Qr : TQX C mc ms (fun E F' => (Sum.inl E, F') = res)) {l0 : Launch} {D0 : va_G} {cy0 : Nat → ClassId} (hcd : CD C l0 D0 cy0)
    (hM : ∀ q, o = some q → TR l0 y bytes maxL ret rm D0 cy0 F (.ref b :: As) q) (k1 : Cond.methodLink own ix y ∈ BIG) (k2 : Cond.instanceMethod y ∈ BIG) (k3 : Cond.selects CN y y ∈ BIG) (k4 : Cond.initialized CN ∈ BIG) (k5 : Cond.code y bytes maxL ret ∈ BIG) (hd : y.cls = CN ∧ y.cls ≠ "java/lang/invoke/MethodHandle" ∧ y.cls ≠ "java/lang/invoke/VarHandle" ∧ (parseMethodDescriptor y.desc).map (fun d => d.parameters.length) = some n)
    (hRf : rm.frames + 1 ≤ R0.frames ∧ 8 + (maxL + 11) + rm.locals ≤ R0.locals) (hcap : cs + rm.cells ≤ R0.cells ∧ sl + rm.slots ≤ R0.slots) {cs2 sl2 : Nat} (hcs : cs + rm.cells = cs2) (hsl : sl + rm.slots = sl2) (hmc : cs2 ≤ mc) (hms : sl2 ≤ ms) (hc : vwCl[ci]? = some (CN, T, N)) (hci : ci ≠ 99) (hn : As.length = n) (hst : st0 = As.reverse ++ .ref b :: st) (hrm : (st.map fun v => v.category).sum ≤ 8) (d : decode cc pc = .ok (.invokevirtual ix, 3))
    (h : ((obj F b ci).bind fun _ => thn o f) = some res) (K : ∀ v F', f v F' = some res → Wp C cs2 sl2 (pc + 3) lv (.ref v :: st) F') : Wp C cs sl pc lv st0 F := by
  obtain ⟨p, l, e, R, s, m, args, below, meth, c, Q, D, cy, A, nL⟩ := C
  obtain ⟨hx, hb, hml, hown, hts, hK, hA, hr, hlk, hR, hn0⟩ := X
  obtain ⟨hst0, hTH, htab⟩ := Tt
  obtain ⟨rfl, rfl, rfl⟩ := hcd
  obtain ⟨Qc, rfl⟩ := Qr
  intro L H locs ls hw hl
  subst hst
  subst hR
  subst hcs
  subst hsl
  obtain ⟨fs, h0, h1⟩ := bnd h
  have e := obj_eq h0
  obtain ⟨k, hk⟩ := va_pl_get (X := ([] : va_W)) (f := fun a => toE cy (F a)) (wo_mem hw (ne_jk_r e hci))
  have hFc := wo_free hw hA
  obtain ⟨q, h3, -⟩ := bnd h1
  refine vx_callr (vx_runV (As := As) (rest := st) ⟨hx, hb, hml, hown, hts⟩ (hM q h3 L H.size) (cwV n hts (good_V k1 k2 k3 k4 k5) rfl rfl rfl hd hRf) ⟨pre1_blind, va_recv hK hw.2.1 hc (hk.trans (by simp only [e]; rfl)), fun U hU hW => ⟨rfl, ⟨by rw [hU], hw.1, by rw [hU]; exact hw.2.1, va_K.moved hW.alike hK, hw.2.2.1.weaken (fun _ _ _ _ => trivial)⟩, hTH.call hw.2.2.2 hW hU (fun q h9 => hFc q h9)⟩⟩ rfl hn hl.1 rfl (lv_room hrm) d hcap) hw.2.2.2 (fun q _ h => hFc q h) hFc (fun q _ h => hFc q h) (fun E ce q9 u t H1 locs1 ht hvm hw1 hB hz1 hk1 hS hce hcv hcl => ?_) (fun r u t H1 locs1 ht hvm hw1 hB hz1 hk1 hS => ?_)
  · obtain ⟨hq1, L', g0, g1, g2, g3⟩ := hB
    subst hq1
    rw [h3, thn_l] at h1
    rw [ht] at g1
    exact vx_out (fun x hx9 => (htab x hx9).elim) hlk hce hcv hcl (fun t9 ht9 hal9 => ⟨u, trivial, ⟨Option.some.inj h1, L', g0, by rw [ht9]; exact g1, va_K.moved hal9 hK, g3.weaken (fun k q hk ha => hFc _ ha)⟩, hS.F ht9⟩) hS.2.2 hmc hms
  · obtain ⟨hw1, hB⟩ := hB
    subst hw1
    rw [h3, thn_r] at h1
    obtain ⟨L', g0, g1, g2, g3⟩ := hB
    rw [ht] at g1
    exact K _ _ h1 L' H1 locs1 ls ⟨g0, g1, g3.weaken (fun k q hk ha => hFc _ ha), hS⟩ hl
end THROWS
