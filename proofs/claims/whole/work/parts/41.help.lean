section HELP
def ncl : List (String × String) := [("java/lang/IllegalArgumentException", "java/lang/IndexOutOfBoundsException"), ("java/util/NoSuchElementException", "java/lang/IndexOutOfBoundsException"), ("java/util/NoSuchElementException", "java/lang/IllegalArgumentException"), ("java/lang/UnsupportedOperationException", "java/lang/IndexOutOfBoundsException"), ("java/lang/UnsupportedOperationException", "java/lang/IllegalArgumentException"), ("java/lang/UnsupportedOperationException", "java/util/NoSuchElementException"), ("java/lang/IllegalStateException", "java/lang/IndexOutOfBoundsException"), ("java/lang/IllegalStateException", "java/lang/IllegalArgumentException"), ("java/lang/UnsupportedOperationException", "java/lang/IllegalStateException")]
def NC (U : State) : Prop := ∀ q ∈ ncl, va_Nc q.1 q.2 U
theorem NC.moved {u U : State} (hvm : u.vm.Alike U.vm) (h : NC u) : NC U := fun q hq => va_Nc.moved hvm (h q hq)
def wsyH (y : MethodName) (cc : ByteArray) (n : Nat) (ret : Option FieldType) (hh : List (Nat × Nat × Nat × Nat)) : List Cond := Cond.codeWith y cc n ret hh :: BIG
theorem good_SH {own : String} {ix n : Nat} {y : MethodName} {cc : ByteArray} {ret : Option FieldType} {hh : List (Nat × Nat × Nat × Nat)} (k1 : Cond.methodLink own ix y ∈ BIG) (k2 : Cond.static y ∈ BIG) (k4 : Cond.initialized y.cls ∈ BIG) (k5 : Cond.codeWith y cc n ret hh ∈ BIG) : GoodIn BIG (va_wsS own ix y (wsyH y cc n ret hh)) := by
  intro w hw
  simp only [va_wsS, wsyH, List.cons_append, List.nil_append, List.mem_cons] at hw
  rcases hw with rfl | rfl | rfl | rfl | hw
  · exact big_good k1
  · exact big_good k2
  · exact big_good k4
  · exact big_good k5
  · exact big_good hw
def Pre2 (D : va_G) (cy : Nat → ClassId) (L : List Nat) (F : Mem) (sz : Nat) (U : State) : Prop := Pre1 D cy L F sz U ∧ NC U
theorem pre2_blind {av : List Value} {D : va_G} {cy : Nat → ClassId} {L : List Nat} {F : Mem} {sz : Nat} : FrameBlind (va_Pc av (Pre2 D cy L F sz)) := fun a U g mk q => ⟨q.1, (pre1_blind a U g mk ⟨q.1, q.2.1⟩).2, NC.moved (u := U) (U := U.calling g mk a) (Vm.Alike.refl U.vm) q.2.2⟩
def HT (C : Cx) (hh : List (Nat × Nat × Nat × Nat)) : Prop := match C with
  | (p, l, e, R, s, m, args, below, meth, c, Q, D, cy, A, nL) => l.stackTraces = false ∧ TH A s s.heap ∧ NC s ∧ c.exceptionTable.toList = tableOf hh
def MH (l : Launch) (y : MethodName) (cc : ByteArray) (n : Nat) (ret : Option FieldType) (hh : List (Nat × Nat × Nat × Nat)) (rm : Room) (D : va_G) (cy : Nat → ClassId) (F : Mem) (av : List Value) (res : Int32 × Mem) : Prop := ∀ (L : List Nat) (sz : Nat), Met l y (wsyH y cc n ret hh) rm (va_Pc av (Pre2 D cy L F sz)) (va_Qi (fun r F' => (r, F') = res) (Post0 D cy (va_A (pw cy L F) sz)) (va_A (pw cy L F) sz)) rm.cells rm.slots (va_A (pw cy L F) sz)
theorem mh_of {l : Launch} {y : MethodName} {rm : Room} {D : va_G} {cy : Nat → ClassId} {F : Mem} {av : List Value} {res : Int32 × Mem} {cc : ByteArray} {maxL : Nat} {ret : Option FieldType} {hh : List (Nat × Nat × Nat × Nat)} (hst : l.stackTraces = false) (hy : plainName y.cls = true) (hlen : (lg_sl av).length ≤ maxL) (lv : List (Nat × Value)) (hlv : lv_args 0 av = lv)
    (body : ∀ C : Cx, Fx C cc y.cls ret rm maxL → CD C l D cy → HT C hh → RI C rm.cells rm.slots res → Wp C 0 0 0 lv [] F) : MH l y cc maxL ret hh rm D cy F av res := by
  intro L sz
  refine va_MetW (cc := cc) (maxL := maxL) (ret := ret) (hh := hh) hy rfl ?_
  intro p e s m args below meth c s₁ B hml hv
  obtain ⟨rfl, ⟨⟨hsz, h0, hP, hK, hD0⟩, hTH⟩, hNC⟩ := hv
  subst hsz
  have hl := lv_entry av (n := maxL) hlen
  rw [lg_entry_eq]
  rw [hlv] at hl
  have hts := atoms_spec (ws := wsyH y cc maxL ret hh) B.pre
  exact body (p, l, e, rm, s, m, av.toArray, below, meth, c, _, D, cy, va_A (pw cy L F) s.heap.size, maxL)
    ⟨B.exec, B.bytes, hml, findClass_of_methodNamed B.named, fun w h9 => hts w (List.mem_cons_of_mem _ h9), hK, fun q h => Or.inr h, B.returns, B.notSynchronized, rfl, rfl⟩ ⟨rfl, rfl, rfl⟩ ⟨hst, hTH, hNC, vx_table (x := y) B (hts _ List.mem_cons_self)⟩ rfl
    L s.heap [] _ ⟨h0, hP, hD0.self (sz := s.heap.size), va_S.rf⟩ hl
variable {C : Cx} {cc : ByteArray} {own : String} {rt : Option FieldType} {R0 : Room} {n0 cs sl pc mc ms : Nat} {lv : List (Nat × Value)} {st st0 : List Value} {F : Mem}

theorem wp_ireturnW (X : Fx C cc own rt R0 n0) {ty : FieldType} {v : Int32} {res : Int32 × Mem} (Qr : RI C mc ms res) (hc : cs ≤ mc) (hs : sl ≤ ms) (hrt : rt = some ty) (hn : narrow ty (.int v) = .int v) (d : decode cc pc = .ok (.ireturn, 1)) (h : some (v, F) = some res) : Wp C cs sl pc lv [.int v] F := by
  obtain ⟨p, l, e, R, s, m, args, below, meth, c, Q, D, cy, A, nL⟩ := C
  obtain ⟨hx, hb, hml, hown, hts, hK, hA, hr, hlk, hR, hn0⟩ := X
  intro L H locs ls hw hl
  cases Qr
  have e9 := Option.some.inj h
  exact W.widen hc hs (W.zret hx hb (hr.trans hrt) hn (fun t ht hW => ⟨⟨v, F, rfl, e9, L, hw.1, by rw [ht]; exact hw.2.1, va_K.moved hW.alike hK, hw.2.2.1⟩, hw.2.2.2.F ht⟩) hw.2.2.2.2.2 d hlk)
def ckE (q : (Nat × Nat × Nat × Nat) × String) : ExceptionTableEntry := ⟨q.1.1, q.1.2.1, q.1.2.2.1, q.1.2.2.2⟩
def hnl {R β : Type} (o : Option ((String ⊕ R) × Mem)) (g : String → Mem → Option β) (f : R → Mem → Option β) : Option β := o.bind fun q => match q.1 with
  | .inl E => g E q.2
  | .inr v => f v q.2
theorem hnl_l {R β : Type} {E : String} {F : Mem} {g : String → Mem → Option β} {f : R → Mem → Option β} : hnl (some (.inl E, F)) g f = g E F := rfl
theorem hnl_r {R β : Type} {v : R} {F : Mem} {g : String → Mem → Option β} {f : R → Mem → Option β} : hnl (some (.inr v, F)) g f = f v F := rfl
theorem wp_callCI (X : Fx C cc own rt R0 n0) {β : Type} {hh : List (Nat × Nat × Nat × Nat)} (Ht : HT C hh) {y : MethodName} {rm : Room} {ix n maxL ci b : Nat} {bytes : ByteArray} {ret : Option FieldType} {CN : String} {T : u_T} {N : Nat} (As : List Value) {o : Option ((String ⊕ Int32) × Mem)} {g : String → Mem → Option β} {f : Int32 → Mem → Option β} {res : β} (rows : List ((Nat × Nat × Nat × Nat) × String)) (hrows : rows.map (·.1) = hh) (hcov : ∀ y ∈ rows, covers (ckE y) pc = true) (hlnk : ∀ y ∈ rows, Cond.classLink own y.1.2.2.2 y.2 ∈ BIG ∧ y.1.2.2.2 ≠ 0) {l0 : Launch} {D0 : va_G} {cy0 : Nat → ClassId} (hcd : CD C l0 D0 cy0)
    (hM : ∀ q, o = some q → TI l0 y bytes maxL ret rm D0 cy0 F (.ref b :: As) q) (k1 : Cond.methodLink own ix y ∈ BIG) (k2 : Cond.instanceMethod y ∈ BIG) (k3 : Cond.selects CN y y ∈ BIG) (k4 : Cond.initialized CN ∈ BIG) (k5 : Cond.code y bytes maxL ret ∈ BIG) (hd : y.cls = CN ∧ y.cls ≠ "java/lang/invoke/MethodHandle" ∧ y.cls ≠ "java/lang/invoke/VarHandle" ∧ (parseMethodDescriptor y.desc).map (fun d => d.parameters.length) = some n)
    (hRf : rm.frames + 1 ≤ R0.frames ∧ 8 + (maxL + 11) + rm.locals ≤ R0.locals) (hcap : cs + rm.cells ≤ R0.cells ∧ sl + rm.slots ≤ R0.slots) {cs2 sl2 : Nat} (hcs : cs + rm.cells = cs2) (hsl : sl + rm.slots = sl2) (hc : vwCl[ci]? = some (CN, T, N)) (hci : ci ≠ 99) (hn : As.length = n) (hst : st0 = As.reverse ++ .ref b :: st) (hrm : (st.map fun v => v.category).sum ≤ 8) (d : decode cc pc = .ok (.invokevirtual ix, 3))
    (h : ((obj F b ci).bind fun _ => hnl o g f) = some res) (Kx : ∀ E F', g E F' = some res → ∃ pre x tl, rows = pre ++ x :: tl ∧ x.2 = E ∧ (∀ y ∈ pre, (E, y.2) ∈ ncl) ∧ Cond.castable E E ∈ ngw ∧ ∀ q, Wp C cs2 sl2 x.1.2.2.1 lv [.ref q] F') (K : ∀ v F', f v F' = some res → Wp C cs2 sl2 (pc + 3) lv (.int v :: st) F') : Wp C cs sl pc lv st0 F := by
  obtain ⟨p, l, e, R, s, m, args, below, meth, c, Q, D, cy, A, nL⟩ := C
  obtain ⟨hx, hb, hml, hown, hts, hK, hA, hr, hlk, hR, hn0⟩ := X
  obtain ⟨hst0, hTH, hNC, htab⟩ := Ht
  obtain ⟨rfl, rfl, rfl⟩ := hcd
  intro L H locs ls hw hl
  subst hst
  subst hR
  subst hcs
  subst hsl
  obtain ⟨fs, h0, h1⟩ := bnd h
  have e0 := obj_eq h0
  obtain ⟨k, hk⟩ := va_pl_get (X := ([] : va_W)) (f := fun a => toE cy (F a)) (wo_mem hw (ne_jk_r e0 hci))
  have hFc := wo_free hw hA
  obtain ⟨q, h3, -⟩ := bnd h1
  refine vx_calli (vx_runV (As := As) (rest := st) ⟨hx, hb, hml, hown, hts⟩ (hM q h3 L H.size) (cwV n hts (good_V k1 k2 k3 k4 k5) rfl rfl rfl hd hRf) ⟨pre1_blind, va_recv hK hw.2.1 hc (hk.trans (by simp only [e0]; rfl)), fun U hU hW => ⟨rfl, ⟨by rw [hU], hw.1, by rw [hU]; exact hw.2.1, va_K.moved hW.alike hK, hw.2.2.1.weaken (fun _ _ _ _ => trivial)⟩, hTH.call hw.2.2.2 hW hU (fun q h9 => hFc q h9)⟩⟩ rfl hn hl.1 rfl (lv_room hrm) d hcap) hw.2.2.2 (fun q _ h => hFc q h) hFc (fun q _ h => hFc q h) (fun E ce q9 u t H1 locs1 ht hvm hw1 hB hz1 hk1 hS hce hcv hcl => ?_) (fun r u t H1 locs1 ht hvm hw1 hB hz1 hk1 hS => ?_)
  · obtain ⟨hq1, L', g0, g1, g2, g3⟩ := hB
    subst hq1
    rw [h3, hnl_l] at h1
    rw [ht] at g1
    obtain ⟨pre, x, tl, j1, j2, j3, j4, j5⟩ := Kx _ _ h1
    have hrw : c.exceptionTable.toList = pre.map ckE ++ ckE x :: tl.map ckE := by
      rw [htab, ← hrows, j1]
      simp only [tableOf, List.map_append, List.map_cons, List.map_map]
      rfl
    refine ck_catch hce hcv hcl _ _ _ hrw (fun hpl => ⟨fun y hy => ?_, ?_⟩) (j5 q9 L' H1 locs1 ls ⟨g0, g1, g3.weaken (fun k q hk ha => hFc _ ha), hS⟩ hl)
    · obtain ⟨z, hz, rfl⟩ := List.mem_map.mp hy
      have hzr : z ∈ rows := by rw [j1]; exact List.mem_append_left _ hz
      exact ck_no hpl hown (hts _ (hlnk z hzr).1) (hNC _ (j3 z hz)) hcl rfl (hlnk z hzr).2 (hcov z hzr)
    · have hxr : x ∈ rows := by rw [j1]; exact List.mem_append_right _ List.mem_cons_self
      have hlx := hlnk x hxr
      rw [j2] at hlx
      exact ck_yes hpl hown (hts _ hlx.1) (hTH.2.2.2 _ j4) hcl rfl hlx.2 (hcov x hxr)
  · subst hw1
    rw [h3, hnl_r] at h1
    obtain ⟨L', g0, g1, g2, g3⟩ := hB
    rw [ht] at g1
    exact K _ _ h1 L' H1 locs1 ls ⟨g0, g1, g3.weaken (fun k q hk ha => hFc _ ha), hS⟩ hl
theorem wp_callCL (X : Fx C cc own rt R0 n0) {β : Type} {hh : List (Nat × Nat × Nat × Nat)} (Ht : HT C hh) {y : MethodName} {rm : Room} {ix n maxL ci b : Nat} {bytes : ByteArray} {ret : Option FieldType} {CN : String} {T : u_T} {N : Nat} (As : List Value) {o : Option ((String ⊕ Int64) × Mem)} {g : String → Mem → Option β} {f : Int64 → Mem → Option β} {res : β} (rows : List ((Nat × Nat × Nat × Nat) × String)) (hrows : rows.map (·.1) = hh) (hcov : ∀ y ∈ rows, covers (ckE y) pc = true) (hlnk : ∀ y ∈ rows, Cond.classLink own y.1.2.2.2 y.2 ∈ BIG ∧ y.1.2.2.2 ≠ 0) {l0 : Launch} {D0 : va_G} {cy0 : Nat → ClassId} (hcd : CD C l0 D0 cy0)
    (hM : ∀ q, o = some q → TL l0 y bytes maxL ret rm D0 cy0 F (.ref b :: As) q) (k1 : Cond.methodLink own ix y ∈ BIG) (k2 : Cond.instanceMethod y ∈ BIG) (k3 : Cond.selects CN y y ∈ BIG) (k4 : Cond.initialized CN ∈ BIG) (k5 : Cond.code y bytes maxL ret ∈ BIG) (hd : y.cls = CN ∧ y.cls ≠ "java/lang/invoke/MethodHandle" ∧ y.cls ≠ "java/lang/invoke/VarHandle" ∧ (parseMethodDescriptor y.desc).map (fun d => d.parameters.length) = some n)
    (hRf : rm.frames + 1 ≤ R0.frames ∧ 8 + (maxL + 11) + rm.locals ≤ R0.locals) (hcap : cs + rm.cells ≤ R0.cells ∧ sl + rm.slots ≤ R0.slots) {cs2 sl2 : Nat} (hcs : cs + rm.cells = cs2) (hsl : sl + rm.slots = sl2) (hc : vwCl[ci]? = some (CN, T, N)) (hci : ci ≠ 99) (hn : As.length = n) (hst : st0 = As.reverse ++ .ref b :: st) (hrm : (st.map fun v => v.category).sum ≤ 8) (d : decode cc pc = .ok (.invokevirtual ix, 3))
    (h : ((obj F b ci).bind fun _ => hnl o g f) = some res) (Kx : ∀ E F', g E F' = some res → ∃ pre x tl, rows = pre ++ x :: tl ∧ x.2 = E ∧ (∀ y ∈ pre, (E, y.2) ∈ ncl) ∧ Cond.castable E E ∈ ngw ∧ ∀ q, Wp C cs2 sl2 x.1.2.2.1 lv [.ref q] F') (K : ∀ v F', f v F' = some res → Wp C cs2 sl2 (pc + 3) lv (.long v :: st) F') : Wp C cs sl pc lv st0 F := by
  obtain ⟨p, l, e, R, s, m, args, below, meth, c, Q, D, cy, A, nL⟩ := C
  obtain ⟨hx, hb, hml, hown, hts, hK, hA, hr, hlk, hR, hn0⟩ := X
  obtain ⟨hst0, hTH, hNC, htab⟩ := Ht
  obtain ⟨rfl, rfl, rfl⟩ := hcd
  intro L H locs ls hw hl
  subst hst
  subst hR
  subst hcs
  subst hsl
  obtain ⟨fs, h0, h1⟩ := bnd h
  have e0 := obj_eq h0
  obtain ⟨k, hk⟩ := va_pl_get (X := ([] : va_W)) (f := fun a => toE cy (F a)) (wo_mem hw (ne_jk_r e0 hci))
  have hFc := wo_free hw hA
  obtain ⟨q, h3, -⟩ := bnd h1
  refine vx_calll (vx_runV (As := As) (rest := st) ⟨hx, hb, hml, hown, hts⟩ (hM q h3 L H.size) (cwV n hts (good_V k1 k2 k3 k4 k5) rfl rfl rfl hd hRf) ⟨pre1_blind, va_recv hK hw.2.1 hc (hk.trans (by simp only [e0]; rfl)), fun U hU hW => ⟨rfl, ⟨by rw [hU], hw.1, by rw [hU]; exact hw.2.1, va_K.moved hW.alike hK, hw.2.2.1.weaken (fun _ _ _ _ => trivial)⟩, hTH.call hw.2.2.2 hW hU (fun q h9 => hFc q h9)⟩⟩ rfl hn hl.1 rfl (lv_room hrm) d hcap) hw.2.2.2 (fun q _ h => hFc q h) hFc (fun q _ h => hFc q h) (fun E ce q9 u t H1 locs1 ht hvm hw1 hB hz1 hk1 hS hce hcv hcl => ?_) (fun r u t H1 locs1 ht hvm hw1 hB hz1 hk1 hS => ?_)
  · obtain ⟨hq1, L', g0, g1, g2, g3⟩ := hB
    subst hq1
    rw [h3, hnl_l] at h1
    rw [ht] at g1
    obtain ⟨pre, x, tl, j1, j2, j3, j4, j5⟩ := Kx _ _ h1
    have hrw : c.exceptionTable.toList = pre.map ckE ++ ckE x :: tl.map ckE := by
      rw [htab, ← hrows, j1]
      simp only [tableOf, List.map_append, List.map_cons, List.map_map]
      rfl
    refine ck_catch hce hcv hcl _ _ _ hrw (fun hpl => ⟨fun y hy => ?_, ?_⟩) (j5 q9 L' H1 locs1 ls ⟨g0, g1, g3.weaken (fun k q hk ha => hFc _ ha), hS⟩ hl)
    · obtain ⟨z, hz, rfl⟩ := List.mem_map.mp hy
      have hzr : z ∈ rows := by rw [j1]; exact List.mem_append_left _ hz
      exact ck_no hpl hown (hts _ (hlnk z hzr).1) (hNC _ (j3 z hz)) hcl rfl (hlnk z hzr).2 (hcov z hzr)
    · have hxr : x ∈ rows := by rw [j1]; exact List.mem_append_right _ List.mem_cons_self
      have hlx := hlnk x hxr
      rw [j2] at hlx
      exact ck_yes hpl hown (hts _ hlx.1) (hTH.2.2.2 _ j4) hcl rfl hlx.2 (hcov x hxr)
  · subst hw1
    rw [h3, hnl_r] at h1
    obtain ⟨L', g0, g1, g2, g3⟩ := hB
    rw [ht] at g1
    exact K _ _ h1 L' H1 locs1 ls ⟨g0, g1, g3.weaken (fun k q hk ha => hFc _ ha), hS⟩ hl
theorem wp_callCV (X : Fx C cc own rt R0 n0) {β : Type} {hh : List (Nat × Nat × Nat × Nat)} (Ht : HT C hh) {y : MethodName} {rm : Room} {ix n maxL ci b : Nat} {bytes : ByteArray} {ret : Option FieldType} {CN : String} {T : u_T} {N : Nat} (As : List Value) {o : Option ((String ⊕ Unit) × Mem)} {g : String → Mem → Option β} {f : Unit → Mem → Option β} {res : β} (rows : List ((Nat × Nat × Nat × Nat) × String)) (hrows : rows.map (·.1) = hh) (hcov : ∀ y ∈ rows, covers (ckE y) pc = true) (hlnk : ∀ y ∈ rows, Cond.classLink own y.1.2.2.2 y.2 ∈ BIG ∧ y.1.2.2.2 ≠ 0) {l0 : Launch} {D0 : va_G} {cy0 : Nat → ClassId} (hcd : CD C l0 D0 cy0)
    (hM : ∀ q, o = some q → TV l0 y bytes maxL ret rm D0 cy0 F (.ref b :: As) q) (k1 : Cond.methodLink own ix y ∈ BIG) (k2 : Cond.instanceMethod y ∈ BIG) (k3 : Cond.selects CN y y ∈ BIG) (k4 : Cond.initialized CN ∈ BIG) (k5 : Cond.code y bytes maxL ret ∈ BIG) (hd : y.cls = CN ∧ y.cls ≠ "java/lang/invoke/MethodHandle" ∧ y.cls ≠ "java/lang/invoke/VarHandle" ∧ (parseMethodDescriptor y.desc).map (fun d => d.parameters.length) = some n)
    (hRf : rm.frames + 1 ≤ R0.frames ∧ 8 + (maxL + 11) + rm.locals ≤ R0.locals) (hcap : cs + rm.cells ≤ R0.cells ∧ sl + rm.slots ≤ R0.slots) {cs2 sl2 : Nat} (hcs : cs + rm.cells = cs2) (hsl : sl + rm.slots = sl2) (hc : vwCl[ci]? = some (CN, T, N)) (hci : ci ≠ 99) (hn : As.length = n) (hst : st0 = As.reverse ++ .ref b :: st) (hrm : (st.map fun v => v.category).sum ≤ 8) (d : decode cc pc = .ok (.invokevirtual ix, 3))
    (h : ((obj F b ci).bind fun _ => hnl o g f) = some res) (Kx : ∀ E F', g E F' = some res → ∃ pre x tl, rows = pre ++ x :: tl ∧ x.2 = E ∧ (∀ y ∈ pre, (E, y.2) ∈ ncl) ∧ Cond.castable E E ∈ ngw ∧ ∀ q, Wp C cs2 sl2 x.1.2.2.1 lv [.ref q] F') (K : ∀ v F', f v F' = some res → Wp C cs2 sl2 (pc + 3) lv (st) F') : Wp C cs sl pc lv st0 F := by
  obtain ⟨p, l, e, R, s, m, args, below, meth, c, Q, D, cy, A, nL⟩ := C
  obtain ⟨hx, hb, hml, hown, hts, hK, hA, hr, hlk, hR, hn0⟩ := X
  obtain ⟨hst0, hTH, hNC, htab⟩ := Ht
  obtain ⟨rfl, rfl, rfl⟩ := hcd
  intro L H locs ls hw hl
  subst hst
  subst hR
  subst hcs
  subst hsl
  obtain ⟨fs, h0, h1⟩ := bnd h
  have e0 := obj_eq h0
  obtain ⟨k, hk⟩ := va_pl_get (X := ([] : va_W)) (f := fun a => toE cy (F a)) (wo_mem hw (ne_jk_r e0 hci))
  have hFc := wo_free hw hA
  obtain ⟨q, h3, -⟩ := bnd h1
  refine vx_callv (vx_runV (As := As) (rest := st) ⟨hx, hb, hml, hown, hts⟩ (hM q h3 L H.size) (cwV n hts (good_V k1 k2 k3 k4 k5) rfl rfl rfl hd hRf) ⟨pre1_blind, va_recv hK hw.2.1 hc (hk.trans (by simp only [e0]; rfl)), fun U hU hW => ⟨rfl, ⟨by rw [hU], hw.1, by rw [hU]; exact hw.2.1, va_K.moved hW.alike hK, hw.2.2.1.weaken (fun _ _ _ _ => trivial)⟩, hTH.call hw.2.2.2 hW hU (fun q h9 => hFc q h9)⟩⟩ rfl hn hl.1 rfl (lv_room hrm) d hcap) hw.2.2.2 (fun q _ h => hFc q h) hFc (fun q _ h => hFc q h) (fun E ce q9 u t H1 locs1 ht hvm hw1 hB hz1 hk1 hS hce hcv hcl => ?_) (fun u t H1 locs1 ht hvm hw1 hB hz1 hk1 hS => ?_)
  · obtain ⟨hq1, L', g0, g1, g2, g3⟩ := hB
    subst hq1
    rw [h3, hnl_l] at h1
    rw [ht] at g1
    obtain ⟨pre, x, tl, j1, j2, j3, j4, j5⟩ := Kx _ _ h1
    have hrw : c.exceptionTable.toList = pre.map ckE ++ ckE x :: tl.map ckE := by
      rw [htab, ← hrows, j1]
      simp only [tableOf, List.map_append, List.map_cons, List.map_map]
      rfl
    refine ck_catch hce hcv hcl _ _ _ hrw (fun hpl => ⟨fun y hy => ?_, ?_⟩) (j5 q9 L' H1 locs1 ls ⟨g0, g1, g3.weaken (fun k q hk ha => hFc _ ha), hS⟩ hl)
    · obtain ⟨z, hz, rfl⟩ := List.mem_map.mp hy
      have hzr : z ∈ rows := by rw [j1]; exact List.mem_append_left _ hz
      exact ck_no hpl hown (hts _ (hlnk z hzr).1) (hNC _ (j3 z hz)) hcl rfl (hlnk z hzr).2 (hcov z hzr)
    · have hxr : x ∈ rows := by rw [j1]; exact List.mem_append_right _ List.mem_cons_self
      have hlx := hlnk x hxr
      rw [j2] at hlx
      exact ck_yes hpl hown (hts _ hlx.1) (hTH.2.2.2 _ j4) hcl rfl hlx.2 (hcov x hxr)
  · subst hw1
    rw [h3, hnl_r] at h1
    obtain ⟨L', g0, g1, g2, g3⟩ := hB
    rw [ht] at g1
    exact K _ _ h1 L' H1 locs1 ls ⟨g0, g1, g3.weaken (fun k q hk ha => hFc _ ha), hS⟩ hl
end HELP
