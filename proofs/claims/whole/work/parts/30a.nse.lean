section NSE
abbrev nsX : String := "java/util/NoSuchElementException"
abbrev rtX : String := "java/lang/RuntimeException"
abbrev nsB : ByteArray := ⟨#[0x2a, 0x2b, 0xb7, 0x00, 0x0d, 0xb1]⟩
/-- the words of a throw of NoSuchElementException: its constructor calls its superclass's by the entry 13 -/
def nsA (ic : Nat) : List Cond := Bundle.throwableAtoms ++ Bundle.throwableSAtoms ++ Bundle.chainSAtoms rtX ["java/lang/Exception"] ++ Bundle.passSAtoms nsX rtX 13 nsB ++
  [.methodLink RX9 ic (Bundle.initS nsX), .instantiable nsX 6, .castable nsX nsX, .selects nsX Bundle.tFill0 Bundle.tFill0, .selects nsX Bundle.tFill Bundle.tFill,
   .lays nsX Bundle.tN "cause" "Ljava/lang/Throwable;", .lays nsX Bundle.tN "stackTrace" Bundle.steD, .lays nsX Bundle.tN "suppressedExceptions" Bundle.listD, .lays nsX Bundle.tN "detailMessage" "Ljava/lang/String;",
   .isRef (.static Bundle.tN "UNASSIGNED_STACK" Bundle.steD), .isRef (.static Bundle.tN "SUPPRESSED_SENTINEL" Bundle.listD),
   .fieldLink Bundle.tN 198 Bundle.tN "backtrace" "Ljava/lang/Object;", .lays Bundle.tN Bundle.tN "backtrace" "Ljava/lang/Object;", .lays nsX Bundle.tN "backtrace" "Ljava/lang/Object;"]
theorem nsG : ∀ w ∈ ((nsA 128).filter vx_no).filter goodWord, w ∈ BIG := by decide +kernel
theorem nsN : ∀ w ∈ ((nsA 128).filter vx_no).filter (fun w => !goodWord w), w ∈ ngw := by decide +kernel
theorem nsO : ∀ w ∈ (nsA 128).filter vx_no, vx_ot w = true := by decide +kernel
variable {p : Program} {l : Launch} {e : Env} {R : Room} {s : State} {m₀ : MethodId} {args : Array Value} {below : List Frame} {meth : Method} {c : Code} {W : State} {locs : List Loc} {cells slots : Nat}
set_option maxHeartbeats 4000000 in
theorem ns_ctor (X : Stand p l e R s m₀ args below meth c W locs cells slots) (hexec : p.tables.exec = Jvm.exec) (htr : e.platform.stackTraces = false) (hown : s.vm.findClass RX9 = some m₀.cls) (h : ∀ w ∈ nsA 128, w.before args s = true)
    (hlocs : ∀ x ∈ locs, ∀ cell, s.heap[x.base]? = some cell → cell.vm.isStatics = false) {a : Addr} {cX : ClassId} {kX : Class} (hfX : s.vm.findClass nsX = some cX) (hkX : s.vm.classes[cX]? = some kX) (hcell : W.heap[a]? = some (freshCell cX kX)) (hnew : s.heap.size ≤ a) {msg : Value} (hmsg : msg.isRef = true)
    {g : JFrame} (hg : g.method = m₀) (hsize : g.locals.size = c.maxLocals) (hlocked : g.locked = none) (hentered : g.entered = []) {rest : List Value} (hstack : g.stack = msg :: .ref a :: .ref a :: rest)
    (hd6 : decode c.code g.pc = .ok (.invokespecial 128, 3)) (hd9 : decode c.code (g.pc + 3) = .ok (.athrow, 1)) (hout : ∀ x ∈ c.exceptionTable.toList, covers x (g.pc + 3) = false)
    (hRf : 5 < R.frames) (hRl : 2 * g.monitorRoom + ((Value.ref a :: rest).map fun v => v.category).sum + 81 ≤ R.locals) (hlocks : meth.locks = false) :
    ∃ U : State, Steps p.tables e below (W.setTop g) U ∧ U.status = .running ∧ Ended U below (.threw a) ∧ s.WarmedH U.vm ∧ s.sameButNew ({ U with vm := s.vm } : State) locs cells slots ∧ ∃ ce, U.heap[a]? = some ce ∧ ce.vm = .none ∧ s.vm.findClass nsX = some ce.cls := by
  have pl1 : e.platform.frameOwnsMonitors = true := by rw [X.admits.platform]
  have pl2 : e.platform.finalization = false := by rw [X.admits.platform]
  have pl3 : e.platform.magicAccessors = ({} : Platform).magicAccessors := by rw [X.admits.platform]
  have in1 : ∀ x ∈ Bundle.throwableAtoms, x ∈ nsA 128 := fun x hx => by simp [nsA, hx]
  have in2 : ∀ x ∈ Bundle.throwableSAtoms, x ∈ nsA 128 := fun x hx => by simp [nsA, hx]
  have in3 : ∀ x ∈ Bundle.chainSAtoms rtX ["java/lang/Exception"], x ∈ nsA 128 := fun x hx => by simp [nsA, hx]
  have in4 : ∀ x ∈ Bundle.passSAtoms nsX rtX 13 nsB, x ∈ nsA 128 := fun x hx => by simp [nsA, hx]
  obtain ⟨T, Z0, LT, -, Y⟩ := ThrowableC.of_atoms (args := args) pl1 pl2 pl3 (fun x hx => h x (in1 x hx))
  obtain ⟨Z, M, LZ, LM, hnZ⟩ := Init0T.ofS_atoms (args := args) pl3 LT Y (fun x hx => h x (in2 x hx))
  obtain ⟨P1, Ps, hlen, L1, hLs, hP1, hk1, hks⟩ := Bundle.chainS (args := args) pl3 hnZ ["java/lang/Exception"] rtX (by decide) (by decide) (fun x hx => h x (in3 x hx))
  obtain ⟨P0, L0, hP0, hS0⟩ := PassC.ofS_atoms (args := args) pl3 (X := nsX) (Y := rtX) (index := 13) (bytes := nsB) (by decide) (by decide) (by decide +kernel) (by decide +kernel) (by decide +kernel) (by decide +kernel) (fun x hx => h x (in4 x hx))
  have hk0 : P0.sup = P1.m := Option.some.inj (hS0.symm.trans hP1)
  have hfound : s.vm.findClass nsX = some P0.m.cls := findClass_of_methodNamed hP0
  cases Option.some.inj (hfX.symm.trans hfound)
  have at' : ∀ x, x ∈ nsA 128 → x.holds args s none s [] = true := fun x hx => h x hx
  obtain ⟨c1, k1, hc1, hk, hord, -, -, -⟩ := Cond.instantiable_spec (at' (.instantiable nsX 6) (by simp [nsA]))
  cases Option.some.inj (hc1.symm.trans hfound)
  cases Option.some.inj (hkX.symm.trans hk)
  have sel0 : selectMethod e.platform s.vm P0.m.cls T.fill0 = .method T.fill0 := by
    obtain ⟨c2, r2, m2, q1, q2, q3, q4, -⟩ := Cond.selects_spec (at' (.selects nsX Bundle.tFill0 Bundle.tFill0) (by simp [nsA]))
    cases Option.some.inj (q1.symm.trans hfound)
    cases Option.some.inj (q2.symm.trans (State.methodFound?_of_named Y.fill0 (by decide)))
    cases Option.some.inj (q3.symm.trans Y.fill0)
    rw [Launch.admits_selectMethod X.admits]
    exact q4
  have selF : selectMethod e.platform s.vm P0.m.cls T.fill = .method T.fill := by
    obtain ⟨c2, r2, m2, q1, q2, q3, q4, -⟩ := Cond.selects_spec (at' (.selects nsX Bundle.tFill Bundle.tFill) (by simp [nsA]))
    cases Option.some.inj (q1.symm.trans hfound)
    cases Option.some.inj (q2.symm.trans (State.methodFound?_of_named Y.fill (by decide)))
    cases Option.some.inj (q3.symm.trans Y.fill)
    rw [Launch.admits_selectMethod X.admits]
    exact q4
  obtain ⟨cS, hcS, hiss⟩ := Y.statics
  obtain ⟨u0, hu0⟩ := Cond.staticRefV Y.unassigned LT.unassignedStatic LT.statics hcS hiss (at' (.isRef (.static Bundle.tN "UNASSIGNED_STACK" Bundle.steD)) (by simp [nsA]))
  obtain ⟨sen, hsen⟩ := Cond.staticRefV Y.sentinel LT.sentinelStatic LT.statics hcS hiss (at' (.isRef (.static Bundle.tN "SUPPRESSED_SENTINEL" Bundle.listD)) (by simp [nsA]))
  obtain ⟨ci9, i9, fB, hk9, hg9, ha9, hs9, -, hn9, ht9, hf9⟩ := Cond.ownField (t := .object "java/lang/Object") Y.found LT.cls (by decide +kernel) (at' (.fieldLink Bundle.tN 198 Bundle.tN "backtrace" "Ljava/lang/Object;") (by simp [nsA])) (at' (.lays Bundle.tN Bundle.tN "backtrace" "Ljava/lang/Object;") (by simp [nsA])) e.platform pl3
  obtain ⟨cW, hcW, heW, -, hkp⟩ := X.same.2.2.2.2.2 T.aS cS hcS
  have hnl : ∀ i, (⟨T.aS, i⟩ : Loc) ∉ locs := fun i hm => by
    have h9 := hlocs _ hm cS hcS
    rw [hiss] at h9
    cases h9
  have hkn : cW.vm ≠ .unknown := fun hu => by
    rw [heW] at hu
    rw [hu] at hiss
    cases hiss
  have hne : T.aS ≠ a := Nat.ne_of_lt (Nat.lt_of_lt_of_le (Array.getElem?_eq_some_iff.mp hcS).1 hnew)
  obtain ⟨iM, hfM⟩ := Y.msg
  obtain ⟨tC, dC, eC, nC⟩ := Cond.laysAt hfound hk Y.cause (at' (.lays nsX Bundle.tN "cause" "Ljava/lang/Throwable;") (by simp [nsA]))
  obtain ⟨tS, dS, eS, nS⟩ := Cond.laysAt hfound hk Y.stack (at' (.lays nsX Bundle.tN "stackTrace" Bundle.steD) (by simp [nsA]))
  obtain ⟨tP, dP, eP, nP⟩ := Cond.laysAt hfound hk Y.supp (at' (.lays nsX Bundle.tN "suppressedExceptions" Bundle.listD) (by simp [nsA]))
  obtain ⟨tM, dM, eM, nM⟩ := Cond.laysAt hfound hk hfM (at' (.lays nsX Bundle.tN "detailMessage" "Ljava/lang/String;") (by simp [nsA]))
  obtain ⟨tB, dB, eB, nB⟩ := Cond.laysAt hfound hk hf9 (at' (.lays nsX Bundle.tN "backtrace" "Ljava/lang/Object;") (by simp [nsA]))
  have bC := Cond.laysApart eB eC nB nC (by rw [hn9, Y.causeName]; decide)
  have bS := Cond.laysApart eB eS nB nS (by rw [hn9, Y.stackName]; decide)
  have bP := Cond.laysApart eB eP nB nP (by rw [hn9, Y.suppName]; decide)
  have hskip : SkipFacts T e.platform s (fun u => u) u0 ((preparedCellV T.toThrowableT (freshCell P0.m.cls kX) a u0 sen).withEntry W.cur) :=
    ⟨{ ci198 := ci9, i198 := i9, fBack := fB }, ⟨hk9, hg9, ha9, hs9⟩, by
      have h9 := fresh_default (c := P0.m.cls) tB
      rw [ht9] at h9
      simpa [preparedCellV, Cell.setSlot, Cell.withEntry, Array.getElem?_setIfInBounds, bC, bS, bP, bC.symm, bS.symm, bP.symm, defaultValue] using h9, fun _ _ => rfl⟩
  obtain ⟨tm, mC, cC, kC, vm1, hnC, -, -, -, -, -, -, -, hW1, st1⟩ := Steps.initColdS (tb := p.tables) (e := e) (below := below) (s := s) (U := W) X.here hexec X.warmed pl3 hown (t := Bundle.initS nsX) rfl rfl (by decide)
    (at' (.methodLink RX9 128 (Bundle.initS nsX)) (by simp [nsA])) (h (.instanceMethod (Bundle.initS nsX)) (by simp [nsA, Bundle.passSAtoms])) (bytes := nsB) (maxL := 2) (h (.code (Bundle.initS nsX) nsB 2 none) (by simp [nsA, Bundle.passSAtoms]))
    (f := g) hg (a := a) (msg := msg) (rest := .ref a :: rest) hstack hd6
  cases Option.some.inj (hnC.symm.trans hP0)
  have X1 := X.noted hW1
  obtain ⟨vm2, X2, st2⟩ := X1.ctorMessageOffV hexec (g := { g with stack := .ref a :: rest }) hg hsize T LT Z LZ M LM (P0 :: P1 :: Ps)
    (fun P hP => by
      rcases List.mem_cons.mp hP with rfl | hP
      · exact L0
      · rcases List.mem_cons.mp hP with rfl | hP
        · exact L1
        · exact hLs P hP) ⟨hk0, hk1, hks⟩ (u0 := u0) (sen := sen) (self := a) hmsg (cell := freshCell P0.m.cls kX) (cellS := cW)
    hcell (fun _ => by simp) (by simp) rfl rfl sel0 selF hcW hne hkn (by rw [hkp _ (hnl _)]; exact hu0) (by rw [hkp _ (hnl _)]; exact hsen)
    (Takes.of_laid hk hord tC (by rw [Y.causeType]; rfl)) (Takes.of_laid hk hord tS (by rw [Y.stackType]; exact fits_refV_array _ u0)) (Takes.of_laid hk hord tP (by rw [Y.suppType]; exact fits_refV_object _ sen))
    (Takes.of_laid hk hord tM (by rw [Y.msgType]; exact fits_refV_object _ ⟨msg, hmsg⟩)) Y.objLocals hskip htr [] hd6
    (by simp only [List.length_cons, hlen, List.length_nil]; omega) (by simp only [List.length_cons, hlen, List.length_nil]; exact hRl)
  obtain ⟨hwalk, hrun, hend, hWU, hsame⟩ := X2.athrowLeaves hexec (g := { g with stack := .ref a :: rest, pc := g.pc + 3 }) hg hlocked hentered hout (a := a) (rest := rest) rfl hd9
  have hlt : a < ((W.setVm vm1).setVm vm2).heap.size := (Array.getElem?_eq_some_iff.mp hcell).1
  have hU := heapAt_setCell_self (s := (W.setVm vm1).setVm vm2) (plainBareV T.toThrowableT (freshCell P0.m.cls kX) a u0 sen msg) hlt
  refine ⟨_, st1 _ (fun acts => ?_), hrun, hend, hWU, hsame.weaken (fun y hy hlt' => ?_) (Nat.le_refl _) (Nat.le_refl _), _, hU, rfl, hfound⟩
  · rw [doInvoke_state]
    exact st2 _ hwalk
  · rcases List.mem_append.mp hy with h1 | h1
    · exact h1
    · have hya : y.base = a := by
        simp only [List.mem_cons, List.not_mem_nil, or_false] at h1
        rcases h1 with h1 | h1 | h1 | h1 | h1 <;> rw [h1]
      rw [hya] at hlt'
      exact absurd hlt' (Nat.not_lt.mpr hnew)
end NSE
section NSE2
variable {p : Program} {l : Launch} {e : Env} {R : Room} {s : State} {m : MethodId} {args : Array Value} {below : List Frame} {meth : Method} {c : Code} {H : Heap} {locs : List Loc} {cells slots : Nat} {free : Addr → Prop} {ls : Array Slot} {rest : List Value} {Qc : Array Value → State → Outcome → State → Prop} {XC : String → State → State → Prop}
/-- 'throw new NoSuchElementException(text)' -/
theorem vx_throwN {cc : ByteArray} {pc : Nat} (hexec : p.tables.exec = Jvm.exec) (hb : c.code = cc) (hl : l.stackTraces = false) {text : String} {ik is mc ms sa : Nat} {A : Nat → Prop} (hown : s.vm.findClass RX9 = some m.cls)
    (hk : (Cond.classLink RX9 ik nsX).before args s = true) (hini : (Cond.initialized nsX).before args s = true) (hstr : vk_R RX9 is text sa s) (hat : ∀ w ∈ (nsA 128).filter vx_no, w.before args s = true)
    (hU : vx_Zq Bundle.tN "UNASSIGNED_STACK" Bundle.steD A s s.heap) (hN : vx_Zq Bundle.tN "SUPPRESSED_SENTINEL" Bundle.listD A s s.heap) (hS : va_S A s.heap H locs) (hsize : ls.size = c.maxLocals)
    (d0 : decode cc pc = .ok (.new ik, 3)) (d3 : decode cc (pc + 3) = .ok (.dup, 1)) (d4 : decode cc (pc + 4) = .ok (.ldc is, 2)) (d6 : decode cc (pc + 6) = .ok (.invokespecial 128, 3)) (d9 : decode cc (pc + 9) = .ok (.athrow, 1))
    (hout : ∀ x ∈ c.exceptionTable.toList, covers x (pc + 9) = false) (hRf : 5 < R.frames) (hRl : (rest.map fun v => v.category).sum + 82 ≤ R.locals) (hRc : cells + 1 ≤ R.cells) (hRs : slots + 6 ≤ R.slots) (hlocks : meth.locks = false)
    (hx : ∀ t : State, s.vm.Alike t.vm → H.size ≤ t.heap.size → (∀ q : Nat, q < H.size → t.heap[q]? = H[q]?) → XC nsX s t) (hf : ∀ z ∈ locs, free z.base) (hc : cells + 1 ≤ mc) (hs : slots + 6 ≤ ms) :
    W p l e R s m args below meth c H locs cells slots (vx_MQ below Qc XC args s mc ms free) (F0 m pc ls rest) := by
  intro T hT X
  have htr : e.platform.stackTraces = false := (show e.platform.stackTraces = l.stackTraces by rw [X.admits.platform]).trans hl
  have Y := vx_rebase X (R' := { frames := R.frames, locals := R.locals, cells := 1, slots := 6 }) (Nat.le_refl _) (Nat.le_refl _) hRc hRs
  obtain ⟨s', hA⟩ : ∃ z, z = (T.setVm s.vm).setFrames (.invoking m args :: below) := ⟨_, rfl⟩
  rw [← hA] at Y
  have hvm : s'.vm = s.vm := by rw [hA]; rfl
  have hhp : s'.heap = H := by rw [hA]; exact hT
  have hW0 : s.WarmedH s'.vm := by rw [hvm]; exact State.WarmedH.refl s
  have mv : ∀ w, vx_ot w = true → w.before args s = true → w.before args s' = true := fun w h1 h2 => vx_ot_at hW0 hvm.symm h1 h2
  have hU' : vx_Zq Bundle.tN "UNASSIGNED_STACK" Bundle.steD A s' s'.heap := by rw [hhp]; exact vx_Zq.moved hW0.alike (hU.kept hS.2.1)
  have hN' : vx_Zq Bundle.tN "SUPPRESSED_SENTINEL" Bundle.listD A s' s'.heap := by rw [hhp]; exact vx_Zq.moved hW0.alike (hN.kept hS.2.1)
  have h : ∀ w ∈ nsA 128, w.before args s' = true := vx_own (fun w hw => mv w (nsO w hw) (hat w hw)) (vx_isRefq hU'.1) (vx_isRefq hN'.1) hU'.2.word hN'.2.word
  have hown' : s'.vm.findClass RX9 = some m.cls := by rw [hvm]; exact hown
  obtain ⟨vm1, cX, kX, hfX, hkX, -, -, X1, st1⟩ := Y.newCold hexec (own := RX9) (C := nsX) (index := ik) (n := 6) hown' (mv _ rfl hk) (h _ (by simp [nsA])) (mv _ rfl hini) (g := F0 m pc ls rest) rfl (by rw [hb]; exact d0) (Nat.le_refl _) (Nat.le_refl _)
  generalize hT1 : (T.setVm vm1).pushCell { cls := cX, slots := kX.instanceTypes.map defaultValue, vm := .none } = T1 at X1 st1
  have hca : T1.heap[T.heap.size]? = some (freshCell cX kX) := by rw [← hT1]; exact State.heap_pushCell_size _ _
  have d3' : decode c.code (pc + 3) = .ok (.dup, 1) := by rw [hb]; exact d3
  have d4' : decode c.code (pc + 4) = .ok (.ldc is, 2) := by rw [hb]; exact d4
  have hstr' : vk_R RX9 is text sa s' := vk_R.warm hW0 hstr
  have hcat : (Value.ref T.heap.size).category = 1 := rfl
  obtain ⟨U, hsteps, hrun, hend, hW, hsame, ce, hce, hcv, hcl⟩ := ns_ctor X1 hexec htr hown' h (fun x hx => nomatch hx) hfX hkX hca (by rw [hhp, hT]; exact Nat.le_refl _) (msg := .ref sa) rfl
    (g := { method := m, pc := pc + 6, locals := ls, stack := .ref sa :: .ref T.heap.size :: .ref T.heap.size :: rest, locked := none }) rfl hsize rfl rfl (rest := rest) rfl (by rw [hb]; exact d6) (by rw [hb]; exact d9) hout hRf (by show 2 * 0 + _ + 81 ≤ _; simp only [List.map_cons, List.sum_cons, hcat]; omega) hlocks
  obtain ⟨f1, f2⟩ := vx_frame hsame
  rw [hhp] at f1 f2
  have hWs : s.WarmedH U.vm := State.WarmedH.trans hW0 hW
  rw [hvm] at hcl
  have hall : s.sameButNew ({ U with vm := s.vm } : State) locs mc ms := by
    subst hA
    obtain ⟨e1, e2⟩ := hsame
    rw [State.setFrames_setFrames] at e1
    have h2 : (T.setVm s.vm).sameButNew ({ U with vm := s.vm } : State) [] (0 + 1) (0 + 6) := ⟨e1, e2⟩
    have h3 := X.same.trans h2
    rw [List.append_nil] at h3
    exact h3.mono hc hs
  refine ⟨U, ?_, .threw T.heap.size, hrun, hend, Or.inr ⟨T.heap.size, rfl, nsX, ce, locs, hx U hWs.alike f1 (fun q hq => f2 q hq (fun z hz => nomatch hz)), hce, hcv, hcl, hWs, hall, hf⟩⟩
  refine st1 _ ?_
  show Steps p.tables e below (T1.setTop { method := m, pc := pc + 3, locals := ls, stack := .ref T.heap.size :: rest, locked := none }) _
  jvm_step X1.here [X1.here.top, hexec, d3', Value.category]
  exact X1.ldcString hexec (own := RX9) (text := text) (index := is) (a := sa) hown' hstr'.1 hstr'.2 (g := { method := m, pc := pc + 4, locals := ls, stack := .ref T.heap.size :: .ref T.heap.size :: rest, locked := none }) rfl d4' _ hsteps
end NSE2
section NSE3
variable {C : Cx} {cc : ByteArray} {own : String} {rt : Option FieldType} {R0 : Room} {n0 cs sl pc mc ms : Nat} {lv : List (Nat × Value)} {st : List Value} {F : Mem}
theorem wp_throwN (X : Fx C cc own rt R0 n0) (Tt : TT C) {rE : String → Mem → Prop} (Qr : TQX C mc ms rE) {text : String} {ik is : Nat} (ho : own = RX9) (k1 : Cond.classLink own ik nsX ∈ BIG) (k2 : Cond.initialized nsX ∈ BIG) (hst : (is, text) ∈ stx)
    (d0 : decode cc pc = .ok (.new ik, 3)) (d3 : decode cc (pc + 3) = .ok (.dup, 1)) (d4 : decode cc (pc + 4) = .ok (.ldc is, 2)) (d6 : decode cc (pc + 6) = .ok (.invokespecial 128, 3)) (d9 : decode cc (pc + 9) = .ok (.athrow, 1))
    (hf1 : 5 < R0.frames) (hf2 : (st.map fun v => v.category).sum + 82 ≤ R0.locals) (hf3 : cs + 1 ≤ R0.cells) (hf4 : sl + 6 ≤ R0.slots) (hc : cs + 1 ≤ mc) (hs : sl + 6 ≤ ms) (h : rE nsX F) : Wp C cs sl pc lv st F := by
  obtain ⟨p, l, e, R, s, m, args, below, meth, c, Q, D, cy, A, nL⟩ := C
  obtain ⟨hx, hb, hml, hown, hts, hK, hA, hr, hlk, hR, hn0⟩ := X
  obtain ⟨hst0, hTH, htab⟩ := Tt
  intro L H locs ls hw hl
  obtain ⟨Qc, rfl⟩ := Qr
  subst ho
  subst hR
  obtain ⟨sa, hsa⟩ := hTH.2.2.1 _ hst
  refine vx_throwN hx hb hst0 (text := text) (ik := ik) (is := is) (sa := sa) (A := A) hown (hts _ k1) (hts _ k2) hsa (vx_hat (fun w hw9 => hts _ (nsG w hw9)) nsN (fun w hw9 => va_any (ngw_f w hw9).2 (hTH.2.2.2 w hw9))) hTH.1 hTH.2.1 hw.2.2.2 (by rw [hl.1, hml]) d0 d3 d4 d6 d9 (fun x hx9 => (htab x hx9).elim) hf1 hf2 hf3 hf4 hlk (fun t hal hsz hkp => ?_) hw.2.2.2.2.2 hc hs
  refine ⟨F, trivial, ⟨h, L, hw.1, ?_, va_K.moved hal hK, hw.2.2.1⟩, ?_, ?_⟩
  · exact hw.2.1.kept (fun k q hk => hkp q.1 ((hw.2.1 k q hk).lt))
  · exact Nat.le_trans hw.2.2.2.1 hsz
  · intro q h1 h2
    rw [hkp q (Nat.lt_of_lt_of_le h1 hw.2.2.2.1)]
    exact hw.2.2.2.2.1 q h1 h2
end NSE3
