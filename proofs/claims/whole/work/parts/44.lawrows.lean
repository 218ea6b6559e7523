/-! THE CLAIM OUT OF ONE WALK OF THE LAW'S BODY. Your part is whole_start (and what it stands on); all else here is the same for every law, but numbers. -/
def R_law : String := "TableauBenchLaw"
def lw_P (b : Addr) (xs : List Int32) (args : Array Value) (s : State) : Prop := args = #[.ref b] ∧ s.IntsAt b xs ∧ xs.length ≤ 320 ∧ (Jvm.Cond.and given_1 narrow_1).before args s = true
def lw_Q (_ : Array Value) (s : State) (o : Outcome) (t : State) : Prop := o = .returned (some (.int 1)) ∧ Framed s o t [] 600128 7301098
def lw_Z (below : List Frame) (a : Array Value) (s : State) : State → Prop := fun t => ∃ o, t.status = .running ∧ Ended t below o ∧ lw_Q a s o t
/-- the law's own end, with 1 on the stack, nothing written that was there before, its room as the claim has it -/
theorem lw_ret {p : Program} {l : Launch} {e : Env} {s : State} {m : MethodId} {below : List Frame} {meth : Method} {c : Code} {b : Nat} (hx : p.tables.exec = Jvm.exec) (hb : c.code = code) (hr : meth.sig.returnType = ret) (hlocks : meth.locks = false) {pc : Nat} {H : Heap} {ls : Array Slot} (hdg : decode code pc = .ok (.ireturn, 1)) : W p l e room_1 s m #[Value.ref b] below meth c H [] 600128 7301098 (lw_Z below #[Value.ref b] s) (F0 m pc ls [.int 1]) := by
  intro T hT X
  obtain ⟨fs, hret, hrun, hended, hW, hframe⟩ := X.leave (v := some (.int 1)) (hlocks := hlocks) (fun h => by rw [hr] at h; cases h)
  have hmeth' : T.vm.method? m = some meth := X.method'
  refine ⟨T.setFrames fs, ?_, .returned (some (.int 1)), hrun, hended, rfl, ⟨_, rfl⟩, hW, hframe⟩
  jvm_step X.here [X.here.top, hx, hb, hdg, hmeth', hr, ret, narrow_b1]
  (try refine ⟨rfl, ?_⟩); (try refine ⟨rfl, ?_⟩)
  first | (intro acts; rw [hret _ acts rfl rfl rfl]) | rw [hret _ _ rfl rfl rfl]
  exact Steps.refl _
/-- what holds at the law's entry: the machine, the code, the tables' words (any of lw_tbl by 'hts w (by decide +kernel)'), the script of L ints xs at the cell b, what the Statement gives of the start (any of its parts by flat_of_before) -/
def lw_At (p : Program) (s : State) (m : MethodId) (meth : Method) (c : Code) (b L : Nat) (xs : Nat → Int32) : Prop :=
  p.tables.exec = Jvm.exec ∧ c.code = code ∧ meth.sig.returnType = ret ∧ c.maxLocals = 8 ∧ s.vm.findClass R_law = some m.cls ∧ (∀ w ∈ lw_tbl, w.before #[Value.ref b] s = true) ∧ va_X b L xs s s.heap ∧ b < s.heap.size ∧ meth.locks = false ∧ (Jvm.Cond.and given_1 narrow_1).before #[Value.ref b] s = true
section LAW
def LQ (C : Cx) (b Ls : Nat) (xs : Nat → Int32) : Prop := match C with
  | (p, l, e, R, s, m, args, below, meth, c, Q, D, cy, A, nL) => Q = lw_Z below #[Value.ref b] s ∧ args = #[Value.ref b] ∧ R = room_1 ∧ A = (fun q => s.heap.size ≤ q) ∧ va_X b Ls xs s s.heap ∧ b < s.heap.size ∧ meth.sig.returnType = ret ∧ c.code = code
def LT (C : Cx) : Prop := match C with
  | (p, l, e, R, s, m, args, below, meth, c, Q, D, cy, A, nL) => l.stackTraces = false ∧ TH A s s.heap ∧ NC s
def scr (xs : Nat → Int32) (Ls : Nat) (i : Int32) : Option Int32 := if inb i Ls then some (xs i.toNatClampNeg) else none
variable {C : Cx} {cc : ByteArray} {own : String} {rt : Option FieldType} {R0 : Room} {n0 cs sl pc : Nat} {lv : List (Nat × Value)} {st st0 : List Value} {F : Mem} {b Ls : Nat} {xs : Nat → Int32}

theorem wp_lawret (X : Fx C cc own rt R0 n0) (Lq : LQ C b Ls xs) {v : Int32} (hc : cs ≤ 600128) (hs : sl ≤ 7301098) (d : decode cc pc = .ok (.ireturn, 1)) (h : v = 1) : Wp C cs sl pc lv [.int v] F := by
  obtain ⟨p, l, e, R, s, m, args, below, meth, c, Q, D, cy, A, nL⟩ := C
  obtain ⟨hx, hb, hml, hown, hts, hK, hA, hr, hlk, hR, hn0⟩ := X
  obtain ⟨rfl, rfl, rfl, rfl, hX, hbl, hrr, hcc⟩ := Lq
  intro L H locs ls hw hl
  subst h
  refine va_forget (fun q hq => hw.2.2.2.2.2 q hq) (W.widen hc hs (lw_ret hx hcc hrr hlk ?_))
  rw [← hcc, hb]
  exact d
theorem wp_sld (X : Fx C cc own rt R0 n0) (Lq : LQ C b Ls xs) {i : Int32} {β : Type} {f : Int32 → Option β} {res : β} (d : decode cc pc = .ok (.iaload, 1)) (h : (scr xs Ls i).bind f = some res) (K : ∀ v, f v = some res → Wp C cs sl (pc + 1) lv (.int v :: st) F) : Wp C cs sl pc lv (.int i :: .ref b :: st) F := by
  obtain ⟨p, l, e, R, s, m, args, below, meth, c, Q, D, cy, A, nL⟩ := C
  obtain ⟨hx, hb, hml, hown, hts, hK, hA, hr, hlk, hR, hn0⟩ := X
  obtain ⟨rfl, rfl, rfl, rfl, hX, hbl, hrr, hcc⟩ := Lq
  intro L H locs ls hw hl
  obtain ⟨v, h1, h2⟩ := bnd h
  unfold scr at h1
  by_cases hi : inb i Ls = true
  · simp only [hi, if_true] at h1
    cases h1
    exact va_sld hx hb hX hbl (Nat.not_le.mpr hbl) hw.2.2.2 (inb_vp hi) d (K _ h2 L H locs ls hw hl)
  · simp only [hi] at h1
    cases h1
theorem wp_slen (X : Fx C cc own rt R0 n0) (Lq : LQ C b Ls xs) (d : decode cc pc = .ok (.arraylength, 1)) (K : Wp C cs sl (pc + 1) lv (.int (Int32.ofNat Ls) :: st) F) : Wp C cs sl pc lv (.ref b :: st) F := by
  obtain ⟨p, l, e, R, s, m, args, below, meth, c, Q, D, cy, A, nL⟩ := C
  obtain ⟨hx, hb, hml, hown, hts, hK, hA, hr, hlk, hR, hn0⟩ := X
  obtain ⟨rfl, rfl, rfl, rfl, hX, hbl, hrr, hcc⟩ := Lq
  intro L H locs ls hw hl
  exact va_slen hx hb hX hbl (Nat.not_le.mpr hbl) hw.2.2.2 d (K L H locs ls hw hl)
theorem wp_tswIn (X : Fx C cc own rt R0 n0) {dflt lo hi off : Int} {offs : Array Int} {len tgt : Nat} {x : Int32} (d : decode cc pc = .ok (.tableswitch dflt lo hi offs, len)) (h1 : ¬ x.toInt < lo) (h2 : ¬ hi < x.toInt) (ho : offs[(x.toInt - lo).toNat]? = some off) (ht : (pc : Int) + off = (tgt : Int)) (K : Wp C cs sl tgt lv st F) : Wp C cs sl pc lv (.int x :: st) F := by
  obtain ⟨p, l, e, R, s, m, args, below, meth, c, Q, D, cy, A, nL⟩ := C
  obtain ⟨hx, hb, hml, hown, hts, hK, hA, hr, hlk, hR, hn0⟩ := X
  intro L H locs ls hw hl
  exact lv_tableIn hx hb d h1 h2 ho ht (K L H locs ls hw hl)
theorem wp_tswOut (X : Fx C cc own rt R0 n0) {dflt lo hi : Int} {offs : Array Int} {len tgt : Nat} {x : Int32} (d : decode cc pc = .ok (.tableswitch dflt lo hi offs, len)) (h : x.toInt < lo ∨ hi < x.toInt) (ht : (pc : Int) + dflt = (tgt : Int)) (K : Wp C cs sl tgt lv st F) : Wp C cs sl pc lv (.int x :: st) F := by
  obtain ⟨p, l, e, R, s, m, args, below, meth, c, Q, D, cy, A, nL⟩ := C
  obtain ⟨hx, hb, hml, hown, hts, hK, hA, hr, hlk, hR, hn0⟩ := X
  intro L H locs ls hw hl
  exact lv_tableOut hx hb d h ht (K L H locs ls hw hl)
theorem tsw_out {x : Int32} (h : ∀ k : Nat, k ≤ 20 → ¬ x = Int32.ofNat k) : x.toInt < 0 ∨ 20 < x.toInt := by
  by_cases h0 : x.toInt < 0
  · exact Or.inl h0
  · by_cases h1 : 20 < x.toInt
    · exact Or.inr h1
    · exfalso
      obtain ⟨k, hk⟩ : ∃ k : Nat, x.toInt = k := ⟨x.toInt.toNat, by omega⟩
      refine h k (by omega) (Int32.toInt_inj.mp ?_)
      rw [hk]
      exact (nI_toInt (n := k) (by omega)).symm
theorem wp_callH (X : Fx C cc own rt R0 n0) (Tt : LT C) {y : MethodName} {rm : Room} {ix n maxL : Nat} {bytes : ByteArray} {ret : Option FieldType} {hh : List (Nat × Nat × Nat × Nat)} (As : List Value) {o : Option (Int32 × Mem)} {β : Type} {f : Int32 × Mem → Option β} {res : β} {l0 : Launch} {D0 : va_G} {cy0 : Nat → ClassId} (hcd : CD C l0 D0 cy0)
    (hM : ∀ q, o = some q → MH l0 y bytes maxL ret hh rm D0 cy0 F As q) (k1 : Cond.methodLink own ix y ∈ BIG) (k2 : Cond.static y ∈ BIG) (k4 : Cond.initialized y.cls ∈ BIG) (k5 : Cond.codeWith y bytes maxL ret hh ∈ BIG) (hd : y.cls ≠ "java/lang/invoke/MethodHandle" ∧ y.cls ≠ "java/lang/invoke/VarHandle" ∧ (parseMethodDescriptor y.desc).map (fun d => d.parameters.length) = some n)
    (hRf : rm.frames + 1 ≤ R0.frames ∧ 8 + (maxL + 11) + rm.locals ≤ R0.locals) (hcap : cs + rm.cells ≤ R0.cells ∧ sl + rm.slots ≤ R0.slots) {cs2 sl2 : Nat} (hcs : cs + rm.cells = cs2) (hsl : sl + rm.slots = sl2) (hn : As.length = n) (hst : st0 = As.reverse ++ st) (hrm : (st.map fun v => v.category).sum ≤ 8) (d : decode cc pc = .ok (.invokestatic ix, 3))
    (h : o.bind f = some res) (K : ∀ q, f q = some res → Wp C cs2 sl2 (pc + 3) lv (.int q.1 :: st) q.2) : Wp C cs sl pc lv st0 F := by
  obtain ⟨p, l, e, R, s, m, args, below, meth, c, Q, D, cy, A, nL⟩ := C
  obtain ⟨hx, hb, hml, hown, hts, hK, hA, hr, hlk, hR, hn0⟩ := X
  obtain ⟨rfl, rfl, rfl⟩ := hcd
  obtain ⟨hst0, hTH, hNC⟩ := Tt
  intro L H locs ls hw hl
  subst hst
  subst hR
  subst hcs
  subst hsl
  obtain ⟨q, h3, h2⟩ := bnd h
  have hFc := wo_free hw hA
  refine va_calli (vx_runSW (hh := hh) (As := As) (rest := st) ⟨hx, hb, hml, hown, hts⟩ (hM q h3 L H.size) (vx_cwSW n hts (good_SH k1 k2 k4 k5) rfl rfl rfl hd hRf) ⟨pre2_blind, fun U hU hW => ⟨rfl, ⟨⟨by rw [hU], hw.1, by rw [hU]; exact hw.2.1, va_K.moved hW.alike hK, hw.2.2.1.weaken (fun _ _ _ _ => trivial)⟩, hTH.call hw.2.2.2 hW hU (fun q h9 => hFc q h9)⟩, hNC.moved hW.alike⟩⟩ rfl hn hl.1 rfl (lv_room hrm) d hcap) hw.2.2.2 (fun q _ h => hFc q h) hFc (fun r u t H1 locs1 ht hvm hw1 hB hz1 hk1 hS => ?_)
  subst hw1
  obtain ⟨L', g0, g1, g2, g3⟩ := hB
  rw [ht] at g1
  exact K _ h2 L' H1 locs1 ls ⟨g0, g1, g3.weaken (fun k q hk ha => hFc _ ha), hS⟩ hl
end LAW
