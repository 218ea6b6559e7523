section ALLOC
def nst : List (String × Nat × MethodName) := [(RX9, 23, yX7_init), (RX9, 41, yX4_init), (RX9, 48, yX1_init), (RX1, 11, yX4_init), (RX9, 62, yX6_init), (RX9, 69, yX0_init), (RX0, 25, yX4_init), (RX9, 76, yX2_init), (RX2, 26, yX4_init), (RX9, 81, yX8_init)]
/-- what the constructors rest on beside the tables' words: the classes of arrays of objects, and the links within the nest -/
def NS (U : State) : Prop := va_AO RX4 U ∧ va_AO RX8 U ∧ ∀ q ∈ nst, va_Nw (.methodLinkNest q.1 q.2.1 q.2.2 RX9) U
theorem NS.warm {s U : State} (hW : s.WarmedH U.vm) (h : NS s) : NS U := ⟨va_AO.moved hW.alike h.1, va_AO.moved hW.alike h.2.1, fun q hq => va_Nw.warmM hW (h.2.2 q hq)⟩
theorem NS.same {U U' : State} (hv : U.vm = U'.vm) (h : NS U) : NS U' := ⟨va_AO.moved (by rw [hv]; exact Vm.Alike.refl _) h.1, va_AO.moved (by rw [hv]; exact Vm.Alike.refl _) h.2.1, fun q hq => va_Nw.same rfl hv (h.2.2 q hq)⟩
def NSC (C : Cx) : Prop := match C with
  | (p, l, e, R, s, m, args, below, meth, c, Q, D, cy, A, nL) => NS s ∧ meth.name = "<init>"
def NSL (C : Cx) : Prop := match C with
  | (p, l, e, R, s, m, args, below, meth, c, Q, D, cy, A, nL) => NS s
theorem NSC.l {C : Cx} (h : NSC C) : NSL C := by
  obtain ⟨p, l, e, R, s, m, args, below, meth, c, Q, D, cy, A, nL⟩ := C
  exact h.1
def PreC (D : va_G) (cy : Nat → ClassId) (L : List Nat) (F : Mem) (sz : Nat) (U : State) : Prop := Pre0 D cy L F sz U ∧ NS U
theorem preC_blind {av : List Value} {D : va_G} {cy : Nat → ClassId} {L : List Nat} {F : Mem} {sz : Nat} : FrameBlind (va_Pc av (PreC D cy L F sz)) := fun a U g mk q => ⟨q.1, (pre0_blind a U g mk ⟨q.1, q.2.1⟩).2, NS.same (U := U) (U' := U.calling g mk a) rfl q.2.2⟩
def MP (l : Launch) (y : MethodName) (cc : ByteArray) (n : Nat) (rm : Room) (D : va_G) (cy : Nat → ClassId) (F : Mem) (av : List Value) (Post : Mem → Prop) : Prop := ∀ (L : List Nat) (sz : Nat), Met l y (wsy y cc n none) rm (va_Pc av (PreC D cy L F sz)) (va_Qv (fun F' => Post F') (Post0 D cy (va_A (pw cy L F) sz)) (va_A (pw cy L F) sz)) rm.cells rm.slots (va_A (pw cy L F) sz)
def RP (C : Cx) (mc ms : Nat) (Post : Mem → Prop) : Prop := match C with
  | (p, l, e, R, s, m, args, below, meth, c, Q, D, cy, A, nL) => Q = MQ below (va_Qv (fun F' => Post F') (Post0 D cy A) A) args s mc ms A
theorem mp_of {l : Launch} {y : MethodName} {rm : Room} {D : va_G} {cy : Nat → ClassId} {F : Mem} {av : List Value} {Post : Mem → Prop} {cc : ByteArray} {maxL : Nat} (hy : plainName y.cls = true) (hyn : y.name = "<init>") (hlen : (lg_sl av).length ≤ maxL) (lv : List (Nat × Value)) (hlv : lv_args 0 av = lv)
    (body : ∀ C : Cx, Fx C cc y.cls none rm maxL → CD C l D cy → NSC C → RP C rm.cells rm.slots Post → Wp C 0 0 0 lv [] F) : MP l y cc maxL rm D cy F av Post := by
  intro L sz
  refine Met.ofW (cc := cc) (maxL := maxL) (ret := none) hy rfl ?_
  intro p e s m args below meth c s₁ B hml hv
  obtain ⟨rfl, ⟨hsz, h0, hP, hK, hD0⟩, hNS⟩ := hv
  subst hsz
  have hl := lv_entry av (n := maxL) hlen
  rw [lg_entry_eq]
  rw [hlv] at hl
  have hin : meth.name = "<init>" := (name_of_methodNamed B.named B.method).1.trans hyn
  exact body (p, l, e, rm, s, m, av.toArray, below, meth, c, _, D, cy, va_A (pw cy L F) s.heap.size, maxL)
    ⟨B.exec, B.bytes, hml, findClass_of_methodNamed B.named, fun w h9 => atoms_spec (ws := wsy y cc maxL none) B.pre w (List.mem_cons_of_mem _ h9), hK, fun q h => Or.inr h, B.returns, B.notSynchronized, rfl, rfl⟩ ⟨rfl, rfl, rfl⟩ ⟨hNS, hin⟩ rfl
    L s.heap [] _ ⟨h0, hP, hD0.self (sz := s.heap.size), va_S.rf⟩ hl
theorem wo_push {D : va_G} {cy : Nat → ClassId} {A : Nat → Prop} {H0 H H1 : Heap} {L : List Nat} {F : Mem} {locs locs1 : List Loc} {q : Nat} {c : Cl} (hw : wo D cy A H0 L F H locs) (hq : q ∉ L) (hP : va_P D vwCl (pw cy L F ++ [(q, toE cy c)]) H1) (hD : va_D A (pw cy L F ++ [(q, toE cy c)])) (hS : va_S A H0 H1 locs1) : wo D cy A H0 (L ++ [q]) (va_up F q c) H1 locs1 := by
  have e : pw cy L F ++ [(q, toE cy c)] = pw cy (L ++ [q]) (va_up F q c) := by
    show va_pl L (fun a => toE cy (F a)) ++ [(q, toE cy c)] = va_pl (L ++ [q]) (fun a => toE cy (va_up F q c a))
    rw [va_pl_push hq, toE_up]
  rw [e] at hP hD
  refine ⟨fun b hb => ?_, hP, hD, hS⟩
  have h1 : b ∉ L := fun h => hb (List.mem_append_left _ h)
  have h2 : b ≠ q := fun h => hb (List.mem_append_right _ (by rw [h]; exact List.mem_singleton.mpr rfl))
  rw [va_up_ne _ _ h2]
  exact hw.1 b h1
theorem fresh_of {A : Nat → Prop} {cy : Nat → ClassId} {L : List Nat} {F : Mem} {q : Nat} {x : va_E} (hD : va_D A (pw cy L F ++ [(q, x)])) : q ∉ L := by
  intro hm
  obtain ⟨k, hk⟩ := va_pl_get (X := ([] : va_W)) (f := fun a => toE cy (F a)) hm
  have hlt : k < (pw cy L F).length := (List.getElem?_eq_some_iff.mp hk).1
  have h1 : (pw cy L F ++ [(q, x)])[k]? = some (q, toE cy (F q)) := by rw [List.getElem?_append_left hlt]; exact hk
  have h2 : (pw cy L F ++ [(q, x)])[(pw cy L F).length]? = some (q, x) := by simp
  have h3 := hD.1 _ _ _ _ h1 h2 rfl
  omega
theorem wo_newA {D : va_G} {cy : Nat → ClassId} {A : Nat → Prop} {H0 H H1 : Heap} {L : List Nat} {F : Mem} {locs : List Loc} {t : Nat} {a0 : vp_A} (hw : wo D cy A H0 L F H locs) (hA : ∀ q, H0.size ≤ q → A q) (hc : H1[H.size]? = some (vp_cell (cy t) a0)) (hz : H1.size = H.size + 1) (hk : ∀ q, q < H.size → H1[q]? = H[q]?) : F H.size = jk ∧ wo D cy A H0 (L ++ [H.size]) (va_up F H.size (.inl (t, a0))) H1 locs := by
  have hq : H.size ∉ L := va_pl_fresh hw.2.1 (Nat.le_refl _)
  refine ⟨hw.1 _ hq, wo_push hw hq ?_ ?_ ?_⟩
  · refine (hw.2.1.kept (fun k q hk9 => hk q.1 ((hw.2.1 k q hk9).lt))).app ?_
    intro k q hk9
    match k, hk9 with
    | 0, hk9 => cases hk9; exact hc
  · exact hw.2.2.1.push hw.2.1 rfl (hA _ hw.2.2.2.1)
  · exact ⟨by rw [hz]; exact Nat.le_succ_of_le hw.2.2.2.1, fun q h1 h2 => by rw [hk q (Nat.lt_of_lt_of_le h1 hw.2.2.2.1)]; exact hw.2.2.2.2.1 q h1 h2, hw.2.2.2.2.2⟩
def wrQ (F : Mem) (t a : Nat) (i : Int32) (v ci : Nat) : Option Mem := (arQ F t a).bind fun q => (obj F v ci).bind fun _ => if inb i q.1 then some (va_up F a (.inl (t, q.1, .inr (.inr (.inr (.inr (va_up q.2 i.toNatClampNeg (some v)))))))) else none
variable {C : Cx} {cc : ByteArray} {own : String} {rt : Option FieldType} {R0 : Room} {n0 cs sl pc mc ms : Nat} {lv : List (Nat × Value)} {st st0 : List Value} {F : Mem}

theorem wq_return (X : Fx C cc own rt R0 n0) {Post : Mem → Prop} (Qr : RP C mc ms Post) (hc : cs ≤ mc) (hs : sl ≤ ms) (hrt : rt = none) (d : decode cc pc = .ok (.return_, 1)) (h : Post F) : Wp C cs sl pc lv [] F := by
  obtain ⟨p, l, e, R, s, m, args, below, meth, c, Q, D, cy, A, nL⟩ := C
  obtain ⟨hx, hb, hml, hown, hts, hK, hA, hr, hlk, hR, hn0⟩ := X
  intro L H locs ls hw hl
  cases Qr
  exact W.widen hc hs (W.vret hx hb (hr.trans hrt) (fun t ht hW => ⟨⟨F, rfl, h, L, hw.1, by rw [ht]; exact hw.2.1, va_K.moved hW.alike hK, hw.2.2.1⟩, hw.2.2.2.F ht⟩) hw.2.2.2.2.2 d hlk)
theorem wq_objInit (X : Fx C cc own rt R0 n0) {ix a : Nat} (k1 : Cond.methodLink own ix objectInit ∈ BIG) (k2 : Cond.instanceMethod objectInit ∈ BIG) (k3 : Cond.code objectInit ⟨#[0xb1]⟩ 1 none ∈ BIG) (hf1 : 1 ≤ R0.frames) (hf2 : (st.map fun v => v.category).sum + 12 ≤ R0.locals) (d : decode cc pc = .ok (.invokespecial ix, 3)) (K : Wp C cs sl (pc + 3) lv st F) : Wp C cs sl pc lv (.ref a :: st) F := by
  obtain ⟨p, l, e, R, s, m, args, below, meth, c, Q, D, cy, A, nL⟩ := C
  obtain ⟨hx, hb, hml, hown, hts, hK, hA, hr, hlk, hR, hn0⟩ := X
  intro L H locs ls hw hl
  subst hR
  exact W.objInit hx hb hown (hts _ k1) (hts _ k2) (hts _ k3) rfl (by show ls.size = _; rw [hl.1, hml]) rfl d hf1 (by show 2 * 0 + _ + 12 ≤ _; omega) (K L H locs ls hw hl)
theorem wq_new (X : Fx C cc own rt R0 n0) {CN : String} {T : u_T} {N ix ci : Nat} {fs : List Value} {G : Nat → Prop} (ty : Nat → FieldType) (hc : vwCl[ci]? = some (CN, T, N)) (hin : ∀ w ∈ u_ws CN T N, w ∈ BIG) (hty : ∀ k, k < N → parseFieldDescriptor (T k).2.2.1 = some (ty k)) (k1 : Cond.classLink own ix CN ∈ BIG) (k2 : Cond.instantiable CN N ∈ BIG) (k3 : Cond.initialized CN ∈ BIG) (hfs : ∀ j, j < N → defaultValue (ty j) = vp_V fs j) (hf1 : cs + 1 ≤ R0.cells) (hf2 : sl + N ≤ R0.slots) {cs2 sl2 : Nat} (hcs : cs + 1 = cs2) (hsl : sl + N = sl2) (d : decode cc pc = .ok (.new ix, 3)) (h : ∀ q, F q = jk → G q) (K : ∀ q, F q = jk → G q → Wp C cs2 sl2 (pc + 3) lv (.ref q :: st) (va_up F q (.inr (ci, fs)))) : Wp C cs sl pc lv st F := by
  obtain ⟨p, l, e, R, s, m, args, below, meth, c, Q, D, cy, A, nL⟩ := C
  obtain ⟨hx, hb, hml, hown, hts, hK, hA, hr, hlk, hR, hn0⟩ := X
  intro L H locs ls hw hl
  subst hR
  subst hcs
  subst hsl
  refine va_new hx hb hts hin ty hty hown (hts _ k1) (hts _ k2) (hts _ k3) hK hw.2.1 hw.2.2.1 hw.2.2.2 hA hc hfs hf1 hf2 d (fun q H1 hP hD hS => ?_)
  have hq := fresh_of hD
  have hj := hw.1 q hq
  exact K q hj (h q hj) (L ++ [q]) H1 locs ls (wo_push (c := .inr (ci, fs)) hw hq hP hD hS) hl
theorem wq_newarr (X : Fx C cc own rt R0 n0) {atype : ArrayType} (t : Nat) {ty : FieldType} {n : Int32} {N : Nat} (a0 : vp_A) {G : Nat → Prop} (hty : newarray.typeOf atype = ty) (ht : ∀ cy : Nat → ClassId, (ty5 cy)[t]? = some (cy t, ty)) (hra : ∀ (U : State) (cA : ClassId), va_RA U cA ty → U.vm.findClass ("[" ++ ty.toString) = some cA) (ha : ∀ cA : ClassId, vp_cell cA a0 = arrV cA N (fun _ => defaultValue ty)) (k1 : Cond.arrayClass ty ∈ BIG) (hn : ¬ n < 0) (hN : n.toNatClampNeg = N) (hby : N * componentBytes ty ≤ 536870912) (hf1 : cs + 1 ≤ R0.cells) (hf2 : sl + N ≤ R0.slots) {cs2 sl2 : Nat} (hcs : cs + 1 = cs2) (hsl : sl + N = sl2) (d : decode cc pc = .ok (.newarray atype, 2)) (h : ∀ q, F q = jk → G q) (K : ∀ q, F q = jk → G q → Wp C cs2 sl2 (pc + 2) lv (.ref q :: st) (va_up F q (.inl (t, a0)))) : Wp C cs sl pc lv (.int n :: st) F := by
  obtain ⟨p, l, e, R, s, m, args, below, meth, c, Q, D, cy, A, nL⟩ := C
  obtain ⟨hx, hb, hml, hown, hts, hK, hA, hr, hlk, hR, hn0⟩ := X
  intro L H locs ls hw hl
  subst hR
  subst hcs
  subst hsl
  subst hty
  refine va_newaK hx hb (hts _ k1) rfl d rfl hn hN hby hf1 hf2 rfl (fun H' cA g1 g2 g3 g4 g5 => ?_)
  have e : cA = cy t := Option.some.inj (g5.symm.trans (hra _ _ (hK.2 t _ (ht cy)).2))
  subst e
  obtain ⟨hj, hw'⟩ := wo_newA (t := t) (a0 := a0) hw hA (by rw [ha]; exact g1) g2 g3
  exact K _ hj (h _ hj) _ _ _ ls hw' hl
theorem wq_anewarr (X : Fx C cc own rt R0 n0) (Ns : NSC C) (t : Nat) {CN : String} {ix : Nat} {n : Int32} {N : Nat} {G : Nat → Prop} (ht : ∀ cy : Nat → ClassId, (ty5 cy)[t]? = some (cy t, .object CN)) (hao : ∀ U : State, NS U → va_AO CN U) (k1 : Cond.classLink own ix CN ∈ BIG) (hn : ¬ n < 0) (hN : n.toNatClampNeg = N) (hby : N * 4 ≤ 536870912) (hf1 : cs + 1 ≤ R0.cells) (hf2 : sl + N ≤ R0.slots) {cs2 sl2 : Nat} (hcs : cs + 1 = cs2) (hsl : sl + N = sl2) (d : decode cc pc = .ok (.anewarray ix, 3)) (h : ∀ q, F q = jk → G q) (K : ∀ q, F q = jk → G q → Wp C cs2 sl2 (pc + 3) lv (.ref q :: st) (va_up F q (.inl (t, (N, .inr (.inr (.inr (.inr (fun _ => none))))))))) : Wp C cs sl pc lv (.int n :: st) F := by
  obtain ⟨p, l, e, R, s, m, args, below, meth, c, Q, D, cy, A, nL⟩ := C
  obtain ⟨hx, hb, hml, hown, hts, hK, hA, hr, hlk, hR, hn0⟩ := X
  intro L H locs ls hw hl
  subst hR
  subst hcs
  subst hsl
  subst hN
  refine W.anew hx hb hown (hts _ k1) (va_AO.use (hao _ Ns.1)) rfl d rfl hn hby hf1 hf2 (fun cA kA comp f1 f2 f3 f4 => ?_)
  obtain ⟨kB, comp', g1, g2, g3, g4⟩ := (hK.2 t _ (ht cy)).2
  have e : cA = cy t := Option.some.inj (f1.symm.trans g4)
  subst e
  obtain ⟨hj, hw'⟩ := wo_newA (t := t) (a0 := (n.toNatClampNeg, .inr (.inr (.inr (.inr (fun _ => none)))))) (H1 := H.push { cls := cy t, slots := Array.replicate n.toNatClampNeg .null, vm := .none }) hw hA (by rw [Array.getElem?_push_size]; show some _ = some (arrV (cy t) n.toNatClampNeg (fun _ => Value.null)); rw [arrV_new]) (by rw [Array.size_push]) (fun q hq => by rw [Array.getElem?_push, if_neg (Nat.ne_of_lt hq)])
  exact K _ hj (h _ hj) _ _ _ ls hw' hl
theorem wq_iaload (X : Fx C cc own rt R0 n0) {a : Nat} {i : Int32} {G : Int32 → Prop}  (d : decode cc pc = .ok (.iaload, 1)) (h : ∃ v, rdI F 0 a i = some v ∧ G v) (K : ∀ v, G v → Wp C cs sl (pc + 1) lv (.int v :: st) F) : Wp C cs sl pc lv (.int i :: .ref a :: st) F := by
  obtain ⟨v, hv, hG⟩ := h
  exact wp_iaload X  d (f := fun u => some u) (res := v) (by rw [hv]; rfl) (fun u hu => by cases hu; exact K v hG)
theorem wq_iastore (X : Fx C cc own rt R0 n0) {a : Nat} {i x : Int32} {G : Mem → Prop}  (d : decode cc pc = .ok (.iastore, 1)) (h : ∃ v, wrI F a i x = some v ∧ G v) (K : ∀ v, G v → Wp C cs sl (pc + 1) lv st v) : Wp C cs sl pc lv (.int x :: .int i :: .ref a :: st) F := by
  obtain ⟨v, hv, hG⟩ := h
  exact wp_iastore X  d (f := fun u => some u) (res := v) (by rw [hv]; rfl) (fun u hu => by cases hu; exact K v hG)
theorem wq_getI (X : Fx C cc own rt R0 n0) {CN : String} {T : u_T} {N ix a ci k : Nat} {G : Int32 → Prop} (hc : vwCl[ci]? = some (CN, T, N)) (hci : ci ≠ 99) (hk : k < N) (hin : ∀ w ∈ u_ws CN T N, w ∈ BIG) (hlink : Cond.fieldLink own ix (T k).1 (T k).2.1 (T k).2.2.1 ∈ BIG) (d : decode cc pc = .ok (.getfield ix, 3)) (h : ∃ v, gfI F a ci k = some v ∧ G v) (K : ∀ v, G v → Wp C cs sl (pc + 3) lv (.int v :: st) F) : Wp C cs sl pc lv (.ref a :: st) F := by
  obtain ⟨v, hv, hG⟩ := h
  exact wp_getI X hc hci hk hin hlink d (f := fun u => some u) (res := v) (by rw [hv]; rfl) (fun u hu => by cases hu; exact K v hG)
theorem wq_getR (X : Fx C cc own rt R0 n0) {CN : String} {T : u_T} {N ix a ci k : Nat} {G : Nat → Prop} (hc : vwCl[ci]? = some (CN, T, N)) (hci : ci ≠ 99) (hk : k < N) (hin : ∀ w ∈ u_ws CN T N, w ∈ BIG) (hlink : Cond.fieldLink own ix (T k).1 (T k).2.1 (T k).2.2.1 ∈ BIG) (d : decode cc pc = .ok (.getfield ix, 3)) (h : ∃ v, gfR F a ci k = some v ∧ G v) (K : ∀ v, G v → Wp C cs sl (pc + 3) lv (.ref v :: st) F) : Wp C cs sl pc lv (.ref a :: st) F := by
  obtain ⟨v, hv, hG⟩ := h
  exact wp_getR X hc hci hk hin hlink d (f := fun u => some u) (res := v) (by rw [hv]; rfl) (fun u hu => by cases hu; exact K v hG)
theorem wq_put (X : Fx C cc own rt R0 n0) {CN : String} {T : u_T} {N ix a ci k : Nat} {v9 : Value} (ty0 : Nat → FieldType) {ty : FieldType} {G : Mem → Prop} (hc : vwCl[ci]? = some (CN, T, N)) (hci : ci ≠ 99) (hk : k < N) (hin : ∀ w ∈ u_ws CN T N, w ∈ BIG) (hlink : Cond.fieldLink own ix (T k).1 (T k).2.1 (T k).2.2.1 ∈ BIG) (hty : ∀ k, k < N → parseFieldDescriptor (T k).2.2.1 = some (ty0 k)) (hnm : ∀ a, a < N → ∀ b, b < N → a ≠ b → (T a).2.1 ≠ (T b).2.1) (hfin : (T k).2.2.2 = false) (hd : ty0 k = ty) (hn : narrow ty v9 = v9) (hfit : fits ty v9 = true) (d : decode cc pc = .ok (.putfield ix, 3)) (h : ∃ v, pf F a ci k v9 = some v ∧ G v) (K : ∀ v, G v → Wp C cs sl (pc + 3) lv st v) : Wp C cs sl pc lv (v9 :: .ref a :: st) F := by
  obtain ⟨v, hv, hG⟩ := h
  exact wp_put X ty0 hc hci hk hin hlink hty hnm hfin hd hn hfit d (f := fun u => some u) (res := v) (by rw [hv]; rfl) (fun u hu => by cases hu; exact K v hG)
theorem wq_putF (X : Fx C cc own rt R0 n0) (Ns : NSC C) {CN : String} {T : u_T} {N ix a ci k : Nat} {v9 : Value} (ty0 : Nat → FieldType) {ty : FieldType} {G : Mem → Prop} (hc : vwCl[ci]? = some (CN, T, N)) (hci : ci ≠ 99) (hk : k < N) (hin : ∀ w ∈ u_ws CN T N, w ∈ BIG) (hlink : Cond.fieldLink own ix (T k).1 (T k).2.1 (T k).2.2.1 ∈ BIG) (hty : ∀ k, k < N → parseFieldDescriptor (T k).2.2.1 = some (ty0 k)) (hnm : ∀ a, a < N → ∀ b, b < N → a ≠ b → (T a).2.1 ≠ (T b).2.1) (hfin : (T k).2.2.2 = true) (hdecl : (T k).1 = own) (hd : ty0 k = ty) (hn : narrow ty v9 = v9) (hfit : fits ty v9 = true) (d : decode cc pc = .ok (.putfield ix, 3)) (h : ∃ v, pf F a ci k v9 = some v ∧ G v) (K : ∀ v, G v → Wp C cs sl (pc + 3) lv st v) : Wp C cs sl pc lv (v9 :: .ref a :: st) F := by
  obtain ⟨p, l, e, R, s, m, args, below, meth, c, Q, D, cy, A, nL⟩ := C
  obtain ⟨hx, hb, hml, hown, hts, hK, hA, hr, hlk, hR, hn0⟩ := X
  intro L H locs ls hw hl
  obtain ⟨F2, h1, h2⟩ := h
  obtain ⟨fs, h3, h4⟩ := bnd h1
  have e := obj_eq h3
  have hm := wo_mem hw (ne_jk_r e hci)
  obtain ⟨q, hq⟩ := va_pl_get (X := ([] : va_W)) (f := fun a => toE cy (F a)) hm
  by_cases hlt : k < fs.length
  · simp only [hlt, if_true] at h4
    cases h4
    exact va_putF hx hb hts hin ty0 hty hnm hown hK hw.2.1 hw.2.2.1 hw.2.2.2 q (hq.trans (by simp only [e]; rfl)) hc k hk (hts _ hlink) (fun _ h9 => h9) hfin Ns.2 hdecl (by rw [hty k hk, hd]) hn hfit hlt d (fun H1 locs1 hP hD hS => K _ h2 L H1 locs1 ls (wo_set (c := .inr (ci, fs.set k v9)) hw.1 hw.2.2.1 hm hq hP hD hS) hl)
  · simp only [hlt, if_false] at h4
    cases h4
theorem wq_aastore (X : Fx C cc own rt R0 n0) (t : Nat) {CN : String} {T : u_T} {N a v ci : Nat} {i : Int32} {G : Mem → Prop} (ht : ∀ cy : Nat → ClassId, (ty5 cy)[t]? = some (cy t, .object CN)) (hc : vwCl[ci]? = some (CN, T, N)) (hci : ci ≠ 99) (d : decode cc pc = .ok (.aastore, 1)) (h : ∃ F', wrQ F t a i v ci = some F' ∧ G F') (K : ∀ F', G F' → Wp C cs sl (pc + 1) lv st F') : Wp C cs sl pc lv (.ref v :: .int i :: .ref a :: st) F := by
  obtain ⟨p, l, e, R, s, m, args, below, meth, c, Q, D, cy, A, nL⟩ := C
  obtain ⟨hx, hb, hml, hown, hts, hK, hA, hr, hlk, hR, hn0⟩ := X
  intro L H locs ls hw hl
  obtain ⟨F2, h1, h2⟩ := h
  obtain ⟨⟨n, g⟩, h3, h4⟩ := bnd h1
  obtain ⟨fs, h5, h6⟩ := bnd h4
  have e := arQ_eq h3
  have e2 := obj_eq h5
  have hm := wo_mem hw (ne_jk_l e)
  obtain ⟨k, hk⟩ := va_pl_get (X := ([] : va_W)) (f := fun a => toE cy (F a)) hm
  obtain ⟨k2, hk2⟩ := va_pl_get (X := ([] : va_W)) (f := fun a => toE cy (F a)) (wo_mem hw (ne_jk_r e2 hci))
  by_cases hi : inb i n = true
  · simp only [hi, if_true] at h6
    cases h6
    exact va_astq hx hb hK hw.2.1 hw.2.2.1 hw.2.2.2 k t k2 ci (r := (CN, T, N)) (hk.trans (by simp only [e]; rfl)) (ht cy) (hk2.trans (by simp only [e2]; rfl)) hc (inb_vp hi) d (fun H1 locs1 hP hD hS => K _ h2 L H1 locs1 ls (wo_set (c := .inl (t, n, .inr (.inr (.inr (.inr (va_up g i.toNatClampNeg (some v))))))) hw.1 hw.2.2.1 hm hk hP hD hS) hl)
  · simp only [hi] at h6
    cases h6
theorem good_C {n : Nat} {y : MethodName} {cc : ByteArray} {ret : Option FieldType} (k5 : Cond.code y cc n ret ∈ BIG) : GoodIn BIG (wsy y cc n ret) := by
  intro w hw
  rcases List.mem_cons.mp hw with rfl | hw
  · exact big_good k5
  · exact big_good hw
theorem wq_initN (X : Fx C cc own rt R0 n0) (Ns : NSL C) {y : MethodName} {rm : Room} {ix n maxL b : Nat} {bytes : ByteArray} (As : List Value) {G : Mem → Prop} {l0 : Launch} {D0 : va_G} {cy0 : Nat → ClassId} (hcd : CD C l0 D0 cy0) (hM : MP l0 y bytes maxL rm D0 cy0 F (.ref b :: As) G) (k1 : (own, ix, y) ∈ nst) (k2 : Cond.instanceMethod y ∈ BIG) (k4 : Cond.initialized y.cls ∈ BIG) (k5 : Cond.code y bytes maxL none ∈ BIG) (hyn : y.name = "<init>") (hd : y.cls ≠ "java/lang/invoke/MethodHandle" ∧ y.cls ≠ "java/lang/invoke/VarHandle" ∧ (parseMethodDescriptor y.desc).map (fun d => d.parameters.length) = some n)
    (hRf : rm.frames + 1 ≤ R0.frames ∧ 8 + (maxL + 11) + rm.locals ≤ R0.locals) (hcap : cs + rm.cells ≤ R0.cells ∧ sl + rm.slots ≤ R0.slots) {cs2 sl2 : Nat} (hcs : cs + rm.cells = cs2) (hsl : sl + rm.slots = sl2) (hn : As.length = n) (hst : st0 = As.reverse ++ .ref b :: st) (hrm : (st.map fun v => v.category).sum ≤ 8) (d : decode cc pc = .ok (.invokespecial ix, 3))
    (K : ∀ F', G F' → Wp C cs2 sl2 (pc + 3) lv st F') : Wp C cs sl pc lv st0 F := by
  obtain ⟨p, l, e, R, s, m, args, below, meth, c, Q, D, cy, A, nL⟩ := C
  obtain ⟨hx, hb, hml, hown, hts, hK, hA, hr, hlk, hR, hn0⟩ := X
  obtain ⟨rfl, rfl, rfl⟩ := hcd
  have Ns : NS s := Ns
  intro L H locs ls hw hl
  subst hst
  subst hR
  subst hcs
  subst hsl
  have hFc := wo_free hw hA
  refine va_callv (va_runIN (As := As) (rest := st) ⟨hx, hb, hml, hown, hts⟩ (hM L H.size) ⟨va_cnB n hts (good_C k5) rfl rfl rfl (Ns.2.2 _ k1) (hts _ k4) hd hRf, hyn, hts _ k2⟩ ⟨preC_blind, fun U hU hW => ⟨rfl, ⟨by rw [hU], hw.1, by rw [hU]; exact hw.2.1, va_K.moved hW.alike hK, hw.2.2.1.weaken (fun _ _ _ _ => trivial)⟩, Ns.warm hW⟩⟩ rfl hn hl.1 rfl (lv_room hrm) d hcap) hw.2.2.2 (fun q _ h => hFc q h) hFc (fun u t H1 locs1 ht hvm hw1 hB hz1 hk1 hS => ?_)
  obtain ⟨L', g0, g1, g2, g3⟩ := hB
  rw [ht] at g1
  exact K _ hw1 L' H1 locs1 ls ⟨g0, g1, g3.weaken (fun k q hk ha => hFc _ ha), hS⟩ hl
theorem wq_init (X : Fx C cc own rt R0 n0) (Ns : NSL C) {y : MethodName} {rm : Room} {ix n maxL b : Nat} {bytes : ByteArray} (As : List Value) {G : Mem → Prop} {l0 : Launch} {D0 : va_G} {cy0 : Nat → ClassId} (hcd : CD C l0 D0 cy0) (hM : MP l0 y bytes maxL rm D0 cy0 F (.ref b :: As) G) (k1 : Cond.methodLink own ix y ∈ BIG) (k2 : Cond.instanceMethod y ∈ BIG) (k4 : Cond.initialized y.cls ∈ BIG) (k5 : Cond.code y bytes maxL none ∈ BIG) (hyn : y.name = "<init>") (hd : y.cls ≠ "java/lang/invoke/MethodHandle" ∧ y.cls ≠ "java/lang/invoke/VarHandle" ∧ (parseMethodDescriptor y.desc).map (fun d => d.parameters.length) = some n)
    (hRf : rm.frames + 1 ≤ R0.frames ∧ 8 + (maxL + 11) + rm.locals ≤ R0.locals) (hcap : cs + rm.cells ≤ R0.cells ∧ sl + rm.slots ≤ R0.slots) {cs2 sl2 : Nat} (hcs : cs + rm.cells = cs2) (hsl : sl + rm.slots = sl2) (hn : As.length = n) (hst : st0 = As.reverse ++ .ref b :: st) (hrm : (st.map fun v => v.category).sum ≤ 8) (d : decode cc pc = .ok (.invokespecial ix, 3))
    (K : ∀ F', G F' → Wp C cs2 sl2 (pc + 3) lv st F') : Wp C cs sl pc lv st0 F := by
  obtain ⟨p, l, e, R, s, m, args, below, meth, c, Q, D, cy, A, nL⟩ := C
  obtain ⟨hx, hb, hml, hown, hts, hK, hA, hr, hlk, hR, hn0⟩ := X
  obtain ⟨rfl, rfl, rfl⟩ := hcd
  have Ns : NS s := Ns
  intro L H locs ls hw hl
  subst hst
  subst hR
  subst hcs
  subst hsl
  have hFc := wo_free hw hA
  refine va_callv (va_runI (As := As) (rest := st) ⟨hx, hb, hml, hown, hts⟩ (hM L H.size) (cwI n hts (good_C k5) rfl rfl rfl (hts _ k4) (hts _ k1) (hts _ k2) hyn hd hRf) ⟨preC_blind, fun U hU hW => ⟨rfl, ⟨by rw [hU], hw.1, by rw [hU]; exact hw.2.1, va_K.moved hW.alike hK, hw.2.2.1.weaken (fun _ _ _ _ => trivial)⟩, Ns.warm hW⟩⟩ rfl hn hl.1 rfl (lv_room hrm) d hcap) hw.2.2.2 (fun q _ h => hFc q h) hFc (fun u t H1 locs1 ht hvm hw1 hB hz1 hk1 hS => ?_)
  obtain ⟨L', g0, g1, g2, g3⟩ := hB
  rw [ht] at g1
  exact K _ hw1 L' H1 locs1 ls ⟨g0, g1, g3.weaken (fun k q hk ha => hFc _ ha), hS⟩ hl
theorem wq_icmp_eq (X : Fx C cc own rt R0 n0) {x y : Int32} {off : Int} {tgt : Nat} {fT fE : Prop} (d : decode cc pc = .ok (.if_icmp .eq off, 3)) (ht : (pc : Int) + off = (tgt : Int)) (h : (x = y → fT) ∧ (¬ x = y → fE)) (kt : fT → Wp C cs sl tgt lv st F) (kf : fE → Wp C cs sl (pc + 3) lv st F) : Wp C cs sl pc lv (.int y :: .int x :: st) F := by
  by_cases q : x = y
  · exact wp_icmp_eq X d ht (β := Unit) (res := ()) (fT := some ()) (fE := none) (by rw [if_pos q]) (fun h9 => kt (h.1 q)) (fun h9 => by cases h9)
  · exact wp_icmp_eq X d ht (β := Unit) (res := ()) (fT := none) (fE := some ()) (by rw [if_neg q]) (fun h9 => by cases h9) (fun h9 => kf (h.2 q))
theorem wq_icmp_ne (X : Fx C cc own rt R0 n0) {x y : Int32} {off : Int} {tgt : Nat} {fT fE : Prop} (d : decode cc pc = .ok (.if_icmp .ne off, 3)) (ht : (pc : Int) + off = (tgt : Int)) (h : (x = y → fE) ∧ (¬ x = y → fT)) (kt : fT → Wp C cs sl tgt lv st F) (kf : fE → Wp C cs sl (pc + 3) lv st F) : Wp C cs sl pc lv (.int y :: .int x :: st) F := by
  by_cases q : x = y
  · exact wp_icmp_ne X d ht (β := Unit) (res := ()) (fE := some ()) (fT := none) (by rw [if_pos q]) (fun h9 => by cases h9) (fun h9 => kf (h.1 q))
  · exact wp_icmp_ne X d ht (β := Unit) (res := ()) (fE := none) (fT := some ()) (by rw [if_neg q]) (fun h9 => kt (h.2 q)) (fun h9 => by cases h9)
theorem wq_icmp_lt (X : Fx C cc own rt R0 n0) {x y : Int32} {off : Int} {tgt : Nat} {fT fE : Prop} (d : decode cc pc = .ok (.if_icmp .lt off, 3)) (ht : (pc : Int) + off = (tgt : Int)) (h : (x < y → fT) ∧ (¬ x < y → fE)) (kt : fT → Wp C cs sl tgt lv st F) (kf : fE → Wp C cs sl (pc + 3) lv st F) : Wp C cs sl pc lv (.int y :: .int x :: st) F := by
  by_cases q : x < y
  · exact wp_icmp_lt X d ht (β := Unit) (res := ()) (fT := some ()) (fE := none) (by rw [if_pos q]) (fun h9 => kt (h.1 q)) (fun h9 => by cases h9)
  · exact wp_icmp_lt X d ht (β := Unit) (res := ()) (fT := none) (fE := some ()) (by rw [if_neg q]) (fun h9 => by cases h9) (fun h9 => kf (h.2 q))
theorem wq_icmp_ge (X : Fx C cc own rt R0 n0) {x y : Int32} {off : Int} {tgt : Nat} {fT fE : Prop} (d : decode cc pc = .ok (.if_icmp .ge off, 3)) (ht : (pc : Int) + off = (tgt : Int)) (h : (y ≤ x → fT) ∧ (¬ y ≤ x → fE)) (kt : fT → Wp C cs sl tgt lv st F) (kf : fE → Wp C cs sl (pc + 3) lv st F) : Wp C cs sl pc lv (.int y :: .int x :: st) F := by
  by_cases q : y ≤ x
  · exact wp_icmp_ge X d ht (β := Unit) (res := ()) (fT := some ()) (fE := none) (by rw [if_pos q]) (fun h9 => kt (h.1 q)) (fun h9 => by cases h9)
  · exact wp_icmp_ge X d ht (β := Unit) (res := ()) (fT := none) (fE := some ()) (by rw [if_neg q]) (fun h9 => by cases h9) (fun h9 => kf (h.2 q))
theorem wq_icmp_gt (X : Fx C cc own rt R0 n0) {x y : Int32} {off : Int} {tgt : Nat} {fT fE : Prop} (d : decode cc pc = .ok (.if_icmp .gt off, 3)) (ht : (pc : Int) + off = (tgt : Int)) (h : (y < x → fT) ∧ (¬ y < x → fE)) (kt : fT → Wp C cs sl tgt lv st F) (kf : fE → Wp C cs sl (pc + 3) lv st F) : Wp C cs sl pc lv (.int y :: .int x :: st) F := by
  by_cases q : y < x
  · exact wp_icmp_gt X d ht (β := Unit) (res := ()) (fT := some ()) (fE := none) (by rw [if_pos q]) (fun h9 => kt (h.1 q)) (fun h9 => by cases h9)
  · exact wp_icmp_gt X d ht (β := Unit) (res := ()) (fT := none) (fE := some ()) (by rw [if_neg q]) (fun h9 => by cases h9) (fun h9 => kf (h.2 q))
theorem wq_icmp_le (X : Fx C cc own rt R0 n0) {x y : Int32} {off : Int} {tgt : Nat} {fT fE : Prop} (d : decode cc pc = .ok (.if_icmp .le off, 3)) (ht : (pc : Int) + off = (tgt : Int)) (h : (x ≤ y → fT) ∧ (¬ x ≤ y → fE)) (kt : fT → Wp C cs sl tgt lv st F) (kf : fE → Wp C cs sl (pc + 3) lv st F) : Wp C cs sl pc lv (.int y :: .int x :: st) F := by
  by_cases q : x ≤ y
  · exact wp_icmp_le X d ht (β := Unit) (res := ()) (fT := some ()) (fE := none) (by rw [if_pos q]) (fun h9 => kt (h.1 q)) (fun h9 => by cases h9)
  · exact wp_icmp_le X d ht (β := Unit) (res := ()) (fT := none) (fE := some ()) (by rw [if_neg q]) (fun h9 => by cases h9) (fun h9 => kf (h.2 q))
end ALLOC
