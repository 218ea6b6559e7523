section CATCH
/-- a row of the table that names a class: the link is noted, and the row takes the thrown thing or passes it on -/
theorem ck_row {e : Env} {f : JFrame} {a : Addr} {Q : Handler → Pre} {E : CtlPost} {d : Bool} {acts : List Action} {S : State} {x : ExceptionTableEntry} {tl : List ExceptionTableEntry} {c : ClassId} {ce : Cell} (hx : covers x f.pc = true) (h0 : x.catchType ≠ 0) (hl : S.vm.ClassLinks e.platform f.method.cls x.catchType c) (hce : S.heap[a]? = some ce) (hv : ∀ k, ce.vm ≠ .statics k) (hk : ∃ k, S.vm.classes[ce.cls]? = some k) (hc : ∃ k, S.vm.classes[c]? = some k) :
    wp (findHandler.go f a (x :: tl)) Q E e d acts S ↔ if S.vm.assignable ce.cls c = true then Q (.found x.handlerPc) d acts (S.setVm (S.vm.noted f.method.cls x.catchType (.cls c))) else wp (findHandler.go f a tl) Q E e d acts (S.setVm (S.vm.noted f.method.cls x.catchType (.cls c))) := by
  have hal : S.vm.Alike (S.vm.noted f.method.cls x.catchType (.cls c)) := (Vm.Alike.refl S.vm).noted _ _ _
  obtain ⟨op1, op2⟩ := (resolveClass_links e.toSetting hl).op (op := VmOp.resolveClass f.method.cls x.catchType) rfl
  obtain ⟨ka, hka⟩ := hk
  obtain ⟨kc, hkc⟩ := hc
  obtain ⟨ka', hka', -⟩ := hal.2.2 _ _ hka
  obtain ⟨kc', hkc', -⟩ := hal.2.2 _ _ hkc
  have hsame := hal.assignable ce.cls c
  simp only [covers] at hx
  by_cases hfit : S.vm.assignable ce.cls c = true
  · rw [if_pos hfit]
    have h2 : (S.vm.noted f.method.cls x.catchType (.cls c)).assignable ce.cls c = true := by rw [hsame]; exact hfit
    simp [findHandler.go, hx, h0, op1, op2, hce, hv, hka', hkc', h2, VmOp.dirties, VmOp.acts]
  · rw [if_neg hfit]
    have h2 : (S.vm.noted f.method.cls x.catchType (.cls c)).assignable ce.cls c = false := by rw [hsame]; exact Bool.eq_false_iff.mpr hfit
    simp [findHandler.go, hx, h0, op1, op2, hce, hv, hka', hkc', h2, VmOp.dirties, VmOp.acts]
/-- a row that covers the place and links to a class, which takes things of the class t or doesn't -/
def ckR (pl : Platform) (s : State) (d : ClassId) (pc : Nat) (t : ClassId) (y : ExceptionTableEntry) (b : Bool) : Prop := covers y pc = true ∧ y.catchType ≠ 0 ∧ ∃ c, s.vm.ClassLinks pl d y.catchType c ∧ s.vm.assignable t c = b
theorem ck_go {e : Env} {f : JFrame} {a : Addr} {s : State} {ce : Cell} (hv : ∀ k, ce.vm ≠ .statics k) (hk : ∃ k, s.vm.classes[ce.cls]? = some k) (x : ExceptionTableEntry) (tl : List ExceptionTableEntry) (hx : ckR e.platform s f.method.cls f.pc ce.cls x true) :
    ∀ (pre : List ExceptionTableEntry) (S : State), s.WarmedH S.vm → S.heap[a]? = some ce → (∀ y ∈ pre, ckR e.platform s f.method.cls f.pc ce.cls y false) →
      ∃ vm', s.WarmedH vm' ∧ ∀ (Q : Handler → Pre) (E : CtlPost) (d : Bool) (acts : List Action), wp (findHandler.go f a (pre ++ x :: tl)) Q E e d acts S ↔ Q (.found x.handlerPc) d acts (S.setVm vm') := by
  obtain ⟨k0, hk0⟩ := hk
  have one : ∀ (y : ExceptionTableEntry) (b : Bool) (S : State), ckR e.platform s f.method.cls f.pc ce.cls y b → s.WarmedH S.vm → ∃ c, S.vm.ClassLinks e.platform f.method.cls y.catchType c ∧ S.vm.assignable ce.cls c = b ∧ (∃ k, S.vm.classes[ce.cls]? = some k) ∧ (∃ k, S.vm.classes[c]? = some k) ∧ s.WarmedH (S.vm.noted f.method.cls y.catchType (.cls c)) := by
    intro y b S hy hW
    obtain ⟨-, -, c, hl, hb⟩ := hy
    obtain ⟨dk, _, _, kt, hd, _, _, _, _, hkt, _, hopen⟩ := hl.here
    obtain ⟨kt', hkt', -⟩ := hW.alike.2.2 _ _ hkt
    obtain ⟨k0', hk0', -⟩ := hW.alike.2.2 _ _ hk0
    exact ⟨c, hW.classLinks hl, by rw [hW.alike.assignable]; exact hb, ⟨k0', hk0'⟩, ⟨kt', hkt'⟩, hW.noted hd hopen (State.rightAt_cls hl)⟩
  intro pre
  induction pre with
  | nil =>
    intro S hW hce _
    obtain ⟨c, h1, h2, h3, h4, h5⟩ := one x true S hx hW
    refine ⟨_, h5, fun Q E d acts => ?_⟩
    rw [List.nil_append, ck_row hx.1 hx.2.1 h1 hce hv h3 h4, if_pos h2]
  | cons y ys ih =>
    intro S hW hce hpre
    have hy := hpre y List.mem_cons_self
    obtain ⟨c, h1, h2, h3, h4, h5⟩ := one y false S hy hW
    obtain ⟨vm', hW', hq⟩ := ih (S.setVm (S.vm.noted f.method.cls y.catchType (.cls c))) h5 hce (fun z hz => hpre z (List.mem_cons_of_mem _ hz))
    refine ⟨vm', hW', fun Q E d acts => ?_⟩
    rw [List.cons_append, ck_row hy.1 hy.2.1 h1 hce hv h3 h4, if_neg (by rw [h2]; exact Bool.false_ne_true)]
    exact hq Q E d acts
theorem ck_step {e : Env} {s : State} {a : Addr} {f : JFrame} {r : List Frame} {pc : Nat} {vm' : Vm} (hf : ∀ (Q : Handler → Pre) (E : CtlPost) (d : Bool) (acts : List Action), wp (findHandler f a) Q E e d acts s ↔ Q (.found pc) d acts (s.setVm vm')) :
    (stepThrowing e s a (.java f :: r)).Is ((s.setVm vm').setFrames (.java { f with pc := pc, stack := [.ref a] } :: r)) [] := by
  simp only [stepThrowing, searchFrame, vmDo]
  generalize hr : Sem.go _ e false [] s = res
  obtain ⟨as, rfl, ha⟩ := Sem.eq_ok_of hr (a := Handler.found pc) (s' := s.setVm vm') (acts' := []) (by simp [hf _ _ _ _])
  exact ⟨rfl, ha⟩
/-- what a call has thrown is caught in this method, behind rows that pass it on -/
theorem ck_catch {p : Program} {l : Launch} {e : Env} {R : Room} {s : State} {m : MethodId} {args : Array Value} {below : List Frame} {meth : Method} {c : Code} {H : Heap} {locs : List Loc} {cells slots : Nat} {Q : State → Prop} {ls : Array Slot} {rest : List Value} {pc q : Nat} {ce : Cell} {E : String}
    (hce : H[q]? = some ce) (hcv : ce.vm = .none) (hcl : s.vm.findClass E = some ce.cls) (pre : List ExceptionTableEntry) (x : ExceptionTableEntry) (tl : List ExceptionTableEntry) (htab : c.exceptionTable.toList = pre ++ x :: tl)
    (hrow : e.platform.magicAccessors = ({} : Platform).magicAccessors → (∀ y ∈ pre, ckR e.platform s m.cls pc ce.cls y false) ∧ ckR e.platform s m.cls pc ce.cls x true)
    (kk : W p l e R s m args below meth c H locs cells slots Q (F0 m x.handlerPc ls [.ref q])) : vx_W p l e R s m args below meth c H locs cells slots Q (F0 m pc ls rest) q := by
  intro T hT X
  obtain ⟨hpre, hx⟩ := hrow (by rw [X.admits.platform])
  have hk : ∃ k, s.vm.classes[ce.cls]? = some k := by obtain ⟨k9, h9, -⟩ := Vm.findClass_spec hcl; exact ⟨k9, h9⟩
  obtain ⟨vm', hW', hq⟩ := ck_go (e := e) (f := F0 m pc ls rest) (a := q) (fun k h => by rw [hcv] at h; cases h) hk x tl hx pre ((T.setTop (F0 m pc ls rest)).pushFrame (.throwing q)) X.warmed (by show T.heap[q]? = _; rw [hT]; exact hce) hpre
  obtain ⟨t, a1, b1⟩ := kk (T.setVm vm') hT (X.noted hW')
  refine ⟨t, ?_, b1⟩
  have hfind : ∀ (Q : Handler → Pre) (E : CtlPost) (d : Bool) (acts : List Action), wp (findHandler (F0 m pc ls rest) q) Q E e d acts ((T.setTop (F0 m pc ls rest)).pushFrame (.throwing q)) ↔ Q (.found x.handlerPc) d acts (((T.setTop (F0 m pc ls rest)).pushFrame (.throwing q)).setVm vm') := by
    intro Q E d acts
    rw [W.findHandler_eq (s := (T.setTop (F0 m pc ls rest)).pushFrame (.throwing q)) (f := F0 m pc ls rest) (meth := meth) (code := c) X.method' X.code, htab]
    exact hq Q E d acts
  have h := X.here
  obtain ⟨hgo, hw⟩ := At.throwing (g := F0 m pc ls rest) h q
  refine Steps.head hgo hw ?_
  rw [stepThread_throwing (frames_entered h.top _), (ck_step (s := (T.setTop (F0 m pc ls rest)).pushFrame (.throwing q)) hfind).1]
  obtain ⟨g₀, hg⟩ := Option.isSome_iff_exists.mp h.top
  obtain ⟨r, hr⟩ := State.topJava?_eq_some.mp hg
  have hr' : (T.setVm vm').frames = .java g₀ :: r := hr
  rw [State.setTop_of_frames _ hr'] at a1
  have e1 : ((T.setTop (F0 m pc ls rest)).pushFrame (.throwing q)).setVm vm' = (T.setVm vm').setFrames (.throwing q :: .java (F0 m pc ls rest) :: r) := by
    rw [State.pushFrame, State.frames_setTop _ hr, State.setTop_of_frames _ hr, State.setFrames_setFrames]
    rfl
  rw [e1, State.setFrames_setFrames, hr, List.tail_cons]
  exact a1
theorem ck_no {e : Env} {s : State} {m : MethodId} {args : Array Value} {own CN E : String} {ix pc : Nat} {cl : ClassId} {y : ExceptionTableEntry} (hpl : e.platform.magicAccessors = ({} : Platform).magicAccessors) (hown : s.vm.findClass own = some m.cls) (hl : (Cond.classLink own ix CN).before args s = true) (hN : va_Nc E CN s) (hcl : s.vm.findClass E = some cl) (hi : y.catchType = ix) (h0 : ix ≠ 0) (hc : covers y pc = true) : ckR e.platform s m.cls pc cl y false := by
  obtain ⟨c', hc', hlk⟩ := Cond.classLink_spec hown hl e.platform hpl
  obtain ⟨c1, c2, h1, h2, h3⟩ := hN
  cases Option.some.inj (h1.symm.trans hcl)
  cases Option.some.inj (h2.symm.trans hc')
  exact ⟨hc, by rw [hi]; exact h0, _, by rw [hi]; exact hlk, h3⟩
theorem ck_yes {e : Env} {s : State} {m : MethodId} {args : Array Value} {own E : String} {ix pc : Nat} {cl : ClassId} {y : ExceptionTableEntry} (hpl : e.platform.magicAccessors = ({} : Platform).magicAccessors) (hown : s.vm.findClass own = some m.cls) (hl : (Cond.classLink own ix E).before args s = true) (hE : (Cond.castable E E).before #[] s = true) (hcl : s.vm.findClass E = some cl) (hi : y.catchType = ix) (h0 : ix ≠ 0) (hc : covers y pc = true) : ckR e.platform s m.cls pc cl y true := by
  obtain ⟨c', hc', hlk⟩ := Cond.classLink_spec hown hl e.platform hpl
  obtain ⟨c1, c2, h1, h2, h3⟩ := Cond.castable_spec hE
  cases Option.some.inj (h1.symm.trans hcl)
  cases Option.some.inj (h2.symm.trans hcl)
  cases Option.some.inj (hc'.symm.trans hcl)
  exact ⟨hc, by rw [hi]; exact h0, _, by rw [hi]; exact hlk, h3⟩
end CATCH
