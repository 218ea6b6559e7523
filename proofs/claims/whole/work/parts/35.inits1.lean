/-! TableauBench$Shape.<init>()V -/
def rmX4_init : Room := { frames := 1, cells := 1, slots := 8, locals := 24 }
def pX4_init (Post : Mem → Prop) (F : Mem) (x0 : Nat) : Prop := ∀ q7_4, F q7_4 = jk → (∃ F9_5, pf (va_up F q7_4 (.inl (0, (8, .inl (fun _ => 0))))) x0 3 0 (.ref q7_4) = some F9_5 ∧ (Post F9_5))
set_option maxRecDepth 100000 in
set_option maxHeartbeats 4000000 in
theorem cX4_init_ok {l : Launch} {D : va_G} {cy : Nat → ClassId} {F : Mem} {x0 : Nat} {Post : Mem → Prop} (h : pX4_init Post F x0) : MP l yX4_init cX4_init 1 rmX4_init D cy F [.ref x0] Post := by
  refine mp_of (by decide) rfl (Nat.le_of_ble_eq_true rfl) [(0, .ref x0)] rfl (fun C X hcd Ns Qr => ?_)
  unfold pX4_init at h
  refine wp_aload_n X dX4_init_0 0 rfl ?_
  refine wq_objInit X kw55 kw30 kwO (by decide) (by decide) dX4_init_1 ?_
  refine wp_aload_n X dX4_init_4 0 rfl ?_
  refine wp_bipush X (v := 8) dX4_init_5 (by decide) ?_
  refine wq_newarr X (atype := .int) 0 (ty := .int) (n := 8) (N := 8) (8, .inl (fun _ => 0)) rfl (fun _ => rfl) (fun _ _ h9 => h9) (fun _ => rfl) kwA0 (by decide) (by decide) (by decide) (by decide) (by decide) (cs2 := 1) (sl2 := 8) rfl rfl dX4_init_7 h (fun q7_4 hq7_4 h => ?_)
  refine wq_putF X Ns (T := TX4) (N := 1) (ci := 3) (k := 0) tyX4 rfl (by decide) (by decide) inBX4 kw56 tyX4_ok nmX4 rfl rfl rfl rfl rfl dX4_init_9 h (fun F9_5 h => ?_)
  exact wq_return X Qr (by decide) (by decide) rfl dX4_init_12 h
/-! TableauBench$Tableau.<init>()V -/
def rmX7_init : Room := { frames := 1, cells := 2, slots := 400, locals := 24 }
def pX7_init (Post : Mem → Prop) (F : Mem) (x0 : Nat) : Prop := ∀ q7_4, F q7_4 = jk → (∃ F9_5, pf (va_up F q7_4 (.inl (0, (16, .inl (fun _ => 0))))) x0 6 0 (.ref q7_4) = some F9_5 ∧ (∀ q16_8, F9_5 q16_8 = jk → (∃ F18_9, pf (va_up F9_5 q16_8 (.inl (0, (384, .inl (fun _ => 0))))) x0 6 1 (.ref q16_8) = some F18_9 ∧ (Post F18_9))))
set_option maxRecDepth 100000 in
set_option maxHeartbeats 4000000 in
theorem cX7_init_ok {l : Launch} {D : va_G} {cy : Nat → ClassId} {F : Mem} {x0 : Nat} {Post : Mem → Prop} (h : pX7_init Post F x0) : MP l yX7_init cX7_init 1 rmX7_init D cy F [.ref x0] Post := by
  refine mp_of (by decide) rfl (Nat.le_of_ble_eq_true rfl) [(0, .ref x0)] rfl (fun C X hcd Ns Qr => ?_)
  unfold pX7_init at h
  refine wp_aload_n X dX7_init_0 0 rfl ?_
  refine wq_objInit X kw41 kw30 kwO (by decide) (by decide) dX7_init_1 ?_
  refine wp_aload_n X dX7_init_4 0 rfl ?_
  refine wp_bipush X (v := 16) dX7_init_5 (by decide) ?_
  refine wq_newarr X (atype := .int) 0 (ty := .int) (n := 16) (N := 16) (16, .inl (fun _ => 0)) rfl (fun _ => rfl) (fun _ _ h9 => h9) (fun _ => rfl) kwA0 (by decide) (by decide) (by decide) (by decide) (by decide) (cs2 := 1) (sl2 := 16) rfl rfl dX7_init_7 h (fun q7_4 hq7_4 h => ?_)
  refine wq_putF X Ns (T := TX7) (N := 2) (ci := 6) (k := 0) tyX7 rfl (by decide) (by decide) inBX7 kw42 tyX7_ok nmX7 rfl rfl rfl rfl rfl dX7_init_9 h (fun F9_5 h => ?_)
  refine wp_aload_n X dX7_init_12 0 rfl ?_
  refine wp_sipush X (v := 384) dX7_init_13 (by decide) ?_
  refine wq_newarr X (atype := .int) 0 (ty := .int) (n := 384) (N := 384) (384, .inl (fun _ => 0)) rfl (fun _ => rfl) (fun _ _ h9 => h9) (fun _ => rfl) kwA0 (by decide) (by decide) (by decide) (by decide) (by decide) (cs2 := 2) (sl2 := 400) rfl rfl dX7_init_16 h (fun q16_8 hq16_8 h => ?_)
  refine wq_putF X Ns (T := TX7) (N := 2) (ci := 6) (k := 1) tyX7 rfl (by decide) (by decide) inBX7 kw44 tyX7_ok nmX7 rfl rfl rfl rfl rfl dX7_init_18 h (fun F18_9 h => ?_)
  exact wq_return X Qr (by decide) (by decide) rfl dX7_init_21 h
/-! TableauBench$Word.<init>()V -/
def rmX8_init : Room := { frames := 1, cells := 1, slots := 16, locals := 24 }
def pX8_init (Post : Mem → Prop) (F : Mem) (x0 : Nat) : Prop := ∀ q7_4, F q7_4 = jk → (∃ F9_5, pf (va_up F q7_4 (.inl (0, (16, .inl (fun _ => 0))))) x0 7 0 (.ref q7_4) = some F9_5 ∧ (∃ F14_8, pf F9_5 x0 7 1 (.int 0) = some F14_8 ∧ (Post F14_8)))
set_option maxRecDepth 100000 in
set_option maxHeartbeats 4000000 in
theorem cX8_init_ok {l : Launch} {D : va_G} {cy : Nat → ClassId} {F : Mem} {x0 : Nat} {Post : Mem → Prop} (h : pX8_init Post F x0) : MP l yX8_init cX8_init 1 rmX8_init D cy F [.ref x0] Post := by
  refine mp_of (by decide) rfl (Nat.le_of_ble_eq_true rfl) [(0, .ref x0)] rfl (fun C X hcd Ns Qr => ?_)
  unfold pX8_init at h
  refine wp_aload_n X dX8_init_0 0 rfl ?_
  refine wq_objInit X kw166 kw30 kwO (by decide) (by decide) dX8_init_1 ?_
  refine wp_aload_n X dX8_init_4 0 rfl ?_
  refine wp_bipush X (v := 16) dX8_init_5 (by decide) ?_
  refine wq_newarr X (atype := .int) 0 (ty := .int) (n := 16) (N := 16) (16, .inl (fun _ => 0)) rfl (fun _ => rfl) (fun _ _ h9 => h9) (fun _ => rfl) kwA0 (by decide) (by decide) (by decide) (by decide) (by decide) (cs2 := 1) (sl2 := 16) rfl rfl dX8_init_7 h (fun q7_4 hq7_4 h => ?_)
  refine wq_putF X Ns (T := TX8) (N := 2) (ci := 7) (k := 0) tyX8 rfl (by decide) (by decide) inBX8 kw167 tyX8_ok nmX8 rfl rfl rfl rfl rfl dX8_init_9 h (fun F9_5 h => ?_)
  refine wp_aload_n X dX8_init_12 0 rfl ?_
  refine wp_iconst X (v := 0) dX8_init_13 (by decide) ?_
  refine wq_put X (T := TX8) (N := 2) (ci := 7) (k := 1) tyX8 rfl (by decide) (by decide) inBX8 kw170 tyX8_ok nmX8 rfl rfl (vp_nar_int _) rfl dX8_init_14 h (fun F14_8 h => ?_)
  exact wq_return X Qr (by decide) (by decide) rfl dX8_init_17 h
/-! TableauBench$StandardCount.<init>()V -/
def rmX6_init : Room := { frames := 1, cells := 1, slots := 25, locals := 24 }
def pX6_init (Post : Mem → Prop) (F : Mem) (x0 : Nat) : Prop := ∀ q7_4, F q7_4 = jk → (∃ F9_5, pf (va_up F q7_4 (.inl (0, (25, .inl (fun _ => 0))))) x0 5 0 (.ref q7_4) = some F9_5 ∧ (Post F9_5))
set_option maxRecDepth 100000 in
set_option maxHeartbeats 4000000 in
theorem cX6_init_ok {l : Launch} {D : va_G} {cy : Nat → ClassId} {F : Mem} {x0 : Nat} {Post : Mem → Prop} (h : pX6_init Post F x0) : MP l yX6_init cX6_init 1 rmX6_init D cy F [.ref x0] Post := by
  refine mp_of (by decide) rfl (Nat.le_of_ble_eq_true rfl) [(0, .ref x0)] rfl (fun C X hcd Ns Qr => ?_)
  unfold pX6_init at h
  refine wp_aload_n X dX6_init_0 0 rfl ?_
  refine wq_objInit X kw107 kw30 kwO (by decide) (by decide) dX6_init_1 ?_
  refine wp_aload_n X dX6_init_4 0 rfl ?_
  refine wp_bipush X (v := 25) dX6_init_5 (by decide) ?_
  refine wq_newarr X (atype := .int) 0 (ty := .int) (n := 25) (N := 25) (25, .inl (fun _ => 0)) rfl (fun _ => rfl) (fun _ _ h9 => h9) (fun _ => rfl) kwA0 (by decide) (by decide) (by decide) (by decide) (by decide) (cs2 := 1) (sl2 := 25) rfl rfl dX6_init_7 h (fun q7_4 hq7_4 h => ?_)
  refine wq_putF X Ns (T := TX6) (N := 1) (ci := 5) (k := 0) tyX6 rfl (by decide) (by decide) inBX6 kw108 tyX6_ok nmX6 rfl rfl rfl rfl rfl dX6_init_9 h (fun F9_5 h => ?_)
  exact wq_return X Qr (by decide) (by decide) rfl dX6_init_12 h
