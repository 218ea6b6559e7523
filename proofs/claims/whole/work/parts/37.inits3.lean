/-! TableauBench$HookWalk.<init>()V -/
def rmX1_init : Room := { frames := 2, cells := 2, slots := 9, locals := 44 }
def pX1_init (Post : Mem → Prop) (F : Mem) (x0 : Nat) : Prop := ∀ q5_3, F q5_3 = jk → (pX4_init (fun F9_5 => ∃ F12_6, pf F9_5 x0 1 0 (.ref q5_3) = some F12_6 ∧ (∃ F17_9, pf F12_6 x0 1 1 (.long 0) = some F17_9 ∧ (∃ F22_12, pf F17_9 x0 1 2 (.int 0) = some F22_12 ∧ (∃ F27_15, pf F22_12 x0 1 3 (.int 0) = some F27_15 ∧ (Post F27_15))))) (va_up F q5_3 (.inr (3, [.null]))) q5_3)
set_option maxRecDepth 100000 in
set_option maxHeartbeats 4000000 in
theorem cX1_init_ok {l : Launch} {D : va_G} {cy : Nat → ClassId} {F : Mem} {x0 : Nat} {Post : Mem → Prop} (h : pX1_init Post F x0) : MP l yX1_init cX1_init 1 rmX1_init D cy F [.ref x0] Post := by
  refine mp_of (by decide) rfl (Nat.le_of_ble_eq_true rfl) [(0, .ref x0)] rfl (fun C X hcd Ns Qr => ?_)
  unfold pX1_init at h
  refine wp_aload_n X dX1_init_0 0 rfl ?_
  refine wq_objInit X kw73 kw30 kwO (by decide) (by decide) dX1_init_1 ?_
  refine wp_aload_n X dX1_init_4 0 rfl ?_
  refine wq_new X (T := TX4) (N := 1) (ci := 3) (fs := [.null]) tyX4 rfl inBX4 tyX4_ok kw74 kw51 kw3 dfX4 (by decide) (by decide) (cs2 := 1) (sl2 := 1) rfl rfl dX1_init_5 h (fun q5_3 hq5_3 h => ?_)
  refine wp_dup X dX1_init_8 rfl ?_
  refine wq_initN X Ns.l (rm := rmX4_init) (n := 0) [] hcd (cX4_init_ok h) (by decide) kw53 kw3 kw54 rfl (by decide +kernel) (by decide) (by decide) (cs2 := 2) (sl2 := 9) rfl rfl rfl rfl (Nat.le_of_ble_eq_true rfl) dX1_init_9 (fun F9_5 h => ?_)
  refine wq_putF X Ns (T := TX1) (N := 4) (ci := 1) (k := 0) tyX1 rfl (by decide) (by decide) inBX1 kw76 tyX1_ok nmX1 rfl rfl rfl rfl rfl dX1_init_12 h (fun F12_6 h => ?_)
  refine wp_aload_n X dX1_init_15 0 rfl ?_
  refine wp_lconst X (v := 0) dX1_init_16 (by decide) ?_
  refine wq_put X (T := TX1) (N := 4) (ci := 1) (k := 1) tyX1 rfl (by decide) (by decide) inBX1 kw77 tyX1_ok nmX1 rfl rfl rfl rfl dX1_init_17 h (fun F17_9 h => ?_)
  refine wp_aload_n X dX1_init_20 0 rfl ?_
  refine wp_iconst X (v := 0) dX1_init_21 (by decide) ?_
  refine wq_put X (T := TX1) (N := 4) (ci := 1) (k := 2) tyX1 rfl (by decide) (by decide) inBX1 kw79 tyX1_ok nmX1 rfl rfl (vp_nar_int _) rfl dX1_init_22 h (fun F22_12 h => ?_)
  refine wp_aload_n X dX1_init_25 0 rfl ?_
  refine wp_iconst X (v := 0) dX1_init_26 (by decide) ?_
  refine wq_put X (T := TX1) (N := 4) (ci := 1) (k := 3) tyX1 rfl (by decide) (by decide) inBX1 kw81 tyX1_ok nmX1 rfl rfl (vp_nar_int _) rfl dX1_init_27 h (fun F27_15 h => ?_)
  exact wq_return X Qr (by decide) (by decide) rfl dX1_init_30 h
/-! TableauBench$FillingCount.<init>()V -/
def rmX0_init : Room := { frames := 2, cells := 5, slots := 1626, locals := 44 }
def pX0_init (Post : Mem → Prop) (F : Mem) (x0 : Nat) : Prop := ∀ q8_4, F q8_4 = jk → (∃ F10_5, pf (va_up F q8_4 (.inl (1, (1448, .inr (.inl (fun _ => 0)))))) x0 0 0 (.ref q8_4) = some F10_5 ∧ (∀ q17_8, F10_5 q17_8 = jk → (∃ F19_9, pf (va_up F10_5 q17_8 (.inl (0, (153, .inl (fun _ => 0))))) x0 0 1 (.ref q17_8) = some F19_9 ∧ (∀ q25_12, F19_9 q25_12 = jk → (∃ F27_13, pf (va_up F19_9 q25_12 (.inl (2, (16, .inl (fun _ => 0))))) x0 0 2 (.ref q25_12) = some F27_13 ∧ (∀ q31_15, F27_13 q31_15 = jk → (pX4_init (fun F35_17 => ∃ F38_18, pf F35_17 x0 0 3 (.ref q31_15) = some F38_18 ∧ (Post F38_18)) (va_up F27_13 q31_15 (.inr (3, [.null]))) q31_15)))))))
set_option maxRecDepth 100000 in
set_option maxHeartbeats 4000000 in
theorem cX0_init_ok {l : Launch} {D : va_G} {cy : Nat → ClassId} {F : Mem} {x0 : Nat} {Post : Mem → Prop} (h : pX0_init Post F x0) : MP l yX0_init cX0_init 1 rmX0_init D cy F [.ref x0] Post := by
  refine mp_of (by decide) rfl (Nat.le_of_ble_eq_true rfl) [(0, .ref x0)] rfl (fun C X hcd Ns Qr => ?_)
  unfold pX0_init at h
  refine wp_aload_n X dX0_init_0 0 rfl ?_
  refine wq_objInit X kw117 kw30 kwO (by decide) (by decide) dX0_init_1 ?_
  refine wp_aload_n X dX0_init_4 0 rfl ?_
  refine wp_sipush X (v := 1448) dX0_init_5 (by decide) ?_
  refine wq_newarr X (atype := .long) 1 (ty := .long) (n := 1448) (N := 1448) (1448, .inr (.inl (fun _ => 0))) rfl (fun _ => rfl) (fun _ _ h9 => h9) (fun _ => rfl) kwA1 (by decide) (by decide) (by decide) (by decide) (by decide) (cs2 := 1) (sl2 := 1448) rfl rfl dX0_init_8 h (fun q8_4 hq8_4 h => ?_)
  refine wq_putF X Ns (T := TX0) (N := 4) (ci := 0) (k := 0) tyX0 rfl (by decide) (by decide) inBX0 kw120 tyX0_ok nmX0 rfl rfl rfl rfl rfl dX0_init_10 h (fun F10_5 h => ?_)
  refine wp_aload_n X dX0_init_13 0 rfl ?_
  refine wp_sipush X (v := 153) dX0_init_14 (by decide) ?_
  refine wq_newarr X (atype := .int) 0 (ty := .int) (n := 153) (N := 153) (153, .inl (fun _ => 0)) rfl (fun _ => rfl) (fun _ _ h9 => h9) (fun _ => rfl) kwA0 (by decide) (by decide) (by decide) (by decide) (by decide) (cs2 := 2) (sl2 := 1601) rfl rfl dX0_init_17 h (fun q17_8 hq17_8 h => ?_)
  refine wq_putF X Ns (T := TX0) (N := 4) (ci := 0) (k := 1) tyX0 rfl (by decide) (by decide) inBX0 kw121 tyX0_ok nmX0 rfl rfl rfl rfl rfl dX0_init_19 h (fun F19_9 h => ?_)
  refine wp_aload_n X dX0_init_22 0 rfl ?_
  refine wp_bipush X (v := 16) dX0_init_23 (by decide) ?_
  refine wq_newarr X (atype := .boolean) 2 (ty := .boolean) (n := 16) (N := 16) (16, .inl (fun _ => 0)) rfl (fun _ => rfl) (fun _ _ h9 => h9) (fun _ => rfl) kwA2 (by decide) (by decide) (by decide) (by decide) (by decide) (cs2 := 3) (sl2 := 1617) rfl rfl dX0_init_25 h (fun q25_12 hq25_12 h => ?_)
  refine wq_putF X Ns (T := TX0) (N := 4) (ci := 0) (k := 2) tyX0 rfl (by decide) (by decide) inBX0 kw122 tyX0_ok nmX0 rfl rfl rfl rfl rfl dX0_init_27 h (fun F27_13 h => ?_)
  refine wp_aload_n X dX0_init_30 0 rfl ?_
  refine wq_new X (T := TX4) (N := 1) (ci := 3) (fs := [.null]) tyX4 rfl inBX4 tyX4_ok kw118 kw51 kw3 dfX4 (by decide) (by decide) (cs2 := 4) (sl2 := 1618) rfl rfl dX0_init_31 h (fun q31_15 hq31_15 h => ?_)
  refine wp_dup X dX0_init_34 rfl ?_
  refine wq_initN X Ns.l (rm := rmX4_init) (n := 0) [] hcd (cX4_init_ok h) (by decide) kw53 kw3 kw54 rfl (by decide +kernel) (by decide) (by decide) (cs2 := 5) (sl2 := 1626) rfl rfl rfl rfl (Nat.le_of_ble_eq_true rfl) dX0_init_35 (fun F35_17 h => ?_)
  refine wq_putF X Ns (T := TX0) (N := 4) (ci := 0) (k := 3) tyX0 rfl (by decide) (by decide) inBX0 kw123 tyX0_ok nmX0 rfl rfl rfl rfl rfl dX0_init_38 h (fun F38_18 h => ?_)
  exact wq_return X Qr (by decide) (by decide) rfl dX0_init_41 h
/-! TableauBench$ProductCount.<init>()V -/
def rmX2_init : Room := { frames := 2, cells := 6, slots := 90, locals := 44 }
def pX2_init (Post : Mem → Prop) (F : Mem) (x0 : Nat) : Prop := ∀ q7_4, F q7_4 = jk → (∃ F9_5, pf (va_up F q7_4 (.inl (0, (24, .inl (fun _ => 0))))) x0 2 0 (.ref q7_4) = some F9_5 ∧ (∀ q15_8, F9_5 q15_8 = jk → (∃ F17_9, pf (va_up F9_5 q15_8 (.inl (0, (24, .inl (fun _ => 0))))) x0 2 1 (.ref q15_8) = some F17_9 ∧ (∀ q23_12, F17_9 q23_12 = jk → (∃ F25_13, pf (va_up F17_9 q23_12 (.inl (0, (24, .inl (fun _ => 0))))) x0 2 2 (.ref q23_12) = some F25_13 ∧ (∀ q31_16, F25_13 q31_16 = jk → (∃ F33_17, pf (va_up F25_13 q31_16 (.inl (0, (9, .inl (fun _ => 0))))) x0 2 3 (.ref q31_16) = some F33_17 ∧ (∀ q37_19, F33_17 q37_19 = jk → (pX4_init (fun F41_21 => ∃ F44_22, pf F41_21 x0 2 4 (.ref q37_19) = some F44_22 ∧ (∃ F49_25, pf F44_22 x0 2 5 (.int 0) = some F49_25 ∧ (Post F49_25))) (va_up F33_17 q37_19 (.inr (3, [.null]))) q37_19)))))))))
set_option maxRecDepth 100000 in
set_option maxHeartbeats 4000000 in
theorem cX2_init_ok {l : Launch} {D : va_G} {cy : Nat → ClassId} {F : Mem} {x0 : Nat} {Post : Mem → Prop} (h : pX2_init Post F x0) : MP l yX2_init cX2_init 1 rmX2_init D cy F [.ref x0] Post := by
  refine mp_of (by decide) rfl (Nat.le_of_ble_eq_true rfl) [(0, .ref x0)] rfl (fun C X hcd Ns Qr => ?_)
  unfold pX2_init at h
  refine wp_aload_n X dX2_init_0 0 rfl ?_
  refine wq_objInit X kw140 kw30 kwO (by decide) (by decide) dX2_init_1 ?_
  refine wp_aload_n X dX2_init_4 0 rfl ?_
  refine wp_bipush X (v := 24) dX2_init_5 (by decide) ?_
  refine wq_newarr X (atype := .int) 0 (ty := .int) (n := 24) (N := 24) (24, .inl (fun _ => 0)) rfl (fun _ => rfl) (fun _ _ h9 => h9) (fun _ => rfl) kwA0 (by decide) (by decide) (by decide) (by decide) (by decide) (cs2 := 1) (sl2 := 24) rfl rfl dX2_init_7 h (fun q7_4 hq7_4 h => ?_)
  refine wq_putF X Ns (T := TX2) (N := 6) (ci := 2) (k := 0) tyX2 rfl (by decide) (by decide) inBX2 kw143 tyX2_ok nmX2 rfl rfl rfl rfl rfl dX2_init_9 h (fun F9_5 h => ?_)
  refine wp_aload_n X dX2_init_12 0 rfl ?_
  refine wp_bipush X (v := 24) dX2_init_13 (by decide) ?_
  refine wq_newarr X (atype := .int) 0 (ty := .int) (n := 24) (N := 24) (24, .inl (fun _ => 0)) rfl (fun _ => rfl) (fun _ _ h9 => h9) (fun _ => rfl) kwA0 (by decide) (by decide) (by decide) (by decide) (by decide) (cs2 := 2) (sl2 := 48) rfl rfl dX2_init_15 h (fun q15_8 hq15_8 h => ?_)
  refine wq_putF X Ns (T := TX2) (N := 6) (ci := 2) (k := 1) tyX2 rfl (by decide) (by decide) inBX2 kw144 tyX2_ok nmX2 rfl rfl rfl rfl rfl dX2_init_17 h (fun F17_9 h => ?_)
  refine wp_aload_n X dX2_init_20 0 rfl ?_
  refine wp_bipush X (v := 24) dX2_init_21 (by decide) ?_
  refine wq_newarr X (atype := .int) 0 (ty := .int) (n := 24) (N := 24) (24, .inl (fun _ => 0)) rfl (fun _ => rfl) (fun _ _ h9 => h9) (fun _ => rfl) kwA0 (by decide) (by decide) (by decide) (by decide) (by decide) (cs2 := 3) (sl2 := 72) rfl rfl dX2_init_23 h (fun q23_12 hq23_12 h => ?_)
  refine wq_putF X Ns (T := TX2) (N := 6) (ci := 2) (k := 2) tyX2 rfl (by decide) (by decide) inBX2 kw145 tyX2_ok nmX2 rfl rfl rfl rfl rfl dX2_init_25 h (fun F25_13 h => ?_)
  refine wp_aload_n X dX2_init_28 0 rfl ?_
  refine wp_bipush X (v := 9) dX2_init_29 (by decide) ?_
  refine wq_newarr X (atype := .int) 0 (ty := .int) (n := 9) (N := 9) (9, .inl (fun _ => 0)) rfl (fun _ => rfl) (fun _ _ h9 => h9) (fun _ => rfl) kwA0 (by decide) (by decide) (by decide) (by decide) (by decide) (cs2 := 4) (sl2 := 81) rfl rfl dX2_init_31 h (fun q31_16 hq31_16 h => ?_)
  refine wq_putF X Ns (T := TX2) (N := 6) (ci := 2) (k := 3) tyX2 rfl (by decide) (by decide) inBX2 kw146 tyX2_ok nmX2 rfl rfl rfl rfl rfl dX2_init_33 h (fun F33_17 h => ?_)
  refine wp_aload_n X dX2_init_36 0 rfl ?_
  refine wq_new X (T := TX4) (N := 1) (ci := 3) (fs := [.null]) tyX4 rfl inBX4 tyX4_ok kw141 kw51 kw3 dfX4 (by decide) (by decide) (cs2 := 5) (sl2 := 82) rfl rfl dX2_init_37 h (fun q37_19 hq37_19 h => ?_)
  refine wp_dup X dX2_init_40 rfl ?_
  refine wq_initN X Ns.l (rm := rmX4_init) (n := 0) [] hcd (cX4_init_ok h) (by decide) kw53 kw3 kw54 rfl (by decide +kernel) (by decide) (by decide) (cs2 := 6) (sl2 := 90) rfl rfl rfl rfl (Nat.le_of_ble_eq_true rfl) dX2_init_41 (fun F41_21 h => ?_)
  refine wq_putF X Ns (T := TX2) (N := 6) (ci := 2) (k := 4) tyX2 rfl (by decide) (by decide) inBX2 kw147 tyX2_ok nmX2 rfl rfl rfl rfl rfl dX2_init_44 h (fun F44_22 h => ?_)
  refine wp_aload_n X dX2_init_47 0 rfl ?_
  refine wp_iconst X (v := 0) dX2_init_48 (by decide) ?_
  refine wq_put X (T := TX2) (N := 6) (ci := 2) (k := 5) tyX2 rfl (by decide) (by decide) inBX2 kw148 tyX2_ok nmX2 rfl rfl (vp_nar_int _) rfl dX2_init_49 h (fun F49_25 h => ?_)
  exact wq_return X Qr (by decide) (by decide) rfl dX2_init_52 h
