/-! TableauBench$HookWalk.start(LTableauBench$Shape;J)V -/
def rmX1_start : Room := { frames := 2, cells := 0, slots := 0, locals := 85 }
def mX1_start (F : Mem) (x0 : Nat) (x1 : Nat) (x2 : Int64) : Option (Mem) := (gfR F x0 1 0).bind fun v1 => (obj F v1 3).bind fun _ => (mX4_copyFrom F v1 x1).bind fun v5 => (pf v5 x0 1 1 (.long x2)).bind fun F10 => some F10
set_option maxRecDepth 100000 in
set_option maxHeartbeats 4000000 in
theorem cX1_start_ok {l : Launch} {D : va_G} {cy : Nat → ClassId} {F : Mem} {x0 : Nat} {x1 : Nat} {x2 : Int64} {res : Mem} (h : mX1_start F x0 x1 x2 = some res) : MV l yX1_start cX1_start 4 none rmX1_start D cy F [.ref x0, .ref x1, .long x2] res := by
  refine mv_of (by decide) (Nat.le_of_ble_eq_true rfl) [(0, .ref x0), (1, .ref x1), (2, .long x2)] rfl (fun C X hcd Qr => ?_)
  unfold mX1_start at h
  refine wp_aload_n X dX1_start_0 0 rfl ?_
  refine wp_getR X (T := TX1) (N := 4) (ci := 1) (k := 0) rfl (by decide) (by decide) inBX1 kw76 dX1_start_1 h (fun v1 h => ?_)
  refine wp_aload_n X dX1_start_4 1 rfl ?_
  refine wp_callVV X (rm := rmX4_copyFrom) (T := TX4) (N := 1) (ci := 3) (n := 1) [.ref x1] hcd (fun q hq => cX4_copyFrom_ok hq) kw675 kw370 kw371 kw3 kw372 (by decide +kernel) (by decide) (by decide) (cs2 := 0) (sl2 := 0) rfl rfl rfl (by decide) rfl rfl (Nat.le_of_ble_eq_true rfl) dX1_start_5 h (fun v5 h => ?_)
  refine wp_aload_n X dX1_start_8 0 rfl ?_
  refine wp_lload_n X dX1_start_9 2 rfl ?_
  refine wp_put X (T := TX1) (N := 4) (ci := 1) (k := 1) tyX1 rfl (by decide) (by decide) inBX1 kw77 tyX1_ok nmX1 rfl rfl rfl rfl dX1_start_10 h (fun F10 h => ?_)
  exact wp_return X Qr rfl dX1_start_13 h
/-! TableauBench$HookWalk.nextBelow(I)I -/
def rmX1_nextBelow : Room := { frames := 0, cells := 0, slots := 0, locals := 0 }
def mX1_nextBelow (F : Mem) (x0 : Nat) (x1 : Int32) : Option (Int32 × Mem) := (gfJ F x0 1 1).bind fun v2 => (pf F x0 1 1 (.long ((v2 * 6364136223846793005) + 1442695040888963407))).bind fun F13 => (gfJ F13 x0 1 1).bind fun v17 => (lrem0 (lush v17 33) (Int32.toInt64 x1)).bind fun v25 => some ((Int64.toInt32 v25), F13)
set_option maxRecDepth 100000 in
set_option maxHeartbeats 4000000 in
theorem cX1_nextBelow_ok {l : Launch} {D : va_G} {cy : Nat → ClassId} {F : Mem} {x0 : Nat} {x1 : Int32} {res : Int32 × Mem} (h : mX1_nextBelow F x0 x1 = some res) : MI l yX1_nextBelow cX1_nextBelow 2 (some .int) rmX1_nextBelow D cy F [.ref x0, .int x1] res := by
  refine mi_of (by decide) (Nat.le_of_ble_eq_true rfl) [(0, .ref x0), (1, .int x1)] rfl (fun C X hcd Qr => ?_)
  unfold mX1_nextBelow at h
  refine wp_aload_n X dX1_nextBelow_0 0 rfl ?_
  refine wp_aload_n X dX1_nextBelow_1 0 rfl ?_
  refine wp_getJ X (T := TX1) (N := 4) (ci := 1) (k := 1) rfl (by decide) (by decide) inBX1 kw77 dX1_nextBelow_2 h (fun v2 h => ?_)
  refine wp_ldc2 X dX1_nextBelow_5 (v := 6364136223846793005) kw684 ?_
  refine wp_lmul X dX1_nextBelow_8 ?_
  refine wp_ldc2 X dX1_nextBelow_9 (v := 1442695040888963407) kw685 ?_
  refine wp_ladd X dX1_nextBelow_12 ?_
  refine wp_put X (T := TX1) (N := 4) (ci := 1) (k := 1) tyX1 rfl (by decide) (by decide) inBX1 kw77 tyX1_ok nmX1 rfl rfl rfl rfl dX1_nextBelow_13 h (fun F13 h => ?_)
  refine wp_aload_n X dX1_nextBelow_16 0 rfl ?_
  refine wp_getJ X (T := TX1) (N := 4) (ci := 1) (k := 1) rfl (by decide) (by decide) inBX1 kw77 dX1_nextBelow_17 h (fun v17 h => ?_)
  refine wp_bipush X (v := 33) dX1_nextBelow_20 (by decide) ?_
  refine wp_lushr X dX1_nextBelow_22 ?_
  refine wp_iload_n X dX1_nextBelow_23 1 rfl ?_
  refine wp_i2l X dX1_nextBelow_24 ?_
  refine wp_lrem X dX1_nextBelow_25 h (fun v25 h => ?_)
  refine wp_l2i X dX1_nextBelow_26 ?_
  exact wp_ireturn X Qr rfl (vp_nar_int _) dX1_nextBelow_27 h
/-! TableauBench$HookWalk.goToBox(I)V -/
def rmX1_goToBox : Room := { frames := 0, cells := 0, slots := 0, locals := 0 }
def fX1_goToBox_10  : Nat → Nat → Mem → Option (Mem)
  | 0, _, _ => none
  | n + 1, x0, F => (gfI F x0 1 2).bind fun v11 => if 7 ≤ v11 then (some F) else ((gfI F x0 1 3).bind fun v20 => (gfR F x0 1 0).bind fun v24 => (gfR F v24 3 0).bind fun v27 => (gfI F x0 1 2).bind fun v31 => (rdI F 0 v27 v31).bind fun v34 => if v20 < v34 then (some F) else ((gfI F x0 1 3).bind fun v40 => (gfR F x0 1 0).bind fun v44 => (gfR F v44 3 0).bind fun v47 => (gfI F x0 1 2).bind fun v51 => (rdI F 0 v47 v51).bind fun v54 => (pf F x0 1 3 (.int (v40 - v54))).bind fun F56 => (gfI F56 x0 1 2).bind fun v61 => (pf F56 x0 1 2 (.int (v61 + 1))).bind fun F66 => (fX1_goToBox_10   n) x0 F66))
set_option maxRecDepth 100000 in
set_option maxHeartbeats 4000000 in
theorem tX1_goToBox_10 {l : Launch} {D : va_G} {cy : Nat → ClassId} {C : Cx} {res : Mem} (X : Fx C cX1_goToBox RX1 none rmX1_goToBox 2) (hcd : CD C l D cy) (Qr : RV C 0 0 res)   : ∀ (n : Nat) (x0 : Nat) (F : Mem), fX1_goToBox_10  n x0 F = some res → Wp C 0 0 10 [(0, .ref x0)] [] F := by
  intro n
  induction n with
  | zero =>
    intro x0 F h
    rw [fX1_goToBox_10.eq_1] at h
    cases h
  | succ n ih =>
    intro x0 F h
    rw [fX1_goToBox_10.eq_2] at h
    refine wp_aload_n X dX1_goToBox_10 0 rfl ?_
    refine wp_getI X (T := TX1) (N := 4) (ci := 1) (k := 2) rfl (by decide) (by decide) inBX1 kw79 dX1_goToBox_11 h (fun v11 h => ?_)
    refine wp_bipush X (v := 7) dX1_goToBox_14 (by decide) ?_
    refine wp_icmp_ge X (tgt := 72) dX1_goToBox_16 (by decide) h (fun h => ?_) (fun h => ?_)
    · exact wp_return X Qr rfl dX1_goToBox_72 h
    · refine wp_aload_n X dX1_goToBox_19 0 rfl ?_
      refine wp_getI X (T := TX1) (N := 4) (ci := 1) (k := 3) rfl (by decide) (by decide) inBX1 kw81 dX1_goToBox_20 h (fun v20 h => ?_)
      refine wp_aload_n X dX1_goToBox_23 0 rfl ?_
      refine wp_getR X (T := TX1) (N := 4) (ci := 1) (k := 0) rfl (by decide) (by decide) inBX1 kw76 dX1_goToBox_24 h (fun v24 h => ?_)
      refine wp_getR X (T := TX4) (N := 1) (ci := 3) (k := 0) rfl (by decide) (by decide) inBX4 kw62 dX1_goToBox_27 h (fun v27 h => ?_)
      refine wp_aload_n X dX1_goToBox_30 0 rfl ?_
      refine wp_getI X (T := TX1) (N := 4) (ci := 1) (k := 2) rfl (by decide) (by decide) inBX1 kw79 dX1_goToBox_31 h (fun v31 h => ?_)
      refine wp_iaload X dX1_goToBox_34 h (fun v34 h => ?_)
      refine wp_icmp_lt X (tgt := 72) dX1_goToBox_35 (by decide) h (fun h => ?_) (fun h => ?_)
      · exact wp_return X Qr rfl dX1_goToBox_72 h
      · refine wp_aload_n X dX1_goToBox_38 0 rfl ?_
        refine wp_dup X dX1_goToBox_39 rfl ?_
        refine wp_getI X (T := TX1) (N := 4) (ci := 1) (k := 3) rfl (by decide) (by decide) inBX1 kw81 dX1_goToBox_40 h (fun v40 h => ?_)
        refine wp_aload_n X dX1_goToBox_43 0 rfl ?_
        refine wp_getR X (T := TX1) (N := 4) (ci := 1) (k := 0) rfl (by decide) (by decide) inBX1 kw76 dX1_goToBox_44 h (fun v44 h => ?_)
        refine wp_getR X (T := TX4) (N := 1) (ci := 3) (k := 0) rfl (by decide) (by decide) inBX4 kw62 dX1_goToBox_47 h (fun v47 h => ?_)
        refine wp_aload_n X dX1_goToBox_50 0 rfl ?_
        refine wp_getI X (T := TX1) (N := 4) (ci := 1) (k := 2) rfl (by decide) (by decide) inBX1 kw79 dX1_goToBox_51 h (fun v51 h => ?_)
        refine wp_iaload X dX1_goToBox_54 h (fun v54 h => ?_)
        refine wp_isub X dX1_goToBox_55 ?_
        refine wp_put X (T := TX1) (N := 4) (ci := 1) (k := 3) tyX1 rfl (by decide) (by decide) inBX1 kw81 tyX1_ok nmX1 rfl rfl (vp_nar_int _) rfl dX1_goToBox_56 h (fun F56 h => ?_)
        refine wp_aload_n X dX1_goToBox_59 0 rfl ?_
        refine wp_dup X dX1_goToBox_60 rfl ?_
        refine wp_getI X (T := TX1) (N := 4) (ci := 1) (k := 2) rfl (by decide) (by decide) inBX1 kw79 dX1_goToBox_61 h (fun v61 h => ?_)
        refine wp_iconst X (v := 1) dX1_goToBox_64 (by decide) ?_
        refine wp_iadd X dX1_goToBox_65 ?_
        refine wp_put X (T := TX1) (N := 4) (ci := 1) (k := 2) tyX1 rfl (by decide) (by decide) inBX1 kw79 tyX1_ok nmX1 rfl rfl (vp_nar_int _) rfl dX1_goToBox_66 h (fun F66 h => ?_)
        refine wp_goto X (tgt := 10) dX1_goToBox_69 (by decide) ?_
        exact ih _ _ h
def mX1_goToBox (F : Mem) (x0 : Nat) (x1 : Int32) : Option (Mem) := (pf F x0 1 2 (.int 0)).bind fun F2 => (pf F2 x0 1 3 (.int x1)).bind fun F7 => fX1_goToBox_10   FU x0 F7
set_option maxRecDepth 100000 in
set_option maxHeartbeats 4000000 in
theorem cX1_goToBox_ok {l : Launch} {D : va_G} {cy : Nat → ClassId} {F : Mem} {x0 : Nat} {x1 : Int32} {res : Mem} (h : mX1_goToBox F x0 x1 = some res) : MV l yX1_goToBox cX1_goToBox 2 none rmX1_goToBox D cy F [.ref x0, .int x1] res := by
  refine mv_of (by decide) (Nat.le_of_ble_eq_true rfl) [(0, .ref x0), (1, .int x1)] rfl (fun C X hcd Qr => ?_)
  unfold mX1_goToBox at h
  refine wp_aload_n X dX1_goToBox_0 0 rfl ?_
  refine wp_iconst X (v := 0) dX1_goToBox_1 (by decide) ?_
  refine wp_put X (T := TX1) (N := 4) (ci := 1) (k := 2) tyX1 rfl (by decide) (by decide) inBX1 kw79 tyX1_ok nmX1 rfl rfl (vp_nar_int _) rfl dX1_goToBox_2 h (fun F2 h => ?_)
  refine wp_aload_n X dX1_goToBox_5 0 rfl ?_
  refine wp_iload_n X dX1_goToBox_6 1 rfl ?_
  refine wp_put X (T := TX1) (N := 4) (ci := 1) (k := 3) tyX1 rfl (by decide) (by decide) inBX1 kw81 tyX1_ok nmX1 rfl rfl (vp_nar_int _) rfl dX1_goToBox_7 h (fun F7 h => ?_)
  refine wp_sub (lv' := [(0, .ref x0)]) [0] rfl ?_
  refine tX1_goToBox_10 X hcd Qr   FU _ _ h
/-! TableauBench$HookWalk.countOthers()I -/
def rmX1_countOthers : Room := { frames := 3, cells := 0, slots := 0, locals := 65 }
def mX1_countOthers (F : Mem) (x0 : Nat) : Option (Int32 × Mem) := (gfR F x0 1 0).bind fun v1 => (gfI F x0 1 2).bind fun v5 => (gfI F x0 1 3).bind fun v9 => (obj F v1 3).bind fun _ => (mX4_hookOf F v1 v5 v9).bind fun v12 => some ((v12.1 - 1), v12.2)
set_option maxRecDepth 100000 in
set_option maxHeartbeats 4000000 in
theorem cX1_countOthers_ok {l : Launch} {D : va_G} {cy : Nat → ClassId} {F : Mem} {x0 : Nat} {res : Int32 × Mem} (h : mX1_countOthers F x0 = some res) : MI l yX1_countOthers cX1_countOthers 1 (some .int) rmX1_countOthers D cy F [.ref x0] res := by
  refine mi_of (by decide) (Nat.le_of_ble_eq_true rfl) [(0, .ref x0)] rfl (fun C X hcd Qr => ?_)
  unfold mX1_countOthers at h
  refine wp_aload_n X dX1_countOthers_0 0 rfl ?_
  refine wp_getR X (T := TX1) (N := 4) (ci := 1) (k := 0) rfl (by decide) (by decide) inBX1 kw76 dX1_countOthers_1 h (fun v1 h => ?_)
  refine wp_aload_n X dX1_countOthers_4 0 rfl ?_
  refine wp_getI X (T := TX1) (N := 4) (ci := 1) (k := 2) rfl (by decide) (by decide) inBX1 kw79 dX1_countOthers_5 h (fun v5 h => ?_)
  refine wp_aload_n X dX1_countOthers_8 0 rfl ?_
  refine wp_getI X (T := TX1) (N := 4) (ci := 1) (k := 3) rfl (by decide) (by decide) inBX1 kw81 dX1_countOthers_9 h (fun v9 h => ?_)
  refine wp_callVI X (rm := rmX4_hookOf) (T := TX4) (N := 1) (ci := 3) (n := 2) [.int v5, .int v9] hcd (fun q hq => cX4_hookOf_ok hq) kw694 kw695 kw696 kw3 kw697 (by decide +kernel) (by decide) (by decide) (cs2 := 0) (sl2 := 0) rfl rfl rfl (by decide) rfl rfl (Nat.le_of_ble_eq_true rfl) dX1_countOthers_12 h (fun v12 h => ?_)
  refine wp_iconst X (v := 1) dX1_countOthers_15 (by decide) ?_
  refine wp_isub X dX1_countOthers_16 ?_
  exact wp_ireturn X Qr rfl (vp_nar_int _) dX1_countOthers_17 h
/-! TableauBench$HookWalk.goOn(I)V -/
def rmX1_goOn : Room := { frames := 2, cells := 0, slots := 0, locals := 43 }
def mX1_goOn (F : Mem) (x0 : Nat) (x1 : Int32) : Option (Mem) := (gfR F x0 1 0).bind fun v1 => (gfI F x0 1 2).bind fun v5 => (gfI F x0 1 3).bind fun v9 => (obj F v1 3).bind fun _ => (mX4_armOf F v1 v5 v9).bind fun v12 => if v12.1 ≤ x1 then ((gfI v12.2 x0 1 2).bind fun v38 => (pf v12.2 x0 1 2 (.int (v38 + ((x1 - v12.1) + 1)))).bind fun F47 => some F47) else ((gfI v12.2 x0 1 3).bind fun v23 => (pf v12.2 x0 1 3 (.int (v23 + (x1 + 1)))).bind fun F30 => some F30)
set_option maxRecDepth 100000 in
set_option maxHeartbeats 4000000 in
theorem cX1_goOn_ok {l : Launch} {D : va_G} {cy : Nat → ClassId} {F : Mem} {x0 : Nat} {x1 : Int32} {res : Mem} (h : mX1_goOn F x0 x1 = some res) : MV l yX1_goOn cX1_goOn 3 none rmX1_goOn D cy F [.ref x0, .int x1] res := by
  refine mv_of (by decide) (Nat.le_of_ble_eq_true rfl) [(0, .ref x0), (1, .int x1)] rfl (fun C X hcd Qr => ?_)
  unfold mX1_goOn at h
  refine wp_aload_n X dX1_goOn_0 0 rfl ?_
  refine wp_getR X (T := TX1) (N := 4) (ci := 1) (k := 0) rfl (by decide) (by decide) inBX1 kw76 dX1_goOn_1 h (fun v1 h => ?_)
  refine wp_aload_n X dX1_goOn_4 0 rfl ?_
  refine wp_getI X (T := TX1) (N := 4) (ci := 1) (k := 2) rfl (by decide) (by decide) inBX1 kw79 dX1_goOn_5 h (fun v5 h => ?_)
  refine wp_aload_n X dX1_goOn_8 0 rfl ?_
  refine wp_getI X (T := TX1) (N := 4) (ci := 1) (k := 3) rfl (by decide) (by decide) inBX1 kw81 dX1_goOn_9 h (fun v9 h => ?_)
  refine wp_callVI X (rm := rmX4_armOf) (T := TX4) (N := 1) (ci := 3) (n := 2) [.int v5, .int v9] hcd (fun q hq => cX4_armOf_ok hq) kw707 kw699 kw700 kw3 kw701 (by decide +kernel) (by decide) (by decide) (cs2 := 0) (sl2 := 0) rfl rfl rfl (by decide) rfl rfl (Nat.le_of_ble_eq_true rfl) dX1_goOn_12 h (fun v12 h => ?_)
  refine wp_istore_n X (lv' := [(0, .ref x0), (1, .int x1), (2, .int v12.1)]) dX1_goOn_15 (by decide) [1, 2, 0] rfl ?_
  refine wp_iload_n X dX1_goOn_16 1 rfl ?_
  refine wp_iload_n X dX1_goOn_17 2 rfl ?_
  refine wp_icmp_ge X (tgt := 36) dX1_goOn_18 (by decide) h (fun h => ?_) (fun h => ?_)
  · refine wp_aload_n X dX1_goOn_36 0 rfl ?_
    refine wp_dup X dX1_goOn_37 rfl ?_
    refine wp_getI X (T := TX1) (N := 4) (ci := 1) (k := 2) rfl (by decide) (by decide) inBX1 kw79 dX1_goOn_38 h (fun v38 h => ?_)
    refine wp_iload_n X dX1_goOn_41 1 rfl ?_
    refine wp_iload_n X dX1_goOn_42 2 rfl ?_
    refine wp_isub X dX1_goOn_43 ?_
    refine wp_iconst X (v := 1) dX1_goOn_44 (by decide) ?_
    refine wp_iadd X dX1_goOn_45 ?_
    refine wp_iadd X dX1_goOn_46 ?_
    refine wp_put X (T := TX1) (N := 4) (ci := 1) (k := 2) tyX1 rfl (by decide) (by decide) inBX1 kw79 tyX1_ok nmX1 rfl rfl (vp_nar_int _) rfl dX1_goOn_47 h (fun F47 h => ?_)
    exact wp_return X Qr rfl dX1_goOn_50 h
  · refine wp_aload_n X dX1_goOn_21 0 rfl ?_
    refine wp_dup X dX1_goOn_22 rfl ?_
    refine wp_getI X (T := TX1) (N := 4) (ci := 1) (k := 3) rfl (by decide) (by decide) inBX1 kw81 dX1_goOn_23 h (fun v23 h => ?_)
    refine wp_iload_n X dX1_goOn_26 1 rfl ?_
    refine wp_iconst X (v := 1) dX1_goOn_27 (by decide) ?_
    refine wp_iadd X dX1_goOn_28 ?_
    refine wp_iadd X dX1_goOn_29 ?_
    refine wp_put X (T := TX1) (N := 4) (ci := 1) (k := 3) tyX1 rfl (by decide) (by decide) inBX1 kw81 tyX1_ok nmX1 rfl rfl (vp_nar_int _) rfl dX1_goOn_30 h (fun F30 h => ?_)
    refine wp_goto X (tgt := 50) dX1_goOn_33 (by decide) ?_
    exact wp_return X Qr rfl dX1_goOn_50 h
/-! TableauBench$HookWalk.goToCorner(I)V -/
def rmX1_goToCorner : Room := { frames := 4, cells := 0, slots := 0, locals := 85 }
def fX1_goToCorner_16  : Nat → Nat → Int32 → Int32 → Mem → Option (Mem)
  | 0, _, _, _, _ => none
  | n + 1, x0, x2, x3, F => if 24 ≤ x3 then (some F) else (if x2 ≤ 0 then (some F) else ((obj F x0 1).bind fun _ => (mX1_nextBelow F x0 x2).bind fun v29 => (obj v29.2 x0 1).bind fun _ => (mX1_goOn v29.2 x0 v29.1).bind fun v32 => (obj v32 x0 1).bind fun _ => (mX1_countOthers v32 x0).bind fun v36 => (fX1_goToCorner_16   n) x0 v36.1 (x3 + 1) v36.2))
set_option maxRecDepth 100000 in
set_option maxHeartbeats 4000000 in
theorem tX1_goToCorner_16 {l : Launch} {D : va_G} {cy : Nat → ClassId} {C : Cx} {res : Mem} (X : Fx C cX1_goToCorner RX1 none rmX1_goToCorner 4) (hcd : CD C l D cy) (Qr : RV C 0 0 res)   : ∀ (n : Nat) (x0 : Nat) (x2 : Int32) (x3 : Int32) (F : Mem), fX1_goToCorner_16  n x0 x2 x3 F = some res → Wp C 0 0 16 [(0, .ref x0), (2, .int x2), (3, .int x3)] [] F := by
  intro n
  induction n with
  | zero =>
    intro x0 x2 x3 F h
    rw [fX1_goToCorner_16.eq_1] at h
    cases h
  | succ n ih =>
    intro x0 x2 x3 F h
    rw [fX1_goToCorner_16.eq_2] at h
    refine wp_iload_n X dX1_goToCorner_16 2 rfl ?_
    refine wp_bipush X (v := 24) dX1_goToCorner_17 (by decide) ?_
    refine wp_icmp_ge X (tgt := 46) dX1_goToCorner_19 (by decide) h (fun h => ?_) (fun h => ?_)
    · exact wp_return X Qr rfl dX1_goToCorner_46 h
    · refine wp_iload_n X dX1_goToCorner_22 1 rfl ?_
      refine wp_if_le X (tgt := 46) dX1_goToCorner_23 (by decide) h (fun h => ?_) (fun h => ?_)
      · exact wp_return X Qr rfl dX1_goToCorner_46 h
      · refine wp_aload_n X dX1_goToCorner_26 0 rfl ?_
        refine wp_aload_n X dX1_goToCorner_27 0 rfl ?_
        refine wp_iload_n X dX1_goToCorner_28 1 rfl ?_
        refine wp_callVI X (rm := rmX1_nextBelow) (T := TX1) (N := 4) (ci := 1) (n := 1) [.int x2] hcd (fun q hq => cX1_nextBelow_ok hq) kw680 kw682 ks8 kw4 kw683 (by decide +kernel) (by decide) (by decide) (cs2 := 0) (sl2 := 0) rfl rfl rfl (by decide) rfl rfl (Nat.le_of_ble_eq_true rfl) dX1_goToCorner_29 h (fun v29 h => ?_)
        refine wp_callVV X (rm := rmX1_goOn) (T := TX1) (N := 4) (ci := 1) (n := 1) [.int v29.1] hcd (fun q hq => cX1_goOn_ok hq) kw703 kw705 ks11 kw4 kw706 (by decide +kernel) (by decide) (by decide) (cs2 := 0) (sl2 := 0) rfl rfl rfl (by decide) rfl rfl (Nat.le_of_ble_eq_true rfl) dX1_goToCorner_32 h (fun v32 h => ?_)
        refine wp_aload_n X dX1_goToCorner_35 0 rfl ?_
        refine wp_callVI X (rm := rmX1_countOthers) (T := TX1) (N := 4) (ci := 1) (n := 0) [] hcd (fun q hq => cX1_countOthers_ok hq) kw690 kw692 ks10 kw4 kw693 (by decide +kernel) (by decide) (by decide) (cs2 := 0) (sl2 := 0) rfl rfl rfl (by decide) rfl rfl (Nat.le_of_ble_eq_true rfl) dX1_goToCorner_36 h (fun v36 h => ?_)
        refine wp_istore_n X (lv' := [(0, .ref x0), (2, .int v36.1), (3, .int x3)]) dX1_goToCorner_39 (by decide) [1, 0, 2] rfl ?_
        refine wp_iinc X (v := x3 + 1) (lv' := [(0, .ref x0), (2, .int v36.1), (3, .int (x3 + 1))]) dX1_goToCorner_40 (by decide) 2 rfl rfl [1, 2, 0] rfl ?_
        refine wp_goto X (tgt := 16) dX1_goToCorner_43 (by decide) ?_
        exact ih _ _ _ _ h
def mX1_goToCorner (F : Mem) (x0 : Nat) (x1 : Int32) : Option (Mem) := (obj F x0 1).bind fun _ => (mX1_nextBelow F x0 x1).bind fun v3 => (obj v3.2 x0 1).bind fun _ => (mX1_goToBox v3.2 x0 v3.1).bind fun v6 => (obj v6 x0 1).bind fun _ => (mX1_countOthers v6 x0).bind fun v10 => fX1_goToCorner_16   FU x0 v10.1 0 v10.2
set_option maxRecDepth 100000 in
set_option maxHeartbeats 4000000 in
theorem cX1_goToCorner_ok {l : Launch} {D : va_G} {cy : Nat → ClassId} {F : Mem} {x0 : Nat} {x1 : Int32} {res : Mem} (h : mX1_goToCorner F x0 x1 = some res) : MV l yX1_goToCorner cX1_goToCorner 4 none rmX1_goToCorner D cy F [.ref x0, .int x1] res := by
  refine mv_of (by decide) (Nat.le_of_ble_eq_true rfl) [(0, .ref x0), (1, .int x1)] rfl (fun C X hcd Qr => ?_)
  unfold mX1_goToCorner at h
  refine wp_aload_n X dX1_goToCorner_0 0 rfl ?_
  refine wp_aload_n X dX1_goToCorner_1 0 rfl ?_
  refine wp_iload_n X dX1_goToCorner_2 1 rfl ?_
  refine wp_callVI X (rm := rmX1_nextBelow) (T := TX1) (N := 4) (ci := 1) (n := 1) [.int x1] hcd (fun q hq => cX1_nextBelow_ok hq) kw680 kw682 ks8 kw4 kw683 (by decide +kernel) (by decide) (by decide) (cs2 := 0) (sl2 := 0) rfl rfl rfl (by decide) rfl rfl (Nat.le_of_ble_eq_true rfl) dX1_goToCorner_3 h (fun v3 h => ?_)
  refine wp_callVV X (rm := rmX1_goToBox) (T := TX1) (N := 4) (ci := 1) (n := 1) [.int v3.1] hcd (fun q hq => cX1_goToBox_ok hq) kw686 kw688 ks9 kw4 kw689 (by decide +kernel) (by decide) (by decide) (cs2 := 0) (sl2 := 0) rfl rfl rfl (by decide) rfl rfl (Nat.le_of_ble_eq_true rfl) dX1_goToCorner_6 h (fun v6 h => ?_)
  refine wp_aload_n X dX1_goToCorner_9 0 rfl ?_
  refine wp_callVI X (rm := rmX1_countOthers) (T := TX1) (N := 4) (ci := 1) (n := 0) [] hcd (fun q hq => cX1_countOthers_ok hq) kw690 kw692 ks10 kw4 kw693 (by decide +kernel) (by decide) (by decide) (cs2 := 0) (sl2 := 0) rfl rfl rfl (by decide) rfl rfl (Nat.le_of_ble_eq_true rfl) dX1_goToCorner_10 h (fun v10 h => ?_)
  refine wp_istore_n X (lv' := [(0, .ref x0), (2, .int v10.1)]) dX1_goToCorner_13 (by decide) [1, 0] rfl ?_
  refine wp_iconst X (v := 0) dX1_goToCorner_14 (by decide) ?_
  refine wp_istore_n X (lv' := [(0, .ref x0), (2, .int v10.1), (3, .int 0)]) dX1_goToCorner_15 (by decide) [1, 2, 0] rfl ?_
  refine tX1_goToCorner_16 X hcd Qr   FU _ _ _ _ h
/-! TableauBench$HookWalk.dropCorner()V -/
def rmX1_dropCorner : Room := { frames := 0, cells := 0, slots := 0, locals := 0 }
def mX1_dropCorner (F : Mem) (x0 : Nat) : Option (Mem) := (gfR F x0 1 0).bind fun v1 => (gfR F v1 3 0).bind fun v4 => (gfI F x0 1 2).bind fun v8 => (rdI F 0 v4 v8).bind fun v12 => (wrI F v4 v8 (v12 - 1)).bind fun F15 => some F15
set_option maxRecDepth 100000 in
set_option maxHeartbeats 4000000 in
theorem cX1_dropCorner_ok {l : Launch} {D : va_G} {cy : Nat → ClassId} {F : Mem} {x0 : Nat} {res : Mem} (h : mX1_dropCorner F x0 = some res) : MV l yX1_dropCorner cX1_dropCorner 1 none rmX1_dropCorner D cy F [.ref x0] res := by
  refine mv_of (by decide) (Nat.le_of_ble_eq_true rfl) [(0, .ref x0)] rfl (fun C X hcd Qr => ?_)
  unfold mX1_dropCorner at h
  refine wp_aload_n X dX1_dropCorner_0 0 rfl ?_
  refine wp_getR X (T := TX1) (N := 4) (ci := 1) (k := 0) rfl (by decide) (by decide) inBX1 kw76 dX1_dropCorner_1 h (fun v1 h => ?_)
  refine wp_getR X (T := TX4) (N := 1) (ci := 3) (k := 0) rfl (by decide) (by decide) inBX4 kw62 dX1_dropCorner_4 h (fun v4 h => ?_)
  refine wp_aload_n X dX1_dropCorner_7 0 rfl ?_
  refine wp_getI X (T := TX1) (N := 4) (ci := 1) (k := 2) rfl (by decide) (by decide) inBX1 kw79 dX1_dropCorner_8 h (fun v8 h => ?_)
  refine wp_dup2 X dX1_dropCorner_11 rfl rfl ?_
  refine wp_iaload X dX1_dropCorner_12 h (fun v12 h => ?_)
  refine wp_iconst X (v := 1) dX1_dropCorner_13 (by decide) ?_
  refine wp_isub X dX1_dropCorner_14 ?_
  refine wp_iastore X dX1_dropCorner_15 h (fun F15 h => ?_)
  exact wp_return X Qr rfl dX1_dropCorner_16 h
/-! TableauBench$ShapeOrder.countOf(II)I -/
def rmX5_countOf : Room := { frames := 0, cells := 0, slots := 0, locals := 0 }
def mX5_countOf (F : Mem) (x0 : Nat) (x1 : Int32) (x2 : Int32) : Option (Int32 × Mem) := (gfR F x0 4 0).bind fun v1 => (rdI F 0 v1 ((x1 * 25) + x2)).bind fun v10 => some (v10, F)
set_option maxRecDepth 100000 in
set_option maxHeartbeats 4000000 in
theorem cX5_countOf_ok {l : Launch} {D : va_G} {cy : Nat → ClassId} {F : Mem} {x0 : Nat} {x1 : Int32} {x2 : Int32} {res : Int32 × Mem} (h : mX5_countOf F x0 x1 x2 = some res) : MI l yX5_countOf cX5_countOf 3 (some .int) rmX5_countOf D cy F [.ref x0, .int x1, .int x2] res := by
  refine mi_of (by decide) (Nat.le_of_ble_eq_true rfl) [(0, .ref x0), (1, .int x1), (2, .int x2)] rfl (fun C X hcd Qr => ?_)
  unfold mX5_countOf at h
  refine wp_aload_n X dX5_countOf_0 0 rfl ?_
  refine wp_getR X (T := TX5) (N := 1) (ci := 4) (k := 0) rfl (by decide) (by decide) inBX5 kw98 dX5_countOf_1 h (fun v1 h => ?_)
  refine wp_iload_n X dX5_countOf_4 1 rfl ?_
  refine wp_bipush X (v := 25) dX5_countOf_5 (by decide) ?_
  refine wp_imul X dX5_countOf_7 ?_
  refine wp_iload_n X dX5_countOf_8 2 rfl ?_
  refine wp_iadd X dX5_countOf_9 ?_
  refine wp_iaload X dX5_countOf_10 h (fun v10 h => ?_)
  exact wp_ireturn X Qr rfl (vp_nar_int _) dX5_countOf_11 h
/-! TableauBench$ShapeOrder.countBefore(LTableauBench$Shape;)I -/
def rmX5_countBefore : Room := { frames := 1, cells := 0, slots := 0, locals := 22 }
def fX5_countBefore_13  : Nat → Nat → Nat → Int32 → Int32 → Int32 → Int32 → Mem → Option (Int32 × Mem)
  | 0, _, _, _, _, _, _, _ => none
  | n + 1, x0, x1, x2, x3, x4, x5, F => if 8 ≤ x5 then (some (x2, F)) else ((gfR F x1 3 0).bind fun v21 => (rdI F 0 v21 x5).bind fun v26 => (obj F x0 4).bind fun _ => (mX5_countOf F x0 x3 x4).bind fun v34 => (obj v34.2 x0 4).bind fun _ => (mX5_countOf v34.2 x0 x3 v26).bind fun v41 => (fX5_countBefore_13   n) x0 x1 (x2 + (v34.1 - v41.1)) (x3 - v26) v26 (x5 + 1) v41.2)
set_option maxRecDepth 100000 in
set_option maxHeartbeats 4000000 in
theorem tX5_countBefore_13 {l : Launch} {D : va_G} {cy : Nat → ClassId} {C : Cx} {res : Int32 × Mem} (X : Fx C cX5_countBefore RX5 (some .int) rmX5_countBefore 7) (hcd : CD C l D cy) (Qr : RI C 0 0 res)   : ∀ (n : Nat) (x0 : Nat) (x1 : Nat) (x2 : Int32) (x3 : Int32) (x4 : Int32) (x5 : Int32) (F : Mem), fX5_countBefore_13  n x0 x1 x2 x3 x4 x5 F = some res → Wp C 0 0 13 [(0, .ref x0), (1, .ref x1), (2, .int x2), (3, .int x3), (4, .int x4), (5, .int x5)] [] F := by
  intro n
  induction n with
  | zero =>
    intro x0 x1 x2 x3 x4 x5 F h
    rw [fX5_countBefore_13.eq_1] at h
    cases h
  | succ n ih =>
    intro x0 x1 x2 x3 x4 x5 F h
    rw [fX5_countBefore_13.eq_2] at h
    refine wp_iload X dX5_countBefore_13 5 rfl ?_
    refine wp_bipush X (v := 8) dX5_countBefore_15 (by decide) ?_
    refine wp_icmp_ge X (tgt := 62) dX5_countBefore_17 (by decide) h (fun h => ?_) (fun h => ?_)
    · refine wp_iload_n X dX5_countBefore_62 2 rfl ?_
      exact wp_ireturn X Qr rfl (vp_nar_int _) dX5_countBefore_63 h
    · refine wp_aload_n X dX5_countBefore_20 1 rfl ?_
      refine wp_getR X (T := TX4) (N := 1) (ci := 3) (k := 0) rfl (by decide) (by decide) inBX4 kw61 dX5_countBefore_21 h (fun v21 h => ?_)
      refine wp_iload X dX5_countBefore_24 5 rfl ?_
      refine wp_iaload X dX5_countBefore_26 h (fun v26 h => ?_)
      refine wp_istore X (lv' := [(0, .ref x0), (1, .ref x1), (2, .int x2), (3, .int x3), (4, .int x4), (5, .int x5), (6, .int v26)]) dX5_countBefore_27 (by decide) [1, 2, 3, 4, 5, 6, 0] rfl ?_
      refine wp_iload_n X dX5_countBefore_29 2 rfl ?_
      refine wp_aload_n X dX5_countBefore_30 0 rfl ?_
      refine wp_iload_n X dX5_countBefore_31 3 rfl ?_
      refine wp_iload X dX5_countBefore_32 4 rfl ?_
      refine wp_callVI X (rm := rmX5_countOf) (T := TX5) (N := 1) (ci := 4) (n := 2) [.int x3, .int x4] hcd (fun q hq => cX5_countOf_ok hq) kw410 kw411 kw412 kw5 kw413 (by decide +kernel) (by decide) (by decide) (cs2 := 0) (sl2 := 0) rfl rfl rfl (by decide) rfl rfl (Nat.le_of_ble_eq_true rfl) dX5_countBefore_34 h (fun v34 h => ?_)
      refine wp_aload_n X dX5_countBefore_37 0 rfl ?_
      refine wp_iload_n X dX5_countBefore_38 3 rfl ?_
      refine wp_iload X dX5_countBefore_39 6 rfl ?_
      refine wp_callVI X (rm := rmX5_countOf) (T := TX5) (N := 1) (ci := 4) (n := 2) [.int x3, .int v26] hcd (fun q hq => cX5_countOf_ok hq) kw410 kw411 kw412 kw5 kw413 (by decide +kernel) (by decide) (by decide) (cs2 := 0) (sl2 := 0) rfl rfl rfl (by decide) rfl rfl (Nat.le_of_ble_eq_true rfl) dX5_countBefore_41 h (fun v41 h => ?_)
      refine wp_isub X dX5_countBefore_44 ?_
      refine wp_iadd X dX5_countBefore_45 ?_
      refine wp_istore_n X (lv' := [(0, .ref x0), (1, .ref x1), (2, .int (x2 + (v34.1 - v41.1))), (3, .int x3), (5, .int x5), (6, .int v26)]) dX5_countBefore_46 (by decide) [1, 2, 0, 3, 5, 6] rfl ?_
      refine wp_iload_n X dX5_countBefore_47 3 rfl ?_
      refine wp_iload X dX5_countBefore_48 5 rfl ?_
      refine wp_isub X dX5_countBefore_50 ?_
      refine wp_istore_n X (lv' := [(0, .ref x0), (1, .ref x1), (2, .int (x2 + (v34.1 - v41.1))), (3, .int (x3 - v26)), (5, .int x5), (6, .int v26)]) dX5_countBefore_51 (by decide) [1, 2, 3, 0, 4, 5] rfl ?_
      refine wp_iload X dX5_countBefore_52 5 rfl ?_
      refine wp_istore X (lv' := [(0, .ref x0), (1, .ref x1), (2, .int (x2 + (v34.1 - v41.1))), (3, .int (x3 - v26)), (4, .int v26), (5, .int x5)]) dX5_countBefore_54 (by decide) [1, 2, 3, 4, 0, 5] rfl ?_
      refine wp_iinc X (v := x5 + 1) (lv' := [(0, .ref x0), (1, .ref x1), (2, .int (x2 + (v34.1 - v41.1))), (3, .int (x3 - v26)), (4, .int v26), (5, .int (x5 + 1))]) dX5_countBefore_56 (by decide) 5 rfl rfl [1, 2, 3, 4, 5, 0] rfl ?_
      refine wp_goto X (tgt := 13) dX5_countBefore_59 (by decide) ?_
      exact ih _ _ _ _ _ _ _ h
def mX5_countBefore (F : Mem) (x0 : Nat) (x1 : Nat) : Option (Int32 × Mem) := (obj F x1 3).bind fun _ => (mX4_countBoxes F x1).bind fun v3 => fX5_countBefore_13   FU x0 x1 0 v3.1 v3.1 0 v3.2
set_option maxRecDepth 100000 in
set_option maxHeartbeats 4000000 in
theorem cX5_countBefore_ok {l : Launch} {D : va_G} {cy : Nat → ClassId} {F : Mem} {x0 : Nat} {x1 : Nat} {res : Int32 × Mem} (h : mX5_countBefore F x0 x1 = some res) : MI l yX5_countBefore cX5_countBefore 7 (some .int) rmX5_countBefore D cy F [.ref x0, .ref x1] res := by
  refine mi_of (by decide) (Nat.le_of_ble_eq_true rfl) [(0, .ref x0), (1, .ref x1)] rfl (fun C X hcd Qr => ?_)
  unfold mX5_countBefore at h
  refine wp_iconst X (v := 0) dX5_countBefore_0 (by decide) ?_
  refine wp_istore_n X (lv' := [(0, .ref x0), (1, .ref x1), (2, .int 0)]) dX5_countBefore_1 (by decide) [1, 2, 0] rfl ?_
  refine wp_aload_n X dX5_countBefore_2 1 rfl ?_
  refine wp_callVI X (rm := rmX4_countBoxes) (T := TX4) (N := 1) (ci := 3) (n := 0) [] hcd (fun q hq => cX4_countBoxes_ok hq) kw409 kw366 kw367 kw3 kw368 (by decide +kernel) (by decide) (by decide) (cs2 := 0) (sl2 := 0) rfl rfl rfl (by decide) rfl rfl (Nat.le_of_ble_eq_true rfl) dX5_countBefore_3 h (fun v3 h => ?_)
  refine wp_istore_n X (lv' := [(0, .ref x0), (1, .ref x1), (2, .int 0), (3, .int v3.1)]) dX5_countBefore_6 (by decide) [1, 2, 3, 0] rfl ?_
  refine wp_iload_n X dX5_countBefore_7 3 rfl ?_
  refine wp_istore X (lv' := [(0, .ref x0), (1, .ref x1), (2, .int 0), (3, .int v3.1), (4, .int v3.1)]) dX5_countBefore_8 (by decide) [1, 2, 3, 4, 0] rfl ?_
  refine wp_iconst X (v := 0) dX5_countBefore_10 (by decide) ?_
  refine wp_istore X (lv' := [(0, .ref x0), (1, .ref x1), (2, .int 0), (3, .int v3.1), (4, .int v3.1), (5, .int 0)]) dX5_countBefore_11 (by decide) [1, 2, 3, 4, 5, 0] rfl ?_
  refine tX5_countBefore_13 X hcd Qr   FU _ _ _ _ _ _ _ h
/-! TableauBench$ShapeOrder.find(IILTableauBench$Shape;)Z -/
def rmX5_find : Room := { frames := 1, cells := 0, slots := 0, locals := 32 }
def fX5_find_28 (K71 : Nat → Nat → Int32 → Int32 → Int32 → Int32 → Mem → Option (Int32 × Mem)) : Nat → Nat → Nat → Int32 → Int32 → Int32 → Int32 → Mem → Option (Int32 × Mem)
  | 0, _, _, _, _, _, _, _ => none
  | n + 1, x0, x3, x4, x5, x7, x8, F => if x8 ≤ 0 then (K71 x0 x3 x4 x5 x7 x8 F) else ((obj F x0 4).bind fun _ => (mX5_countOf F x0 (x4 - x8) x8).bind fun v43 => if x5 < v43.1 then (K71 x0 x3 x4 x5 x7 x8 v43.2) else ((obj v43.2 x0 4).bind fun _ => (mX5_countOf v43.2 x0 (x4 - x8) x8).bind fun v59 => (fX5_find_28  K71 n) x0 x3 x4 (x5 - v59.1) x7 (x8 + (-1)) v59.2))
set_option maxRecDepth 100000 in
set_option maxHeartbeats 4000000 in
theorem tX5_find_28 {l : Launch} {D : va_G} {cy : Nat → ClassId} {C : Cx} {res : Int32 × Mem} (X : Fx C cX5_find RX5 (some .boolean) rmX5_find 9) (hcd : CD C l D cy) (Qr : RI C 0 0 res) {K71 : Nat → Nat → Int32 → Int32 → Int32 → Int32 → Mem → Option (Int32 × Mem)} (hK71 : ∀ (x0 : Nat) (x3 : Nat) (x4 : Int32) (x5 : Int32) (x7 : Int32) (x8 : Int32) (F : Mem), K71 x0 x3 x4 x5 x7 x8 F = some res → Wp C 0 0 71 [(0, .ref x0), (3, .ref x3), (4, .int x4), (5, .int x5), (7, .int x7), (8, .int x8)] [] F) : ∀ (n : Nat) (x0 : Nat) (x3 : Nat) (x4 : Int32) (x5 : Int32) (x7 : Int32) (x8 : Int32) (F : Mem), fX5_find_28 K71 n x0 x3 x4 x5 x7 x8 F = some res → Wp C 0 0 28 [(0, .ref x0), (3, .ref x3), (4, .int x4), (5, .int x5), (7, .int x7), (8, .int x8)] [] F := by
  intro n
  induction n with
  | zero =>
    intro x0 x3 x4 x5 x7 x8 F h
    rw [fX5_find_28.eq_1] at h
    cases h
  | succ n ih =>
    intro x0 x3 x4 x5 x7 x8 F h
    rw [fX5_find_28.eq_2] at h
    refine wp_iload X dX5_find_28 5 rfl ?_
    refine wp_if_le X (tgt := 71) dX5_find_30 (by decide) h (fun h => ?_) (fun h => ?_)
    · exact hK71 _ _ _ _ _ _ _ h
    · refine wp_iload X dX5_find_33 3 rfl ?_
      refine wp_aload_n X dX5_find_35 0 rfl ?_
      refine wp_iload X dX5_find_36 2 rfl ?_
      refine wp_iload X dX5_find_38 5 rfl ?_
      refine wp_isub X dX5_find_40 ?_
      refine wp_iload X dX5_find_41 5 rfl ?_
      refine wp_callVI X (rm := rmX5_countOf) (T := TX5) (N := 1) (ci := 4) (n := 2) [.int (x4 - x8), .int x8] hcd (fun q hq => cX5_countOf_ok hq) kw410 kw411 kw412 kw5 kw413 (by decide +kernel) (by decide) (by decide) (cs2 := 0) (sl2 := 0) rfl rfl rfl (by decide) rfl rfl (Nat.le_of_ble_eq_true rfl) dX5_find_43 h (fun v43 h => ?_)
      refine wp_icmp_lt X (tgt := 71) dX5_find_46 (by decide) h (fun h => ?_) (fun h => ?_)
      · exact hK71 _ _ _ _ _ _ _ h
      · refine wp_iload X dX5_find_49 3 rfl ?_
        refine wp_aload_n X dX5_find_51 0 rfl ?_
        refine wp_iload X dX5_find_52 2 rfl ?_
        refine wp_iload X dX5_find_54 5 rfl ?_
        refine wp_isub X dX5_find_56 ?_
        refine wp_iload X dX5_find_57 5 rfl ?_
        refine wp_callVI X (rm := rmX5_countOf) (T := TX5) (N := 1) (ci := 4) (n := 2) [.int (x4 - x8), .int x8] hcd (fun q hq => cX5_countOf_ok hq) kw410 kw411 kw412 kw5 kw413 (by decide +kernel) (by decide) (by decide) (cs2 := 0) (sl2 := 0) rfl rfl rfl (by decide) rfl rfl (Nat.le_of_ble_eq_true rfl) dX5_find_59 h (fun v59 h => ?_)
        refine wp_isub X dX5_find_62 ?_
        refine wp_istore X (lv' := [(0, .ref x0), (3, .ref x3), (4, .int x4), (5, .int (x5 - v59.1)), (7, .int x7), (8, .int x8)]) dX5_find_63 (by decide) [1, 2, 3, 0, 4, 5] rfl ?_
        refine wp_iinc X (v := x8 + (-1)) (lv' := [(0, .ref x0), (3, .ref x3), (4, .int x4), (5, .int (x5 - v59.1)), (7, .int x7), (8, .int (x8 + (-1)))]) dX5_find_65 (by decide) 5 rfl rfl [1, 2, 3, 4, 5, 0] rfl ?_
        refine wp_goto X (tgt := 28) dX5_find_68 (by decide) ?_
        exact ih _ _ _ _ _ _ _ h
def fX5_find_71 (K12 : Nat → Nat → Int32 → Int32 → Int32 → Int32 → Mem → Option (Int32 × Mem)) (K97 : Int32 → Mem → Option (Int32 × Mem)) (x0 : Nat) (x3 : Nat) (x4 : Int32) (x5 : Int32) (x7 : Int32) (x8 : Int32) (F : Mem) : Option (Int32 × Mem) := (gfR F x3 3 0).bind fun v72 => (wrI F v72 x7 x8).bind fun F79 => K12 x0 x3 (x4 - x8) x5 x8 (x7 + 1) F79
set_option maxRecDepth 100000 in
set_option maxHeartbeats 4000000 in
theorem tX5_find_71 {l : Launch} {D : va_G} {cy : Nat → ClassId} {C : Cx} {res : Int32 × Mem} (X : Fx C cX5_find RX5 (some .boolean) rmX5_find 9) (hcd : CD C l D cy) (Qr : RI C 0 0 res) {K12 : Nat → Nat → Int32 → Int32 → Int32 → Int32 → Mem → Option (Int32 × Mem)} {K97 : Int32 → Mem → Option (Int32 × Mem)} (hK12 : ∀ (x0 : Nat) (x3 : Nat) (x4 : Int32) (x5 : Int32) (x6 : Int32) (x7 : Int32) (F : Mem), K12 x0 x3 x4 x5 x6 x7 F = some res → Wp C 0 0 12 [(0, .ref x0), (3, .ref x3), (4, .int x4), (5, .int x5), (6, .int x6), (7, .int x7)] [] F) (hK97 : ∀ (x4 : Int32) (F : Mem), K97 x4 F = some res → Wp C 0 0 97 [(4, .int x4)] [] F) (x0 : Nat) (x3 : Nat) (x4 : Int32) (x5 : Int32) (x7 : Int32) (x8 : Int32) (F : Mem) (h : fX5_find_71 K12 K97 x0 x3 x4 x5 x7 x8 F = some res) : Wp C 0 0 71 [(0, .ref x0), (3, .ref x3), (4, .int x4), (5, .int x5), (7, .int x7), (8, .int x8)] [] F := by
  unfold fX5_find_71 at h
  refine wp_aload_n X dX5_find_71 1 rfl ?_
  refine wp_getR X (T := TX4) (N := 1) (ci := 3) (k := 0) rfl (by decide) (by decide) inBX4 kw61 dX5_find_72 h (fun v72 h => ?_)
  refine wp_iload X dX5_find_75 4 rfl ?_
  refine wp_iload X dX5_find_77 5 rfl ?_
  refine wp_iastore X dX5_find_79 h (fun F79 h => ?_)
  refine wp_iload X dX5_find_80 2 rfl ?_
  refine wp_iload X dX5_find_82 5 rfl ?_
  refine wp_isub X dX5_find_84 ?_
  refine wp_istore X (lv' := [(0, .ref x0), (3, .ref x3), (4, .int (x4 - x8)), (5, .int x5), (7, .int x7), (8, .int x8)]) dX5_find_85 (by decide) [1, 2, 0, 3, 4, 5] rfl ?_
  refine wp_iload X dX5_find_87 5 rfl ?_
  refine wp_istore X (lv' := [(0, .ref x0), (3, .ref x3), (4, .int (x4 - x8)), (5, .int x5), (6, .int x8), (7, .int x7)]) dX5_find_89 (by decide) [1, 2, 3, 4, 0, 5] rfl ?_
  refine wp_iinc X (v := x7 + 1) (lv' := [(0, .ref x0), (3, .ref x3), (4, .int (x4 - x8)), (5, .int x5), (6, .int x8), (7, .int (x7 + 1))]) dX5_find_91 (by decide) 5 rfl rfl [1, 2, 3, 4, 5, 0] rfl ?_
  refine wp_goto X (tgt := 12) dX5_find_94 (by decide) ?_
  exact hK12 _ _ _ _ _ _ _ h
def fX5_find_12 (K97 : Int32 → Mem → Option (Int32 × Mem)) : Nat → Nat → Nat → Int32 → Int32 → Int32 → Int32 → Mem → Option (Int32 × Mem)
  | 0, _, _, _, _, _, _, _ => none
  | n + 1, x0, x3, x4, x5, x6, x7, F => if 8 ≤ x7 then (K97 x4 F) else (fX5_find_28  (fun (x0 : Nat) (x3 : Nat) (x4 : Int32) (x5 : Int32) (x7 : Int32) (x8 : Int32) (F : Mem) => fX5_find_71  (fX5_find_12  K97 n) K97 x0 x3 x4 x5 x7 x8 F) FU x0 x3 x4 x5 x7 (if x4 < x6 then x4 else x6) F)
set_option maxRecDepth 100000 in
set_option maxHeartbeats 4000000 in
theorem tX5_find_12 {l : Launch} {D : va_G} {cy : Nat → ClassId} {C : Cx} {res : Int32 × Mem} (X : Fx C cX5_find RX5 (some .boolean) rmX5_find 9) (hcd : CD C l D cy) (Qr : RI C 0 0 res) {K97 : Int32 → Mem → Option (Int32 × Mem)} (hK97 : ∀ (x4 : Int32) (F : Mem), K97 x4 F = some res → Wp C 0 0 97 [(4, .int x4)] [] F) : ∀ (n : Nat) (x0 : Nat) (x3 : Nat) (x4 : Int32) (x5 : Int32) (x6 : Int32) (x7 : Int32) (F : Mem), fX5_find_12 K97 n x0 x3 x4 x5 x6 x7 F = some res → Wp C 0 0 12 [(0, .ref x0), (3, .ref x3), (4, .int x4), (5, .int x5), (6, .int x6), (7, .int x7)] [] F := by
  intro n
  induction n with
  | zero =>
    intro x0 x3 x4 x5 x6 x7 F h
    rw [fX5_find_12.eq_1] at h
    cases h
  | succ n ih =>
    intro x0 x3 x4 x5 x6 x7 F h
    rw [fX5_find_12.eq_2] at h
    refine wp_iload X dX5_find_12 5 rfl ?_
    refine wp_bipush X (v := 8) dX5_find_14 (by decide) ?_
    refine wp_icmp_ge X (tgt := 97) dX5_find_16 (by decide) h (fun h => ?_) (fun h => ?_)
    · refine wp_sub (lv' := [(4, .int x4)]) [2] rfl ?_
      exact hK97 _ _ h
    · refine wp_iload X dX5_find_19 4 rfl ?_
      refine wp_iload X dX5_find_21 2 rfl ?_
      refine wp_mmin X kw461 kw462 kw18 kw463 (by decide) (by decide) (by decide) (by decide) dX5_find_23 ?_
      refine wp_istore X (lv' := [(0, .ref x0), (3, .ref x3), (4, .int x4), (5, .int x5), (7, .int x7), (8, .int (if x4 < x6 then x4 else x6))]) dX5_find_26 (by decide) [1, 2, 3, 4, 6, 0] rfl ?_
      refine tX5_find_28 X hcd Qr  ?_ FU _ _ _ _ _ _ _ h
      · intro x0 x3 x4 x5 x7 x8 F h
        exact tX5_find_71 X hcd Qr  ih hK97 _ _ _ _ _ _ _ h
def mX5_find (F : Mem) (x0 : Nat) (x1 : Int32) (x2 : Int32) (x3 : Nat) : Option (Int32 × Mem) := fX5_find_12  (fun (x4 : Int32) (F : Mem) => if x4 = 0 then (some (1, F)) else (some (0, F))) FU x0 x3 x1 x2 x1 0 F
set_option maxRecDepth 100000 in
set_option maxHeartbeats 4000000 in
theorem cX5_find_ok {l : Launch} {D : va_G} {cy : Nat → ClassId} {F : Mem} {x0 : Nat} {x1 : Int32} {x2 : Int32} {x3 : Nat} {res : Int32 × Mem} (h : mX5_find F x0 x1 x2 x3 = some res) : MI l yX5_find cX5_find 9 (some .boolean) rmX5_find D cy F [.ref x0, .int x1, .int x2, .ref x3] res := by
  refine mi_of (by decide) (Nat.le_of_ble_eq_true rfl) [(0, .ref x0), (1, .int x1), (2, .int x2), (3, .ref x3)] rfl (fun C X hcd Qr => ?_)
  unfold mX5_find at h
  refine wp_iload_n X dX5_find_0 1 rfl ?_
  refine wp_istore X (lv' := [(0, .ref x0), (1, .int x1), (2, .int x2), (3, .ref x3), (4, .int x1)]) dX5_find_1 (by decide) [1, 2, 3, 4, 0] rfl ?_
  refine wp_iload_n X dX5_find_3 2 rfl ?_
  refine wp_istore X (lv' := [(0, .ref x0), (1, .int x1), (3, .ref x3), (4, .int x1), (5, .int x2)]) dX5_find_4 (by decide) [1, 2, 4, 5, 0] rfl ?_
  refine wp_iload_n X dX5_find_6 1 rfl ?_
  refine wp_istore X (lv' := [(0, .ref x0), (3, .ref x3), (4, .int x1), (5, .int x2), (6, .int x1)]) dX5_find_7 (by decide) [1, 3, 4, 5, 0] rfl ?_
  refine wp_iconst X (v := 0) dX5_find_9 (by decide) ?_
  refine wp_istore X (lv' := [(0, .ref x0), (3, .ref x3), (4, .int x1), (5, .int x2), (6, .int x1), (7, .int 0)]) dX5_find_10 (by decide) [1, 2, 3, 4, 5, 0] rfl ?_
  refine tX5_find_12 X hcd Qr  ?_ FU _ _ _ _ _ _ _ h
  · intro x4 F h
    refine wp_iload X dX5_find_97 0 rfl ?_
    refine wp_if_ne X (tgt := 106) dX5_find_99 (by decide) h (fun h => ?_) (fun h => ?_)
    · refine wp_iconst X (v := 0) dX5_find_106 (by decide) ?_
      exact wp_ireturn X Qr rfl rfl dX5_find_107 h
    · refine wp_iconst X (v := 1) dX5_find_102 (by decide) ?_
      refine wp_goto X (tgt := 107) dX5_find_103 (by decide) ?_
      exact wp_ireturn X Qr rfl rfl dX5_find_107 h
/-! TableauBench$StandardCount.splitIntoFactors(I)V -/
def rmX6_splitIntoFactors : Room := { frames := 0, cells := 0, slots := 0, locals := 0 }
def fX6_splitIntoFactors_2 (K15 : Nat → Int32 → Int32 → Mem → Option (Mem)) : Nat → Nat → Int32 → Int32 → Mem → Option (Mem)
  | 0, _, _, _, _ => none
  | n + 1, x0, x1, x2, F => if x1 < (x2 * x2) then (some F) else ((irem0 x1 x2).bind fun v11 => if v11 = 0 then (K15 x0 x1 x2 F) else ((fX6_splitIntoFactors_2  K15 n) x0 x1 (x2 + 1) F))
set_option maxRecDepth 100000 in
set_option maxHeartbeats 4000000 in
theorem tX6_splitIntoFactors_2 {l : Launch} {D : va_G} {cy : Nat → ClassId} {C : Cx} {res : Mem} (X : Fx C cX6_splitIntoFactors RX6 none rmX6_splitIntoFactors 3) (hcd : CD C l D cy) (Qr : RV C 0 0 res) {K15 : Nat → Int32 → Int32 → Mem → Option (Mem)} (hK15 : ∀ (x0 : Nat) (x1 : Int32) (x2 : Int32) (F : Mem), K15 x0 x1 x2 F = some res → Wp C 0 0 15 [(0, .ref x0), (1, .int x1), (2, .int x2)] [] F) : ∀ (n : Nat) (x0 : Nat) (x1 : Int32) (x2 : Int32) (F : Mem), fX6_splitIntoFactors_2 K15 n x0 x1 x2 F = some res → Wp C 0 0 2 [(0, .ref x0), (1, .int x1), (2, .int x2)] [] F := by
  intro n
  induction n with
  | zero =>
    intro x0 x1 x2 F h
    rw [fX6_splitIntoFactors_2.eq_1] at h
    cases h
  | succ n ih =>
    intro x0 x1 x2 F h
    rw [fX6_splitIntoFactors_2.eq_2] at h
    refine wp_iload_n X dX6_splitIntoFactors_2 2 rfl ?_
    refine wp_iload_n X dX6_splitIntoFactors_3 2 rfl ?_
    refine wp_imul X dX6_splitIntoFactors_4 ?_
    refine wp_iload_n X dX6_splitIntoFactors_5 1 rfl ?_
    refine wp_icmp_gt X (tgt := 61) dX6_splitIntoFactors_6 (by decide) h (fun h => ?_) (fun h => ?_)
    · exact wp_return X Qr rfl dX6_splitIntoFactors_61 h
    · refine wp_iload_n X dX6_splitIntoFactors_9 1 rfl ?_
      refine wp_iload_n X dX6_splitIntoFactors_10 2 rfl ?_
      refine wp_irem X dX6_splitIntoFactors_11 h (fun v11 h => ?_)
      refine wp_if_ne X (tgt := 55) dX6_splitIntoFactors_12 (by decide) h (fun h => ?_) (fun h => ?_)
      · refine wp_iinc X (v := x2 + 1) (lv' := [(0, .ref x0), (1, .int x1), (2, .int (x2 + 1))]) dX6_splitIntoFactors_55 (by decide) 2 rfl rfl [1, 2, 0] rfl ?_
        refine wp_goto X (tgt := 2) dX6_splitIntoFactors_58 (by decide) ?_
        exact ih _ _ _ _ h
      · exact hK15 _ _ _ _ h
def mX6_splitIntoFactors (F : Mem) (x0 : Nat) (x1 : Int32) : Option (Mem) := fX6_splitIntoFactors_2  (fun (x0 : Nat) (x1 : Int32) (x2 : Int32) (F : Mem) => (gfR F x0 5 0).bind fun v16 => (rdI F 0 v16 x2).bind fun v21 => (gfR F x0 5 0).bind fun v23 => (rdI F 0 v23 x1).bind fun v27 => (wrI F v16 x2 (v21 + v27)).bind fun F29 => (gfR F29 x0 5 0).bind fun v31 => (idiv0 x1 x2).bind fun v36 => (rdI F29 0 v31 v36).bind fun v38 => (gfR F29 x0 5 0).bind fun v40 => (rdI F29 0 v40 x1).bind fun v44 => (wrI F29 v31 v36 (v38 + v44)).bind fun F46 => (gfR F46 x0 5 0).bind fun v48 => (wrI F46 v48 x1 0).bind fun F53 => some F53) FU x0 x1 2 F
set_option maxRecDepth 100000 in
set_option maxHeartbeats 4000000 in
theorem cX6_splitIntoFactors_ok {l : Launch} {D : va_G} {cy : Nat → ClassId} {F : Mem} {x0 : Nat} {x1 : Int32} {res : Mem} (h : mX6_splitIntoFactors F x0 x1 = some res) : MV l yX6_splitIntoFactors cX6_splitIntoFactors 3 none rmX6_splitIntoFactors D cy F [.ref x0, .int x1] res := by
  refine mv_of (by decide) (Nat.le_of_ble_eq_true rfl) [(0, .ref x0), (1, .int x1)] rfl (fun C X hcd Qr => ?_)
  unfold mX6_splitIntoFactors at h
  refine wp_iconst X (v := 2) dX6_splitIntoFactors_0 (by decide) ?_
  refine wp_istore_n X (lv' := [(0, .ref x0), (1, .int x1), (2, .int 2)]) dX6_splitIntoFactors_1 (by decide) [1, 2, 0] rfl ?_
  refine tX6_splitIntoFactors_2 X hcd Qr  ?_ FU _ _ _ _ h
  · intro x0 x1 x2 F h
    refine wp_aload_n X dX6_splitIntoFactors_15 0 rfl ?_
    refine wp_getR X (T := TX6) (N := 1) (ci := 5) (k := 0) rfl (by decide) (by decide) inBX6 kw108 dX6_splitIntoFactors_16 h (fun v16 h => ?_)
    refine wp_iload_n X dX6_splitIntoFactors_19 2 rfl ?_
    refine wp_dup2 X dX6_splitIntoFactors_20 rfl rfl ?_
    refine wp_iaload X dX6_splitIntoFactors_21 h (fun v21 h => ?_)
    refine wp_aload_n X dX6_splitIntoFactors_22 0 rfl ?_
    refine wp_getR X (T := TX6) (N := 1) (ci := 5) (k := 0) rfl (by decide) (by decide) inBX6 kw108 dX6_splitIntoFactors_23 h (fun v23 h => ?_)
    refine wp_iload_n X dX6_splitIntoFactors_26 1 rfl ?_
    refine wp_iaload X dX6_splitIntoFactors_27 h (fun v27 h => ?_)
    refine wp_iadd X dX6_splitIntoFactors_28 ?_
    refine wp_iastore X dX6_splitIntoFactors_29 h (fun F29 h => ?_)
    refine wp_aload_n X dX6_splitIntoFactors_30 0 rfl ?_
    refine wp_getR X (T := TX6) (N := 1) (ci := 5) (k := 0) rfl (by decide) (by decide) inBX6 kw108 dX6_splitIntoFactors_31 h (fun v31 h => ?_)
    refine wp_iload_n X dX6_splitIntoFactors_34 1 rfl ?_
    refine wp_iload_n X dX6_splitIntoFactors_35 2 rfl ?_
    refine wp_idiv X dX6_splitIntoFactors_36 h (fun v36 h => ?_)
    refine wp_dup2 X dX6_splitIntoFactors_37 rfl rfl ?_
    refine wp_iaload X dX6_splitIntoFactors_38 h (fun v38 h => ?_)
    refine wp_aload_n X dX6_splitIntoFactors_39 0 rfl ?_
    refine wp_getR X (T := TX6) (N := 1) (ci := 5) (k := 0) rfl (by decide) (by decide) inBX6 kw108 dX6_splitIntoFactors_40 h (fun v40 h => ?_)
    refine wp_iload_n X dX6_splitIntoFactors_43 1 rfl ?_
    refine wp_iaload X dX6_splitIntoFactors_44 h (fun v44 h => ?_)
    refine wp_iadd X dX6_splitIntoFactors_45 ?_
    refine wp_iastore X dX6_splitIntoFactors_46 h (fun F46 h => ?_)
    refine wp_aload_n X dX6_splitIntoFactors_47 0 rfl ?_
    refine wp_getR X (T := TX6) (N := 1) (ci := 5) (k := 0) rfl (by decide) (by decide) inBX6 kw108 dX6_splitIntoFactors_48 h (fun v48 h => ?_)
    refine wp_iload_n X dX6_splitIntoFactors_51 1 rfl ?_
    refine wp_iconst X (v := 0) dX6_splitIntoFactors_52 (by decide) ?_
    refine wp_iastore X dX6_splitIntoFactors_53 h (fun F53 h => ?_)
    exact wp_return X Qr rfl dX6_splitIntoFactors_54 h
/-! TableauBench$StandardCount.multiply()J -/
def rmX6_multiply : Room := { frames := 0, cells := 0, slots := 0, locals := 0 }
def fX6_multiply_13 (K35 : Nat → Int64 → Int32 → Mem → Option (Int64 × Mem)) : Nat → Nat → Int64 → Int32 → Int32 → Mem → Option (Int64 × Mem)
  | 0, _, _, _, _, _ => none
  | n + 1, x0, x1, x3, x4, F => (gfR F x0 5 0).bind fun v16 => (rdI F 0 v16 x3).bind fun v20 => if v20 ≤ x4 then (K35 x0 x1 x3 F) else ((fX6_multiply_13  K35 n) x0 (x1 * (Int32.toInt64 x3)) x3 (x4 + 1) F)
set_option maxRecDepth 100000 in
set_option maxHeartbeats 4000000 in
theorem tX6_multiply_13 {l : Launch} {D : va_G} {cy : Nat → ClassId} {C : Cx} {res : Int64 × Mem} (X : Fx C cX6_multiply RX6 (some .long) rmX6_multiply 5) (hcd : CD C l D cy) (Qr : RJ C 0 0 res) {K35 : Nat → Int64 → Int32 → Mem → Option (Int64 × Mem)} (hK35 : ∀ (x0 : Nat) (x1 : Int64) (x3 : Int32) (F : Mem), K35 x0 x1 x3 F = some res → Wp C 0 0 35 [(0, .ref x0), (1, .long x1), (3, .int x3)] [] F) : ∀ (n : Nat) (x0 : Nat) (x1 : Int64) (x3 : Int32) (x4 : Int32) (F : Mem), fX6_multiply_13 K35 n x0 x1 x3 x4 F = some res → Wp C 0 0 13 [(0, .ref x0), (1, .long x1), (3, .int x3), (4, .int x4)] [] F := by
  intro n
  induction n with
  | zero =>
    intro x0 x1 x3 x4 F h
    rw [fX6_multiply_13.eq_1] at h
    cases h
  | succ n ih =>
    intro x0 x1 x3 x4 F h
    rw [fX6_multiply_13.eq_2] at h
    refine wp_iload X dX6_multiply_13 3 rfl ?_
    refine wp_aload_n X dX6_multiply_15 0 rfl ?_
    refine wp_getR X (T := TX6) (N := 1) (ci := 5) (k := 0) rfl (by decide) (by decide) inBX6 kw108 dX6_multiply_16 h (fun v16 h => ?_)
    refine wp_iload_n X dX6_multiply_19 2 rfl ?_
    refine wp_iaload X dX6_multiply_20 h (fun v20 h => ?_)
    refine wp_icmp_ge X (tgt := 35) dX6_multiply_21 (by decide) h (fun h => ?_) (fun h => ?_)
    · refine wp_sub (lv' := [(0, .ref x0), (1, .long x1), (3, .int x3)]) [0, 1, 2] rfl ?_
      exact hK35 _ _ _ _ h
    · refine wp_lload_n X dX6_multiply_24 1 rfl ?_
      refine wp_iload_n X dX6_multiply_25 2 rfl ?_
      refine wp_i2l X dX6_multiply_26 ?_
      refine wp_lmul X dX6_multiply_27 ?_
      refine wp_lstore_n X (lv' := [(0, .ref x0), (1, .long (x1 * (Int32.toInt64 x3))), (3, .int x3), (4, .int x4)]) dX6_multiply_28 (by decide) [1, 0, 2, 3] rfl ?_
      refine wp_iinc X (v := x4 + 1) (lv' := [(0, .ref x0), (1, .long (x1 * (Int32.toInt64 x3))), (3, .int x3), (4, .int (x4 + 1))]) dX6_multiply_29 (by decide) 3 rfl rfl [1, 2, 3, 0] rfl ?_
      refine wp_goto X (tgt := 13) dX6_multiply_32 (by decide) ?_
      exact ih _ _ _ _ _ h
def fX6_multiply_4  : Nat → Nat → Int64 → Int32 → Mem → Option (Int64 × Mem)
  | 0, _, _, _, _ => none
  | n + 1, x0, x1, x3, F => if 24 < x3 then (some (x1, F)) else (fX6_multiply_13  (fun (x0 : Nat) (x1 : Int64) (x3 : Int32) (F : Mem) => (fX6_multiply_4   n) x0 x1 (x3 + 1) F) FU x0 x1 x3 0 F)
set_option maxRecDepth 100000 in
set_option maxHeartbeats 4000000 in
theorem tX6_multiply_4 {l : Launch} {D : va_G} {cy : Nat → ClassId} {C : Cx} {res : Int64 × Mem} (X : Fx C cX6_multiply RX6 (some .long) rmX6_multiply 5) (hcd : CD C l D cy) (Qr : RJ C 0 0 res)   : ∀ (n : Nat) (x0 : Nat) (x1 : Int64) (x3 : Int32) (F : Mem), fX6_multiply_4  n x0 x1 x3 F = some res → Wp C 0 0 4 [(0, .ref x0), (1, .long x1), (3, .int x3)] [] F := by
  intro n
  induction n with
  | zero =>
    intro x0 x1 x3 F h
    rw [fX6_multiply_4.eq_1] at h
    cases h
  | succ n ih =>
    intro x0 x1 x3 F h
    rw [fX6_multiply_4.eq_2] at h
    refine wp_iload_n X dX6_multiply_4 2 rfl ?_
    refine wp_bipush X (v := 24) dX6_multiply_5 (by decide) ?_
    refine wp_icmp_gt X (tgt := 41) dX6_multiply_7 (by decide) h (fun h => ?_) (fun h => ?_)
    · refine wp_lload_n X dX6_multiply_41 1 rfl ?_
      exact wp_lreturn X Qr rfl dX6_multiply_42 h
    · refine wp_iconst X (v := 0) dX6_multiply_10 (by decide) ?_
      refine wp_istore X (lv' := [(0, .ref x0), (1, .long x1), (3, .int x3), (4, .int 0)]) dX6_multiply_11 (by decide) [1, 2, 3, 0] rfl ?_
      refine tX6_multiply_13 X hcd Qr  ?_ FU _ _ _ _ _ h
      · intro x0 x1 x3 F h
        refine wp_iinc X (v := x3 + 1) (lv' := [(0, .ref x0), (1, .long x1), (3, .int (x3 + 1))]) dX6_multiply_35 (by decide) 2 rfl rfl [1, 2, 0] rfl ?_
        refine wp_goto X (tgt := 4) dX6_multiply_38 (by decide) ?_
        exact ih _ _ _ _ h
def mX6_multiply (F : Mem) (x0 : Nat) : Option (Int64 × Mem) := fX6_multiply_4   FU x0 1 2 F
set_option maxRecDepth 100000 in
set_option maxHeartbeats 4000000 in
theorem cX6_multiply_ok {l : Launch} {D : va_G} {cy : Nat → ClassId} {F : Mem} {x0 : Nat} {res : Int64 × Mem} (h : mX6_multiply F x0 = some res) : ML l yX6_multiply cX6_multiply 5 (some .long) rmX6_multiply D cy F [.ref x0] res := by
  refine ml_of (by decide) (Nat.le_of_ble_eq_true rfl) [(0, .ref x0)] rfl (fun C X hcd Qr => ?_)
  unfold mX6_multiply at h
  refine wp_lconst X (v := 1) dX6_multiply_0 (by decide) ?_
  refine wp_lstore_n X (lv' := [(0, .ref x0), (1, .long 1)]) dX6_multiply_1 (by decide) [1, 0] rfl ?_
  refine wp_iconst X (v := 2) dX6_multiply_2 (by decide) ?_
  refine wp_istore_n X (lv' := [(0, .ref x0), (1, .long 1), (3, .int 2)]) dX6_multiply_3 (by decide) [1, 2, 0] rfl ?_
  refine tX6_multiply_4 X hcd Qr   FU _ _ _ _ h
/-! TableauBench$StandardCount.count(LTableauBench$Shape;)J -/
def rmX6_count : Room := { frames := 3, cells := 0, slots := 0, locals := 65 }
def fX6_count_13 (K33 : Nat → Nat → Mem → Option (Int64 × Mem)) : Nat → Nat → Nat → Int32 → Mem → Option (Int64 × Mem)
  | 0, _, _, _, _ => none
  | n + 1, x0, x1, x2, F => if x2 ≤ 0 then (K33 x0 x1 F) else ((gfR F x0 5 0).bind fun v18 => (rdI F 0 v18 x2).bind fun v23 => (wrI F v18 x2 (v23 + 1)).bind fun F26 => (fX6_count_13  K33 n) x0 x1 (x2 + (-1)) F26)
set_option maxRecDepth 100000 in
set_option maxHeartbeats 4000000 in
theorem tX6_count_13 {l : Launch} {D : va_G} {cy : Nat → ClassId} {C : Cx} {res : Int64 × Mem} (X : Fx C cX6_count RX6 (some .long) rmX6_count 4) (hcd : CD C l D cy) (Qr : RJ C 0 0 res) {K33 : Nat → Nat → Mem → Option (Int64 × Mem)} (hK33 : ∀ (x0 : Nat) (x1 : Nat) (F : Mem), K33 x0 x1 F = some res → Wp C 0 0 33 [(0, .ref x0), (1, .ref x1)] [] F) : ∀ (n : Nat) (x0 : Nat) (x1 : Nat) (x2 : Int32) (F : Mem), fX6_count_13 K33 n x0 x1 x2 F = some res → Wp C 0 0 13 [(0, .ref x0), (1, .ref x1), (2, .int x2)] [] F := by
  intro n
  induction n with
  | zero =>
    intro x0 x1 x2 F h
    rw [fX6_count_13.eq_1] at h
    cases h
  | succ n ih =>
    intro x0 x1 x2 F h
    rw [fX6_count_13.eq_2] at h
    refine wp_iload_n X dX6_count_13 2 rfl ?_
    refine wp_if_le X (tgt := 33) dX6_count_14 (by decide) h (fun h => ?_) (fun h => ?_)
    · refine wp_sub (lv' := [(0, .ref x0), (1, .ref x1)]) [0, 1] rfl ?_
      exact hK33 _ _ _ h
    · refine wp_aload_n X dX6_count_17 0 rfl ?_
      refine wp_getR X (T := TX6) (N := 1) (ci := 5) (k := 0) rfl (by decide) (by decide) inBX6 kw108 dX6_count_18 h (fun v18 h => ?_)
      refine wp_iload_n X dX6_count_21 2 rfl ?_
      refine wp_dup2 X dX6_count_22 rfl rfl ?_
      refine wp_iaload X dX6_count_23 h (fun v23 h => ?_)
      refine wp_iconst X (v := 1) dX6_count_24 (by decide) ?_
      refine wp_iadd X dX6_count_25 ?_
      refine wp_iastore X dX6_count_26 h (fun F26 h => ?_)
      refine wp_iinc X (v := x2 + (-1)) (lv' := [(0, .ref x0), (1, .ref x1), (2, .int (x2 + (-1)))]) dX6_count_27 (by decide) 2 rfl rfl [1, 2, 0] rfl ?_
      refine wp_goto X (tgt := 13) dX6_count_30 (by decide) ?_
      exact ih _ _ _ _ h
def fX6_count_43 (K74 : Nat → Nat → Int32 → Mem → Option (Int64 × Mem)) : Nat → Nat → Nat → Int32 → Int32 → Mem → Option (Int64 × Mem)
  | 0, _, _, _, _, _ => none
  | n + 1, x0, x1, x2, x3, F => (gfR F x1 3 0).bind fun v45 => (rdI F 0 v45 x2).bind fun v49 => if v49 ≤ x3 then (K74 x0 x1 x2 F) else ((gfR F x0 5 0).bind fun v54 => (obj F x1 3).bind fun _ => (mX4_hookOf F x1 x2 x3).bind fun v60 => (rdI v60.2 0 v54 v60.1).bind fun v64 => (wrI v60.2 v54 v60.1 (v64 - 1)).bind fun F67 => (fX6_count_43  K74 n) x0 x1 x2 (x3 + 1) F67)
set_option maxRecDepth 100000 in
set_option maxHeartbeats 4000000 in
theorem tX6_count_43 {l : Launch} {D : va_G} {cy : Nat → ClassId} {C : Cx} {res : Int64 × Mem} (X : Fx C cX6_count RX6 (some .long) rmX6_count 4) (hcd : CD C l D cy) (Qr : RJ C 0 0 res) {K74 : Nat → Nat → Int32 → Mem → Option (Int64 × Mem)} (hK74 : ∀ (x0 : Nat) (x1 : Nat) (x2 : Int32) (F : Mem), K74 x0 x1 x2 F = some res → Wp C 0 0 74 [(0, .ref x0), (1, .ref x1), (2, .int x2)] [] F) : ∀ (n : Nat) (x0 : Nat) (x1 : Nat) (x2 : Int32) (x3 : Int32) (F : Mem), fX6_count_43 K74 n x0 x1 x2 x3 F = some res → Wp C 0 0 43 [(0, .ref x0), (1, .ref x1), (2, .int x2), (3, .int x3)] [] F := by
  intro n
  induction n with
  | zero =>
    intro x0 x1 x2 x3 F h
    rw [fX6_count_43.eq_1] at h
    cases h
  | succ n ih =>
    intro x0 x1 x2 x3 F h
    rw [fX6_count_43.eq_2] at h
    refine wp_iload_n X dX6_count_43 3 rfl ?_
    refine wp_aload_n X dX6_count_44 1 rfl ?_
    refine wp_getR X (T := TX4) (N := 1) (ci := 3) (k := 0) rfl (by decide) (by decide) inBX4 kw59 dX6_count_45 h (fun v45 h => ?_)
    refine wp_iload_n X dX6_count_48 2 rfl ?_
    refine wp_iaload X dX6_count_49 h (fun v49 h => ?_)
    refine wp_icmp_ge X (tgt := 74) dX6_count_50 (by decide) h (fun h => ?_) (fun h => ?_)
    · refine wp_sub (lv' := [(0, .ref x0), (1, .ref x1), (2, .int x2)]) [0, 1, 2] rfl ?_
      exact hK74 _ _ _ _ h
    · refine wp_aload_n X dX6_count_53 0 rfl ?_
      refine wp_getR X (T := TX6) (N := 1) (ci := 5) (k := 0) rfl (by decide) (by decide) inBX6 kw108 dX6_count_54 h (fun v54 h => ?_)
      refine wp_aload_n X dX6_count_57 1 rfl ?_
      refine wp_iload_n X dX6_count_58 2 rfl ?_
      refine wp_iload_n X dX6_count_59 3 rfl ?_
      refine wp_callVI X (rm := rmX4_hookOf) (T := TX4) (N := 1) (ci := 3) (n := 2) [.int x2, .int x3] hcd (fun q hq => cX4_hookOf_ok hq) kw725 kw695 kw696 kw3 kw697 (by decide +kernel) (by decide) (by decide) (cs2 := 0) (sl2 := 0) rfl rfl rfl (by decide) rfl rfl (Nat.le_of_ble_eq_true rfl) dX6_count_60 h (fun v60 h => ?_)
      refine wp_dup2 X dX6_count_63 rfl rfl ?_
      refine wp_iaload X dX6_count_64 h (fun v64 h => ?_)
      refine wp_iconst X (v := 1) dX6_count_65 (by decide) ?_
      refine wp_isub X dX6_count_66 ?_
      refine wp_iastore X dX6_count_67 h (fun F67 h => ?_)
      refine wp_iinc X (v := x3 + 1) (lv' := [(0, .ref x0), (1, .ref x1), (2, .int x2), (3, .int (x3 + 1))]) dX6_count_68 (by decide) 3 rfl rfl [1, 2, 3, 0] rfl ?_
      refine wp_goto X (tgt := 43) dX6_count_71 (by decide) ?_
      exact ih _ _ _ _ _ h
def fX6_count_35 (K80 : Nat → Mem → Option (Int64 × Mem)) : Nat → Nat → Nat → Int32 → Mem → Option (Int64 × Mem)
  | 0, _, _, _, _ => none
  | n + 1, x0, x1, x2, F => if 8 ≤ x2 then (K80 x0 F) else (fX6_count_43  (fun (x0 : Nat) (x1 : Nat) (x2 : Int32) (F : Mem) => (fX6_count_35  K80 n) x0 x1 (x2 + 1) F) FU x0 x1 x2 0 F)
set_option maxRecDepth 100000 in
set_option maxHeartbeats 4000000 in
theorem tX6_count_35 {l : Launch} {D : va_G} {cy : Nat → ClassId} {C : Cx} {res : Int64 × Mem} (X : Fx C cX6_count RX6 (some .long) rmX6_count 4) (hcd : CD C l D cy) (Qr : RJ C 0 0 res) {K80 : Nat → Mem → Option (Int64 × Mem)} (hK80 : ∀ (x0 : Nat) (F : Mem), K80 x0 F = some res → Wp C 0 0 80 [(0, .ref x0)] [] F) : ∀ (n : Nat) (x0 : Nat) (x1 : Nat) (x2 : Int32) (F : Mem), fX6_count_35 K80 n x0 x1 x2 F = some res → Wp C 0 0 35 [(0, .ref x0), (1, .ref x1), (2, .int x2)] [] F := by
  intro n
  induction n with
  | zero =>
    intro x0 x1 x2 F h
    rw [fX6_count_35.eq_1] at h
    cases h
  | succ n ih =>
    intro x0 x1 x2 F h
    rw [fX6_count_35.eq_2] at h
    refine wp_iload_n X dX6_count_35 2 rfl ?_
    refine wp_bipush X (v := 8) dX6_count_36 (by decide) ?_
    refine wp_icmp_ge X (tgt := 80) dX6_count_38 (by decide) h (fun h => ?_) (fun h => ?_)
    · refine wp_sub (lv' := [(0, .ref x0)]) [0] rfl ?_
      exact hK80 _ _ h
    · refine wp_iconst X (v := 0) dX6_count_41 (by decide) ?_
      refine wp_istore_n X (lv' := [(0, .ref x0), (1, .ref x1), (2, .int x2), (3, .int 0)]) dX6_count_42 (by decide) [1, 2, 3, 0] rfl ?_
      refine tX6_count_43 X hcd Qr  ?_ FU _ _ _ _ _ h
      · intro x0 x1 x2 F h
        refine wp_iinc X (v := x2 + 1) (lv' := [(0, .ref x0), (1, .ref x1), (2, .int (x2 + 1))]) dX6_count_74 (by decide) 2 rfl rfl [1, 2, 0] rfl ?_
        refine wp_goto X (tgt := 35) dX6_count_77 (by decide) ?_
        exact ih _ _ _ _ h
def fX6_count_83 (K99 : Nat → Mem → Option (Int64 × Mem)) : Nat → Nat → Int32 → Mem → Option (Int64 × Mem)
  | 0, _, _, _ => none
  | n + 1, x0, x2, F => if x2 ≤ 1 then (K99 x0 F) else ((obj F x0 5).bind fun _ => (mX6_splitIntoFactors F x0 x2).bind fun v90 => (fX6_count_83  K99 n) x0 (x2 + (-1)) v90)
set_option maxRecDepth 100000 in
set_option maxHeartbeats 4000000 in
theorem tX6_count_83 {l : Launch} {D : va_G} {cy : Nat → ClassId} {C : Cx} {res : Int64 × Mem} (X : Fx C cX6_count RX6 (some .long) rmX6_count 4) (hcd : CD C l D cy) (Qr : RJ C 0 0 res) {K99 : Nat → Mem → Option (Int64 × Mem)} (hK99 : ∀ (x0 : Nat) (F : Mem), K99 x0 F = some res → Wp C 0 0 99 [(0, .ref x0)] [] F) : ∀ (n : Nat) (x0 : Nat) (x2 : Int32) (F : Mem), fX6_count_83 K99 n x0 x2 F = some res → Wp C 0 0 83 [(0, .ref x0), (2, .int x2)] [] F := by
  intro n
  induction n with
  | zero =>
    intro x0 x2 F h
    rw [fX6_count_83.eq_1] at h
    cases h
  | succ n ih =>
    intro x0 x2 F h
    rw [fX6_count_83.eq_2] at h
    refine wp_iload_n X dX6_count_83 1 rfl ?_
    refine wp_iconst X (v := 1) dX6_count_84 (by decide) ?_
    refine wp_icmp_le X (tgt := 99) dX6_count_85 (by decide) h (fun h => ?_) (fun h => ?_)
    · refine wp_sub (lv' := [(0, .ref x0)]) [0] rfl ?_
      exact hK99 _ _ h
    · refine wp_aload_n X dX6_count_88 0 rfl ?_
      refine wp_iload_n X dX6_count_89 1 rfl ?_
      refine wp_callVV X (rm := rmX6_splitIntoFactors) (T := TX6) (N := 1) (ci := 5) (n := 1) [.int x2] hcd (fun q hq => cX6_splitIntoFactors_ok hq) kw726 kw728 ks12 kw6 kw729 (by decide +kernel) (by decide) (by decide) (cs2 := 0) (sl2 := 0) rfl rfl rfl (by decide) rfl rfl (Nat.le_of_ble_eq_true rfl) dX6_count_90 h (fun v90 h => ?_)
      refine wp_iinc X (v := x2 + (-1)) (lv' := [(0, .ref x0), (2, .int (x2 + (-1)))]) dX6_count_93 (by decide) 1 rfl rfl [1, 0] rfl ?_
      refine wp_goto X (tgt := 83) dX6_count_96 (by decide) ?_
      exact ih _ _ _ h
def mX6_count (F : Mem) (x0 : Nat) (x1 : Nat) : Option (Int64 × Mem) := (gfR F x0 5 0).bind fun v1 => (mJ7_fill_53178 F v1 0).bind fun v5 => (obj v5 x1 3).bind fun _ => (mX4_countBoxes v5 x1).bind fun v9 => fX6_count_13  (fun (x0 : Nat) (x1 : Nat) (F : Mem) => fX6_count_35  (fun (x0 : Nat) (F : Mem) => fX6_count_83  (fun (x0 : Nat) (F : Mem) => (obj F x0 5).bind fun _ => (mX6_multiply F x0).bind fun v100 => some (v100.1, v100.2)) FU x0 24 F) FU x0 x1 0 F) FU x0 x1 v9.1 v9.2
set_option maxRecDepth 100000 in
set_option maxHeartbeats 4000000 in
theorem cX6_count_ok {l : Launch} {D : va_G} {cy : Nat → ClassId} {F : Mem} {x0 : Nat} {x1 : Nat} {res : Int64 × Mem} (h : mX6_count F x0 x1 = some res) : ML l yX6_count cX6_count 4 (some .long) rmX6_count D cy F [.ref x0, .ref x1] res := by
  refine ml_of (by decide) (Nat.le_of_ble_eq_true rfl) [(0, .ref x0), (1, .ref x1)] rfl (fun C X hcd Qr => ?_)
  unfold mX6_count at h
  refine wp_aload_n X dX6_count_0 0 rfl ?_
  refine wp_getR X (T := TX6) (N := 1) (ci := 5) (k := 0) rfl (by decide) (by decide) inBX6 kw108 dX6_count_1 h (fun v1 h => ?_)
  refine wp_iconst X (v := 0) dX6_count_4 (by decide) ?_
  refine wp_callSV X (rm := rmJ7_fill_53178) (n := 2) [.ref v1, .int 0] hcd (fun q hq => cJ7_fill_53178_ok hq) kw723 kw244 kw20 kw245 (by decide +kernel) (by decide) (by decide) (cs2 := 0) (sl2 := 0) rfl rfl rfl rfl (Nat.le_of_ble_eq_true rfl) dX6_count_5 h (fun v5 h => ?_)
  refine wp_aload_n X dX6_count_8 1 rfl ?_
  refine wp_callVI X (rm := rmX4_countBoxes) (T := TX4) (N := 1) (ci := 3) (n := 0) [] hcd (fun q hq => cX4_countBoxes_ok hq) kw724 kw366 kw367 kw3 kw368 (by decide +kernel) (by decide) (by decide) (cs2 := 0) (sl2 := 0) rfl rfl rfl (by decide) rfl rfl (Nat.le_of_ble_eq_true rfl) dX6_count_9 h (fun v9 h => ?_)
  refine wp_istore_n X (lv' := [(0, .ref x0), (1, .ref x1), (2, .int v9.1)]) dX6_count_12 (by decide) [1, 2, 0] rfl ?_
  refine tX6_count_13 X hcd Qr  ?_ FU _ _ _ _ h
  · intro x0 x1 F h
    refine wp_iconst X (v := 0) dX6_count_33 (by decide) ?_
    refine wp_istore_n X (lv' := [(0, .ref x0), (1, .ref x1), (2, .int 0)]) dX6_count_34 (by decide) [1, 2, 0] rfl ?_
    refine tX6_count_35 X hcd Qr  ?_ FU _ _ _ _ h
    · intro x0 F h
      refine wp_bipush X (v := 24) dX6_count_80 (by decide) ?_
      refine wp_istore_n X (lv' := [(0, .ref x0), (2, .int 24)]) dX6_count_82 (by decide) [1, 0] rfl ?_
      refine tX6_count_83 X hcd Qr  ?_ FU _ _ _ h
      · intro x0 F h
        refine wp_aload_n X dX6_count_99 0 rfl ?_
        refine wp_callVL X (rm := rmX6_multiply) (T := TX6) (N := 1) (ci := 5) (n := 0) [] hcd (fun q hq => cX6_multiply_ok hq) kw730 kw732 ks13 kw6 kw733 (by decide +kernel) (by decide) (by decide) (cs2 := 0) (sl2 := 0) rfl rfl rfl (by decide) rfl rfl (Nat.le_of_ble_eq_true rfl) dX6_count_100 h (fun v100 h => ?_)
        exact wp_lreturn X Qr rfl dX6_count_103 h
