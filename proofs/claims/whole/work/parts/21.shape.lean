/-! TableauBench$Shape.countBoxes()I -/
def rmX4_countBoxes : Room := { frames := 0, cells := 0, slots := 0, locals := 0 }
def fX4_countBoxes_4  : Nat → Nat → Int32 → Int32 → Mem → Option (Int32 × Mem)
  | 0, _, _, _, _ => none
  | n + 1, x0, x1, x2, F => if 8 ≤ x2 then (some (x1, F)) else ((gfR F x0 3 0).bind fun v12 => (rdI F 0 v12 x2).bind fun v16 => (fX4_countBoxes_4   n) x0 (x1 + v16) (x2 + 1) F)
set_option maxRecDepth 100000 in
set_option maxHeartbeats 4000000 in
theorem tX4_countBoxes_4 {l : Launch} {D : va_G} {cy : Nat → ClassId} {C : Cx} {res : Int32 × Mem} (X : Fx C cX4_countBoxes RX4 (some .int) rmX4_countBoxes 3) (hcd : CD C l D cy) (Qr : RI C 0 0 res)   : ∀ (n : Nat) (x0 : Nat) (x1 : Int32) (x2 : Int32) (F : Mem), fX4_countBoxes_4  n x0 x1 x2 F = some res → Wp C 0 0 4 [(0, .ref x0), (1, .int x1), (2, .int x2)] [] F := by
  intro n
  induction n with
  | zero =>
    intro x0 x1 x2 F h
    rw [fX4_countBoxes_4.eq_1] at h
    cases h
  | succ n ih =>
    intro x0 x1 x2 F h
    rw [fX4_countBoxes_4.eq_2] at h
    refine wp_iload_n X dX4_countBoxes_4 2 rfl ?_
    refine wp_bipush X (v := 8) dX4_countBoxes_5 (by decide) ?_
    refine wp_icmp_ge X (tgt := 25) dX4_countBoxes_7 (by decide) h (fun h => ?_) (fun h => ?_)
    · refine wp_iload_n X dX4_countBoxes_25 1 rfl ?_
      exact wp_ireturn X Qr rfl (vp_nar_int _) dX4_countBoxes_26 h
    · refine wp_iload_n X dX4_countBoxes_10 1 rfl ?_
      refine wp_aload_n X dX4_countBoxes_11 0 rfl ?_
      refine wp_getR X (T := TX4) (N := 1) (ci := 3) (k := 0) rfl (by decide) (by decide) inBX4 kw56 dX4_countBoxes_12 h (fun v12 h => ?_)
      refine wp_iload_n X dX4_countBoxes_15 2 rfl ?_
      refine wp_iaload X dX4_countBoxes_16 h (fun v16 h => ?_)
      refine wp_iadd X dX4_countBoxes_17 ?_
      refine wp_istore_n X (lv' := [(0, .ref x0), (1, .int (x1 + v16)), (2, .int x2)]) dX4_countBoxes_18 (by decide) [1, 0, 2] rfl ?_
      refine wp_iinc X (v := x2 + 1) (lv' := [(0, .ref x0), (1, .int (x1 + v16)), (2, .int (x2 + 1))]) dX4_countBoxes_19 (by decide) 2 rfl rfl [1, 2, 0] rfl ?_
      refine wp_goto X (tgt := 4) dX4_countBoxes_22 (by decide) ?_
      exact ih _ _ _ _ h
def mX4_countBoxes (F : Mem) (x0 : Nat) : Option (Int32 × Mem) := fX4_countBoxes_4   FU x0 0 0 F
set_option maxRecDepth 100000 in
set_option maxHeartbeats 4000000 in
theorem cX4_countBoxes_ok {l : Launch} {D : va_G} {cy : Nat → ClassId} {F : Mem} {x0 : Nat} {res : Int32 × Mem} (h : mX4_countBoxes F x0 = some res) : MI l yX4_countBoxes cX4_countBoxes 3 (some .int) rmX4_countBoxes D cy F [.ref x0] res := by
  refine mi_of (by decide) (Nat.le_of_ble_eq_true rfl) [(0, .ref x0)] rfl (fun C X hcd Qr => ?_)
  unfold mX4_countBoxes at h
  refine wp_iconst X (v := 0) dX4_countBoxes_0 (by decide) ?_
  refine wp_istore_n X (lv' := [(0, .ref x0), (1, .int 0)]) dX4_countBoxes_1 (by decide) [1, 0] rfl ?_
  refine wp_iconst X (v := 0) dX4_countBoxes_2 (by decide) ?_
  refine wp_istore_n X (lv' := [(0, .ref x0), (1, .int 0), (2, .int 0)]) dX4_countBoxes_3 (by decide) [1, 2, 0] rfl ?_
  refine tX4_countBoxes_4 X hcd Qr   FU _ _ _ _ h
/-! TableauBench$Shape.rowLength(I)I -/
def rmX4_rowLength : Room := { frames := 0, cells := 0, slots := 0, locals := 0 }
def mX4_rowLength (F : Mem) (x0 : Nat) (x1 : Int32) : Option (Int32 × Mem) := if x1 < 0 then (some (0, F)) else (if x1 < 8 then ((gfR F x0 3 0).bind fun v15 => (rdI F 0 v15 x1).bind fun v19 => some (v19, F)) else (some (0, F)))
set_option maxRecDepth 100000 in
set_option maxHeartbeats 4000000 in
theorem cX4_rowLength_ok {l : Launch} {D : va_G} {cy : Nat → ClassId} {F : Mem} {x0 : Nat} {x1 : Int32} {res : Int32 × Mem} (h : mX4_rowLength F x0 x1 = some res) : MI l yX4_rowLength cX4_rowLength 2 (some .int) rmX4_rowLength D cy F [.ref x0, .int x1] res := by
  refine mi_of (by decide) (Nat.le_of_ble_eq_true rfl) [(0, .ref x0), (1, .int x1)] rfl (fun C X hcd Qr => ?_)
  unfold mX4_rowLength at h
  refine wp_iload_n X dX4_rowLength_0 1 rfl ?_
  refine wp_if_lt X (tgt := 10) dX4_rowLength_1 (by decide) h (fun h => ?_) (fun h => ?_)
  · refine wp_iconst X (v := 0) dX4_rowLength_10 (by decide) ?_
    refine wp_goto X (tgt := 20) dX4_rowLength_11 (by decide) ?_
    exact wp_ireturn X Qr rfl (vp_nar_int _) dX4_rowLength_20 h
  · refine wp_iload_n X dX4_rowLength_4 1 rfl ?_
    refine wp_bipush X (v := 8) dX4_rowLength_5 (by decide) ?_
    refine wp_icmp_lt X (tgt := 14) dX4_rowLength_7 (by decide) h (fun h => ?_) (fun h => ?_)
    · refine wp_aload_n X dX4_rowLength_14 0 rfl ?_
      refine wp_getR X (T := TX4) (N := 1) (ci := 3) (k := 0) rfl (by decide) (by decide) inBX4 kw56 dX4_rowLength_15 h (fun v15 h => ?_)
      refine wp_iload_n X dX4_rowLength_18 1 rfl ?_
      refine wp_iaload X dX4_rowLength_19 h (fun v19 h => ?_)
      exact wp_ireturn X Qr rfl (vp_nar_int _) dX4_rowLength_20 h
    · refine wp_iconst X (v := 0) dX4_rowLength_10 (by decide) ?_
      refine wp_goto X (tgt := 20) dX4_rowLength_11 (by decide) ?_
      exact wp_ireturn X Qr rfl (vp_nar_int _) dX4_rowLength_20 h
/-! TableauBench$Shape.endsColumn(I)Z -/
def rmX4_endsColumn : Room := { frames := 1, cells := 0, slots := 0, locals := 21 }
def mX4_endsColumn (F : Mem) (x0 : Nat) (x1 : Int32) : Option (Int32 × Mem) := (obj F x0 3).bind fun _ => (mX4_rowLength F x0 x1).bind fun v2 => (obj v2.2 x0 3).bind fun _ => (mX4_rowLength v2.2 x0 (x1 + 1)).bind fun v9 => if v2.1 ≤ v9.1 then (some (0, v9.2)) else (some (1, v9.2))
set_option maxRecDepth 100000 in
set_option maxHeartbeats 4000000 in
theorem cX4_endsColumn_ok {l : Launch} {D : va_G} {cy : Nat → ClassId} {F : Mem} {x0 : Nat} {x1 : Int32} {res : Int32 × Mem} (h : mX4_endsColumn F x0 x1 = some res) : MI l yX4_endsColumn cX4_endsColumn 2 (some .boolean) rmX4_endsColumn D cy F [.ref x0, .int x1] res := by
  refine mi_of (by decide) (Nat.le_of_ble_eq_true rfl) [(0, .ref x0), (1, .int x1)] rfl (fun C X hcd Qr => ?_)
  unfold mX4_endsColumn at h
  refine wp_aload_n X dX4_endsColumn_0 0 rfl ?_
  refine wp_iload_n X dX4_endsColumn_1 1 rfl ?_
  refine wp_callVI X (rm := rmX4_rowLength) (T := TX4) (N := 1) (ci := 3) (n := 1) [.int x1] hcd (fun q hq => cX4_rowLength_ok hq) kw644 kw384 kw385 kw3 kw386 (by decide +kernel) (by decide) (by decide) (cs2 := 0) (sl2 := 0) rfl rfl rfl (by decide) rfl rfl (Nat.le_of_ble_eq_true rfl) dX4_endsColumn_2 h (fun v2 h => ?_)
  refine wp_aload_n X dX4_endsColumn_5 0 rfl ?_
  refine wp_iload_n X dX4_endsColumn_6 1 rfl ?_
  refine wp_iconst X (v := 1) dX4_endsColumn_7 (by decide) ?_
  refine wp_iadd X dX4_endsColumn_8 ?_
  refine wp_callVI X (rm := rmX4_rowLength) (T := TX4) (N := 1) (ci := 3) (n := 1) [.int (x1 + 1)] hcd (fun q hq => cX4_rowLength_ok hq) kw644 kw384 kw385 kw3 kw386 (by decide +kernel) (by decide) (by decide) (cs2 := 0) (sl2 := 0) rfl rfl rfl (by decide) rfl rfl (Nat.le_of_ble_eq_true rfl) dX4_endsColumn_9 h (fun v9 h => ?_)
  refine wp_icmp_le X (tgt := 19) dX4_endsColumn_12 (by decide) h (fun h => ?_) (fun h => ?_)
  · refine wp_iconst X (v := 0) dX4_endsColumn_19 (by decide) ?_
    exact wp_ireturn X Qr rfl rfl dX4_endsColumn_20 h
  · refine wp_iconst X (v := 1) dX4_endsColumn_15 (by decide) ?_
    refine wp_goto X (tgt := 20) dX4_endsColumn_16 (by decide) ?_
    exact wp_ireturn X Qr rfl rfl dX4_endsColumn_20 h
/-! TableauBench$Shape.copyFrom(LTableauBench$Shape;)V -/
def rmX4_copyFrom : Room := { frames := 1, cells := 0, slots := 0, locals := 64 }
def mX4_copyFrom (F : Mem) (x0 : Nat) (x1 : Nat) : Option (Mem) := (gfR F x1 3 0).bind fun v1 => (gfR F x0 3 0).bind fun v6 => (cpI F v1 0 v6 0 8).bind fun F12 => some F12
set_option maxRecDepth 100000 in
set_option maxHeartbeats 4000000 in
theorem cX4_copyFrom_ok {l : Launch} {D : va_G} {cy : Nat → ClassId} {F : Mem} {x0 : Nat} {x1 : Nat} {res : Mem} (h : mX4_copyFrom F x0 x1 = some res) : MV l yX4_copyFrom cX4_copyFrom 2 none rmX4_copyFrom D cy F [.ref x0, .ref x1] res := by
  refine mv_of (by decide) (Nat.le_of_ble_eq_true rfl) [(0, .ref x0), (1, .ref x1)] rfl (fun C X hcd Qr => ?_)
  unfold mX4_copyFrom at h
  refine wp_aload_n X dX4_copyFrom_0 1 rfl ?_
  refine wp_getR X (T := TX4) (N := 1) (ci := 3) (k := 0) rfl (by decide) (by decide) inBX4 kw56 dX4_copyFrom_1 h (fun v1 h => ?_)
  refine wp_iconst X (v := 0) dX4_copyFrom_4 (by decide) ?_
  refine wp_aload_n X dX4_copyFrom_5 0 rfl ?_
  refine wp_getR X (T := TX4) (N := 1) (ci := 3) (k := 0) rfl (by decide) (by decide) inBX4 kw56 dX4_copyFrom_6 h (fun v6 h => ?_)
  refine wp_iconst X (v := 0) dX4_copyFrom_9 (by decide) ?_
  refine wp_bipush X (v := 8) dX4_copyFrom_10 (by decide) ?_
  refine wp_copyi X kw373 kw375 kw374 kw15 (by decide) (by decide) dX4_copyFrom_12 h (fun F12 h => ?_)
  exact wp_return X Qr rfl dX4_copyFrom_15 h
/-! TableauBench$Shape.armOf(II)I -/
def rmX4_armOf : Room := { frames := 1, cells := 0, slots := 0, locals := 21 }
def mX4_armOf (F : Mem) (x0 : Nat) (x1 : Int32) (x2 : Int32) : Option (Int32 × Mem) := (obj F x0 3).bind fun _ => (mX4_rowLength F x0 x1).bind fun v2 => some (((v2.1 - 1) - x2), v2.2)
set_option maxRecDepth 100000 in
set_option maxHeartbeats 4000000 in
theorem cX4_armOf_ok {l : Launch} {D : va_G} {cy : Nat → ClassId} {F : Mem} {x0 : Nat} {x1 : Int32} {x2 : Int32} {res : Int32 × Mem} (h : mX4_armOf F x0 x1 x2 = some res) : MI l yX4_armOf cX4_armOf 3 (some .int) rmX4_armOf D cy F [.ref x0, .int x1, .int x2] res := by
  refine mi_of (by decide) (Nat.le_of_ble_eq_true rfl) [(0, .ref x0), (1, .int x1), (2, .int x2)] rfl (fun C X hcd Qr => ?_)
  unfold mX4_armOf at h
  refine wp_aload_n X dX4_armOf_0 0 rfl ?_
  refine wp_iload_n X dX4_armOf_1 1 rfl ?_
  refine wp_callVI X (rm := rmX4_rowLength) (T := TX4) (N := 1) (ci := 3) (n := 1) [.int x1] hcd (fun q hq => cX4_rowLength_ok hq) kw644 kw384 kw385 kw3 kw386 (by decide +kernel) (by decide) (by decide) (cs2 := 0) (sl2 := 0) rfl rfl rfl (by decide) rfl rfl (Nat.le_of_ble_eq_true rfl) dX4_armOf_2 h (fun v2 h => ?_)
  refine wp_iconst X (v := 1) dX4_armOf_5 (by decide) ?_
  refine wp_isub X dX4_armOf_6 ?_
  refine wp_iload_n X dX4_armOf_7 2 rfl ?_
  refine wp_isub X dX4_armOf_8 ?_
  exact wp_ireturn X Qr rfl (vp_nar_int _) dX4_armOf_9 h
/-! TableauBench$Shape.columnLength(I)I -/
def rmX4_columnLength : Room := { frames := 0, cells := 0, slots := 0, locals := 0 }
def fX4_columnLength_23 (K4 : Nat → Int32 → Int32 → Int32 → Mem → Option (Int32 × Mem)) (x0 : Nat) (x1 : Int32) (x2 : Int32) (x3 : Int32) (F : Mem) : Option (Int32 × Mem) := K4 x0 x1 x2 (x3 + 1) F
set_option maxRecDepth 100000 in
set_option maxHeartbeats 4000000 in
theorem tX4_columnLength_23 {l : Launch} {D : va_G} {cy : Nat → ClassId} {C : Cx} {res : Int32 × Mem} (X : Fx C cX4_columnLength RX4 (some .int) rmX4_columnLength 4) (hcd : CD C l D cy) (Qr : RI C 0 0 res) {K4 : Nat → Int32 → Int32 → Int32 → Mem → Option (Int32 × Mem)} (hK4 : ∀ (x0 : Nat) (x1 : Int32) (x2 : Int32) (x3 : Int32) (F : Mem), K4 x0 x1 x2 x3 F = some res → Wp C 0 0 4 [(0, .ref x0), (1, .int x1), (2, .int x2), (3, .int x3)] [] F) (x0 : Nat) (x1 : Int32) (x2 : Int32) (x3 : Int32) (F : Mem) (h : fX4_columnLength_23 K4 x0 x1 x2 x3 F = some res) : Wp C 0 0 23 [(0, .ref x0), (1, .int x1), (2, .int x2), (3, .int x3)] [] F := by
  unfold fX4_columnLength_23 at h
  refine wp_iinc X (v := x3 + 1) (lv' := [(0, .ref x0), (1, .int x1), (2, .int x2), (3, .int (x3 + 1))]) dX4_columnLength_23 (by decide) 3 rfl rfl [1, 2, 3, 0] rfl ?_
  refine wp_goto X (tgt := 4) dX4_columnLength_26 (by decide) ?_
  exact hK4 _ _ _ _ _ h
def fX4_columnLength_4  : Nat → Nat → Int32 → Int32 → Int32 → Mem → Option (Int32 × Mem)
  | 0, _, _, _, _, _ => none
  | n + 1, x0, x1, x2, x3, F => if 8 ≤ x3 then (some (x2, F)) else ((gfR F x0 3 0).bind fun v11 => (rdI F 0 v11 x3).bind fun v15 => if v15 ≤ x1 then (fX4_columnLength_23  (fX4_columnLength_4   n) x0 x1 x2 x3 F) else (fX4_columnLength_23  (fX4_columnLength_4   n) x0 x1 (x2 + 1) x3 F))
set_option maxRecDepth 100000 in
set_option maxHeartbeats 4000000 in
theorem tX4_columnLength_4 {l : Launch} {D : va_G} {cy : Nat → ClassId} {C : Cx} {res : Int32 × Mem} (X : Fx C cX4_columnLength RX4 (some .int) rmX4_columnLength 4) (hcd : CD C l D cy) (Qr : RI C 0 0 res)   : ∀ (n : Nat) (x0 : Nat) (x1 : Int32) (x2 : Int32) (x3 : Int32) (F : Mem), fX4_columnLength_4  n x0 x1 x2 x3 F = some res → Wp C 0 0 4 [(0, .ref x0), (1, .int x1), (2, .int x2), (3, .int x3)] [] F := by
  intro n
  induction n with
  | zero =>
    intro x0 x1 x2 x3 F h
    rw [fX4_columnLength_4.eq_1] at h
    cases h
  | succ n ih =>
    intro x0 x1 x2 x3 F h
    rw [fX4_columnLength_4.eq_2] at h
    refine wp_iload_n X dX4_columnLength_4 3 rfl ?_
    refine wp_bipush X (v := 8) dX4_columnLength_5 (by decide) ?_
    refine wp_icmp_ge X (tgt := 29) dX4_columnLength_7 (by decide) h (fun h => ?_) (fun h => ?_)
    · refine wp_iload_n X dX4_columnLength_29 2 rfl ?_
      exact wp_ireturn X Qr rfl (vp_nar_int _) dX4_columnLength_30 h
    · refine wp_aload_n X dX4_columnLength_10 0 rfl ?_
      refine wp_getR X (T := TX4) (N := 1) (ci := 3) (k := 0) rfl (by decide) (by decide) inBX4 kw56 dX4_columnLength_11 h (fun v11 h => ?_)
      refine wp_iload_n X dX4_columnLength_14 3 rfl ?_
      refine wp_iaload X dX4_columnLength_15 h (fun v15 h => ?_)
      refine wp_iload_n X dX4_columnLength_16 1 rfl ?_
      refine wp_icmp_le X (tgt := 23) dX4_columnLength_17 (by decide) h (fun h => ?_) (fun h => ?_)
      · exact tX4_columnLength_23 X hcd Qr  ih _ _ _ _ _ h
      · refine wp_iinc X (v := x2 + 1) (lv' := [(0, .ref x0), (1, .int x1), (2, .int (x2 + 1)), (3, .int x3)]) dX4_columnLength_20 (by decide) 2 rfl rfl [1, 2, 0, 3] rfl ?_
        exact tX4_columnLength_23 X hcd Qr  ih _ _ _ _ _ h
def mX4_columnLength (F : Mem) (x0 : Nat) (x1 : Int32) : Option (Int32 × Mem) := fX4_columnLength_4   FU x0 x1 0 0 F
set_option maxRecDepth 100000 in
set_option maxHeartbeats 4000000 in
theorem cX4_columnLength_ok {l : Launch} {D : va_G} {cy : Nat → ClassId} {F : Mem} {x0 : Nat} {x1 : Int32} {res : Int32 × Mem} (h : mX4_columnLength F x0 x1 = some res) : MI l yX4_columnLength cX4_columnLength 4 (some .int) rmX4_columnLength D cy F [.ref x0, .int x1] res := by
  refine mi_of (by decide) (Nat.le_of_ble_eq_true rfl) [(0, .ref x0), (1, .int x1)] rfl (fun C X hcd Qr => ?_)
  unfold mX4_columnLength at h
  refine wp_iconst X (v := 0) dX4_columnLength_0 (by decide) ?_
  refine wp_istore_n X (lv' := [(0, .ref x0), (1, .int x1), (2, .int 0)]) dX4_columnLength_1 (by decide) [1, 2, 0] rfl ?_
  refine wp_iconst X (v := 0) dX4_columnLength_2 (by decide) ?_
  refine wp_istore_n X (lv' := [(0, .ref x0), (1, .int x1), (2, .int 0), (3, .int 0)]) dX4_columnLength_3 (by decide) [1, 2, 3, 0] rfl ?_
  refine tX4_columnLength_4 X hcd Qr   FU _ _ _ _ _ h
/-! TableauBench$Shape.hookOf(II)I -/
def rmX4_hookOf : Room := { frames := 2, cells := 0, slots := 0, locals := 43 }
def mX4_hookOf (F : Mem) (x0 : Nat) (x1 : Int32) (x2 : Int32) : Option (Int32 × Mem) := (obj F x0 3).bind fun _ => (mX4_armOf F x0 x1 x2).bind fun v3 => (obj v3.2 x0 3).bind fun _ => (mX4_columnLength v3.2 x0 x2).bind fun v8 => some (((v3.1 + v8.1) - x1), v8.2)
set_option maxRecDepth 100000 in
set_option maxHeartbeats 4000000 in
theorem cX4_hookOf_ok {l : Launch} {D : va_G} {cy : Nat → ClassId} {F : Mem} {x0 : Nat} {x1 : Int32} {x2 : Int32} {res : Int32 × Mem} (h : mX4_hookOf F x0 x1 x2 = some res) : MI l yX4_hookOf cX4_hookOf 3 (some .int) rmX4_hookOf D cy F [.ref x0, .int x1, .int x2] res := by
  refine mi_of (by decide) (Nat.le_of_ble_eq_true rfl) [(0, .ref x0), (1, .int x1), (2, .int x2)] rfl (fun C X hcd Qr => ?_)
  unfold mX4_hookOf at h
  refine wp_aload_n X dX4_hookOf_0 0 rfl ?_
  refine wp_iload_n X dX4_hookOf_1 1 rfl ?_
  refine wp_iload_n X dX4_hookOf_2 2 rfl ?_
  refine wp_callVI X (rm := rmX4_armOf) (T := TX4) (N := 1) (ci := 3) (n := 2) [.int x1, .int x2] hcd (fun q hq => cX4_armOf_ok hq) kw698 kw699 kw700 kw3 kw701 (by decide +kernel) (by decide) (by decide) (cs2 := 0) (sl2 := 0) rfl rfl rfl (by decide) rfl rfl (Nat.le_of_ble_eq_true rfl) dX4_hookOf_3 h (fun v3 h => ?_)
  refine wp_aload_n X dX4_hookOf_6 0 rfl ?_
  refine wp_iload_n X dX4_hookOf_7 2 rfl ?_
  refine wp_callVI X (rm := rmX4_columnLength) (T := TX4) (N := 1) (ci := 3) (n := 1) [.int x2] hcd (fun q hq => cX4_columnLength_ok hq) kw702 kw395 kw396 kw3 kw397 (by decide +kernel) (by decide) (by decide) (cs2 := 0) (sl2 := 0) rfl rfl rfl (by decide) rfl rfl (Nat.le_of_ble_eq_true rfl) dX4_hookOf_8 h (fun v8 h => ?_)
  refine wp_iadd X dX4_hookOf_11 ?_
  refine wp_iload_n X dX4_hookOf_12 1 rfl ?_
  refine wp_isub X dX4_hookOf_13 ?_
  exact wp_ireturn X Qr rfl (vp_nar_int _) dX4_hookOf_14 h
/-! TableauBench$Shape.unpack(J)V -/
def rmX4_unpack : Room := { frames := 0, cells := 0, slots := 0, locals := 0 }
def fX4_unpack_2  : Nat → Nat → Int64 → Int32 → Mem → Option (Mem)
  | 0, _, _, _, _ => none
  | n + 1, x0, x1, x3, F => if 8 ≤ x3 then (some F) else ((gfR F x0 3 0).bind fun v9 => (wrI F v9 x3 ((Int64.toInt32 (lush x1 (8 * x3))) &&& 255)).bind fun F24 => (fX4_unpack_2   n) x0 x1 (x3 + 1) F24)
set_option maxRecDepth 100000 in
set_option maxHeartbeats 4000000 in
theorem tX4_unpack_2 {l : Launch} {D : va_G} {cy : Nat → ClassId} {C : Cx} {res : Mem} (X : Fx C cX4_unpack RX4 none rmX4_unpack 4) (hcd : CD C l D cy) (Qr : RV C 0 0 res)   : ∀ (n : Nat) (x0 : Nat) (x1 : Int64) (x3 : Int32) (F : Mem), fX4_unpack_2  n x0 x1 x3 F = some res → Wp C 0 0 2 [(0, .ref x0), (1, .long x1), (3, .int x3)] [] F := by
  intro n
  induction n with
  | zero =>
    intro x0 x1 x3 F h
    rw [fX4_unpack_2.eq_1] at h
    cases h
  | succ n ih =>
    intro x0 x1 x3 F h
    rw [fX4_unpack_2.eq_2] at h
    refine wp_iload_n X dX4_unpack_2 2 rfl ?_
    refine wp_bipush X (v := 8) dX4_unpack_3 (by decide) ?_
    refine wp_icmp_ge X (tgt := 31) dX4_unpack_5 (by decide) h (fun h => ?_) (fun h => ?_)
    · exact wp_return X Qr rfl dX4_unpack_31 h
    · refine wp_aload_n X dX4_unpack_8 0 rfl ?_
      refine wp_getR X (T := TX4) (N := 1) (ci := 3) (k := 0) rfl (by decide) (by decide) inBX4 kw56 dX4_unpack_9 h (fun v9 h => ?_)
      refine wp_iload_n X dX4_unpack_12 2 rfl ?_
      refine wp_lload_n X dX4_unpack_13 1 rfl ?_
      refine wp_bipush X (v := 8) dX4_unpack_14 (by decide) ?_
      refine wp_iload_n X dX4_unpack_16 2 rfl ?_
      refine wp_imul X dX4_unpack_17 ?_
      refine wp_lushr X dX4_unpack_18 ?_
      refine wp_l2i X dX4_unpack_19 ?_
      refine wp_sipush X (v := 255) dX4_unpack_20 (by decide) ?_
      refine wp_iand X dX4_unpack_23 ?_
      refine wp_iastore X dX4_unpack_24 h (fun F24 h => ?_)
      refine wp_iinc X (v := x3 + 1) (lv' := [(0, .ref x0), (1, .long x1), (3, .int (x3 + 1))]) dX4_unpack_25 (by decide) 2 rfl rfl [1, 2, 0] rfl ?_
      refine wp_goto X (tgt := 2) dX4_unpack_28 (by decide) ?_
      exact ih _ _ _ _ h
def mX4_unpack (F : Mem) (x0 : Nat) (x1 : Int64) : Option (Mem) := fX4_unpack_2   FU x0 x1 0 F
set_option maxRecDepth 100000 in
set_option maxHeartbeats 4000000 in
theorem cX4_unpack_ok {l : Launch} {D : va_G} {cy : Nat → ClassId} {F : Mem} {x0 : Nat} {x1 : Int64} {res : Mem} (h : mX4_unpack F x0 x1 = some res) : MV l yX4_unpack cX4_unpack 4 none rmX4_unpack D cy F [.ref x0, .long x1] res := by
  refine mv_of (by decide) (Nat.le_of_ble_eq_true rfl) [(0, .ref x0), (1, .long x1)] rfl (fun C X hcd Qr => ?_)
  unfold mX4_unpack at h
  refine wp_iconst X (v := 0) dX4_unpack_0 (by decide) ?_
  refine wp_istore_n X (lv' := [(0, .ref x0), (1, .long x1), (3, .int 0)]) dX4_unpack_1 (by decide) [1, 2, 0] rfl ?_
  refine tX4_unpack_2 X hcd Qr   FU _ _ _ _ h
/-! TableauBench$Shape.isAllowed()Z -/
def rmX4_isAllowed : Room := { frames := 1, cells := 0, slots := 0, locals := 22 }
def fX4_isAllowed_2 (K33 : Nat → Mem → Option (Int32 × Mem)) : Nat → Nat → Int32 → Mem → Option (Int32 × Mem)
  | 0, _, _, _ => none
  | n + 1, x0, x1, F => if 8 ≤ x1 then (K33 x0 F) else ((gfR F x0 3 0).bind fun v9 => (rdI F 0 v9 x1).bind fun v13 => (gfR F x0 3 0).bind fun v15 => (rdI F 0 v15 (x1 - 1)).bind fun v21 => if v13 ≤ v21 then ((fX4_isAllowed_2  K33 n) x0 (x1 + 1) F) else (some (0, F)))
set_option maxRecDepth 100000 in
set_option maxHeartbeats 4000000 in
theorem tX4_isAllowed_2 {l : Launch} {D : va_G} {cy : Nat → ClassId} {C : Cx} {res : Int32 × Mem} (X : Fx C cX4_isAllowed RX4 (some .boolean) rmX4_isAllowed 2) (hcd : CD C l D cy) (Qr : RI C 0 0 res) {K33 : Nat → Mem → Option (Int32 × Mem)} (hK33 : ∀ (x0 : Nat) (F : Mem), K33 x0 F = some res → Wp C 0 0 33 [(0, .ref x0)] [] F) : ∀ (n : Nat) (x0 : Nat) (x1 : Int32) (F : Mem), fX4_isAllowed_2 K33 n x0 x1 F = some res → Wp C 0 0 2 [(0, .ref x0), (1, .int x1)] [] F := by
  intro n
  induction n with
  | zero =>
    intro x0 x1 F h
    rw [fX4_isAllowed_2.eq_1] at h
    cases h
  | succ n ih =>
    intro x0 x1 F h
    rw [fX4_isAllowed_2.eq_2] at h
    refine wp_iload_n X dX4_isAllowed_2 1 rfl ?_
    refine wp_bipush X (v := 8) dX4_isAllowed_3 (by decide) ?_
    refine wp_icmp_ge X (tgt := 33) dX4_isAllowed_5 (by decide) h (fun h => ?_) (fun h => ?_)
    · refine wp_sub (lv' := [(0, .ref x0)]) [0] rfl ?_
      exact hK33 _ _ h
    · refine wp_aload_n X dX4_isAllowed_8 0 rfl ?_
      refine wp_getR X (T := TX4) (N := 1) (ci := 3) (k := 0) rfl (by decide) (by decide) inBX4 kw56 dX4_isAllowed_9 h (fun v9 h => ?_)
      refine wp_iload_n X dX4_isAllowed_12 1 rfl ?_
      refine wp_iaload X dX4_isAllowed_13 h (fun v13 h => ?_)
      refine wp_aload_n X dX4_isAllowed_14 0 rfl ?_
      refine wp_getR X (T := TX4) (N := 1) (ci := 3) (k := 0) rfl (by decide) (by decide) inBX4 kw56 dX4_isAllowed_15 h (fun v15 h => ?_)
      refine wp_iload_n X dX4_isAllowed_18 1 rfl ?_
      refine wp_iconst X (v := 1) dX4_isAllowed_19 (by decide) ?_
      refine wp_isub X dX4_isAllowed_20 ?_
      refine wp_iaload X dX4_isAllowed_21 h (fun v21 h => ?_)
      refine wp_icmp_le X (tgt := 27) dX4_isAllowed_22 (by decide) h (fun h => ?_) (fun h => ?_)
      · refine wp_iinc X (v := x1 + 1) (lv' := [(0, .ref x0), (1, .int (x1 + 1))]) dX4_isAllowed_27 (by decide) 1 rfl rfl [1, 0] rfl ?_
        refine wp_goto X (tgt := 2) dX4_isAllowed_30 (by decide) ?_
        exact ih _ _ _ h
      · refine wp_iconst X (v := 0) dX4_isAllowed_25 (by decide) ?_
        exact wp_ireturn X Qr rfl rfl dX4_isAllowed_26 h
def mX4_isAllowed (F : Mem) (x0 : Nat) : Option (Int32 × Mem) := fX4_isAllowed_2  (fun (x0 : Nat) (F : Mem) => (obj F x0 3).bind fun _ => (mX4_countBoxes F x0).bind fun v34 => if 24 < v34.1 then (some (0, v34.2)) else (some (1, v34.2))) FU x0 1 F
set_option maxRecDepth 100000 in
set_option maxHeartbeats 4000000 in
theorem cX4_isAllowed_ok {l : Launch} {D : va_G} {cy : Nat → ClassId} {F : Mem} {x0 : Nat} {res : Int32 × Mem} (h : mX4_isAllowed F x0 = some res) : MI l yX4_isAllowed cX4_isAllowed 2 (some .boolean) rmX4_isAllowed D cy F [.ref x0] res := by
  refine mi_of (by decide) (Nat.le_of_ble_eq_true rfl) [(0, .ref x0)] rfl (fun C X hcd Qr => ?_)
  unfold mX4_isAllowed at h
  refine wp_iconst X (v := 1) dX4_isAllowed_0 (by decide) ?_
  refine wp_istore_n X (lv' := [(0, .ref x0), (1, .int 1)]) dX4_isAllowed_1 (by decide) [1, 0] rfl ?_
  refine tX4_isAllowed_2 X hcd Qr  ?_ FU _ _ _ h
  · intro x0 F h
    refine wp_aload_n X dX4_isAllowed_33 0 rfl ?_
    refine wp_callVI X (rm := rmX4_countBoxes) (T := TX4) (N := 1) (ci := 3) (n := 0) [] hcd (fun q hq => cX4_countBoxes_ok hq) kw365 kw366 kw367 kw3 kw368 (by decide +kernel) (by decide) (by decide) (cs2 := 0) (sl2 := 0) rfl rfl rfl (by decide) rfl rfl (Nat.le_of_ble_eq_true rfl) dX4_isAllowed_34 h (fun v34 h => ?_)
    refine wp_bipush X (v := 24) dX4_isAllowed_37 (by decide) ?_
    refine wp_icmp_gt X (tgt := 46) dX4_isAllowed_39 (by decide) h (fun h => ?_) (fun h => ?_)
    · refine wp_iconst X (v := 0) dX4_isAllowed_46 (by decide) ?_
      exact wp_ireturn X Qr rfl rfl dX4_isAllowed_47 h
    · refine wp_iconst X (v := 1) dX4_isAllowed_42 (by decide) ?_
      refine wp_goto X (tgt := 47) dX4_isAllowed_43 (by decide) ?_
      exact wp_ireturn X Qr rfl rfl dX4_isAllowed_47 h
/-! TableauBench$Shape.contains(LTableauBench$Shape;)Z -/
def rmX4_contains : Room := { frames := 0, cells := 0, slots := 0, locals := 0 }
def fX4_contains_2  : Nat → Nat → Nat → Int32 → Mem → Option (Int32 × Mem)
  | 0, _, _, _, _ => none
  | n + 1, x0, x1, x2, F => if 8 ≤ x2 then (some (1, F)) else ((gfR F x1 3 0).bind fun v9 => (rdI F 0 v9 x2).bind fun v13 => (gfR F x0 3 0).bind fun v15 => (rdI F 0 v15 x2).bind fun v19 => if v13 ≤ v19 then ((fX4_contains_2   n) x0 x1 (x2 + 1) F) else (some (0, F)))
set_option maxRecDepth 100000 in
set_option maxHeartbeats 4000000 in
theorem tX4_contains_2 {l : Launch} {D : va_G} {cy : Nat → ClassId} {C : Cx} {res : Int32 × Mem} (X : Fx C cX4_contains RX4 (some .boolean) rmX4_contains 3) (hcd : CD C l D cy) (Qr : RI C 0 0 res)   : ∀ (n : Nat) (x0 : Nat) (x1 : Nat) (x2 : Int32) (F : Mem), fX4_contains_2  n x0 x1 x2 F = some res → Wp C 0 0 2 [(0, .ref x0), (1, .ref x1), (2, .int x2)] [] F := by
  intro n
  induction n with
  | zero =>
    intro x0 x1 x2 F h
    rw [fX4_contains_2.eq_1] at h
    cases h
  | succ n ih =>
    intro x0 x1 x2 F h
    rw [fX4_contains_2.eq_2] at h
    refine wp_iload_n X dX4_contains_2 2 rfl ?_
    refine wp_bipush X (v := 8) dX4_contains_3 (by decide) ?_
    refine wp_icmp_ge X (tgt := 31) dX4_contains_5 (by decide) h (fun h => ?_) (fun h => ?_)
    · refine wp_iconst X (v := 1) dX4_contains_31 (by decide) ?_
      exact wp_ireturn X Qr rfl rfl dX4_contains_32 h
    · refine wp_aload_n X dX4_contains_8 1 rfl ?_
      refine wp_getR X (T := TX4) (N := 1) (ci := 3) (k := 0) rfl (by decide) (by decide) inBX4 kw56 dX4_contains_9 h (fun v9 h => ?_)
      refine wp_iload_n X dX4_contains_12 2 rfl ?_
      refine wp_iaload X dX4_contains_13 h (fun v13 h => ?_)
      refine wp_aload_n X dX4_contains_14 0 rfl ?_
      refine wp_getR X (T := TX4) (N := 1) (ci := 3) (k := 0) rfl (by decide) (by decide) inBX4 kw56 dX4_contains_15 h (fun v15 h => ?_)
      refine wp_iload_n X dX4_contains_18 2 rfl ?_
      refine wp_iaload X dX4_contains_19 h (fun v19 h => ?_)
      refine wp_icmp_le X (tgt := 25) dX4_contains_20 (by decide) h (fun h => ?_) (fun h => ?_)
      · refine wp_iinc X (v := x2 + 1) (lv' := [(0, .ref x0), (1, .ref x1), (2, .int (x2 + 1))]) dX4_contains_25 (by decide) 2 rfl rfl [1, 2, 0] rfl ?_
        refine wp_goto X (tgt := 2) dX4_contains_28 (by decide) ?_
        exact ih _ _ _ _ h
      · refine wp_iconst X (v := 0) dX4_contains_23 (by decide) ?_
        exact wp_ireturn X Qr rfl rfl dX4_contains_24 h
def mX4_contains (F : Mem) (x0 : Nat) (x1 : Nat) : Option (Int32 × Mem) := fX4_contains_2   FU x0 x1 0 F
set_option maxRecDepth 100000 in
set_option maxHeartbeats 4000000 in
theorem cX4_contains_ok {l : Launch} {D : va_G} {cy : Nat → ClassId} {F : Mem} {x0 : Nat} {x1 : Nat} {res : Int32 × Mem} (h : mX4_contains F x0 x1 = some res) : MI l yX4_contains cX4_contains 3 (some .boolean) rmX4_contains D cy F [.ref x0, .ref x1] res := by
  refine mi_of (by decide) (Nat.le_of_ble_eq_true rfl) [(0, .ref x0), (1, .ref x1)] rfl (fun C X hcd Qr => ?_)
  unfold mX4_contains at h
  refine wp_iconst X (v := 0) dX4_contains_0 (by decide) ?_
  refine wp_istore_n X (lv' := [(0, .ref x0), (1, .ref x1), (2, .int 0)]) dX4_contains_1 (by decide) [1, 2, 0] rfl ?_
  refine tX4_contains_2 X hcd Qr   FU _ _ _ _ h
/-! TableauBench$Shape.lowestCorner()I -/
def rmX4_lowestCorner : Room := { frames := 0, cells := 0, slots := 0, locals := 0 }
def fX4_lowestCorner_3  : Nat → Nat → Int32 → Mem → Option (Int32 × Mem)
  | 0, _, _, _ => none
  | n + 1, x0, x1, F => if x1 ≤ 0 then (some (x1, F)) else ((gfR F x0 3 0).bind fun v8 => (rdI F 0 v8 x1).bind fun v12 => if v12 = 0 then ((fX4_lowestCorner_3   n) x0 (x1 + (-1)) F) else (some (x1, F)))
set_option maxRecDepth 100000 in
set_option maxHeartbeats 4000000 in
theorem tX4_lowestCorner_3 {l : Launch} {D : va_G} {cy : Nat → ClassId} {C : Cx} {res : Int32 × Mem} (X : Fx C cX4_lowestCorner RX4 (some .int) rmX4_lowestCorner 2) (hcd : CD C l D cy) (Qr : RI C 0 0 res)   : ∀ (n : Nat) (x0 : Nat) (x1 : Int32) (F : Mem), fX4_lowestCorner_3  n x0 x1 F = some res → Wp C 0 0 3 [(0, .ref x0), (1, .int x1)] [] F := by
  intro n
  induction n with
  | zero =>
    intro x0 x1 F h
    rw [fX4_lowestCorner_3.eq_1] at h
    cases h
  | succ n ih =>
    intro x0 x1 F h
    rw [fX4_lowestCorner_3.eq_2] at h
    refine wp_iload_n X dX4_lowestCorner_3 1 rfl ?_
    refine wp_if_le X (tgt := 22) dX4_lowestCorner_4 (by decide) h (fun h => ?_) (fun h => ?_)
    · refine wp_iload_n X dX4_lowestCorner_22 1 rfl ?_
      exact wp_ireturn X Qr rfl (vp_nar_int _) dX4_lowestCorner_23 h
    · refine wp_aload_n X dX4_lowestCorner_7 0 rfl ?_
      refine wp_getR X (T := TX4) (N := 1) (ci := 3) (k := 0) rfl (by decide) (by decide) inBX4 kw56 dX4_lowestCorner_8 h (fun v8 h => ?_)
      refine wp_iload_n X dX4_lowestCorner_11 1 rfl ?_
      refine wp_iaload X dX4_lowestCorner_12 h (fun v12 h => ?_)
      refine wp_if_ne X (tgt := 22) dX4_lowestCorner_13 (by decide) h (fun h => ?_) (fun h => ?_)
      · refine wp_iload_n X dX4_lowestCorner_22 1 rfl ?_
        exact wp_ireturn X Qr rfl (vp_nar_int _) dX4_lowestCorner_23 h
      · refine wp_iinc X (v := x1 + (-1)) (lv' := [(0, .ref x0), (1, .int (x1 + (-1)))]) dX4_lowestCorner_16 (by decide) 1 rfl rfl [1, 0] rfl ?_
        refine wp_goto X (tgt := 3) dX4_lowestCorner_19 (by decide) ?_
        exact ih _ _ _ h
def mX4_lowestCorner (F : Mem) (x0 : Nat) : Option (Int32 × Mem) := fX4_lowestCorner_3   FU x0 7 F
set_option maxRecDepth 100000 in
set_option maxHeartbeats 4000000 in
theorem cX4_lowestCorner_ok {l : Launch} {D : va_G} {cy : Nat → ClassId} {F : Mem} {x0 : Nat} {res : Int32 × Mem} (h : mX4_lowestCorner F x0 = some res) : MI l yX4_lowestCorner cX4_lowestCorner 2 (some .int) rmX4_lowestCorner D cy F [.ref x0] res := by
  refine mi_of (by decide) (Nat.le_of_ble_eq_true rfl) [(0, .ref x0)] rfl (fun C X hcd Qr => ?_)
  unfold mX4_lowestCorner at h
  refine wp_bipush X (v := 7) dX4_lowestCorner_0 (by decide) ?_
  refine wp_istore_n X (lv' := [(0, .ref x0), (1, .int 7)]) dX4_lowestCorner_2 (by decide) [1, 0] rfl ?_
  refine tX4_lowestCorner_3 X hcd Qr   FU _ _ _ h
/-! TableauBench$Shape.highestCorner()I -/
def rmX4_highestCorner : Room := { frames := 2, cells := 0, slots := 0, locals := 42 }
def fX4_highestCorner_2  : Nat → Nat → Int32 → Mem → Option (Int32 × Mem)
  | 0, _, _, _ => none
  | n + 1, x0, x1, F => if 7 ≤ x1 then (some (x1, F)) else ((obj F x0 3).bind fun _ => (mX4_endsColumn F x0 x1).bind fun v10 => if v10.1 = 0 then ((fX4_highestCorner_2   n) x0 (x1 + 1) v10.2) else (some (x1, v10.2)))
set_option maxRecDepth 100000 in
set_option maxHeartbeats 4000000 in
theorem tX4_highestCorner_2 {l : Launch} {D : va_G} {cy : Nat → ClassId} {C : Cx} {res : Int32 × Mem} (X : Fx C cX4_highestCorner RX4 (some .int) rmX4_highestCorner 2) (hcd : CD C l D cy) (Qr : RI C 0 0 res)   : ∀ (n : Nat) (x0 : Nat) (x1 : Int32) (F : Mem), fX4_highestCorner_2  n x0 x1 F = some res → Wp C 0 0 2 [(0, .ref x0), (1, .int x1)] [] F := by
  intro n
  induction n with
  | zero =>
    intro x0 x1 F h
    rw [fX4_highestCorner_2.eq_1] at h
    cases h
  | succ n ih =>
    intro x0 x1 F h
    rw [fX4_highestCorner_2.eq_2] at h
    refine wp_iload_n X dX4_highestCorner_2 1 rfl ?_
    refine wp_bipush X (v := 7) dX4_highestCorner_3 (by decide) ?_
    refine wp_icmp_ge X (tgt := 22) dX4_highestCorner_5 (by decide) h (fun h => ?_) (fun h => ?_)
    · refine wp_iload_n X dX4_highestCorner_22 1 rfl ?_
      exact wp_ireturn X Qr rfl (vp_nar_int _) dX4_highestCorner_23 h
    · refine wp_aload_n X dX4_highestCorner_8 0 rfl ?_
      refine wp_iload_n X dX4_highestCorner_9 1 rfl ?_
      refine wp_callVI X (rm := rmX4_endsColumn) (T := TX4) (N := 1) (ci := 3) (n := 1) [.int x1] hcd (fun q hq => cX4_endsColumn_ok hq) kw640 kw641 kw642 kw3 kw643 (by decide +kernel) (by decide) (by decide) (cs2 := 0) (sl2 := 0) rfl rfl rfl (by decide) rfl rfl (Nat.le_of_ble_eq_true rfl) dX4_highestCorner_10 h (fun v10 h => ?_)
      refine wp_if_ne X (tgt := 22) dX4_highestCorner_13 (by decide) h (fun h => ?_) (fun h => ?_)
      · refine wp_iload_n X dX4_highestCorner_22 1 rfl ?_
        exact wp_ireturn X Qr rfl (vp_nar_int _) dX4_highestCorner_23 h
      · refine wp_iinc X (v := x1 + 1) (lv' := [(0, .ref x0), (1, .int (x1 + 1))]) dX4_highestCorner_16 (by decide) 1 rfl rfl [1, 0] rfl ?_
        refine wp_goto X (tgt := 2) dX4_highestCorner_19 (by decide) ?_
        exact ih _ _ _ h
def mX4_highestCorner (F : Mem) (x0 : Nat) : Option (Int32 × Mem) := fX4_highestCorner_2   FU x0 0 F
set_option maxRecDepth 100000 in
set_option maxHeartbeats 4000000 in
theorem cX4_highestCorner_ok {l : Launch} {D : va_G} {cy : Nat → ClassId} {F : Mem} {x0 : Nat} {res : Int32 × Mem} (h : mX4_highestCorner F x0 = some res) : MI l yX4_highestCorner cX4_highestCorner 2 (some .int) rmX4_highestCorner D cy F [.ref x0] res := by
  refine mi_of (by decide) (Nat.le_of_ble_eq_true rfl) [(0, .ref x0)] rfl (fun C X hcd Qr => ?_)
  unfold mX4_highestCorner at h
  refine wp_iconst X (v := 0) dX4_highestCorner_0 (by decide) ?_
  refine wp_istore_n X (lv' := [(0, .ref x0), (1, .int 0)]) dX4_highestCorner_1 (by decide) [1, 0] rfl ?_
  refine tX4_highestCorner_2 X hcd Qr   FU _ _ _ h
/-! TableauBench$Word.letterAt(I)I -/
def rmX8_letterAt : Room := { frames := 0, cells := 0, slots := 0, locals := 0 }
def mX8_letterAt (F : Mem) (x0 : Nat) (x1 : Int32) : Option (Int32 × Mem) := if x1 < 0 then (some (0, F)) else ((gfI F x0 7 1).bind fun v6 => if x1 < v6 then ((gfR F x0 7 0).bind fun v17 => (rdI F 0 v17 x1).bind fun v21 => some (v21, F)) else (some (0, F)))
set_option maxRecDepth 100000 in
set_option maxHeartbeats 4000000 in
theorem cX8_letterAt_ok {l : Launch} {D : va_G} {cy : Nat → ClassId} {F : Mem} {x0 : Nat} {x1 : Int32} {res : Int32 × Mem} (h : mX8_letterAt F x0 x1 = some res) : MI l yX8_letterAt cX8_letterAt 2 (some .int) rmX8_letterAt D cy F [.ref x0, .int x1] res := by
  refine mi_of (by decide) (Nat.le_of_ble_eq_true rfl) [(0, .ref x0), (1, .int x1)] rfl (fun C X hcd Qr => ?_)
  unfold mX8_letterAt at h
  refine wp_iload_n X dX8_letterAt_0 1 rfl ?_
  refine wp_if_lt X (tgt := 12) dX8_letterAt_1 (by decide) h (fun h => ?_) (fun h => ?_)
  · refine wp_iconst X (v := 0) dX8_letterAt_12 (by decide) ?_
    refine wp_goto X (tgt := 22) dX8_letterAt_13 (by decide) ?_
    exact wp_ireturn X Qr rfl (vp_nar_int _) dX8_letterAt_22 h
  · refine wp_iload_n X dX8_letterAt_4 1 rfl ?_
    refine wp_aload_n X dX8_letterAt_5 0 rfl ?_
    refine wp_getI X (T := TX8) (N := 2) (ci := 7) (k := 1) rfl (by decide) (by decide) inBX8 kw170 dX8_letterAt_6 h (fun v6 h => ?_)
    refine wp_icmp_lt X (tgt := 16) dX8_letterAt_9 (by decide) h (fun h => ?_) (fun h => ?_)
    · refine wp_aload_n X dX8_letterAt_16 0 rfl ?_
      refine wp_getR X (T := TX8) (N := 2) (ci := 7) (k := 0) rfl (by decide) (by decide) inBX8 kw167 dX8_letterAt_17 h (fun v17 h => ?_)
      refine wp_iload_n X dX8_letterAt_20 1 rfl ?_
      refine wp_iaload X dX8_letterAt_21 h (fun v21 h => ?_)
      exact wp_ireturn X Qr rfl (vp_nar_int _) dX8_letterAt_22 h
    · refine wp_iconst X (v := 0) dX8_letterAt_12 (by decide) ?_
      refine wp_goto X (tgt := 22) dX8_letterAt_13 (by decide) ?_
      exact wp_ireturn X Qr rfl (vp_nar_int _) dX8_letterAt_22 h
/-! TableauBench$Word.add(I)V -/
def rmX8_add : Room := { frames := 0, cells := 0, slots := 0, locals := 0 }
def mX8_add (F : Mem) (x0 : Nat) (x1 : Int32) : Option (Mem) := (gfI F x0 7 1).bind fun v1 => if 16 ≤ v1 then (some F) else ((gfR F x0 7 0).bind fun v10 => (gfI F x0 7 1).bind fun v14 => (wrI F v10 v14 x1).bind fun F18 => (gfI F18 x0 7 1).bind fun v21 => (pf F18 x0 7 1 (.int (v21 + 1))).bind fun F26 => some F26)
set_option maxRecDepth 100000 in
set_option maxHeartbeats 4000000 in
theorem cX8_add_ok {l : Launch} {D : va_G} {cy : Nat → ClassId} {F : Mem} {x0 : Nat} {x1 : Int32} {res : Mem} (h : mX8_add F x0 x1 = some res) : MV l yX8_add cX8_add 2 none rmX8_add D cy F [.ref x0, .int x1] res := by
  refine mv_of (by decide) (Nat.le_of_ble_eq_true rfl) [(0, .ref x0), (1, .int x1)] rfl (fun C X hcd Qr => ?_)
  unfold mX8_add at h
  refine wp_aload_n X dX8_add_0 0 rfl ?_
  refine wp_getI X (T := TX8) (N := 2) (ci := 7) (k := 1) rfl (by decide) (by decide) inBX8 kw170 dX8_add_1 h (fun v1 h => ?_)
  refine wp_bipush X (v := 16) dX8_add_4 (by decide) ?_
  refine wp_icmp_ge X (tgt := 29) dX8_add_6 (by decide) h (fun h => ?_) (fun h => ?_)
  · exact wp_return X Qr rfl dX8_add_29 h
  · refine wp_aload_n X dX8_add_9 0 rfl ?_
    refine wp_getR X (T := TX8) (N := 2) (ci := 7) (k := 0) rfl (by decide) (by decide) inBX8 kw167 dX8_add_10 h (fun v10 h => ?_)
    refine wp_aload_n X dX8_add_13 0 rfl ?_
    refine wp_getI X (T := TX8) (N := 2) (ci := 7) (k := 1) rfl (by decide) (by decide) inBX8 kw170 dX8_add_14 h (fun v14 h => ?_)
    refine wp_iload_n X dX8_add_17 1 rfl ?_
    refine wp_iastore X dX8_add_18 h (fun F18 h => ?_)
    refine wp_aload_n X dX8_add_19 0 rfl ?_
    refine wp_dup X dX8_add_20 rfl ?_
    refine wp_getI X (T := TX8) (N := 2) (ci := 7) (k := 1) rfl (by decide) (by decide) inBX8 kw170 dX8_add_21 h (fun v21 h => ?_)
    refine wp_iconst X (v := 1) dX8_add_24 (by decide) ?_
    refine wp_iadd X dX8_add_25 ?_
    refine wp_put X (T := TX8) (N := 2) (ci := 7) (k := 1) tyX8 rfl (by decide) (by decide) inBX8 kw170 tyX8_ok nmX8 rfl rfl (vp_nar_int _) rfl dX8_add_26 h (fun F26 h => ?_)
    exact wp_return X Qr rfl dX8_add_29 h
