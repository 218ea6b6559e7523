/-! TableauBenchModel.thrown()I -/
def rmX10_thrown : Room := { frames := 0, cells := 0, slots := 0, locals := 0 }
def mX10_thrown (F : Mem) (x0 : Nat) : Option (Int32 × Mem) := (gfI F x0 9 0).bind fun v1 => some (v1, F)
set_option maxRecDepth 100000 in
set_option maxHeartbeats 4000000 in
theorem cX10_thrown_ok {l : Launch} {D : va_G} {cy : Nat → ClassId} {F : Mem} {x0 : Nat} {res : Int32 × Mem} (h : mX10_thrown F x0 = some res) : MI l yX10_thrown cX10_thrown 1 (some .int) rmX10_thrown D cy F [.ref x0] res := by
  refine mi_of (by decide) (Nat.le_of_ble_eq_true rfl) [(0, .ref x0)] rfl (fun C X hcd Qr => ?_)
  unfold mX10_thrown at h
  refine wp_aload_n X dX10_thrown_0 0 rfl ?_
  refine wp_getI X (T := TX10) (N := 20) (ci := 9) (k := 0) rfl (by decide) (by decide) inBX10 kw812 dX10_thrown_1 h (fun v1 h => ?_)
  exact wp_ireturn X Qr rfl (vp_nar_int _) dX10_thrown_4 h
/-! TableauBenchModel.fail(I)I -/
def rmX10_fail : Room := { frames := 0, cells := 0, slots := 0, locals := 0 }
def mX10_fail (F : Mem) (x0 : Nat) (x1 : Int32) : Option (Int32 × Mem) := (pf F x0 9 0 (.int x1)).bind fun F2 => some (0, F2)
set_option maxRecDepth 100000 in
set_option maxHeartbeats 4000000 in
theorem cX10_fail_ok {l : Launch} {D : va_G} {cy : Nat → ClassId} {F : Mem} {x0 : Nat} {x1 : Int32} {res : Int32 × Mem} (h : mX10_fail F x0 x1 = some res) : MI l yX10_fail cX10_fail 2 (some .int) rmX10_fail D cy F [.ref x0, .int x1] res := by
  refine mi_of (by decide) (Nat.le_of_ble_eq_true rfl) [(0, .ref x0), (1, .int x1)] rfl (fun C X hcd Qr => ?_)
  unfold mX10_fail at h
  refine wp_aload_n X dX10_fail_0 0 rfl ?_
  refine wp_iload_n X dX10_fail_1 1 rfl ?_
  refine wp_put X (T := TX10) (N := 20) (ci := 9) (k := 0) tyX10 rfl (by decide) (by decide) inBX10 kw812 tyX10_ok nmX10 rfl rfl (vp_nar_int _) rfl dX10_fail_2 h (fun F2 h => ?_)
  refine wp_iconst X (v := 0) dX10_fail_5 (by decide) ?_
  exact wp_ireturn X Qr rfl (vp_nar_int _) dX10_fail_6 h
/-! TableauBenchModel.isSlot(I)Z -/
def rmX10_isSlot : Room := { frames := 0, cells := 0, slots := 0, locals := 0 }
def mX10_isSlot (F : Mem) (x0 : Int32) : Option (Int32 × Mem) := if x0 < 0 then (some (0, F)) else (if 4 ≤ x0 then (some (0, F)) else (some (1, F)))
set_option maxRecDepth 100000 in
set_option maxHeartbeats 4000000 in
theorem cX10_isSlot_ok {l : Launch} {D : va_G} {cy : Nat → ClassId} {F : Mem} {x0 : Int32} {res : Int32 × Mem} (h : mX10_isSlot F x0 = some res) : MI l yX10_isSlot cX10_isSlot 1 (some .boolean) rmX10_isSlot D cy F [.int x0] res := by
  refine mi_of (by decide) (Nat.le_of_ble_eq_true rfl) [(0, .int x0)] rfl (fun C X hcd Qr => ?_)
  unfold mX10_isSlot at h
  refine wp_iload_n X dX10_isSlot_0 0 rfl ?_
  refine wp_if_lt X (tgt := 13) dX10_isSlot_1 (by decide) h (fun h => ?_) (fun h => ?_)
  · refine wp_iconst X (v := 0) dX10_isSlot_13 (by decide) ?_
    exact wp_ireturn X Qr rfl rfl dX10_isSlot_14 h
  · refine wp_iload_n X dX10_isSlot_4 0 rfl ?_
    refine wp_iconst X (v := 4) dX10_isSlot_5 (by decide) ?_
    refine wp_icmp_ge X (tgt := 13) dX10_isSlot_6 (by decide) h (fun h => ?_) (fun h => ?_)
    · refine wp_iconst X (v := 0) dX10_isSlot_13 (by decide) ?_
      exact wp_ireturn X Qr rfl rfl dX10_isSlot_14 h
    · refine wp_iconst X (v := 1) dX10_isSlot_9 (by decide) ?_
      refine wp_goto X (tgt := 14) dX10_isSlot_10 (by decide) ?_
      exact wp_ireturn X Qr rfl rfl dX10_isSlot_14 h
/-! TableauBenchModel.isWord(I)Z -/
def rmX10_isWord : Room := { frames := 0, cells := 0, slots := 0, locals := 0 }
def mX10_isWord (F : Mem) (x0 : Int32) : Option (Int32 × Mem) := if x0 = 0 then (some (1, F)) else (if x0 = 1 then (some (1, F)) else (some (0, F)))
set_option maxRecDepth 100000 in
set_option maxHeartbeats 4000000 in
theorem cX10_isWord_ok {l : Launch} {D : va_G} {cy : Nat → ClassId} {F : Mem} {x0 : Int32} {res : Int32 × Mem} (h : mX10_isWord F x0 = some res) : MI l yX10_isWord cX10_isWord 1 (some .boolean) rmX10_isWord D cy F [.int x0] res := by
  refine mi_of (by decide) (Nat.le_of_ble_eq_true rfl) [(0, .int x0)] rfl (fun C X hcd Qr => ?_)
  unfold mX10_isWord at h
  refine wp_iload_n X dX10_isWord_0 0 rfl ?_
  refine wp_if_eq X (tgt := 9) dX10_isWord_1 (by decide) h (fun h => ?_) (fun h => ?_)
  · refine wp_iconst X (v := 1) dX10_isWord_9 (by decide) ?_
    refine wp_goto X (tgt := 14) dX10_isWord_10 (by decide) ?_
    exact wp_ireturn X Qr rfl rfl dX10_isWord_14 h
  · refine wp_iload_n X dX10_isWord_4 0 rfl ?_
    refine wp_iconst X (v := 1) dX10_isWord_5 (by decide) ?_
    refine wp_icmp_ne X (tgt := 13) dX10_isWord_6 (by decide) h (fun h => ?_) (fun h => ?_)
    · refine wp_iconst X (v := 0) dX10_isWord_13 (by decide) ?_
      exact wp_ireturn X Qr rfl rfl dX10_isWord_14 h
    · refine wp_iconst X (v := 1) dX10_isWord_9 (by decide) ?_
      refine wp_goto X (tgt := 14) dX10_isWord_10 (by decide) ?_
      exact wp_ireturn X Qr rfl rfl dX10_isWord_14 h
/-! TableauBenchModel.shape(IJ)Z -/
def rmX10_shape : Room := { frames := 1, cells := 0, slots := 0, locals := 20 }
def fX10_shape_36 (K83 : Nat → Int32 → Int64 → Int32 → Mem → Option (Int32 × Mem)) : Nat → Nat → Int32 → Int64 → Int32 → Int32 → Int32 → Mem → Option (Int32 × Mem)
  | 0, _, _, _, _, _, _, _ => none
  | n + 1, x0, x1, x2, x4, x5, x6, F => if 8 ≤ x6 then (K83 x0 x1 x2 x4 F) else (if (Int64.toInt32 ((x2 >>> (Int32.toInt64 (8 * x6) &&& 63)) &&& 255)) ≤ x5 then ((fX10_shape_36  K83 n) x0 x1 x2 (x4 + (Int64.toInt32 ((x2 >>> (Int32.toInt64 (8 * x6) &&& 63)) &&& 255))) (Int64.toInt32 ((x2 >>> (Int32.toInt64 (8 * x6) &&& 63)) &&& 255)) (x6 + 1) F) else (some (0, F)))
set_option maxRecDepth 100000 in
set_option maxHeartbeats 4000000 in
theorem tX10_shape_36 {l : Launch} {D : va_G} {cy : Nat → ClassId} {C : Cx} {res : Int32 × Mem} (X : Fx C cX10_shape RX10 (some .boolean) rmX10_shape 8) (hcd : CD C l D cy) (Qr : RI C 0 0 res) {K83 : Nat → Int32 → Int64 → Int32 → Mem → Option (Int32 × Mem)} (hK83 : ∀ (x0 : Nat) (x1 : Int32) (x2 : Int64) (x4 : Int32) (F : Mem), K83 x0 x1 x2 x4 F = some res → Wp C 0 0 83 [(0, .ref x0), (1, .int x1), (2, .long x2), (4, .int x4)] [] F) : ∀ (n : Nat) (x0 : Nat) (x1 : Int32) (x2 : Int64) (x4 : Int32) (x5 : Int32) (x6 : Int32) (F : Mem), fX10_shape_36 K83 n x0 x1 x2 x4 x5 x6 F = some res → Wp C 0 0 36 [(0, .ref x0), (1, .int x1), (2, .long x2), (4, .int x4), (5, .int x5), (6, .int x6)] [] F := by
  intro n
  induction n with
  | zero =>
    intro x0 x1 x2 x4 x5 x6 F h
    rw [fX10_shape_36.eq_1] at h
    cases h
  | succ n ih =>
    intro x0 x1 x2 x4 x5 x6 F h
    rw [fX10_shape_36.eq_2] at h
    refine wp_iload X dX10_shape_36 5 rfl ?_
    refine wp_bipush X (v := 8) dX10_shape_38 (by decide) ?_
    refine wp_icmp_ge X (tgt := 83) dX10_shape_40 (by decide) h (fun h => ?_) (fun h => ?_)
    · refine wp_sub (lv' := [(0, .ref x0), (1, .int x1), (2, .long x2), (4, .int x4)]) [0, 1, 2, 3] rfl ?_
      exact hK83 _ _ _ _ _ h
    · refine wp_lload_n X dX10_shape_43 2 rfl ?_
      refine wp_bipush X (v := 8) dX10_shape_44 (by decide) ?_
      refine wp_iload X dX10_shape_46 5 rfl ?_
      refine wp_imul X dX10_shape_48 ?_
      refine wp_lshr X dX10_shape_49 ?_
      refine wp_ldc2 X dX10_shape_50 (v := 255) kw884 ?_
      refine wp_land X dX10_shape_53 ?_
      refine wp_l2i X dX10_shape_54 ?_
      refine wp_istore X (lv' := [(0, .ref x0), (1, .int x1), (2, .long x2), (4, .int x4), (5, .int x5), (6, .int x6), (7, .int (Int64.toInt32 ((x2 >>> (Int32.toInt64 (8 * x6) &&& 63)) &&& 255)))]) dX10_shape_55 (by decide) [1, 2, 3, 4, 5, 6, 0] rfl ?_
      refine wp_iload X dX10_shape_57 6 rfl ?_
      refine wp_iload X dX10_shape_59 4 rfl ?_
      refine wp_icmp_le X (tgt := 66) dX10_shape_61 (by decide) h (fun h => ?_) (fun h => ?_)
      · refine wp_iload X dX10_shape_66 6 rfl ?_
        refine wp_istore X (lv' := [(0, .ref x0), (1, .int x1), (2, .long x2), (4, .int x4), (5, .int (Int64.toInt32 ((x2 >>> (Int32.toInt64 (8 * x6) &&& 63)) &&& 255))), (6, .int x6), (7, .int (Int64.toInt32 ((x2 >>> (Int32.toInt64 (8 * x6) &&& 63)) &&& 255)))]) dX10_shape_68 (by decide) [1, 2, 3, 4, 0, 5, 6] rfl ?_
        refine wp_iload X dX10_shape_70 3 rfl ?_
        refine wp_iload X dX10_shape_72 6 rfl ?_
        refine wp_iadd X dX10_shape_74 ?_
        refine wp_istore X (lv' := [(0, .ref x0), (1, .int x1), (2, .long x2), (4, .int (x4 + (Int64.toInt32 ((x2 >>> (Int32.toInt64 (8 * x6) &&& 63)) &&& 255)))), (5, .int (Int64.toInt32 ((x2 >>> (Int32.toInt64 (8 * x6) &&& 63)) &&& 255))), (6, .int x6)]) dX10_shape_75 (by decide) [1, 2, 3, 0, 4, 5] rfl ?_
        refine wp_iinc X (v := x6 + 1) (lv' := [(0, .ref x0), (1, .int x1), (2, .long x2), (4, .int (x4 + (Int64.toInt32 ((x2 >>> (Int32.toInt64 (8 * x6) &&& 63)) &&& 255)))), (5, .int (Int64.toInt32 ((x2 >>> (Int32.toInt64 (8 * x6) &&& 63)) &&& 255))), (6, .int (x6 + 1))]) dX10_shape_77 (by decide) 5 rfl rfl [1, 2, 3, 4, 5, 0] rfl ?_
        refine wp_goto X (tgt := 36) dX10_shape_80 (by decide) ?_
        exact ih _ _ _ _ _ _ _ h
      · refine wp_iconst X (v := 0) dX10_shape_64 (by decide) ?_
        exact wp_ireturn X Qr rfl rfl dX10_shape_65 h
def fX10_shape_95  : Nat → Nat → Int32 → Int64 → Int32 → Mem → Option (Int32 × Mem)
  | 0, _, _, _, _, _ => none
  | n + 1, x0, x1, x2, x6, F => if 8 ≤ x6 then (some (1, F)) else ((gfR F x0 9 1).bind fun v103 => (wrI F v103 ((8 * x1) + x6) (Int64.toInt32 ((x2 >>> (Int32.toInt64 (8 * x6) &&& 63)) &&& 255))).bind fun F125 => (fX10_shape_95   n) x0 x1 x2 (x6 + 1) F125)
set_option maxRecDepth 100000 in
set_option maxHeartbeats 4000000 in
theorem tX10_shape_95 {l : Launch} {D : va_G} {cy : Nat → ClassId} {C : Cx} {res : Int32 × Mem} (X : Fx C cX10_shape RX10 (some .boolean) rmX10_shape 8) (hcd : CD C l D cy) (Qr : RI C 0 0 res)   : ∀ (n : Nat) (x0 : Nat) (x1 : Int32) (x2 : Int64) (x6 : Int32) (F : Mem), fX10_shape_95  n x0 x1 x2 x6 F = some res → Wp C 0 0 95 [(0, .ref x0), (1, .int x1), (2, .long x2), (6, .int x6)] [] F := by
  intro n
  induction n with
  | zero =>
    intro x0 x1 x2 x6 F h
    rw [fX10_shape_95.eq_1] at h
    cases h
  | succ n ih =>
    intro x0 x1 x2 x6 F h
    rw [fX10_shape_95.eq_2] at h
    refine wp_iload X dX10_shape_95 3 rfl ?_
    refine wp_bipush X (v := 8) dX10_shape_97 (by decide) ?_
    refine wp_icmp_ge X (tgt := 132) dX10_shape_99 (by decide) h (fun h => ?_) (fun h => ?_)
    · refine wp_iconst X (v := 1) dX10_shape_132 (by decide) ?_
      exact wp_ireturn X Qr rfl rfl dX10_shape_133 h
    · refine wp_aload_n X dX10_shape_102 0 rfl ?_
      refine wp_getR X (T := TX10) (N := 20) (ci := 9) (k := 1) rfl (by decide) (by decide) inBX10 kw813 dX10_shape_103 h (fun v103 h => ?_)
      refine wp_bipush X (v := 8) dX10_shape_106 (by decide) ?_
      refine wp_iload_n X dX10_shape_108 1 rfl ?_
      refine wp_imul X dX10_shape_109 ?_
      refine wp_iload X dX10_shape_110 3 rfl ?_
      refine wp_iadd X dX10_shape_112 ?_
      refine wp_lload_n X dX10_shape_113 2 rfl ?_
      refine wp_bipush X (v := 8) dX10_shape_114 (by decide) ?_
      refine wp_iload X dX10_shape_116 3 rfl ?_
      refine wp_imul X dX10_shape_118 ?_
      refine wp_lshr X dX10_shape_119 ?_
      refine wp_ldc2 X dX10_shape_120 (v := 255) kw884 ?_
      refine wp_land X dX10_shape_123 ?_
      refine wp_l2i X dX10_shape_124 ?_
      refine wp_iastore X dX10_shape_125 h (fun F125 h => ?_)
      refine wp_iinc X (v := x6 + 1) (lv' := [(0, .ref x0), (1, .int x1), (2, .long x2), (6, .int (x6 + 1))]) dX10_shape_126 (by decide) 3 rfl rfl [1, 2, 3, 0] rfl ?_
      refine wp_goto X (tgt := 95) dX10_shape_129 (by decide) ?_
      exact ih _ _ _ _ _ h
def fX10_shape_13  (x0 : Nat) (x1 : Int32) (x2 : Int64) (s0 : Nat) (s1 : Int32) (F : Mem) : Option (Int32 × Mem) := (pf F s0 9 0 (.int s1)).bind fun F13 => (gfI F13 x0 9 0).bind fun v17 => if v17 ≤ 0 then (fX10_shape_36  (fun (x0 : Nat) (x1 : Int32) (x2 : Int64) (x4 : Int32) (F : Mem) => if x4 ≤ 24 then (fX10_shape_95   FU x0 x1 x2 0 F) else (some (0, F))) FU x0 x1 x2 0 255 0 F13) else (some (0, F13))
set_option maxRecDepth 100000 in
set_option maxHeartbeats 4000000 in
theorem tX10_shape_13 {l : Launch} {D : va_G} {cy : Nat → ClassId} {C : Cx} {res : Int32 × Mem} (X : Fx C cX10_shape RX10 (some .boolean) rmX10_shape 8) (hcd : CD C l D cy) (Qr : RI C 0 0 res)   (x0 : Nat) (x1 : Int32) (x2 : Int64) (s0 : Nat) (s1 : Int32) (F : Mem) (h : fX10_shape_13  x0 x1 x2 s0 s1 F = some res) : Wp C 0 0 13 [(0, .ref x0), (1, .int x1), (2, .long x2)] [.int s1, .ref s0] F := by
  unfold fX10_shape_13 at h
  refine wp_put X (T := TX10) (N := 20) (ci := 9) (k := 0) tyX10 rfl (by decide) (by decide) inBX10 kw812 tyX10_ok nmX10 rfl rfl (vp_nar_int _) rfl dX10_shape_13 h (fun F13 h => ?_)
  refine wp_aload_n X dX10_shape_16 0 rfl ?_
  refine wp_getI X (T := TX10) (N := 20) (ci := 9) (k := 0) rfl (by decide) (by decide) inBX10 kw812 dX10_shape_17 h (fun v17 h => ?_)
  refine wp_if_le X (tgt := 25) dX10_shape_20 (by decide) h (fun h => ?_) (fun h => ?_)
  · refine wp_iconst X (v := 0) dX10_shape_25 (by decide) ?_
    refine wp_istore X (lv' := [(0, .ref x0), (1, .int x1), (2, .long x2), (4, .int 0)]) dX10_shape_26 (by decide) [1, 2, 3, 0] rfl ?_
    refine wp_sipush X (v := 255) dX10_shape_28 (by decide) ?_
    refine wp_istore X (lv' := [(0, .ref x0), (1, .int x1), (2, .long x2), (4, .int 0), (5, .int 255)]) dX10_shape_31 (by decide) [1, 2, 3, 4, 0] rfl ?_
    refine wp_iconst X (v := 0) dX10_shape_33 (by decide) ?_
    refine wp_istore X (lv' := [(0, .ref x0), (1, .int x1), (2, .long x2), (4, .int 0), (5, .int 255), (6, .int 0)]) dX10_shape_34 (by decide) [1, 2, 3, 4, 5, 0] rfl ?_
    refine tX10_shape_36 X hcd Qr  ?_ FU _ _ _ _ _ _ _ h
    · intro x0 x1 x2 x4 F h
      refine wp_iload X dX10_shape_83 3 rfl ?_
      refine wp_bipush X (v := 24) dX10_shape_85 (by decide) ?_
      refine wp_icmp_le X (tgt := 92) dX10_shape_87 (by decide) h (fun h => ?_) (fun h => ?_)
      · refine wp_iconst X (v := 0) dX10_shape_92 (by decide) ?_
        refine wp_istore X (lv' := [(0, .ref x0), (1, .int x1), (2, .long x2), (6, .int 0)]) dX10_shape_93 (by decide) [1, 2, 3, 0] rfl ?_
        refine tX10_shape_95 X hcd Qr   FU _ _ _ _ _ h
      · refine wp_iconst X (v := 0) dX10_shape_90 (by decide) ?_
        exact wp_ireturn X Qr rfl rfl dX10_shape_91 h
  · refine wp_iconst X (v := 0) dX10_shape_23 (by decide) ?_
    exact wp_ireturn X Qr rfl rfl dX10_shape_24 h
def mX10_shape (F : Mem) (x0 : Nat) (x1 : Int32) (x2 : Int64) : Option (Int32 × Mem) := (mX10_isSlot F x1).bind fun v2 => if v2.1 = 0 then (fX10_shape_13   x0 x1 x2 x0 1 v2.2) else (fX10_shape_13   x0 x1 x2 x0 0 v2.2)
set_option maxRecDepth 100000 in
set_option maxHeartbeats 4000000 in
theorem cX10_shape_ok {l : Launch} {D : va_G} {cy : Nat → ClassId} {F : Mem} {x0 : Nat} {x1 : Int32} {x2 : Int64} {res : Int32 × Mem} (h : mX10_shape F x0 x1 x2 = some res) : MI l yX10_shape cX10_shape 8 (some .boolean) rmX10_shape D cy F [.ref x0, .int x1, .long x2] res := by
  refine mi_of (by decide) (Nat.le_of_ble_eq_true rfl) [(0, .ref x0), (1, .int x1), (2, .long x2)] rfl (fun C X hcd Qr => ?_)
  unfold mX10_shape at h
  refine wp_aload_n X dX10_shape_0 0 rfl ?_
  refine wp_iload_n X dX10_shape_1 1 rfl ?_
  refine wp_callSI X (rm := rmX10_isSlot) (n := 1) [.int x1] hcd (fun q hq => cX10_isSlot_ok hq) kw881 kw882 kw10 kw883 (by decide +kernel) (by decide) (by decide) (cs2 := 0) (sl2 := 0) rfl rfl rfl rfl (Nat.le_of_ble_eq_true rfl) dX10_shape_2 h (fun v2 h => ?_)
  refine wp_if_eq X (tgt := 12) dX10_shape_5 (by decide) h (fun h => ?_) (fun h => ?_)
  · refine wp_iconst X (v := 1) dX10_shape_12 (by decide) ?_
    exact tX10_shape_13 X hcd Qr   _ _ _ _ _ _ h
  · refine wp_iconst X (v := 0) dX10_shape_8 (by decide) ?_
    refine wp_goto X (tgt := 13) dX10_shape_9 (by decide) ?_
    exact tX10_shape_13 X hcd Qr   _ _ _ _ _ _ h
/-! TableauBenchModel.rowOf(II)I -/
def rmX10_rowOf : Room := { frames := 0, cells := 0, slots := 0, locals := 0 }
def mX10_rowOf (F : Mem) (x0 : Nat) (x1 : Int32) (x2 : Int32) : Option (Int32 × Mem) := if x2 < 0 then (some (0, F)) else (if x2 ≤ 7 then ((gfR F x0 9 1).bind fun v15 => (rdI F 0 v15 ((8 * x1) + x2)).bind fun v24 => some (v24, F)) else (some (0, F)))
set_option maxRecDepth 100000 in
set_option maxHeartbeats 4000000 in
theorem cX10_rowOf_ok {l : Launch} {D : va_G} {cy : Nat → ClassId} {F : Mem} {x0 : Nat} {x1 : Int32} {x2 : Int32} {res : Int32 × Mem} (h : mX10_rowOf F x0 x1 x2 = some res) : MI l yX10_rowOf cX10_rowOf 3 (some .int) rmX10_rowOf D cy F [.ref x0, .int x1, .int x2] res := by
  refine mi_of (by decide) (Nat.le_of_ble_eq_true rfl) [(0, .ref x0), (1, .int x1), (2, .int x2)] rfl (fun C X hcd Qr => ?_)
  unfold mX10_rowOf at h
  refine wp_iload_n X dX10_rowOf_0 2 rfl ?_
  refine wp_if_lt X (tgt := 10) dX10_rowOf_1 (by decide) h (fun h => ?_) (fun h => ?_)
  · refine wp_iconst X (v := 0) dX10_rowOf_10 (by decide) ?_
    refine wp_goto X (tgt := 25) dX10_rowOf_11 (by decide) ?_
    exact wp_ireturn X Qr rfl (vp_nar_int _) dX10_rowOf_25 h
  · refine wp_iload_n X dX10_rowOf_4 2 rfl ?_
    refine wp_bipush X (v := 7) dX10_rowOf_5 (by decide) ?_
    refine wp_icmp_le X (tgt := 14) dX10_rowOf_7 (by decide) h (fun h => ?_) (fun h => ?_)
    · refine wp_aload_n X dX10_rowOf_14 0 rfl ?_
      refine wp_getR X (T := TX10) (N := 20) (ci := 9) (k := 1) rfl (by decide) (by decide) inBX10 kw813 dX10_rowOf_15 h (fun v15 h => ?_)
      refine wp_bipush X (v := 8) dX10_rowOf_18 (by decide) ?_
      refine wp_iload_n X dX10_rowOf_20 1 rfl ?_
      refine wp_imul X dX10_rowOf_21 ?_
      refine wp_iload_n X dX10_rowOf_22 2 rfl ?_
      refine wp_iadd X dX10_rowOf_23 ?_
      refine wp_iaload X dX10_rowOf_24 h (fun v24 h => ?_)
      exact wp_ireturn X Qr rfl (vp_nar_int _) dX10_rowOf_25 h
    · refine wp_iconst X (v := 0) dX10_rowOf_10 (by decide) ?_
      refine wp_goto X (tgt := 25) dX10_rowOf_11 (by decide) ?_
      exact wp_ireturn X Qr rfl (vp_nar_int _) dX10_rowOf_25 h
/-! TableauBenchModel.row(II)I -/
def rmX10_row : Room := { frames := 1, cells := 0, slots := 0, locals := 22 }
def fX10_row_13  (x0 : Nat) (x1 : Int32) (x2 : Int32) (s0 : Nat) (s1 : Int32) (F : Mem) : Option (Int32 × Mem) := (pf F s0 9 0 (.int s1)).bind fun F13 => (gfI F13 x0 9 0).bind fun v17 => if v17 ≤ 0 then ((obj F13 x0 9).bind fun _ => (mX10_rowOf F13 x0 x1 x2).bind fun v30 => some (v30.1, v30.2)) else (some (0, F13))
set_option maxRecDepth 100000 in
set_option maxHeartbeats 4000000 in
theorem tX10_row_13 {l : Launch} {D : va_G} {cy : Nat → ClassId} {C : Cx} {res : Int32 × Mem} (X : Fx C cX10_row RX10 (some .int) rmX10_row 3) (hcd : CD C l D cy) (Qr : RI C 0 0 res)   (x0 : Nat) (x1 : Int32) (x2 : Int32) (s0 : Nat) (s1 : Int32) (F : Mem) (h : fX10_row_13  x0 x1 x2 s0 s1 F = some res) : Wp C 0 0 13 [(0, .ref x0), (1, .int x1), (2, .int x2)] [.int s1, .ref s0] F := by
  unfold fX10_row_13 at h
  refine wp_put X (T := TX10) (N := 20) (ci := 9) (k := 0) tyX10 rfl (by decide) (by decide) inBX10 kw812 tyX10_ok nmX10 rfl rfl (vp_nar_int _) rfl dX10_row_13 h (fun F13 h => ?_)
  refine wp_aload_n X dX10_row_16 0 rfl ?_
  refine wp_getI X (T := TX10) (N := 20) (ci := 9) (k := 0) rfl (by decide) (by decide) inBX10 kw812 dX10_row_17 h (fun v17 h => ?_)
  refine wp_if_le X (tgt := 27) dX10_row_20 (by decide) h (fun h => ?_) (fun h => ?_)
  · refine wp_aload_n X dX10_row_27 0 rfl ?_
    refine wp_iload_n X dX10_row_28 1 rfl ?_
    refine wp_iload_n X dX10_row_29 2 rfl ?_
    refine wp_callVI X (rm := rmX10_rowOf) (T := TX10) (N := 20) (ci := 9) (n := 2) [.int x1, .int x2] hcd (fun q hq => cX10_rowOf_ok hq) kw889 kw891 ks19 kw10 kw892 (by decide +kernel) (by decide) (by decide) (cs2 := 0) (sl2 := 0) rfl rfl rfl (by decide) rfl rfl (Nat.le_of_ble_eq_true rfl) dX10_row_30 h (fun v30 h => ?_)
    exact wp_ireturn X Qr rfl (vp_nar_int _) dX10_row_33 h
  · refine wp_iconst X (v := 0) dX10_row_23 (by decide) ?_
    refine wp_goto X (tgt := 33) dX10_row_24 (by decide) ?_
    exact wp_ireturn X Qr rfl (vp_nar_int _) dX10_row_33 h
def mX10_row (F : Mem) (x0 : Nat) (x1 : Int32) (x2 : Int32) : Option (Int32 × Mem) := (mX10_isSlot F x1).bind fun v2 => if v2.1 = 0 then (fX10_row_13   x0 x1 x2 x0 1 v2.2) else (fX10_row_13   x0 x1 x2 x0 0 v2.2)
set_option maxRecDepth 100000 in
set_option maxHeartbeats 4000000 in
theorem cX10_row_ok {l : Launch} {D : va_G} {cy : Nat → ClassId} {F : Mem} {x0 : Nat} {x1 : Int32} {x2 : Int32} {res : Int32 × Mem} (h : mX10_row F x0 x1 x2 = some res) : MI l yX10_row cX10_row 3 (some .int) rmX10_row D cy F [.ref x0, .int x1, .int x2] res := by
  refine mi_of (by decide) (Nat.le_of_ble_eq_true rfl) [(0, .ref x0), (1, .int x1), (2, .int x2)] rfl (fun C X hcd Qr => ?_)
  unfold mX10_row at h
  refine wp_aload_n X dX10_row_0 0 rfl ?_
  refine wp_iload_n X dX10_row_1 1 rfl ?_
  refine wp_callSI X (rm := rmX10_isSlot) (n := 1) [.int x1] hcd (fun q hq => cX10_isSlot_ok hq) kw881 kw882 kw10 kw883 (by decide +kernel) (by decide) (by decide) (cs2 := 0) (sl2 := 0) rfl rfl rfl rfl (Nat.le_of_ble_eq_true rfl) dX10_row_2 h (fun v2 h => ?_)
  refine wp_if_eq X (tgt := 12) dX10_row_5 (by decide) h (fun h => ?_) (fun h => ?_)
  · refine wp_iconst X (v := 1) dX10_row_12 (by decide) ?_
    exact tX10_row_13 X hcd Qr   _ _ _ _ _ _ h
  · refine wp_iconst X (v := 0) dX10_row_8 (by decide) ?_
    refine wp_goto X (tgt := 13) dX10_row_9 (by decide) ?_
    exact tX10_row_13 X hcd Qr   _ _ _ _ _ _ h
/-! TableauBenchModel.boxesOf(I)I -/
def rmX10_boxesOf : Room := { frames := 1, cells := 0, slots := 0, locals := 22 }
def fX10_boxesOf_4  : Nat → Nat → Int32 → Int32 → Int32 → Mem → Option (Int32 × Mem)
  | 0, _, _, _, _, _ => none
  | n + 1, x0, x1, x2, x3, F => if 8 ≤ x3 then (some (x2, F)) else ((obj F x0 9).bind fun _ => (mX10_rowOf F x0 x1 x3).bind fun v14 => (fX10_boxesOf_4   n) x0 x1 (x2 + v14.1) (x3 + 1) v14.2)
set_option maxRecDepth 100000 in
set_option maxHeartbeats 4000000 in
theorem tX10_boxesOf_4 {l : Launch} {D : va_G} {cy : Nat → ClassId} {C : Cx} {res : Int32 × Mem} (X : Fx C cX10_boxesOf RX10 (some .int) rmX10_boxesOf 4) (hcd : CD C l D cy) (Qr : RI C 0 0 res)   : ∀ (n : Nat) (x0 : Nat) (x1 : Int32) (x2 : Int32) (x3 : Int32) (F : Mem), fX10_boxesOf_4  n x0 x1 x2 x3 F = some res → Wp C 0 0 4 [(0, .ref x0), (1, .int x1), (2, .int x2), (3, .int x3)] [] F := by
  intro n
  induction n with
  | zero =>
    intro x0 x1 x2 x3 F h
    rw [fX10_boxesOf_4.eq_1] at h
    cases h
  | succ n ih =>
    intro x0 x1 x2 x3 F h
    rw [fX10_boxesOf_4.eq_2] at h
    refine wp_iload_n X dX10_boxesOf_4 3 rfl ?_
    refine wp_bipush X (v := 8) dX10_boxesOf_5 (by decide) ?_
    refine wp_icmp_ge X (tgt := 25) dX10_boxesOf_7 (by decide) h (fun h => ?_) (fun h => ?_)
    · refine wp_iload_n X dX10_boxesOf_25 2 rfl ?_
      exact wp_ireturn X Qr rfl (vp_nar_int _) dX10_boxesOf_26 h
    · refine wp_iload_n X dX10_boxesOf_10 2 rfl ?_
      refine wp_aload_n X dX10_boxesOf_11 0 rfl ?_
      refine wp_iload_n X dX10_boxesOf_12 1 rfl ?_
      refine wp_iload_n X dX10_boxesOf_13 3 rfl ?_
      refine wp_callVI X (rm := rmX10_rowOf) (T := TX10) (N := 20) (ci := 9) (n := 2) [.int x1, .int x3] hcd (fun q hq => cX10_rowOf_ok hq) kw889 kw891 ks19 kw10 kw892 (by decide +kernel) (by decide) (by decide) (cs2 := 0) (sl2 := 0) rfl rfl rfl (by decide) rfl rfl (Nat.le_of_ble_eq_true rfl) dX10_boxesOf_14 h (fun v14 h => ?_)
      refine wp_iadd X dX10_boxesOf_17 ?_
      refine wp_istore_n X (lv' := [(0, .ref x0), (1, .int x1), (2, .int (x2 + v14.1)), (3, .int x3)]) dX10_boxesOf_18 (by decide) [1, 2, 0, 3] rfl ?_
      refine wp_iinc X (v := x3 + 1) (lv' := [(0, .ref x0), (1, .int x1), (2, .int (x2 + v14.1)), (3, .int (x3 + 1))]) dX10_boxesOf_19 (by decide) 3 rfl rfl [1, 2, 3, 0] rfl ?_
      refine wp_goto X (tgt := 4) dX10_boxesOf_22 (by decide) ?_
      exact ih _ _ _ _ _ h
def mX10_boxesOf (F : Mem) (x0 : Nat) (x1 : Int32) : Option (Int32 × Mem) := fX10_boxesOf_4   FU x0 x1 0 0 F
set_option maxRecDepth 100000 in
set_option maxHeartbeats 4000000 in
theorem cX10_boxesOf_ok {l : Launch} {D : va_G} {cy : Nat → ClassId} {F : Mem} {x0 : Nat} {x1 : Int32} {res : Int32 × Mem} (h : mX10_boxesOf F x0 x1 = some res) : MI l yX10_boxesOf cX10_boxesOf 4 (some .int) rmX10_boxesOf D cy F [.ref x0, .int x1] res := by
  refine mi_of (by decide) (Nat.le_of_ble_eq_true rfl) [(0, .ref x0), (1, .int x1)] rfl (fun C X hcd Qr => ?_)
  unfold mX10_boxesOf at h
  refine wp_iconst X (v := 0) dX10_boxesOf_0 (by decide) ?_
  refine wp_istore_n X (lv' := [(0, .ref x0), (1, .int x1), (2, .int 0)]) dX10_boxesOf_1 (by decide) [1, 2, 0] rfl ?_
  refine wp_iconst X (v := 0) dX10_boxesOf_2 (by decide) ?_
  refine wp_istore_n X (lv' := [(0, .ref x0), (1, .int x1), (2, .int 0), (3, .int 0)]) dX10_boxesOf_3 (by decide) [1, 2, 3, 0] rfl ?_
  refine tX10_boxesOf_4 X hcd Qr   FU _ _ _ _ _ h
/-! TableauBenchModel.conjugate(I)Z -/
def rmX10_conjugate : Room := { frames := 1, cells := 0, slots := 0, locals := 22 }
def fX10_conjugate_74 (K49 : Nat → Int32 → Int32 → Int32 → Int32 → Mem → Option (Int32 × Mem)) (K81 : Nat → Int32 → Int32 → Int32 → Mem → Option (Int32 × Mem)) (x0 : Nat) (x1 : Int32) (x2 : Int32) (x4 : Int32) (s0 : Int32) (F : Mem) : Option (Int32 × Mem) := K49 x0 x1 x2 s0 (x4 + 1) F
set_option maxRecDepth 100000 in
set_option maxHeartbeats 4000000 in
theorem tX10_conjugate_74 {l : Launch} {D : va_G} {cy : Nat → ClassId} {C : Cx} {res : Int32 × Mem} (X : Fx C cX10_conjugate RX10 (some .boolean) rmX10_conjugate 5) (hcd : CD C l D cy) (Qr : RI C 0 0 res) {K49 : Nat → Int32 → Int32 → Int32 → Int32 → Mem → Option (Int32 × Mem)} {K81 : Nat → Int32 → Int32 → Int32 → Mem → Option (Int32 × Mem)} (hK49 : ∀ (x0 : Nat) (x1 : Int32) (x2 : Int32) (x3 : Int32) (x4 : Int32) (F : Mem), K49 x0 x1 x2 x3 x4 F = some res → Wp C 0 0 49 [(0, .ref x0), (1, .int x1), (2, .int x2), (3, .int x3), (4, .int x4)] [] F) (hK81 : ∀ (x0 : Nat) (x1 : Int32) (x2 : Int32) (x3 : Int32) (F : Mem), K81 x0 x1 x2 x3 F = some res → Wp C 0 0 81 [(0, .ref x0), (1, .int x1), (2, .int x2), (3, .int x3)] [] F) (x0 : Nat) (x1 : Int32) (x2 : Int32) (x4 : Int32) (s0 : Int32) (F : Mem) (h : fX10_conjugate_74 K49 K81 x0 x1 x2 x4 s0 F = some res) : Wp C 0 0 74 [(0, .ref x0), (1, .int x1), (2, .int x2), (4, .int x4)] [.int s0] F := by
  unfold fX10_conjugate_74 at h
  refine wp_istore_n X (lv' := [(0, .ref x0), (1, .int x1), (2, .int x2), (3, .int s0), (4, .int x4)]) dX10_conjugate_74 (by decide) [1, 2, 3, 0, 4] rfl ?_
  refine wp_iinc X (v := x4 + 1) (lv' := [(0, .ref x0), (1, .int x1), (2, .int x2), (3, .int s0), (4, .int (x4 + 1))]) dX10_conjugate_75 (by decide) 4 rfl rfl [1, 2, 3, 4, 0] rfl ?_
  refine wp_goto X (tgt := 49) dX10_conjugate_78 (by decide) ?_
  exact hK49 _ _ _ _ _ _ h
def fX10_conjugate_49 (K81 : Nat → Int32 → Int32 → Int32 → Mem → Option (Int32 × Mem)) : Nat → Nat → Int32 → Int32 → Int32 → Int32 → Mem → Option (Int32 × Mem)
  | 0, _, _, _, _, _, _ => none
  | n + 1, x0, x1, x2, x3, x4, F => if 8 ≤ x4 then (K81 x0 x1 x2 x3 F) else ((obj F x0 9).bind fun _ => (mX10_rowOf F x0 x1 x4).bind fun v60 => if v60.1 ≤ x2 then (fX10_conjugate_74  (fX10_conjugate_49  K81 n) K81 x0 x1 x2 x4 x3 v60.2) else (fX10_conjugate_74  (fX10_conjugate_49  K81 n) K81 x0 x1 x2 x4 (x3 + 1) v60.2))
set_option maxRecDepth 100000 in
set_option maxHeartbeats 4000000 in
theorem tX10_conjugate_49 {l : Launch} {D : va_G} {cy : Nat → ClassId} {C : Cx} {res : Int32 × Mem} (X : Fx C cX10_conjugate RX10 (some .boolean) rmX10_conjugate 5) (hcd : CD C l D cy) (Qr : RI C 0 0 res) {K81 : Nat → Int32 → Int32 → Int32 → Mem → Option (Int32 × Mem)} (hK81 : ∀ (x0 : Nat) (x1 : Int32) (x2 : Int32) (x3 : Int32) (F : Mem), K81 x0 x1 x2 x3 F = some res → Wp C 0 0 81 [(0, .ref x0), (1, .int x1), (2, .int x2), (3, .int x3)] [] F) : ∀ (n : Nat) (x0 : Nat) (x1 : Int32) (x2 : Int32) (x3 : Int32) (x4 : Int32) (F : Mem), fX10_conjugate_49 K81 n x0 x1 x2 x3 x4 F = some res → Wp C 0 0 49 [(0, .ref x0), (1, .int x1), (2, .int x2), (3, .int x3), (4, .int x4)] [] F := by
  intro n
  induction n with
  | zero =>
    intro x0 x1 x2 x3 x4 F h
    rw [fX10_conjugate_49.eq_1] at h
    cases h
  | succ n ih =>
    intro x0 x1 x2 x3 x4 F h
    rw [fX10_conjugate_49.eq_2] at h
    refine wp_iload X dX10_conjugate_49 4 rfl ?_
    refine wp_bipush X (v := 8) dX10_conjugate_51 (by decide) ?_
    refine wp_icmp_ge X (tgt := 81) dX10_conjugate_53 (by decide) h (fun h => ?_) (fun h => ?_)
    · refine wp_sub (lv' := [(0, .ref x0), (1, .int x1), (2, .int x2), (3, .int x3)]) [0, 1, 2, 3] rfl ?_
      exact hK81 _ _ _ _ _ h
    · refine wp_aload_n X dX10_conjugate_56 0 rfl ?_
      refine wp_iload_n X dX10_conjugate_57 1 rfl ?_
      refine wp_iload X dX10_conjugate_58 4 rfl ?_
      refine wp_callVI X (rm := rmX10_rowOf) (T := TX10) (N := 20) (ci := 9) (n := 2) [.int x1, .int x4] hcd (fun q hq => cX10_rowOf_ok hq) kw889 kw891 ks19 kw10 kw892 (by decide +kernel) (by decide) (by decide) (cs2 := 0) (sl2 := 0) rfl rfl rfl (by decide) rfl rfl (Nat.le_of_ble_eq_true rfl) dX10_conjugate_60 h (fun v60 h => ?_)
      refine wp_iload_n X dX10_conjugate_63 2 rfl ?_
      refine wp_icmp_le X (tgt := 73) dX10_conjugate_64 (by decide) h (fun h => ?_) (fun h => ?_)
      · refine wp_iload_n X dX10_conjugate_73 3 rfl ?_
        refine wp_sub (lv' := [(0, .ref x0), (1, .int x1), (2, .int x2), (4, .int x4)]) [0, 1, 2, 4] rfl ?_
        exact tX10_conjugate_74 X hcd Qr  ih hK81 _ _ _ _ _ _ h
      · refine wp_iload_n X dX10_conjugate_67 3 rfl ?_
        refine wp_iconst X (v := 1) dX10_conjugate_68 (by decide) ?_
        refine wp_iadd X dX10_conjugate_69 ?_
        refine wp_goto X (tgt := 74) dX10_conjugate_70 (by decide) ?_
        refine wp_sub (lv' := [(0, .ref x0), (1, .int x1), (2, .int x2), (4, .int x4)]) [0, 1, 2, 4] rfl ?_
        exact tX10_conjugate_74 X hcd Qr  ih hK81 _ _ _ _ _ _ h
def fX10_conjugate_38 (K94 : Nat → Int32 → Mem → Option (Int32 × Mem)) : Nat → Nat → Int32 → Int32 → Mem → Option (Int32 × Mem)
  | 0, _, _, _, _ => none
  | n + 1, x0, x1, x2, F => if 8 ≤ x2 then (K94 x0 x1 F) else (fX10_conjugate_49  (fun (x0 : Nat) (x1 : Int32) (x2 : Int32) (x3 : Int32) (F : Mem) => (gfR F x0 9 9).bind fun v82 => (wrI F v82 x2 x3).bind fun F87 => (fX10_conjugate_38  K94 n) x0 x1 (x2 + 1) F87) FU x0 x1 x2 0 0 F)
set_option maxRecDepth 100000 in
set_option maxHeartbeats 4000000 in
theorem tX10_conjugate_38 {l : Launch} {D : va_G} {cy : Nat → ClassId} {C : Cx} {res : Int32 × Mem} (X : Fx C cX10_conjugate RX10 (some .boolean) rmX10_conjugate 5) (hcd : CD C l D cy) (Qr : RI C 0 0 res) {K94 : Nat → Int32 → Mem → Option (Int32 × Mem)} (hK94 : ∀ (x0 : Nat) (x1 : Int32) (F : Mem), K94 x0 x1 F = some res → Wp C 0 0 94 [(0, .ref x0), (1, .int x1)] [] F) : ∀ (n : Nat) (x0 : Nat) (x1 : Int32) (x2 : Int32) (F : Mem), fX10_conjugate_38 K94 n x0 x1 x2 F = some res → Wp C 0 0 38 [(0, .ref x0), (1, .int x1), (2, .int x2)] [] F := by
  intro n
  induction n with
  | zero =>
    intro x0 x1 x2 F h
    rw [fX10_conjugate_38.eq_1] at h
    cases h
  | succ n ih =>
    intro x0 x1 x2 F h
    rw [fX10_conjugate_38.eq_2] at h
    refine wp_iload_n X dX10_conjugate_38 2 rfl ?_
    refine wp_bipush X (v := 8) dX10_conjugate_39 (by decide) ?_
    refine wp_icmp_ge X (tgt := 94) dX10_conjugate_41 (by decide) h (fun h => ?_) (fun h => ?_)
    · refine wp_sub (lv' := [(0, .ref x0), (1, .int x1)]) [0, 1] rfl ?_
      exact hK94 _ _ _ h
    · refine wp_iconst X (v := 0) dX10_conjugate_44 (by decide) ?_
      refine wp_istore_n X (lv' := [(0, .ref x0), (1, .int x1), (2, .int x2), (3, .int 0)]) dX10_conjugate_45 (by decide) [1, 2, 3, 0] rfl ?_
      refine wp_iconst X (v := 0) dX10_conjugate_46 (by decide) ?_
      refine wp_istore X (lv' := [(0, .ref x0), (1, .int x1), (2, .int x2), (3, .int 0), (4, .int 0)]) dX10_conjugate_47 (by decide) [1, 2, 3, 4, 0] rfl ?_
      refine tX10_conjugate_49 X hcd Qr  ?_ FU _ _ _ _ _ _ h
      · intro x0 x1 x2 x3 F h
        refine wp_aload_n X dX10_conjugate_81 0 rfl ?_
        refine wp_getR X (T := TX10) (N := 20) (ci := 9) (k := 9) rfl (by decide) (by decide) inBX10 kw821 dX10_conjugate_82 h (fun v82 h => ?_)
        refine wp_iload_n X dX10_conjugate_85 2 rfl ?_
        refine wp_iload_n X dX10_conjugate_86 3 rfl ?_
        refine wp_iastore X dX10_conjugate_87 h (fun F87 h => ?_)
        refine wp_iinc X (v := x2 + 1) (lv' := [(0, .ref x0), (1, .int x1), (2, .int (x2 + 1))]) dX10_conjugate_88 (by decide) 2 rfl rfl [1, 2, 0] rfl ?_
        refine wp_goto X (tgt := 38) dX10_conjugate_91 (by decide) ?_
        exact ih _ _ _ _ h
def fX10_conjugate_96  : Nat → Nat → Int32 → Int32 → Mem → Option (Int32 × Mem)
  | 0, _, _, _, _ => none
  | n + 1, x0, x1, x2, F => if 8 ≤ x2 then (some (1, F)) else ((gfR F x0 9 1).bind fun v103 => (gfR F x0 9 9).bind fun v113 => (rdI F 0 v113 x2).bind fun v117 => (wrI F v103 ((8 * x1) + x2) v117).bind fun F118 => (fX10_conjugate_96   n) x0 x1 (x2 + 1) F118)
set_option maxRecDepth 100000 in
set_option maxHeartbeats 4000000 in
theorem tX10_conjugate_96 {l : Launch} {D : va_G} {cy : Nat → ClassId} {C : Cx} {res : Int32 × Mem} (X : Fx C cX10_conjugate RX10 (some .boolean) rmX10_conjugate 5) (hcd : CD C l D cy) (Qr : RI C 0 0 res)   : ∀ (n : Nat) (x0 : Nat) (x1 : Int32) (x2 : Int32) (F : Mem), fX10_conjugate_96  n x0 x1 x2 F = some res → Wp C 0 0 96 [(0, .ref x0), (1, .int x1), (2, .int x2)] [] F := by
  intro n
  induction n with
  | zero =>
    intro x0 x1 x2 F h
    rw [fX10_conjugate_96.eq_1] at h
    cases h
  | succ n ih =>
    intro x0 x1 x2 F h
    rw [fX10_conjugate_96.eq_2] at h
    refine wp_iload_n X dX10_conjugate_96 2 rfl ?_
    refine wp_bipush X (v := 8) dX10_conjugate_97 (by decide) ?_
    refine wp_icmp_ge X (tgt := 125) dX10_conjugate_99 (by decide) h (fun h => ?_) (fun h => ?_)
    · refine wp_iconst X (v := 1) dX10_conjugate_125 (by decide) ?_
      exact wp_ireturn X Qr rfl rfl dX10_conjugate_126 h
    · refine wp_aload_n X dX10_conjugate_102 0 rfl ?_
      refine wp_getR X (T := TX10) (N := 20) (ci := 9) (k := 1) rfl (by decide) (by decide) inBX10 kw813 dX10_conjugate_103 h (fun v103 h => ?_)
      refine wp_bipush X (v := 8) dX10_conjugate_106 (by decide) ?_
      refine wp_iload_n X dX10_conjugate_108 1 rfl ?_
      refine wp_imul X dX10_conjugate_109 ?_
      refine wp_iload_n X dX10_conjugate_110 2 rfl ?_
      refine wp_iadd X dX10_conjugate_111 ?_
      refine wp_aload_n X dX10_conjugate_112 0 rfl ?_
      refine wp_getR X (T := TX10) (N := 20) (ci := 9) (k := 9) rfl (by decide) (by decide) inBX10 kw821 dX10_conjugate_113 h (fun v113 h => ?_)
      refine wp_iload_n X dX10_conjugate_116 2 rfl ?_
      refine wp_iaload X dX10_conjugate_117 h (fun v117 h => ?_)
      refine wp_iastore X dX10_conjugate_118 h (fun F118 h => ?_)
      refine wp_iinc X (v := x2 + 1) (lv' := [(0, .ref x0), (1, .int x1), (2, .int (x2 + 1))]) dX10_conjugate_119 (by decide) 2 rfl rfl [1, 2, 0] rfl ?_
      refine wp_goto X (tgt := 96) dX10_conjugate_122 (by decide) ?_
      exact ih _ _ _ _ h
def fX10_conjugate_13  (x0 : Nat) (x1 : Int32) (s0 : Nat) (s1 : Int32) (F : Mem) : Option (Int32 × Mem) := (pf F s0 9 0 (.int s1)).bind fun F13 => (gfI F13 x0 9 0).bind fun v17 => if 0 < v17 then (some (0, F13)) else ((obj F13 x0 9).bind fun _ => (mX10_rowOf F13 x0 x1 0).bind fun v26 => if v26.1 ≤ 8 then (fX10_conjugate_38  (fun (x0 : Nat) (x1 : Int32) (F : Mem) => fX10_conjugate_96   FU x0 x1 0 F) FU x0 x1 0 v26.2) else (some (0, v26.2)))
set_option maxRecDepth 100000 in
set_option maxHeartbeats 4000000 in
theorem tX10_conjugate_13 {l : Launch} {D : va_G} {cy : Nat → ClassId} {C : Cx} {res : Int32 × Mem} (X : Fx C cX10_conjugate RX10 (some .boolean) rmX10_conjugate 5) (hcd : CD C l D cy) (Qr : RI C 0 0 res)   (x0 : Nat) (x1 : Int32) (s0 : Nat) (s1 : Int32) (F : Mem) (h : fX10_conjugate_13  x0 x1 s0 s1 F = some res) : Wp C 0 0 13 [(0, .ref x0), (1, .int x1)] [.int s1, .ref s0] F := by
  unfold fX10_conjugate_13 at h
  refine wp_put X (T := TX10) (N := 20) (ci := 9) (k := 0) tyX10 rfl (by decide) (by decide) inBX10 kw812 tyX10_ok nmX10 rfl rfl (vp_nar_int _) rfl dX10_conjugate_13 h (fun F13 h => ?_)
  refine wp_aload_n X dX10_conjugate_16 0 rfl ?_
  refine wp_getI X (T := TX10) (N := 20) (ci := 9) (k := 0) rfl (by decide) (by decide) inBX10 kw812 dX10_conjugate_17 h (fun v17 h => ?_)
  refine wp_if_gt X (tgt := 34) dX10_conjugate_20 (by decide) h (fun h => ?_) (fun h => ?_)
  · refine wp_iconst X (v := 0) dX10_conjugate_34 (by decide) ?_
    exact wp_ireturn X Qr rfl rfl dX10_conjugate_35 h
  · refine wp_aload_n X dX10_conjugate_23 0 rfl ?_
    refine wp_iload_n X dX10_conjugate_24 1 rfl ?_
    refine wp_iconst X (v := 0) dX10_conjugate_25 (by decide) ?_
    refine wp_callVI X (rm := rmX10_rowOf) (T := TX10) (N := 20) (ci := 9) (n := 2) [.int x1, .int 0] hcd (fun q hq => cX10_rowOf_ok hq) kw889 kw891 ks19 kw10 kw892 (by decide +kernel) (by decide) (by decide) (cs2 := 0) (sl2 := 0) rfl rfl rfl (by decide) rfl rfl (Nat.le_of_ble_eq_true rfl) dX10_conjugate_26 h (fun v26 h => ?_)
    refine wp_bipush X (v := 8) dX10_conjugate_29 (by decide) ?_
    refine wp_icmp_le X (tgt := 36) dX10_conjugate_31 (by decide) h (fun h => ?_) (fun h => ?_)
    · refine wp_iconst X (v := 0) dX10_conjugate_36 (by decide) ?_
      refine wp_istore_n X (lv' := [(0, .ref x0), (1, .int x1), (2, .int 0)]) dX10_conjugate_37 (by decide) [1, 2, 0] rfl ?_
      refine tX10_conjugate_38 X hcd Qr  ?_ FU _ _ _ _ h
      · intro x0 x1 F h
        refine wp_iconst X (v := 0) dX10_conjugate_94 (by decide) ?_
        refine wp_istore_n X (lv' := [(0, .ref x0), (1, .int x1), (2, .int 0)]) dX10_conjugate_95 (by decide) [1, 2, 0] rfl ?_
        refine tX10_conjugate_96 X hcd Qr   FU _ _ _ _ h
    · refine wp_iconst X (v := 0) dX10_conjugate_34 (by decide) ?_
      exact wp_ireturn X Qr rfl rfl dX10_conjugate_35 h
def mX10_conjugate (F : Mem) (x0 : Nat) (x1 : Int32) : Option (Int32 × Mem) := (mX10_isSlot F x1).bind fun v2 => if v2.1 = 0 then (fX10_conjugate_13   x0 x1 x0 1 v2.2) else (fX10_conjugate_13   x0 x1 x0 0 v2.2)
set_option maxRecDepth 100000 in
set_option maxHeartbeats 4000000 in
theorem cX10_conjugate_ok {l : Launch} {D : va_G} {cy : Nat → ClassId} {F : Mem} {x0 : Nat} {x1 : Int32} {res : Int32 × Mem} (h : mX10_conjugate F x0 x1 = some res) : MI l yX10_conjugate cX10_conjugate 5 (some .boolean) rmX10_conjugate D cy F [.ref x0, .int x1] res := by
  refine mi_of (by decide) (Nat.le_of_ble_eq_true rfl) [(0, .ref x0), (1, .int x1)] rfl (fun C X hcd Qr => ?_)
  unfold mX10_conjugate at h
  refine wp_aload_n X dX10_conjugate_0 0 rfl ?_
  refine wp_iload_n X dX10_conjugate_1 1 rfl ?_
  refine wp_callSI X (rm := rmX10_isSlot) (n := 1) [.int x1] hcd (fun q hq => cX10_isSlot_ok hq) kw881 kw882 kw10 kw883 (by decide +kernel) (by decide) (by decide) (cs2 := 0) (sl2 := 0) rfl rfl rfl rfl (Nat.le_of_ble_eq_true rfl) dX10_conjugate_2 h (fun v2 h => ?_)
  refine wp_if_eq X (tgt := 12) dX10_conjugate_5 (by decide) h (fun h => ?_) (fun h => ?_)
  · refine wp_iconst X (v := 1) dX10_conjugate_12 (by decide) ?_
    exact tX10_conjugate_13 X hcd Qr   _ _ _ _ _ h
  · refine wp_iconst X (v := 0) dX10_conjugate_8 (by decide) ?_
    refine wp_goto X (tgt := 13) dX10_conjugate_9 (by decide) ?_
    exact tX10_conjugate_13 X hcd Qr   _ _ _ _ _ h
/-! TableauBenchModel.rank(I)I -/
def rmX10_rank : Room := { frames := 2, cells := 0, slots := 0, locals := 45 }
def fX10_rank_75 (K108 : Nat → Int32 → Int32 → Int32 → Int32 → Int32 → Mem → Option (Int32 × Mem)) : Nat → Nat → Int32 → Int32 → Int32 → Int32 → Int32 → Int32 → Mem → Option (Int32 × Mem)
  | 0, _, _, _, _, _, _, _, _ => none
  | n + 1, x0, x1, x2, x4, x5, x6, x8, F => if x8 ≤ x6 then (K108 x0 x1 x2 x4 x5 x6 F) else ((gfR F x0 9 8).bind fun v85 => (rdI F 0 v85 ((25 * (x2 - x8)) + x8)).bind fun v98 => (fX10_rank_75  K108 n) x0 x1 x2 (x4 + v98) x5 x6 (x8 + (-1)) F)
set_option maxRecDepth 100000 in
set_option maxHeartbeats 4000000 in
theorem tX10_rank_75 {l : Launch} {D : va_G} {cy : Nat → ClassId} {C : Cx} {res : Int32 × Mem} (X : Fx C cX10_rank RX10 (some .int) rmX10_rank 9) (hcd : CD C l D cy) (Qr : RI C 0 0 res) {K108 : Nat → Int32 → Int32 → Int32 → Int32 → Int32 → Mem → Option (Int32 × Mem)} (hK108 : ∀ (x0 : Nat) (x1 : Int32) (x2 : Int32) (x4 : Int32) (x5 : Int32) (x6 : Int32) (F : Mem), K108 x0 x1 x2 x4 x5 x6 F = some res → Wp C 0 0 108 [(0, .ref x0), (1, .int x1), (2, .int x2), (4, .int x4), (5, .int x5), (6, .int x6)] [] F) : ∀ (n : Nat) (x0 : Nat) (x1 : Int32) (x2 : Int32) (x4 : Int32) (x5 : Int32) (x6 : Int32) (x8 : Int32) (F : Mem), fX10_rank_75 K108 n x0 x1 x2 x4 x5 x6 x8 F = some res → Wp C 0 0 75 [(0, .ref x0), (1, .int x1), (2, .int x2), (4, .int x4), (5, .int x5), (6, .int x6), (8, .int x8)] [] F := by
  intro n
  induction n with
  | zero =>
    intro x0 x1 x2 x4 x5 x6 x8 F h
    rw [fX10_rank_75.eq_1] at h
    cases h
  | succ n ih =>
    intro x0 x1 x2 x4 x5 x6 x8 F h
    rw [fX10_rank_75.eq_2] at h
    refine wp_iload X dX10_rank_75 6 rfl ?_
    refine wp_iload X dX10_rank_77 5 rfl ?_
    refine wp_icmp_le X (tgt := 108) dX10_rank_79 (by decide) h (fun h => ?_) (fun h => ?_)
    · refine wp_sub (lv' := [(0, .ref x0), (1, .int x1), (2, .int x2), (4, .int x4), (5, .int x5), (6, .int x6)]) [0, 1, 2, 3, 4, 5] rfl ?_
      exact hK108 _ _ _ _ _ _ _ h
    · refine wp_iload X dX10_rank_82 3 rfl ?_
      refine wp_aload_n X dX10_rank_84 0 rfl ?_
      refine wp_getR X (T := TX10) (N := 20) (ci := 9) (k := 8) rfl (by decide) (by decide) inBX10 kw820 dX10_rank_85 h (fun v85 h => ?_)
      refine wp_bipush X (v := 25) dX10_rank_88 (by decide) ?_
      refine wp_iload_n X dX10_rank_90 2 rfl ?_
      refine wp_iload X dX10_rank_91 6 rfl ?_
      refine wp_isub X dX10_rank_93 ?_
      refine wp_imul X dX10_rank_94 ?_
      refine wp_iload X dX10_rank_95 6 rfl ?_
      refine wp_iadd X dX10_rank_97 ?_
      refine wp_iaload X dX10_rank_98 h (fun v98 h => ?_)
      refine wp_iadd X dX10_rank_99 ?_
      refine wp_istore X (lv' := [(0, .ref x0), (1, .int x1), (2, .int x2), (4, .int (x4 + v98)), (5, .int x5), (6, .int x6), (8, .int x8)]) dX10_rank_100 (by decide) [1, 2, 3, 0, 4, 5, 6] rfl ?_
      refine wp_iinc X (v := x8 + (-1)) (lv' := [(0, .ref x0), (1, .int x1), (2, .int x2), (4, .int (x4 + v98)), (5, .int x5), (6, .int x6), (8, .int (x8 + (-1)))]) dX10_rank_102 (by decide) 6 rfl rfl [1, 2, 3, 4, 5, 6, 0] rfl ?_
      refine wp_goto X (tgt := 75) dX10_rank_105 (by decide) ?_
      exact ih _ _ _ _ _ _ _ _ h
def fX10_rank_69 (K39 : Nat → Int32 → Int32 → Int32 → Int32 → Int32 → Mem → Option (Int32 × Mem)) (x0 : Nat) (x1 : Int32) (x2 : Int32) (x4 : Int32) (x5 : Int32) (x6 : Int32) (s0 : Int32) (F : Mem) : Option (Int32 × Mem) := fX10_rank_75  (fun (x0 : Nat) (x1 : Int32) (x2 : Int32) (x4 : Int32) (x5 : Int32) (x6 : Int32) (F : Mem) => K39 x0 x1 (x2 - x6) x6 x4 (x5 + 1) F) FU x0 x1 x2 x4 x5 x6 s0 F
set_option maxRecDepth 100000 in
set_option maxHeartbeats 4000000 in
theorem tX10_rank_69 {l : Launch} {D : va_G} {cy : Nat → ClassId} {C : Cx} {res : Int32 × Mem} (X : Fx C cX10_rank RX10 (some .int) rmX10_rank 9) (hcd : CD C l D cy) (Qr : RI C 0 0 res) {K39 : Nat → Int32 → Int32 → Int32 → Int32 → Int32 → Mem → Option (Int32 × Mem)} (hK39 : ∀ (x0 : Nat) (x1 : Int32) (x2 : Int32) (x3 : Int32) (x4 : Int32) (x5 : Int32) (F : Mem), K39 x0 x1 x2 x3 x4 x5 F = some res → Wp C 0 0 39 [(0, .ref x0), (1, .int x1), (2, .int x2), (3, .int x3), (4, .int x4), (5, .int x5)] [] F) (x0 : Nat) (x1 : Int32) (x2 : Int32) (x4 : Int32) (x5 : Int32) (x6 : Int32) (s0 : Int32) (F : Mem) (h : fX10_rank_69 K39 x0 x1 x2 x4 x5 x6 s0 F = some res) : Wp C 0 0 69 [(0, .ref x0), (1, .int x1), (2, .int x2), (4, .int x4), (5, .int x5), (6, .int x6)] [.int s0] F := by
  unfold fX10_rank_69 at h
  refine wp_istore X (lv' := [(0, .ref x0), (1, .int x1), (2, .int x2), (4, .int x4), (5, .int x5), (6, .int x6), (7, .int s0)]) dX10_rank_69 (by decide) [1, 2, 3, 4, 5, 6, 0] rfl ?_
  refine wp_iload X dX10_rank_71 6 rfl ?_
  refine wp_istore X (lv' := [(0, .ref x0), (1, .int x1), (2, .int x2), (4, .int x4), (5, .int x5), (6, .int x6), (8, .int s0)]) dX10_rank_73 (by decide) [1, 2, 3, 4, 5, 6, 0] rfl ?_
  refine tX10_rank_75 X hcd Qr  ?_ FU _ _ _ _ _ _ _ _ h
  · intro x0 x1 x2 x4 x5 x6 F h
    refine wp_iload_n X dX10_rank_108 2 rfl ?_
    refine wp_iload X dX10_rank_109 5 rfl ?_
    refine wp_isub X dX10_rank_111 ?_
    refine wp_istore_n X (lv' := [(0, .ref x0), (1, .int x1), (2, .int (x2 - x6)), (4, .int x4), (5, .int x5), (6, .int x6)]) dX10_rank_112 (by decide) [1, 2, 0, 3, 4, 5] rfl ?_
    refine wp_iload X dX10_rank_113 5 rfl ?_
    refine wp_istore_n X (lv' := [(0, .ref x0), (1, .int x1), (2, .int (x2 - x6)), (3, .int x6), (4, .int x4), (5, .int x5)]) dX10_rank_115 (by decide) [1, 2, 3, 0, 4, 5] rfl ?_
    refine wp_iinc X (v := x5 + 1) (lv' := [(0, .ref x0), (1, .int x1), (2, .int (x2 - x6)), (3, .int x6), (4, .int x4), (5, .int (x5 + 1))]) dX10_rank_116 (by decide) 5 rfl rfl [1, 2, 3, 4, 5, 0] rfl ?_
    refine wp_goto X (tgt := 39) dX10_rank_119 (by decide) ?_
    exact hK39 _ _ _ _ _ _ _ h
def fX10_rank_39  : Nat → Nat → Int32 → Int32 → Int32 → Int32 → Int32 → Mem → Option (Int32 × Mem)
  | 0, _, _, _, _, _, _, _ => none
  | n + 1, x0, x1, x2, x3, x4, x5, F => if 8 ≤ x5 then (some (x4, F)) else (if x2 ≤ 0 then (some (x4, F)) else ((obj F x0 9).bind fun _ => (mX10_rowOf F x0 x1 x5).bind fun v54 => if x2 ≤ x3 then (fX10_rank_69  (fX10_rank_39   n) x0 x1 x2 x4 x5 v54.1 x2 v54.2) else (fX10_rank_69  (fX10_rank_39   n) x0 x1 x2 x4 x5 v54.1 x3 v54.2)))
set_option maxRecDepth 100000 in
set_option maxHeartbeats 4000000 in
theorem tX10_rank_39 {l : Launch} {D : va_G} {cy : Nat → ClassId} {C : Cx} {res : Int32 × Mem} (X : Fx C cX10_rank RX10 (some .int) rmX10_rank 9) (hcd : CD C l D cy) (Qr : RI C 0 0 res)   : ∀ (n : Nat) (x0 : Nat) (x1 : Int32) (x2 : Int32) (x3 : Int32) (x4 : Int32) (x5 : Int32) (F : Mem), fX10_rank_39  n x0 x1 x2 x3 x4 x5 F = some res → Wp C 0 0 39 [(0, .ref x0), (1, .int x1), (2, .int x2), (3, .int x3), (4, .int x4), (5, .int x5)] [] F := by
  intro n
  induction n with
  | zero =>
    intro x0 x1 x2 x3 x4 x5 F h
    rw [fX10_rank_39.eq_1] at h
    cases h
  | succ n ih =>
    intro x0 x1 x2 x3 x4 x5 F h
    rw [fX10_rank_39.eq_2] at h
    refine wp_iload X dX10_rank_39 5 rfl ?_
    refine wp_bipush X (v := 8) dX10_rank_41 (by decide) ?_
    refine wp_icmp_ge X (tgt := 122) dX10_rank_43 (by decide) h (fun h => ?_) (fun h => ?_)
    · refine wp_iload X dX10_rank_122 4 rfl ?_
      exact wp_ireturn X Qr rfl (vp_nar_int _) dX10_rank_124 h
    · refine wp_iload_n X dX10_rank_46 2 rfl ?_
      refine wp_if_le X (tgt := 122) dX10_rank_47 (by decide) h (fun h => ?_) (fun h => ?_)
      · refine wp_iload X dX10_rank_122 4 rfl ?_
        exact wp_ireturn X Qr rfl (vp_nar_int _) dX10_rank_124 h
      · refine wp_aload_n X dX10_rank_50 0 rfl ?_
        refine wp_iload_n X dX10_rank_51 1 rfl ?_
        refine wp_iload X dX10_rank_52 5 rfl ?_
        refine wp_callVI X (rm := rmX10_rowOf) (T := TX10) (N := 20) (ci := 9) (n := 2) [.int x1, .int x5] hcd (fun q hq => cX10_rowOf_ok hq) kw889 kw891 ks19 kw10 kw892 (by decide +kernel) (by decide) (by decide) (cs2 := 0) (sl2 := 0) rfl rfl rfl (by decide) rfl rfl (Nat.le_of_ble_eq_true rfl) dX10_rank_54 h (fun v54 h => ?_)
        refine wp_istore X (lv' := [(0, .ref x0), (1, .int x1), (2, .int x2), (3, .int x3), (4, .int x4), (5, .int x5), (6, .int v54.1)]) dX10_rank_57 (by decide) [1, 2, 3, 4, 5, 6, 0] rfl ?_
        refine wp_iload_n X dX10_rank_59 3 rfl ?_
        refine wp_iload_n X dX10_rank_60 2 rfl ?_
        refine wp_icmp_ge X (tgt := 68) dX10_rank_61 (by decide) h (fun h => ?_) (fun h => ?_)
        · refine wp_iload_n X dX10_rank_68 2 rfl ?_
          refine wp_sub (lv' := [(0, .ref x0), (1, .int x1), (2, .int x2), (4, .int x4), (5, .int x5), (6, .int v54.1)]) [0, 1, 2, 4, 5, 6] rfl ?_
          exact tX10_rank_69 X hcd Qr  ih _ _ _ _ _ _ _ _ h
        · refine wp_iload_n X dX10_rank_64 3 rfl ?_
          refine wp_goto X (tgt := 69) dX10_rank_65 (by decide) ?_
          refine wp_sub (lv' := [(0, .ref x0), (1, .int x1), (2, .int x2), (4, .int x4), (5, .int x5), (6, .int v54.1)]) [0, 1, 2, 4, 5, 6] rfl ?_
          exact tX10_rank_69 X hcd Qr  ih _ _ _ _ _ _ _ _ h
def fX10_rank_13  (x0 : Nat) (x1 : Int32) (s0 : Nat) (s1 : Int32) (F : Mem) : Option (Int32 × Mem) := (pf F s0 9 0 (.int s1)).bind fun F13 => (gfI F13 x0 9 0).bind fun v17 => if v17 ≤ 0 then ((obj F13 x0 9).bind fun _ => (mX10_boxesOf F13 x0 x1).bind fun v27 => fX10_rank_39   FU x0 x1 v27.1 v27.1 0 0 v27.2) else (some (0, F13))
set_option maxRecDepth 100000 in
set_option maxHeartbeats 4000000 in
theorem tX10_rank_13 {l : Launch} {D : va_G} {cy : Nat → ClassId} {C : Cx} {res : Int32 × Mem} (X : Fx C cX10_rank RX10 (some .int) rmX10_rank 9) (hcd : CD C l D cy) (Qr : RI C 0 0 res)   (x0 : Nat) (x1 : Int32) (s0 : Nat) (s1 : Int32) (F : Mem) (h : fX10_rank_13  x0 x1 s0 s1 F = some res) : Wp C 0 0 13 [(0, .ref x0), (1, .int x1)] [.int s1, .ref s0] F := by
  unfold fX10_rank_13 at h
  refine wp_put X (T := TX10) (N := 20) (ci := 9) (k := 0) tyX10 rfl (by decide) (by decide) inBX10 kw812 tyX10_ok nmX10 rfl rfl (vp_nar_int _) rfl dX10_rank_13 h (fun F13 h => ?_)
  refine wp_aload_n X dX10_rank_16 0 rfl ?_
  refine wp_getI X (T := TX10) (N := 20) (ci := 9) (k := 0) rfl (by decide) (by decide) inBX10 kw812 dX10_rank_17 h (fun v17 h => ?_)
  refine wp_if_le X (tgt := 25) dX10_rank_20 (by decide) h (fun h => ?_) (fun h => ?_)
  · refine wp_aload_n X dX10_rank_25 0 rfl ?_
    refine wp_iload_n X dX10_rank_26 1 rfl ?_
    refine wp_callVI X (rm := rmX10_boxesOf) (T := TX10) (N := 20) (ci := 9) (n := 1) [.int x1] hcd (fun q hq => cX10_boxesOf_ok hq) kw901 kw903 ks20 kw10 kw904 (by decide +kernel) (by decide) (by decide) (cs2 := 0) (sl2 := 0) rfl rfl rfl (by decide) rfl rfl (Nat.le_of_ble_eq_true rfl) dX10_rank_27 h (fun v27 h => ?_)
    refine wp_istore_n X (lv' := [(0, .ref x0), (1, .int x1), (2, .int v27.1)]) dX10_rank_30 (by decide) [1, 2, 0] rfl ?_
    refine wp_iload_n X dX10_rank_31 2 rfl ?_
    refine wp_istore_n X (lv' := [(0, .ref x0), (1, .int x1), (2, .int v27.1), (3, .int v27.1)]) dX10_rank_32 (by decide) [1, 2, 3, 0] rfl ?_
    refine wp_iconst X (v := 0) dX10_rank_33 (by decide) ?_
    refine wp_istore X (lv' := [(0, .ref x0), (1, .int x1), (2, .int v27.1), (3, .int v27.1), (4, .int 0)]) dX10_rank_34 (by decide) [1, 2, 3, 4, 0] rfl ?_
    refine wp_iconst X (v := 0) dX10_rank_36 (by decide) ?_
    refine wp_istore X (lv' := [(0, .ref x0), (1, .int x1), (2, .int v27.1), (3, .int v27.1), (4, .int 0), (5, .int 0)]) dX10_rank_37 (by decide) [1, 2, 3, 4, 5, 0] rfl ?_
    refine tX10_rank_39 X hcd Qr   FU _ _ _ _ _ _ _ h
  · refine wp_iconst X (v := 0) dX10_rank_23 (by decide) ?_
    exact wp_ireturn X Qr rfl (vp_nar_int _) dX10_rank_24 h
def mX10_rank (F : Mem) (x0 : Nat) (x1 : Int32) : Option (Int32 × Mem) := (mX10_isSlot F x1).bind fun v2 => if v2.1 = 0 then (fX10_rank_13   x0 x1 x0 1 v2.2) else (fX10_rank_13   x0 x1 x0 0 v2.2)
set_option maxRecDepth 100000 in
set_option maxHeartbeats 4000000 in
theorem cX10_rank_ok {l : Launch} {D : va_G} {cy : Nat → ClassId} {F : Mem} {x0 : Nat} {x1 : Int32} {res : Int32 × Mem} (h : mX10_rank F x0 x1 = some res) : MI l yX10_rank cX10_rank 9 (some .int) rmX10_rank D cy F [.ref x0, .int x1] res := by
  refine mi_of (by decide) (Nat.le_of_ble_eq_true rfl) [(0, .ref x0), (1, .int x1)] rfl (fun C X hcd Qr => ?_)
  unfold mX10_rank at h
  refine wp_aload_n X dX10_rank_0 0 rfl ?_
  refine wp_iload_n X dX10_rank_1 1 rfl ?_
  refine wp_callSI X (rm := rmX10_isSlot) (n := 1) [.int x1] hcd (fun q hq => cX10_isSlot_ok hq) kw881 kw882 kw10 kw883 (by decide +kernel) (by decide) (by decide) (cs2 := 0) (sl2 := 0) rfl rfl rfl rfl (Nat.le_of_ble_eq_true rfl) dX10_rank_2 h (fun v2 h => ?_)
  refine wp_if_eq X (tgt := 12) dX10_rank_5 (by decide) h (fun h => ?_) (fun h => ?_)
  · refine wp_iconst X (v := 1) dX10_rank_12 (by decide) ?_
    exact tX10_rank_13 X hcd Qr   _ _ _ _ _ h
  · refine wp_iconst X (v := 0) dX10_rank_8 (by decide) ?_
    refine wp_goto X (tgt := 13) dX10_rank_9 (by decide) ?_
    exact tX10_rank_13 X hcd Qr   _ _ _ _ _ h
/-! TableauBenchModel.unrank(III)V -/
def rmX10_unrank : Room := { frames := 1, cells := 0, slots := 0, locals := 20 }
def fX10_unrank_76 (K97 : Nat → Int32 → Int32 → Int32 → Int32 → Int32 → Mem → Option (Mem)) : Nat → Nat → Int32 → Int32 → Int32 → Int32 → Int32 → Int32 → Mem → Option (Mem)
  | 0, _, _, _, _, _, _, _, _ => none
  | n + 1, x0, x1, x4, x5, x6, x7, x8, F => if 9 ≤ x8 then (K97 x0 x1 x4 x5 x6 x7 F) else ((gfR F x0 9 9).bind fun v84 => (wrI F v84 x8 0).bind fun F90 => (fX10_unrank_76  K97 n) x0 x1 x4 x5 x6 x7 (x8 + 1) F90)
set_option maxRecDepth 100000 in
set_option maxHeartbeats 4000000 in
theorem tX10_unrank_76 {l : Launch} {D : va_G} {cy : Nat → ClassId} {C : Cx} {res : Mem} (X : Fx C cX10_unrank RX10 none rmX10_unrank 9) (hcd : CD C l D cy) (Qr : RV C 0 0 res) {K97 : Nat → Int32 → Int32 → Int32 → Int32 → Int32 → Mem → Option (Mem)} (hK97 : ∀ (x0 : Nat) (x1 : Int32) (x4 : Int32) (x5 : Int32) (x6 : Int32) (x7 : Int32) (F : Mem), K97 x0 x1 x4 x5 x6 x7 F = some res → Wp C 0 0 97 [(0, .ref x0), (1, .int x1), (4, .int x4), (5, .int x5), (6, .int x6), (7, .int x7)] [] F) : ∀ (n : Nat) (x0 : Nat) (x1 : Int32) (x4 : Int32) (x5 : Int32) (x6 : Int32) (x7 : Int32) (x8 : Int32) (F : Mem), fX10_unrank_76 K97 n x0 x1 x4 x5 x6 x7 x8 F = some res → Wp C 0 0 76 [(0, .ref x0), (1, .int x1), (4, .int x4), (5, .int x5), (6, .int x6), (7, .int x7), (8, .int x8)] [] F := by
  intro n
  induction n with
  | zero =>
    intro x0 x1 x4 x5 x6 x7 x8 F h
    rw [fX10_unrank_76.eq_1] at h
    cases h
  | succ n ih =>
    intro x0 x1 x4 x5 x6 x7 x8 F h
    rw [fX10_unrank_76.eq_2] at h
    refine wp_iload X dX10_unrank_76 6 rfl ?_
    refine wp_bipush X (v := 9) dX10_unrank_78 (by decide) ?_
    refine wp_icmp_ge X (tgt := 97) dX10_unrank_80 (by decide) h (fun h => ?_) (fun h => ?_)
    · refine wp_sub (lv' := [(0, .ref x0), (1, .int x1), (4, .int x4), (5, .int x5), (6, .int x6), (7, .int x7)]) [0, 1, 2, 3, 4, 5] rfl ?_
      exact hK97 _ _ _ _ _ _ _ h
    · refine wp_aload_n X dX10_unrank_83 0 rfl ?_
      refine wp_getR X (T := TX10) (N := 20) (ci := 9) (k := 9) rfl (by decide) (by decide) inBX10 kw821 dX10_unrank_84 h (fun v84 h => ?_)
      refine wp_iload X dX10_unrank_87 6 rfl ?_
      refine wp_iconst X (v := 0) dX10_unrank_89 (by decide) ?_
      refine wp_iastore X dX10_unrank_90 h (fun F90 h => ?_)
      refine wp_iinc X (v := x8 + 1) (lv' := [(0, .ref x0), (1, .int x1), (4, .int x4), (5, .int x5), (6, .int x6), (7, .int x7), (8, .int (x8 + 1))]) dX10_unrank_91 (by decide) 6 rfl rfl [1, 2, 3, 4, 5, 6, 0] rfl ?_
      refine wp_goto X (tgt := 76) dX10_unrank_94 (by decide) ?_
      exact ih _ _ _ _ _ _ _ _ h
def fX10_unrank_125 (K173 : Nat → Int32 → Int32 → Int32 → Int32 → Int32 → Mem → Option (Mem)) : Nat → Nat → Int32 → Int32 → Int32 → Int32 → Int32 → Mem → Option (Mem)
  | 0, _, _, _, _, _, _, _ => none
  | n + 1, x0, x1, x4, x6, x7, x8, F => (gfR F x0 9 8).bind fun v128 => (rdI F 0 v128 ((25 * (x4 - x8)) + x8)).bind fun v142 => if x7 < v142 then (K173 x0 x1 x4 x6 x7 x8 F) else ((gfR F x0 9 8).bind fun v149 => (rdI F 0 v149 ((25 * (x4 - x8)) + x8)).bind fun v163 => (fX10_unrank_125  K173 n) x0 x1 x4 x6 (x7 - v163) (x8 + (-1)) F)
set_option maxRecDepth 100000 in
set_option maxHeartbeats 4000000 in
theorem tX10_unrank_125 {l : Launch} {D : va_G} {cy : Nat → ClassId} {C : Cx} {res : Mem} (X : Fx C cX10_unrank RX10 none rmX10_unrank 9) (hcd : CD C l D cy) (Qr : RV C 0 0 res) {K173 : Nat → Int32 → Int32 → Int32 → Int32 → Int32 → Mem → Option (Mem)} (hK173 : ∀ (x0 : Nat) (x1 : Int32) (x4 : Int32) (x6 : Int32) (x7 : Int32) (x8 : Int32) (F : Mem), K173 x0 x1 x4 x6 x7 x8 F = some res → Wp C 0 0 173 [(0, .ref x0), (1, .int x1), (4, .int x4), (6, .int x6), (7, .int x7), (8, .int x8)] [] F) : ∀ (n : Nat) (x0 : Nat) (x1 : Int32) (x4 : Int32) (x6 : Int32) (x7 : Int32) (x8 : Int32) (F : Mem), fX10_unrank_125 K173 n x0 x1 x4 x6 x7 x8 F = some res → Wp C 0 0 125 [(0, .ref x0), (1, .int x1), (4, .int x4), (6, .int x6), (7, .int x7), (8, .int x8)] [] F := by
  intro n
  induction n with
  | zero =>
    intro x0 x1 x4 x6 x7 x8 F h
    rw [fX10_unrank_125.eq_1] at h
    cases h
  | succ n ih =>
    intro x0 x1 x4 x6 x7 x8 F h
    rw [fX10_unrank_125.eq_2] at h
    refine wp_iload X dX10_unrank_125 4 rfl ?_
    refine wp_aload_n X dX10_unrank_127 0 rfl ?_
    refine wp_getR X (T := TX10) (N := 20) (ci := 9) (k := 8) rfl (by decide) (by decide) inBX10 kw820 dX10_unrank_128 h (fun v128 h => ?_)
    refine wp_bipush X (v := 25) dX10_unrank_131 (by decide) ?_
    refine wp_iload X dX10_unrank_133 2 rfl ?_
    refine wp_iload X dX10_unrank_135 5 rfl ?_
    refine wp_isub X dX10_unrank_137 ?_
    refine wp_imul X dX10_unrank_138 ?_
    refine wp_iload X dX10_unrank_139 5 rfl ?_
    refine wp_iadd X dX10_unrank_141 ?_
    refine wp_iaload X dX10_unrank_142 h (fun v142 h => ?_)
    refine wp_icmp_lt X (tgt := 173) dX10_unrank_143 (by decide) h (fun h => ?_) (fun h => ?_)
    · exact hK173 _ _ _ _ _ _ _ h
    · refine wp_iload X dX10_unrank_146 4 rfl ?_
      refine wp_aload_n X dX10_unrank_148 0 rfl ?_
      refine wp_getR X (T := TX10) (N := 20) (ci := 9) (k := 8) rfl (by decide) (by decide) inBX10 kw820 dX10_unrank_149 h (fun v149 h => ?_)
      refine wp_bipush X (v := 25) dX10_unrank_152 (by decide) ?_
      refine wp_iload X dX10_unrank_154 2 rfl ?_
      refine wp_iload X dX10_unrank_156 5 rfl ?_
      refine wp_isub X dX10_unrank_158 ?_
      refine wp_imul X dX10_unrank_159 ?_
      refine wp_iload X dX10_unrank_160 5 rfl ?_
      refine wp_iadd X dX10_unrank_162 ?_
      refine wp_iaload X dX10_unrank_163 h (fun v163 h => ?_)
      refine wp_isub X dX10_unrank_164 ?_
      refine wp_istore X (lv' := [(0, .ref x0), (1, .int x1), (4, .int x4), (6, .int x6), (7, .int (x7 - v163)), (8, .int x8)]) dX10_unrank_165 (by decide) [1, 2, 3, 4, 0, 5] rfl ?_
      refine wp_iinc X (v := x8 + (-1)) (lv' := [(0, .ref x0), (1, .int x1), (4, .int x4), (6, .int x6), (7, .int (x7 - v163)), (8, .int (x8 + (-1)))]) dX10_unrank_167 (by decide) 5 rfl rfl [1, 2, 3, 4, 5, 0] rfl ?_
      refine wp_goto X (tgt := 125) dX10_unrank_170 (by decide) ?_
      exact ih _ _ _ _ _ _ _ h
def fX10_unrank_123 (K97 : Nat → Int32 → Int32 → Int32 → Int32 → Int32 → Mem → Option (Mem)) (K199 : Nat → Int32 → Mem → Option (Mem)) (x0 : Nat) (x1 : Int32) (x4 : Int32) (x6 : Int32) (x7 : Int32) (s0 : Int32) (F : Mem) : Option (Mem) := fX10_unrank_125  (fun (x0 : Nat) (x1 : Int32) (x4 : Int32) (x6 : Int32) (x7 : Int32) (x8 : Int32) (F : Mem) => (gfR F x0 9 9).bind fun v174 => (wrI F v174 x6 x8).bind fun F181 => K97 x0 x1 (x4 - x8) x8 (x6 + 1) x7 F181) FU x0 x1 x4 x6 x7 s0 F
set_option maxRecDepth 100000 in
set_option maxHeartbeats 4000000 in
theorem tX10_unrank_123 {l : Launch} {D : va_G} {cy : Nat → ClassId} {C : Cx} {res : Mem} (X : Fx C cX10_unrank RX10 none rmX10_unrank 9) (hcd : CD C l D cy) (Qr : RV C 0 0 res) {K97 : Nat → Int32 → Int32 → Int32 → Int32 → Int32 → Mem → Option (Mem)} {K199 : Nat → Int32 → Mem → Option (Mem)} (hK97 : ∀ (x0 : Nat) (x1 : Int32) (x4 : Int32) (x5 : Int32) (x6 : Int32) (x7 : Int32) (F : Mem), K97 x0 x1 x4 x5 x6 x7 F = some res → Wp C 0 0 97 [(0, .ref x0), (1, .int x1), (4, .int x4), (5, .int x5), (6, .int x6), (7, .int x7)] [] F) (hK199 : ∀ (x0 : Nat) (x1 : Int32) (F : Mem), K199 x0 x1 F = some res → Wp C 0 0 199 [(0, .ref x0), (1, .int x1)] [] F) (x0 : Nat) (x1 : Int32) (x4 : Int32) (x6 : Int32) (x7 : Int32) (s0 : Int32) (F : Mem) (h : fX10_unrank_123 K97 K199 x0 x1 x4 x6 x7 s0 F = some res) : Wp C 0 0 123 [(0, .ref x0), (1, .int x1), (4, .int x4), (6, .int x6), (7, .int x7)] [.int s0] F := by
  unfold fX10_unrank_123 at h
  refine wp_istore X (lv' := [(0, .ref x0), (1, .int x1), (4, .int x4), (6, .int x6), (7, .int x7), (8, .int s0)]) dX10_unrank_123 (by decide) [1, 2, 3, 4, 5, 0] rfl ?_
  refine tX10_unrank_125 X hcd Qr  ?_ FU _ _ _ _ _ _ _ h
  · intro x0 x1 x4 x6 x7 x8 F h
    refine wp_aload_n X dX10_unrank_173 0 rfl ?_
    refine wp_getR X (T := TX10) (N := 20) (ci := 9) (k := 9) rfl (by decide) (by decide) inBX10 kw821 dX10_unrank_174 h (fun v174 h => ?_)
    refine wp_iload X dX10_unrank_177 3 rfl ?_
    refine wp_iload X dX10_unrank_179 5 rfl ?_
    refine wp_iastore X dX10_unrank_181 h (fun F181 h => ?_)
    refine wp_iinc X (v := x6 + 1) (lv' := [(0, .ref x0), (1, .int x1), (4, .int x4), (6, .int (x6 + 1)), (7, .int x7), (8, .int x8)]) dX10_unrank_182 (by decide) 3 rfl rfl [1, 2, 3, 0, 4, 5] rfl ?_
    refine wp_iload X dX10_unrank_185 2 rfl ?_
    refine wp_iload X dX10_unrank_187 5 rfl ?_
    refine wp_isub X dX10_unrank_189 ?_
    refine wp_istore X (lv' := [(0, .ref x0), (1, .int x1), (4, .int (x4 - x8)), (6, .int (x6 + 1)), (7, .int x7), (8, .int x8)]) dX10_unrank_190 (by decide) [1, 2, 0, 3, 4, 5] rfl ?_
    refine wp_iload X dX10_unrank_192 5 rfl ?_
    refine wp_istore X (lv' := [(0, .ref x0), (1, .int x1), (4, .int (x4 - x8)), (5, .int x8), (6, .int (x6 + 1)), (7, .int x7)]) dX10_unrank_194 (by decide) [1, 2, 3, 0, 4, 5] rfl ?_
    refine wp_goto X (tgt := 97) dX10_unrank_196 (by decide) ?_
    exact hK97 _ _ _ _ _ _ _ h
def fX10_unrank_97 (K199 : Nat → Int32 → Mem → Option (Mem)) : Nat → Nat → Int32 → Int32 → Int32 → Int32 → Int32 → Mem → Option (Mem)
  | 0, _, _, _, _, _, _, _ => none
  | n + 1, x0, x1, x4, x5, x6, x7, F => if x4 ≤ 0 then (K199 x0 x1 F) else (if 9 ≤ x6 then (K199 x0 x1 F) else (if x4 ≤ x5 then (fX10_unrank_123  (fX10_unrank_97  K199 n) K199 x0 x1 x4 x6 x7 x4 F) else (fX10_unrank_123  (fX10_unrank_97  K199 n) K199 x0 x1 x4 x6 x7 x5 F)))
set_option maxRecDepth 100000 in
set_option maxHeartbeats 4000000 in
theorem tX10_unrank_97 {l : Launch} {D : va_G} {cy : Nat → ClassId} {C : Cx} {res : Mem} (X : Fx C cX10_unrank RX10 none rmX10_unrank 9) (hcd : CD C l D cy) (Qr : RV C 0 0 res) {K199 : Nat → Int32 → Mem → Option (Mem)} (hK199 : ∀ (x0 : Nat) (x1 : Int32) (F : Mem), K199 x0 x1 F = some res → Wp C 0 0 199 [(0, .ref x0), (1, .int x1)] [] F) : ∀ (n : Nat) (x0 : Nat) (x1 : Int32) (x4 : Int32) (x5 : Int32) (x6 : Int32) (x7 : Int32) (F : Mem), fX10_unrank_97 K199 n x0 x1 x4 x5 x6 x7 F = some res → Wp C 0 0 97 [(0, .ref x0), (1, .int x1), (4, .int x4), (5, .int x5), (6, .int x6), (7, .int x7)] [] F := by
  intro n
  induction n with
  | zero =>
    intro x0 x1 x4 x5 x6 x7 F h
    rw [fX10_unrank_97.eq_1] at h
    cases h
  | succ n ih =>
    intro x0 x1 x4 x5 x6 x7 F h
    rw [fX10_unrank_97.eq_2] at h
    refine wp_iload X dX10_unrank_97 2 rfl ?_
    refine wp_if_le X (tgt := 199) dX10_unrank_99 (by decide) h (fun h => ?_) (fun h => ?_)
    · refine wp_sub (lv' := [(0, .ref x0), (1, .int x1)]) [0, 1] rfl ?_
      exact hK199 _ _ _ h
    · refine wp_iload X dX10_unrank_102 4 rfl ?_
      refine wp_bipush X (v := 9) dX10_unrank_104 (by decide) ?_
      refine wp_icmp_ge X (tgt := 199) dX10_unrank_106 (by decide) h (fun h => ?_) (fun h => ?_)
      · refine wp_sub (lv' := [(0, .ref x0), (1, .int x1)]) [0, 1] rfl ?_
        exact hK199 _ _ _ h
      · refine wp_iload X dX10_unrank_109 3 rfl ?_
        refine wp_iload X dX10_unrank_111 2 rfl ?_
        refine wp_icmp_ge X (tgt := 121) dX10_unrank_113 (by decide) h (fun h => ?_) (fun h => ?_)
        · refine wp_iload X dX10_unrank_121 2 rfl ?_
          refine wp_sub (lv' := [(0, .ref x0), (1, .int x1), (4, .int x4), (6, .int x6), (7, .int x7)]) [0, 1, 2, 4, 5] rfl ?_
          exact tX10_unrank_123 X hcd Qr  ih hK199 _ _ _ _ _ _ _ h
        · refine wp_iload X dX10_unrank_116 3 rfl ?_
          refine wp_goto X (tgt := 123) dX10_unrank_118 (by decide) ?_
          refine wp_sub (lv' := [(0, .ref x0), (1, .int x1), (4, .int x4), (6, .int x6), (7, .int x7)]) [0, 1, 2, 4, 5] rfl ?_
          exact tX10_unrank_123 X hcd Qr  ih hK199 _ _ _ _ _ _ _ h
def fX10_unrank_218  : Nat → Nat → Int32 → Int32 → Mem → Option (Mem)
  | 0, _, _, _, _ => none
  | n + 1, x0, x1, x8, F => if 8 ≤ x8 then (some F) else ((gfR F x0 9 1).bind fun v226 => (gfR F x0 9 9).bind fun v237 => (rdI F 0 v237 x8).bind fun v242 => (wrI F v226 ((8 * x1) + x8) v242).bind fun F243 => (fX10_unrank_218   n) x0 x1 (x8 + 1) F243)
set_option maxRecDepth 100000 in
set_option maxHeartbeats 4000000 in
theorem tX10_unrank_218 {l : Launch} {D : va_G} {cy : Nat → ClassId} {C : Cx} {res : Mem} (X : Fx C cX10_unrank RX10 none rmX10_unrank 9) (hcd : CD C l D cy) (Qr : RV C 0 0 res)   : ∀ (n : Nat) (x0 : Nat) (x1 : Int32) (x8 : Int32) (F : Mem), fX10_unrank_218  n x0 x1 x8 F = some res → Wp C 0 0 218 [(0, .ref x0), (1, .int x1), (8, .int x8)] [] F := by
  intro n
  induction n with
  | zero =>
    intro x0 x1 x8 F h
    rw [fX10_unrank_218.eq_1] at h
    cases h
  | succ n ih =>
    intro x0 x1 x8 F h
    rw [fX10_unrank_218.eq_2] at h
    refine wp_iload X dX10_unrank_218 2 rfl ?_
    refine wp_bipush X (v := 8) dX10_unrank_220 (by decide) ?_
    refine wp_icmp_ge X (tgt := 250) dX10_unrank_222 (by decide) h (fun h => ?_) (fun h => ?_)
    · exact wp_return X Qr rfl dX10_unrank_250 h
    · refine wp_aload_n X dX10_unrank_225 0 rfl ?_
      refine wp_getR X (T := TX10) (N := 20) (ci := 9) (k := 1) rfl (by decide) (by decide) inBX10 kw813 dX10_unrank_226 h (fun v226 h => ?_)
      refine wp_bipush X (v := 8) dX10_unrank_229 (by decide) ?_
      refine wp_iload_n X dX10_unrank_231 1 rfl ?_
      refine wp_imul X dX10_unrank_232 ?_
      refine wp_iload X dX10_unrank_233 2 rfl ?_
      refine wp_iadd X dX10_unrank_235 ?_
      refine wp_aload_n X dX10_unrank_236 0 rfl ?_
      refine wp_getR X (T := TX10) (N := 20) (ci := 9) (k := 9) rfl (by decide) (by decide) inBX10 kw821 dX10_unrank_237 h (fun v237 h => ?_)
      refine wp_iload X dX10_unrank_240 2 rfl ?_
      refine wp_iaload X dX10_unrank_242 h (fun v242 h => ?_)
      refine wp_iastore X dX10_unrank_243 h (fun F243 h => ?_)
      refine wp_iinc X (v := x8 + 1) (lv' := [(0, .ref x0), (1, .int x1), (8, .int (x8 + 1))]) dX10_unrank_244 (by decide) 2 rfl rfl [1, 2, 0] rfl ?_
      refine wp_goto X (tgt := 218) dX10_unrank_247 (by decide) ?_
      exact ih _ _ _ _ h
def fX10_unrank_199  (x0 : Nat) (x1 : Int32) (F : Mem) : Option (Mem) := (gfR F x0 9 9).bind fun v200 => (rdI F 0 v200 8).bind fun v205 => if v205 ≤ 0 then (fX10_unrank_218   FU x0 x1 0 F) else ((pf F x0 9 0 (.int 4)).bind fun F211 => some F211)
set_option maxRecDepth 100000 in
set_option maxHeartbeats 4000000 in
theorem tX10_unrank_199 {l : Launch} {D : va_G} {cy : Nat → ClassId} {C : Cx} {res : Mem} (X : Fx C cX10_unrank RX10 none rmX10_unrank 9) (hcd : CD C l D cy) (Qr : RV C 0 0 res)   (x0 : Nat) (x1 : Int32) (F : Mem) (h : fX10_unrank_199  x0 x1 F = some res) : Wp C 0 0 199 [(0, .ref x0), (1, .int x1)] [] F := by
  unfold fX10_unrank_199 at h
  refine wp_aload_n X dX10_unrank_199 0 rfl ?_
  refine wp_getR X (T := TX10) (N := 20) (ci := 9) (k := 9) rfl (by decide) (by decide) inBX10 kw821 dX10_unrank_200 h (fun v200 h => ?_)
  refine wp_bipush X (v := 8) dX10_unrank_203 (by decide) ?_
  refine wp_iaload X dX10_unrank_205 h (fun v205 h => ?_)
  refine wp_if_le X (tgt := 215) dX10_unrank_206 (by decide) h (fun h => ?_) (fun h => ?_)
  · refine wp_iconst X (v := 0) dX10_unrank_215 (by decide) ?_
    refine wp_istore X (lv' := [(0, .ref x0), (1, .int x1), (8, .int 0)]) dX10_unrank_216 (by decide) [1, 2, 0] rfl ?_
    refine tX10_unrank_218 X hcd Qr   FU _ _ _ _ h
  · refine wp_aload_n X dX10_unrank_209 0 rfl ?_
    refine wp_iconst X (v := 4) dX10_unrank_210 (by decide) ?_
    refine wp_put X (T := TX10) (N := 20) (ci := 9) (k := 0) tyX10 rfl (by decide) (by decide) inBX10 kw812 tyX10_ok nmX10 rfl rfl (vp_nar_int _) rfl dX10_unrank_211 h (fun F211 h => ?_)
    exact wp_return X Qr rfl dX10_unrank_214 h
def fX10_unrank_50  (x0 : Nat) (x1 : Int32) (x2 : Int32) (x3 : Int32) (s0 : Nat) (s1 : Int32) (F : Mem) : Option (Mem) := (pf F s0 9 0 (.int s1)).bind fun F50 => (gfI F50 x0 9 0).bind fun v54 => if v54 ≤ 0 then (fX10_unrank_76  (fun (x0 : Nat) (x1 : Int32) (x4 : Int32) (x5 : Int32) (x6 : Int32) (x7 : Int32) (F : Mem) => fX10_unrank_97  (fun (x0 : Nat) (x1 : Int32) (F : Mem) => fX10_unrank_199   x0 x1 F) FU x0 x1 x4 x5 x6 x7 F) FU x0 x1 x2 x2 0 x3 0 F50) else (some F50)
set_option maxRecDepth 100000 in
set_option maxHeartbeats 4000000 in
theorem tX10_unrank_50 {l : Launch} {D : va_G} {cy : Nat → ClassId} {C : Cx} {res : Mem} (X : Fx C cX10_unrank RX10 none rmX10_unrank 9) (hcd : CD C l D cy) (Qr : RV C 0 0 res)   (x0 : Nat) (x1 : Int32) (x2 : Int32) (x3 : Int32) (s0 : Nat) (s1 : Int32) (F : Mem) (h : fX10_unrank_50  x0 x1 x2 x3 s0 s1 F = some res) : Wp C 0 0 50 [(0, .ref x0), (1, .int x1), (2, .int x2), (3, .int x3)] [.int s1, .ref s0] F := by
  unfold fX10_unrank_50 at h
  refine wp_put X (T := TX10) (N := 20) (ci := 9) (k := 0) tyX10 rfl (by decide) (by decide) inBX10 kw812 tyX10_ok nmX10 rfl rfl (vp_nar_int _) rfl dX10_unrank_50 h (fun F50 h => ?_)
  refine wp_aload_n X dX10_unrank_53 0 rfl ?_
  refine wp_getI X (T := TX10) (N := 20) (ci := 9) (k := 0) rfl (by decide) (by decide) inBX10 kw812 dX10_unrank_54 h (fun v54 h => ?_)
  refine wp_if_le X (tgt := 61) dX10_unrank_57 (by decide) h (fun h => ?_) (fun h => ?_)
  · refine wp_iload_n X dX10_unrank_61 2 rfl ?_
    refine wp_istore X (lv' := [(0, .ref x0), (1, .int x1), (2, .int x2), (3, .int x3), (4, .int x2)]) dX10_unrank_62 (by decide) [1, 2, 3, 4, 0] rfl ?_
    refine wp_iload_n X dX10_unrank_64 2 rfl ?_
    refine wp_istore X (lv' := [(0, .ref x0), (1, .int x1), (3, .int x3), (4, .int x2), (5, .int x2)]) dX10_unrank_65 (by decide) [1, 2, 4, 5, 0] rfl ?_
    refine wp_iconst X (v := 0) dX10_unrank_67 (by decide) ?_
    refine wp_istore X (lv' := [(0, .ref x0), (1, .int x1), (3, .int x3), (4, .int x2), (5, .int x2), (6, .int 0)]) dX10_unrank_68 (by decide) [1, 2, 3, 4, 5, 0] rfl ?_
    refine wp_iload_n X dX10_unrank_70 2 rfl ?_
    refine wp_istore X (lv' := [(0, .ref x0), (1, .int x1), (4, .int x2), (5, .int x2), (6, .int 0), (7, .int x3)]) dX10_unrank_71 (by decide) [1, 2, 4, 5, 6, 0] rfl ?_
    refine wp_iconst X (v := 0) dX10_unrank_73 (by decide) ?_
    refine wp_istore X (lv' := [(0, .ref x0), (1, .int x1), (4, .int x2), (5, .int x2), (6, .int 0), (7, .int x3), (8, .int 0)]) dX10_unrank_74 (by decide) [1, 2, 3, 4, 5, 6, 0] rfl ?_
    refine tX10_unrank_76 X hcd Qr  ?_ FU _ _ _ _ _ _ _ _ h
    · intro x0 x1 x4 x5 x6 x7 F h
      refine tX10_unrank_97 X hcd Qr  ?_ FU _ _ _ _ _ _ _ h
      · intro x0 x1 F h
        exact tX10_unrank_199 X hcd Qr   _ _ _ h
  · exact wp_return X Qr rfl dX10_unrank_60 h
def mX10_unrank (F : Mem) (x0 : Nat) (x1 : Int32) (x2 : Int32) (x3 : Int32) : Option (Mem) := (mX10_isSlot F x1).bind fun v2 => if v2.1 = 0 then (fX10_unrank_50   x0 x1 x2 x3 x0 1 v2.2) else (if x2 < 0 then (fX10_unrank_50   x0 x1 x2 x3 x0 2 v2.2) else (if x2 ≤ 24 then (if x3 < 0 then (fX10_unrank_50   x0 x1 x2 x3 x0 3 v2.2) else ((gfR v2.2 x0 9 8).bind fun v32 => (rdI v2.2 0 v32 ((25 * x2) + x2)).bind fun v41 => if x3 < v41 then (fX10_unrank_50   x0 x1 x2 x3 x0 0 v2.2) else (fX10_unrank_50   x0 x1 x2 x3 x0 3 v2.2))) else (fX10_unrank_50   x0 x1 x2 x3 x0 2 v2.2)))
set_option maxRecDepth 100000 in
set_option maxHeartbeats 4000000 in
theorem cX10_unrank_ok {l : Launch} {D : va_G} {cy : Nat → ClassId} {F : Mem} {x0 : Nat} {x1 : Int32} {x2 : Int32} {x3 : Int32} {res : Mem} (h : mX10_unrank F x0 x1 x2 x3 = some res) : MV l yX10_unrank cX10_unrank 9 none rmX10_unrank D cy F [.ref x0, .int x1, .int x2, .int x3] res := by
  refine mv_of (by decide) (Nat.le_of_ble_eq_true rfl) [(0, .ref x0), (1, .int x1), (2, .int x2), (3, .int x3)] rfl (fun C X hcd Qr => ?_)
  unfold mX10_unrank at h
  refine wp_aload_n X dX10_unrank_0 0 rfl ?_
  refine wp_iload_n X dX10_unrank_1 1 rfl ?_
  refine wp_callSI X (rm := rmX10_isSlot) (n := 1) [.int x1] hcd (fun q hq => cX10_isSlot_ok hq) kw881 kw882 kw10 kw883 (by decide +kernel) (by decide) (by decide) (cs2 := 0) (sl2 := 0) rfl rfl rfl rfl (Nat.le_of_ble_eq_true rfl) dX10_unrank_2 h (fun v2 h => ?_)
  refine wp_if_ne X (tgt := 12) dX10_unrank_5 (by decide) h (fun h => ?_) (fun h => ?_)
  · refine wp_iload_n X dX10_unrank_12 2 rfl ?_
    refine wp_if_lt X (tgt := 22) dX10_unrank_13 (by decide) h (fun h => ?_) (fun h => ?_)
    · refine wp_iconst X (v := 2) dX10_unrank_22 (by decide) ?_
      refine wp_goto X (tgt := 50) dX10_unrank_23 (by decide) ?_
      exact tX10_unrank_50 X hcd Qr   _ _ _ _ _ _ _ h
    · refine wp_iload_n X dX10_unrank_16 2 rfl ?_
      refine wp_bipush X (v := 24) dX10_unrank_17 (by decide) ?_
      refine wp_icmp_le X (tgt := 26) dX10_unrank_19 (by decide) h (fun h => ?_) (fun h => ?_)
      · refine wp_iload_n X dX10_unrank_26 3 rfl ?_
        refine wp_if_lt X (tgt := 45) dX10_unrank_27 (by decide) h (fun h => ?_) (fun h => ?_)
        · refine wp_iconst X (v := 3) dX10_unrank_45 (by decide) ?_
          refine wp_goto X (tgt := 50) dX10_unrank_46 (by decide) ?_
          exact tX10_unrank_50 X hcd Qr   _ _ _ _ _ _ _ h
        · refine wp_iload_n X dX10_unrank_30 3 rfl ?_
          refine wp_aload_n X dX10_unrank_31 0 rfl ?_
          refine wp_getR X (T := TX10) (N := 20) (ci := 9) (k := 8) rfl (by decide) (by decide) inBX10 kw820 dX10_unrank_32 h (fun v32 h => ?_)
          refine wp_bipush X (v := 25) dX10_unrank_35 (by decide) ?_
          refine wp_iload_n X dX10_unrank_37 2 rfl ?_
          refine wp_imul X dX10_unrank_38 ?_
          refine wp_iload_n X dX10_unrank_39 2 rfl ?_
          refine wp_iadd X dX10_unrank_40 ?_
          refine wp_iaload X dX10_unrank_41 h (fun v41 h => ?_)
          refine wp_icmp_lt X (tgt := 49) dX10_unrank_42 (by decide) h (fun h => ?_) (fun h => ?_)
          · refine wp_iconst X (v := 0) dX10_unrank_49 (by decide) ?_
            exact tX10_unrank_50 X hcd Qr   _ _ _ _ _ _ _ h
          · refine wp_iconst X (v := 3) dX10_unrank_45 (by decide) ?_
            refine wp_goto X (tgt := 50) dX10_unrank_46 (by decide) ?_
            exact tX10_unrank_50 X hcd Qr   _ _ _ _ _ _ _ h
      · refine wp_iconst X (v := 2) dX10_unrank_22 (by decide) ?_
        refine wp_goto X (tgt := 50) dX10_unrank_23 (by decide) ?_
        exact tX10_unrank_50 X hcd Qr   _ _ _ _ _ _ _ h
  · refine wp_iconst X (v := 1) dX10_unrank_8 (by decide) ?_
    refine wp_goto X (tgt := 50) dX10_unrank_9 (by decide) ?_
    exact tX10_unrank_50 X hcd Qr   _ _ _ _ _ _ _ h
/-! TableauBenchModel.letter(II)Z -/
def rmX10_letter : Room := { frames := 1, cells := 0, slots := 0, locals := 20 }
def fX10_letter_13  (x0 : Nat) (x1 : Int32) (x2 : Int32) (s0 : Nat) (s1 : Int32) (F : Mem) : Option (Int32 × Mem) := (pf F s0 9 0 (.int s1)).bind fun F13 => (gfI F13 x0 9 0).bind fun v17 => if 0 < v17 then (some (0, F13)) else (if x2 < 1 then (some (0, F13)) else (if 16 < x2 then (some (0, F13)) else ((gfR F13 x0 9 3).bind fun v35 => (rdI F13 0 v35 x1).bind fun v39 => if v39 = 16 then (some (0, F13)) else ((gfR F13 x0 9 2).bind fun v48 => (gfR F13 x0 9 3).bind fun v56 => (rdI F13 0 v56 x1).bind fun v60 => (wrI F13 v48 ((16 * x1) + v60) x2).bind fun F63 => (gfR F63 x0 9 3).bind fun v65 => (rdI F63 0 v65 x1).bind fun v70 => (wrI F63 v65 x1 (v70 + 1)).bind fun F73 => some (1, F73)))))
set_option maxRecDepth 100000 in
set_option maxHeartbeats 4000000 in
theorem tX10_letter_13 {l : Launch} {D : va_G} {cy : Nat → ClassId} {C : Cx} {res : Int32 × Mem} (X : Fx C cX10_letter RX10 (some .boolean) rmX10_letter 3) (hcd : CD C l D cy) (Qr : RI C 0 0 res)   (x0 : Nat) (x1 : Int32) (x2 : Int32) (s0 : Nat) (s1 : Int32) (F : Mem) (h : fX10_letter_13  x0 x1 x2 s0 s1 F = some res) : Wp C 0 0 13 [(0, .ref x0), (1, .int x1), (2, .int x2)] [.int s1, .ref s0] F := by
  unfold fX10_letter_13 at h
  refine wp_put X (T := TX10) (N := 20) (ci := 9) (k := 0) tyX10 rfl (by decide) (by decide) inBX10 kw812 tyX10_ok nmX10 rfl rfl (vp_nar_int _) rfl dX10_letter_13 h (fun F13 h => ?_)
  refine wp_aload_n X dX10_letter_16 0 rfl ?_
  refine wp_getI X (T := TX10) (N := 20) (ci := 9) (k := 0) rfl (by decide) (by decide) inBX10 kw812 dX10_letter_17 h (fun v17 h => ?_)
  refine wp_if_gt X (tgt := 45) dX10_letter_20 (by decide) h (fun h => ?_) (fun h => ?_)
  · refine wp_iconst X (v := 0) dX10_letter_45 (by decide) ?_
    exact wp_ireturn X Qr rfl rfl dX10_letter_46 h
  · refine wp_iload_n X dX10_letter_23 2 rfl ?_
    refine wp_iconst X (v := 1) dX10_letter_24 (by decide) ?_
    refine wp_icmp_lt X (tgt := 45) dX10_letter_25 (by decide) h (fun h => ?_) (fun h => ?_)
    · refine wp_iconst X (v := 0) dX10_letter_45 (by decide) ?_
      exact wp_ireturn X Qr rfl rfl dX10_letter_46 h
    · refine wp_iload_n X dX10_letter_28 2 rfl ?_
      refine wp_bipush X (v := 16) dX10_letter_29 (by decide) ?_
      refine wp_icmp_gt X (tgt := 45) dX10_letter_31 (by decide) h (fun h => ?_) (fun h => ?_)
      · refine wp_iconst X (v := 0) dX10_letter_45 (by decide) ?_
        exact wp_ireturn X Qr rfl rfl dX10_letter_46 h
      · refine wp_aload_n X dX10_letter_34 0 rfl ?_
        refine wp_getR X (T := TX10) (N := 20) (ci := 9) (k := 3) rfl (by decide) (by decide) inBX10 kw815 dX10_letter_35 h (fun v35 h => ?_)
        refine wp_iload_n X dX10_letter_38 1 rfl ?_
        refine wp_iaload X dX10_letter_39 h (fun v39 h => ?_)
        refine wp_bipush X (v := 16) dX10_letter_40 (by decide) ?_
        refine wp_icmp_ne X (tgt := 47) dX10_letter_42 (by decide) h (fun h => ?_) (fun h => ?_)
        · refine wp_aload_n X dX10_letter_47 0 rfl ?_
          refine wp_getR X (T := TX10) (N := 20) (ci := 9) (k := 2) rfl (by decide) (by decide) inBX10 kw814 dX10_letter_48 h (fun v48 h => ?_)
          refine wp_bipush X (v := 16) dX10_letter_51 (by decide) ?_
          refine wp_iload_n X dX10_letter_53 1 rfl ?_
          refine wp_imul X dX10_letter_54 ?_
          refine wp_aload_n X dX10_letter_55 0 rfl ?_
          refine wp_getR X (T := TX10) (N := 20) (ci := 9) (k := 3) rfl (by decide) (by decide) inBX10 kw815 dX10_letter_56 h (fun v56 h => ?_)
          refine wp_iload_n X dX10_letter_59 1 rfl ?_
          refine wp_iaload X dX10_letter_60 h (fun v60 h => ?_)
          refine wp_iadd X dX10_letter_61 ?_
          refine wp_iload_n X dX10_letter_62 2 rfl ?_
          refine wp_iastore X dX10_letter_63 h (fun F63 h => ?_)
          refine wp_aload_n X dX10_letter_64 0 rfl ?_
          refine wp_getR X (T := TX10) (N := 20) (ci := 9) (k := 3) rfl (by decide) (by decide) inBX10 kw815 dX10_letter_65 h (fun v65 h => ?_)
          refine wp_iload_n X dX10_letter_68 1 rfl ?_
          refine wp_dup2 X dX10_letter_69 rfl rfl ?_
          refine wp_iaload X dX10_letter_70 h (fun v70 h => ?_)
          refine wp_iconst X (v := 1) dX10_letter_71 (by decide) ?_
          refine wp_iadd X dX10_letter_72 ?_
          refine wp_iastore X dX10_letter_73 h (fun F73 h => ?_)
          refine wp_iconst X (v := 1) dX10_letter_74 (by decide) ?_
          exact wp_ireturn X Qr rfl rfl dX10_letter_75 h
        · refine wp_iconst X (v := 0) dX10_letter_45 (by decide) ?_
          exact wp_ireturn X Qr rfl rfl dX10_letter_46 h
def mX10_letter (F : Mem) (x0 : Nat) (x1 : Int32) (x2 : Int32) : Option (Int32 × Mem) := (mX10_isWord F x1).bind fun v2 => if v2.1 = 0 then (fX10_letter_13   x0 x1 x2 x0 1 v2.2) else (fX10_letter_13   x0 x1 x2 x0 0 v2.2)
set_option maxRecDepth 100000 in
set_option maxHeartbeats 4000000 in
theorem cX10_letter_ok {l : Launch} {D : va_G} {cy : Nat → ClassId} {F : Mem} {x0 : Nat} {x1 : Int32} {x2 : Int32} {res : Int32 × Mem} (h : mX10_letter F x0 x1 x2 = some res) : MI l yX10_letter cX10_letter 3 (some .boolean) rmX10_letter D cy F [.ref x0, .int x1, .int x2] res := by
  refine mi_of (by decide) (Nat.le_of_ble_eq_true rfl) [(0, .ref x0), (1, .int x1), (2, .int x2)] rfl (fun C X hcd Qr => ?_)
  unfold mX10_letter at h
  refine wp_aload_n X dX10_letter_0 0 rfl ?_
  refine wp_iload_n X dX10_letter_1 1 rfl ?_
  refine wp_callSI X (rm := rmX10_isWord) (n := 1) [.int x1] hcd (fun q hq => cX10_isWord_ok hq) kw913 kw914 kw10 kw915 (by decide +kernel) (by decide) (by decide) (cs2 := 0) (sl2 := 0) rfl rfl rfl rfl (Nat.le_of_ble_eq_true rfl) dX10_letter_2 h (fun v2 h => ?_)
  refine wp_if_eq X (tgt := 12) dX10_letter_5 (by decide) h (fun h => ?_) (fun h => ?_)
  · refine wp_iconst X (v := 1) dX10_letter_12 (by decide) ?_
    exact tX10_letter_13 X hcd Qr   _ _ _ _ _ _ h
  · refine wp_iconst X (v := 0) dX10_letter_8 (by decide) ?_
    refine wp_goto X (tgt := 13) dX10_letter_9 (by decide) ?_
    exact tX10_letter_13 X hcd Qr   _ _ _ _ _ _ h
/-! TableauBenchModel.cut(II)Z -/
def rmX10_cut : Room := { frames := 1, cells := 0, slots := 0, locals := 20 }
def fX10_cut_13  (x0 : Nat) (x1 : Int32) (x2 : Int32) (s0 : Nat) (s1 : Int32) (F : Mem) : Option (Int32 × Mem) := (pf F s0 9 0 (.int s1)).bind fun F13 => (gfI F13 x0 9 0).bind fun v17 => if 0 < v17 then (some (0, F13)) else (if x2 < 0 then (some (0, F13)) else ((gfR F13 x0 9 3).bind fun v29 => (rdI F13 0 v29 x1).bind fun v33 => if x2 ≤ v33 then ((gfR F13 x0 9 3).bind fun v40 => (wrI F13 v40 x1 x2).bind fun F45 => some (1, F45)) else (some (0, F13))))
set_option maxRecDepth 100000 in
set_option maxHeartbeats 4000000 in
theorem tX10_cut_13 {l : Launch} {D : va_G} {cy : Nat → ClassId} {C : Cx} {res : Int32 × Mem} (X : Fx C cX10_cut RX10 (some .boolean) rmX10_cut 3) (hcd : CD C l D cy) (Qr : RI C 0 0 res)   (x0 : Nat) (x1 : Int32) (x2 : Int32) (s0 : Nat) (s1 : Int32) (F : Mem) (h : fX10_cut_13  x0 x1 x2 s0 s1 F = some res) : Wp C 0 0 13 [(0, .ref x0), (1, .int x1), (2, .int x2)] [.int s1, .ref s0] F := by
  unfold fX10_cut_13 at h
  refine wp_put X (T := TX10) (N := 20) (ci := 9) (k := 0) tyX10 rfl (by decide) (by decide) inBX10 kw812 tyX10_ok nmX10 rfl rfl (vp_nar_int _) rfl dX10_cut_13 h (fun F13 h => ?_)
  refine wp_aload_n X dX10_cut_16 0 rfl ?_
  refine wp_getI X (T := TX10) (N := 20) (ci := 9) (k := 0) rfl (by decide) (by decide) inBX10 kw812 dX10_cut_17 h (fun v17 h => ?_)
  refine wp_if_gt X (tgt := 37) dX10_cut_20 (by decide) h (fun h => ?_) (fun h => ?_)
  · refine wp_iconst X (v := 0) dX10_cut_37 (by decide) ?_
    exact wp_ireturn X Qr rfl rfl dX10_cut_38 h
  · refine wp_iload_n X dX10_cut_23 2 rfl ?_
    refine wp_if_lt X (tgt := 37) dX10_cut_24 (by decide) h (fun h => ?_) (fun h => ?_)
    · refine wp_iconst X (v := 0) dX10_cut_37 (by decide) ?_
      exact wp_ireturn X Qr rfl rfl dX10_cut_38 h
    · refine wp_iload_n X dX10_cut_27 2 rfl ?_
      refine wp_aload_n X dX10_cut_28 0 rfl ?_
      refine wp_getR X (T := TX10) (N := 20) (ci := 9) (k := 3) rfl (by decide) (by decide) inBX10 kw815 dX10_cut_29 h (fun v29 h => ?_)
      refine wp_iload_n X dX10_cut_32 1 rfl ?_
      refine wp_iaload X dX10_cut_33 h (fun v33 h => ?_)
      refine wp_icmp_le X (tgt := 39) dX10_cut_34 (by decide) h (fun h => ?_) (fun h => ?_)
      · refine wp_aload_n X dX10_cut_39 0 rfl ?_
        refine wp_getR X (T := TX10) (N := 20) (ci := 9) (k := 3) rfl (by decide) (by decide) inBX10 kw815 dX10_cut_40 h (fun v40 h => ?_)
        refine wp_iload_n X dX10_cut_43 1 rfl ?_
        refine wp_iload_n X dX10_cut_44 2 rfl ?_
        refine wp_iastore X dX10_cut_45 h (fun F45 h => ?_)
        refine wp_iconst X (v := 1) dX10_cut_46 (by decide) ?_
        exact wp_ireturn X Qr rfl rfl dX10_cut_47 h
      · refine wp_iconst X (v := 0) dX10_cut_37 (by decide) ?_
        exact wp_ireturn X Qr rfl rfl dX10_cut_38 h
def mX10_cut (F : Mem) (x0 : Nat) (x1 : Int32) (x2 : Int32) : Option (Int32 × Mem) := (mX10_isWord F x1).bind fun v2 => if v2.1 = 0 then (fX10_cut_13   x0 x1 x2 x0 1 v2.2) else (fX10_cut_13   x0 x1 x2 x0 0 v2.2)
set_option maxRecDepth 100000 in
set_option maxHeartbeats 4000000 in
theorem cX10_cut_ok {l : Launch} {D : va_G} {cy : Nat → ClassId} {F : Mem} {x0 : Nat} {x1 : Int32} {x2 : Int32} {res : Int32 × Mem} (h : mX10_cut F x0 x1 x2 = some res) : MI l yX10_cut cX10_cut 3 (some .boolean) rmX10_cut D cy F [.ref x0, .int x1, .int x2] res := by
  refine mi_of (by decide) (Nat.le_of_ble_eq_true rfl) [(0, .ref x0), (1, .int x1), (2, .int x2)] rfl (fun C X hcd Qr => ?_)
  unfold mX10_cut at h
  refine wp_aload_n X dX10_cut_0 0 rfl ?_
  refine wp_iload_n X dX10_cut_1 1 rfl ?_
  refine wp_callSI X (rm := rmX10_isWord) (n := 1) [.int x1] hcd (fun q hq => cX10_isWord_ok hq) kw913 kw914 kw10 kw915 (by decide +kernel) (by decide) (by decide) (cs2 := 0) (sl2 := 0) rfl rfl rfl rfl (Nat.le_of_ble_eq_true rfl) dX10_cut_2 h (fun v2 h => ?_)
  refine wp_if_eq X (tgt := 12) dX10_cut_5 (by decide) h (fun h => ?_) (fun h => ?_)
  · refine wp_iconst X (v := 1) dX10_cut_12 (by decide) ?_
    exact tX10_cut_13 X hcd Qr   _ _ _ _ _ _ h
  · refine wp_iconst X (v := 0) dX10_cut_8 (by decide) ?_
    refine wp_goto X (tgt := 13) dX10_cut_9 (by decide) ?_
    exact tX10_cut_13 X hcd Qr   _ _ _ _ _ _ h
/-! TableauBenchModel.length(I)I -/
def rmX10_length : Room := { frames := 1, cells := 0, slots := 0, locals := 20 }
def fX10_length_13  (x0 : Nat) (x1 : Int32) (s0 : Nat) (s1 : Int32) (F : Mem) : Option (Int32 × Mem) := (pf F s0 9 0 (.int s1)).bind fun F13 => (gfI F13 x0 9 0).bind fun v17 => if v17 ≤ 0 then ((gfR F13 x0 9 3).bind fun v28 => (rdI F13 0 v28 x1).bind fun v32 => some (v32, F13)) else (some (0, F13))
set_option maxRecDepth 100000 in
set_option maxHeartbeats 4000000 in
theorem tX10_length_13 {l : Launch} {D : va_G} {cy : Nat → ClassId} {C : Cx} {res : Int32 × Mem} (X : Fx C cX10_length RX10 (some .int) rmX10_length 2) (hcd : CD C l D cy) (Qr : RI C 0 0 res)   (x0 : Nat) (x1 : Int32) (s0 : Nat) (s1 : Int32) (F : Mem) (h : fX10_length_13  x0 x1 s0 s1 F = some res) : Wp C 0 0 13 [(0, .ref x0), (1, .int x1)] [.int s1, .ref s0] F := by
  unfold fX10_length_13 at h
  refine wp_put X (T := TX10) (N := 20) (ci := 9) (k := 0) tyX10 rfl (by decide) (by decide) inBX10 kw812 tyX10_ok nmX10 rfl rfl (vp_nar_int _) rfl dX10_length_13 h (fun F13 h => ?_)
  refine wp_aload_n X dX10_length_16 0 rfl ?_
  refine wp_getI X (T := TX10) (N := 20) (ci := 9) (k := 0) rfl (by decide) (by decide) inBX10 kw812 dX10_length_17 h (fun v17 h => ?_)
  refine wp_if_le X (tgt := 27) dX10_length_20 (by decide) h (fun h => ?_) (fun h => ?_)
  · refine wp_aload_n X dX10_length_27 0 rfl ?_
    refine wp_getR X (T := TX10) (N := 20) (ci := 9) (k := 3) rfl (by decide) (by decide) inBX10 kw815 dX10_length_28 h (fun v28 h => ?_)
    refine wp_iload_n X dX10_length_31 1 rfl ?_
    refine wp_iaload X dX10_length_32 h (fun v32 h => ?_)
    exact wp_ireturn X Qr rfl (vp_nar_int _) dX10_length_33 h
  · refine wp_iconst X (v := 0) dX10_length_23 (by decide) ?_
    refine wp_goto X (tgt := 33) dX10_length_24 (by decide) ?_
    exact wp_ireturn X Qr rfl (vp_nar_int _) dX10_length_33 h
def mX10_length (F : Mem) (x0 : Nat) (x1 : Int32) : Option (Int32 × Mem) := (mX10_isWord F x1).bind fun v2 => if v2.1 = 0 then (fX10_length_13   x0 x1 x0 1 v2.2) else (fX10_length_13   x0 x1 x0 0 v2.2)
set_option maxRecDepth 100000 in
set_option maxHeartbeats 4000000 in
theorem cX10_length_ok {l : Launch} {D : va_G} {cy : Nat → ClassId} {F : Mem} {x0 : Nat} {x1 : Int32} {res : Int32 × Mem} (h : mX10_length F x0 x1 = some res) : MI l yX10_length cX10_length 2 (some .int) rmX10_length D cy F [.ref x0, .int x1] res := by
  refine mi_of (by decide) (Nat.le_of_ble_eq_true rfl) [(0, .ref x0), (1, .int x1)] rfl (fun C X hcd Qr => ?_)
  unfold mX10_length at h
  refine wp_aload_n X dX10_length_0 0 rfl ?_
  refine wp_iload_n X dX10_length_1 1 rfl ?_
  refine wp_callSI X (rm := rmX10_isWord) (n := 1) [.int x1] hcd (fun q hq => cX10_isWord_ok hq) kw913 kw914 kw10 kw915 (by decide +kernel) (by decide) (by decide) (cs2 := 0) (sl2 := 0) rfl rfl rfl rfl (Nat.le_of_ble_eq_true rfl) dX10_length_2 h (fun v2 h => ?_)
  refine wp_if_eq X (tgt := 12) dX10_length_5 (by decide) h (fun h => ?_) (fun h => ?_)
  · refine wp_iconst X (v := 1) dX10_length_12 (by decide) ?_
    exact tX10_length_13 X hcd Qr   _ _ _ _ _ h
  · refine wp_iconst X (v := 0) dX10_length_8 (by decide) ?_
    refine wp_goto X (tgt := 13) dX10_length_9 (by decide) ?_
    exact tX10_length_13 X hcd Qr   _ _ _ _ _ h
/-! TableauBenchModel.at(II)I -/
def rmX10_at : Room := { frames := 1, cells := 0, slots := 0, locals := 20 }
def fX10_at_13  (x0 : Nat) (x1 : Int32) (x2 : Int32) (s0 : Nat) (s1 : Int32) (F : Mem) : Option (Int32 × Mem) := (pf F s0 9 0 (.int s1)).bind fun F13 => (gfI F13 x0 9 0).bind fun v17 => if 0 < v17 then (some (0, F13)) else (if x2 < 0 then (some (0, F13)) else ((gfR F13 x0 9 3).bind fun v29 => (rdI F13 0 v29 x1).bind fun v33 => if x2 < v33 then ((gfR F13 x0 9 2).bind fun v42 => (rdI F13 0 v42 ((16 * x1) + x2)).bind fun v51 => some (v51, F13)) else (some (0, F13))))
set_option maxRecDepth 100000 in
set_option maxHeartbeats 4000000 in
theorem tX10_at_13 {l : Launch} {D : va_G} {cy : Nat → ClassId} {C : Cx} {res : Int32 × Mem} (X : Fx C cX10_at RX10 (some .int) rmX10_at 3) (hcd : CD C l D cy) (Qr : RI C 0 0 res)   (x0 : Nat) (x1 : Int32) (x2 : Int32) (s0 : Nat) (s1 : Int32) (F : Mem) (h : fX10_at_13  x0 x1 x2 s0 s1 F = some res) : Wp C 0 0 13 [(0, .ref x0), (1, .int x1), (2, .int x2)] [.int s1, .ref s0] F := by
  unfold fX10_at_13 at h
  refine wp_put X (T := TX10) (N := 20) (ci := 9) (k := 0) tyX10 rfl (by decide) (by decide) inBX10 kw812 tyX10_ok nmX10 rfl rfl (vp_nar_int _) rfl dX10_at_13 h (fun F13 h => ?_)
  refine wp_aload_n X dX10_at_16 0 rfl ?_
  refine wp_getI X (T := TX10) (N := 20) (ci := 9) (k := 0) rfl (by decide) (by decide) inBX10 kw812 dX10_at_17 h (fun v17 h => ?_)
  refine wp_if_gt X (tgt := 37) dX10_at_20 (by decide) h (fun h => ?_) (fun h => ?_)
  · refine wp_iconst X (v := 0) dX10_at_37 (by decide) ?_
    refine wp_goto X (tgt := 52) dX10_at_38 (by decide) ?_
    exact wp_ireturn X Qr rfl (vp_nar_int _) dX10_at_52 h
  · refine wp_iload_n X dX10_at_23 2 rfl ?_
    refine wp_if_lt X (tgt := 37) dX10_at_24 (by decide) h (fun h => ?_) (fun h => ?_)
    · refine wp_iconst X (v := 0) dX10_at_37 (by decide) ?_
      refine wp_goto X (tgt := 52) dX10_at_38 (by decide) ?_
      exact wp_ireturn X Qr rfl (vp_nar_int _) dX10_at_52 h
    · refine wp_iload_n X dX10_at_27 2 rfl ?_
      refine wp_aload_n X dX10_at_28 0 rfl ?_
      refine wp_getR X (T := TX10) (N := 20) (ci := 9) (k := 3) rfl (by decide) (by decide) inBX10 kw815 dX10_at_29 h (fun v29 h => ?_)
      refine wp_iload_n X dX10_at_32 1 rfl ?_
      refine wp_iaload X dX10_at_33 h (fun v33 h => ?_)
      refine wp_icmp_lt X (tgt := 41) dX10_at_34 (by decide) h (fun h => ?_) (fun h => ?_)
      · refine wp_aload_n X dX10_at_41 0 rfl ?_
        refine wp_getR X (T := TX10) (N := 20) (ci := 9) (k := 2) rfl (by decide) (by decide) inBX10 kw814 dX10_at_42 h (fun v42 h => ?_)
        refine wp_bipush X (v := 16) dX10_at_45 (by decide) ?_
        refine wp_iload_n X dX10_at_47 1 rfl ?_
        refine wp_imul X dX10_at_48 ?_
        refine wp_iload_n X dX10_at_49 2 rfl ?_
        refine wp_iadd X dX10_at_50 ?_
        refine wp_iaload X dX10_at_51 h (fun v51 h => ?_)
        exact wp_ireturn X Qr rfl (vp_nar_int _) dX10_at_52 h
      · refine wp_iconst X (v := 0) dX10_at_37 (by decide) ?_
        refine wp_goto X (tgt := 52) dX10_at_38 (by decide) ?_
        exact wp_ireturn X Qr rfl (vp_nar_int _) dX10_at_52 h
def mX10_at (F : Mem) (x0 : Nat) (x1 : Int32) (x2 : Int32) : Option (Int32 × Mem) := (mX10_isWord F x1).bind fun v2 => if v2.1 = 0 then (fX10_at_13   x0 x1 x2 x0 1 v2.2) else (fX10_at_13   x0 x1 x2 x0 0 v2.2)
set_option maxRecDepth 100000 in
set_option maxHeartbeats 4000000 in
theorem cX10_at_ok {l : Launch} {D : va_G} {cy : Nat → ClassId} {F : Mem} {x0 : Nat} {x1 : Int32} {x2 : Int32} {res : Int32 × Mem} (h : mX10_at F x0 x1 x2 = some res) : MI l yX10_at cX10_at 3 (some .int) rmX10_at D cy F [.ref x0, .int x1, .int x2] res := by
  refine mi_of (by decide) (Nat.le_of_ble_eq_true rfl) [(0, .ref x0), (1, .int x1), (2, .int x2)] rfl (fun C X hcd Qr => ?_)
  unfold mX10_at at h
  refine wp_aload_n X dX10_at_0 0 rfl ?_
  refine wp_iload_n X dX10_at_1 1 rfl ?_
  refine wp_callSI X (rm := rmX10_isWord) (n := 1) [.int x1] hcd (fun q hq => cX10_isWord_ok hq) kw913 kw914 kw10 kw915 (by decide +kernel) (by decide) (by decide) (cs2 := 0) (sl2 := 0) rfl rfl rfl rfl (Nat.le_of_ble_eq_true rfl) dX10_at_2 h (fun v2 h => ?_)
  refine wp_if_eq X (tgt := 12) dX10_at_5 (by decide) h (fun h => ?_) (fun h => ?_)
  · refine wp_iconst X (v := 1) dX10_at_12 (by decide) ?_
    exact tX10_at_13 X hcd Qr   _ _ _ _ _ _ h
  · refine wp_iconst X (v := 0) dX10_at_8 (by decide) ?_
    refine wp_goto X (tgt := 13) dX10_at_9 (by decide) ?_
    exact tX10_at_13 X hcd Qr   _ _ _ _ _ _ h
/-! TableauBenchModel.box(III)I -/
def rmX10_box : Room := { frames := 0, cells := 0, slots := 0, locals := 0 }
def mX10_box (F : Mem) (x0 : Int32) (x1 : Int32) (x2 : Int32) : Option (Int32 × Mem) := some ((((576 * x0) + (24 * x1)) + x2), F)
set_option maxRecDepth 100000 in
set_option maxHeartbeats 4000000 in
theorem cX10_box_ok {l : Launch} {D : va_G} {cy : Nat → ClassId} {F : Mem} {x0 : Int32} {x1 : Int32} {x2 : Int32} {res : Int32 × Mem} (h : mX10_box F x0 x1 x2 = some res) : MI l yX10_box cX10_box 3 (some .int) rmX10_box D cy F [.int x0, .int x1, .int x2] res := by
  refine mi_of (by decide) (Nat.le_of_ble_eq_true rfl) [(0, .int x0), (1, .int x1), (2, .int x2)] rfl (fun C X hcd Qr => ?_)
  unfold mX10_box at h
  refine wp_sipush X (v := 576) dX10_box_0 (by decide) ?_
  refine wp_iload_n X dX10_box_3 0 rfl ?_
  refine wp_imul X dX10_box_4 ?_
  refine wp_bipush X (v := 24) dX10_box_5 (by decide) ?_
  refine wp_iload_n X dX10_box_7 1 rfl ?_
  refine wp_imul X dX10_box_8 ?_
  refine wp_iadd X dX10_box_9 ?_
  refine wp_iload_n X dX10_box_10 2 rfl ?_
  refine wp_iadd X dX10_box_11 ?_
  exact wp_ireturn X Qr rfl (vp_nar_int _) dX10_box_12 h
/-! TableauBenchModel.clear(I)V -/
def rmX10_clear : Room := { frames := 0, cells := 0, slots := 0, locals := 0 }
def fX10_clear_2  : Nat → Nat → Int32 → Int32 → Mem → Option (Mem)
  | 0, _, _, _, _ => none
  | n + 1, x0, x1, x2, F => if 24 ≤ x2 then (some F) else ((gfR F x0 9 5).bind fun v9 => (wrI F v9 ((24 * x1) + x2) 0).bind fun F19 => (fX10_clear_2   n) x0 x1 (x2 + 1) F19)
set_option maxRecDepth 100000 in
set_option maxHeartbeats 4000000 in
theorem tX10_clear_2 {l : Launch} {D : va_G} {cy : Nat → ClassId} {C : Cx} {res : Mem} (X : Fx C cX10_clear RX10 none rmX10_clear 3) (hcd : CD C l D cy) (Qr : RV C 0 0 res)   : ∀ (n : Nat) (x0 : Nat) (x1 : Int32) (x2 : Int32) (F : Mem), fX10_clear_2  n x0 x1 x2 F = some res → Wp C 0 0 2 [(0, .ref x0), (1, .int x1), (2, .int x2)] [] F := by
  intro n
  induction n with
  | zero =>
    intro x0 x1 x2 F h
    rw [fX10_clear_2.eq_1] at h
    cases h
  | succ n ih =>
    intro x0 x1 x2 F h
    rw [fX10_clear_2.eq_2] at h
    refine wp_iload_n X dX10_clear_2 2 rfl ?_
    refine wp_bipush X (v := 24) dX10_clear_3 (by decide) ?_
    refine wp_icmp_ge X (tgt := 26) dX10_clear_5 (by decide) h (fun h => ?_) (fun h => ?_)
    · exact wp_return X Qr rfl dX10_clear_26 h
    · refine wp_aload_n X dX10_clear_8 0 rfl ?_
      refine wp_getR X (T := TX10) (N := 20) (ci := 9) (k := 5) rfl (by decide) (by decide) inBX10 kw817 dX10_clear_9 h (fun v9 h => ?_)
      refine wp_bipush X (v := 24) dX10_clear_12 (by decide) ?_
      refine wp_iload_n X dX10_clear_14 1 rfl ?_
      refine wp_imul X dX10_clear_15 ?_
      refine wp_iload_n X dX10_clear_16 2 rfl ?_
      refine wp_iadd X dX10_clear_17 ?_
      refine wp_iconst X (v := 0) dX10_clear_18 (by decide) ?_
      refine wp_iastore X dX10_clear_19 h (fun F19 h => ?_)
      refine wp_iinc X (v := x2 + 1) (lv' := [(0, .ref x0), (1, .int x1), (2, .int (x2 + 1))]) dX10_clear_20 (by decide) 2 rfl rfl [1, 2, 0] rfl ?_
      refine wp_goto X (tgt := 2) dX10_clear_23 (by decide) ?_
      exact ih _ _ _ _ h
def mX10_clear (F : Mem) (x0 : Nat) (x1 : Int32) : Option (Mem) := fX10_clear_2   FU x0 x1 0 F
set_option maxRecDepth 100000 in
set_option maxHeartbeats 4000000 in
theorem cX10_clear_ok {l : Launch} {D : va_G} {cy : Nat → ClassId} {F : Mem} {x0 : Nat} {x1 : Int32} {res : Mem} (h : mX10_clear F x0 x1 = some res) : MV l yX10_clear cX10_clear 3 none rmX10_clear D cy F [.ref x0, .int x1] res := by
  refine mv_of (by decide) (Nat.le_of_ble_eq_true rfl) [(0, .ref x0), (1, .int x1)] rfl (fun C X hcd Qr => ?_)
  unfold mX10_clear at h
  refine wp_iconst X (v := 0) dX10_clear_0 (by decide) ?_
  refine wp_istore_n X (lv' := [(0, .ref x0), (1, .int x1), (2, .int 0)]) dX10_clear_1 (by decide) [1, 2, 0] rfl ?_
  refine tX10_clear_2 X hcd Qr   FU _ _ _ _ h
/-! TableauBenchModel.height(I)I -/
def rmX10_height : Room := { frames := 0, cells := 0, slots := 0, locals := 0 }
def fX10_height_2  : Nat → Nat → Int32 → Int32 → Mem → Option (Int32 × Mem)
  | 0, _, _, _, _ => none
  | n + 1, x0, x1, x2, F => if 24 ≤ x2 then (some (x2, F)) else ((gfR F x0 9 5).bind fun v9 => (rdI F 0 v9 ((24 * x1) + x2)).bind fun v18 => if v18 ≤ 0 then (some (x2, F)) else ((fX10_height_2   n) x0 x1 (x2 + 1) F))
set_option maxRecDepth 100000 in
set_option maxHeartbeats 4000000 in
theorem tX10_height_2 {l : Launch} {D : va_G} {cy : Nat → ClassId} {C : Cx} {res : Int32 × Mem} (X : Fx C cX10_height RX10 (some .int) rmX10_height 3) (hcd : CD C l D cy) (Qr : RI C 0 0 res)   : ∀ (n : Nat) (x0 : Nat) (x1 : Int32) (x2 : Int32) (F : Mem), fX10_height_2  n x0 x1 x2 F = some res → Wp C 0 0 2 [(0, .ref x0), (1, .int x1), (2, .int x2)] [] F := by
  intro n
  induction n with
  | zero =>
    intro x0 x1 x2 F h
    rw [fX10_height_2.eq_1] at h
    cases h
  | succ n ih =>
    intro x0 x1 x2 F h
    rw [fX10_height_2.eq_2] at h
    refine wp_iload_n X dX10_height_2 2 rfl ?_
    refine wp_bipush X (v := 24) dX10_height_3 (by decide) ?_
    refine wp_icmp_ge X (tgt := 28) dX10_height_5 (by decide) h (fun h => ?_) (fun h => ?_)
    · refine wp_iload_n X dX10_height_28 2 rfl ?_
      exact wp_ireturn X Qr rfl (vp_nar_int _) dX10_height_29 h
    · refine wp_aload_n X dX10_height_8 0 rfl ?_
      refine wp_getR X (T := TX10) (N := 20) (ci := 9) (k := 5) rfl (by decide) (by decide) inBX10 kw817 dX10_height_9 h (fun v9 h => ?_)
      refine wp_bipush X (v := 24) dX10_height_12 (by decide) ?_
      refine wp_iload_n X dX10_height_14 1 rfl ?_
      refine wp_imul X dX10_height_15 ?_
      refine wp_iload_n X dX10_height_16 2 rfl ?_
      refine wp_iadd X dX10_height_17 ?_
      refine wp_iaload X dX10_height_18 h (fun v18 h => ?_)
      refine wp_if_le X (tgt := 28) dX10_height_19 (by decide) h (fun h => ?_) (fun h => ?_)
      · refine wp_iload_n X dX10_height_28 2 rfl ?_
        exact wp_ireturn X Qr rfl (vp_nar_int _) dX10_height_29 h
      · refine wp_iinc X (v := x2 + 1) (lv' := [(0, .ref x0), (1, .int x1), (2, .int (x2 + 1))]) dX10_height_22 (by decide) 2 rfl rfl [1, 2, 0] rfl ?_
        refine wp_goto X (tgt := 2) dX10_height_25 (by decide) ?_
        exact ih _ _ _ _ h
def mX10_height (F : Mem) (x0 : Nat) (x1 : Int32) : Option (Int32 × Mem) := fX10_height_2   FU x0 x1 0 F
set_option maxRecDepth 100000 in
set_option maxHeartbeats 4000000 in
theorem cX10_height_ok {l : Launch} {D : va_G} {cy : Nat → ClassId} {F : Mem} {x0 : Nat} {x1 : Int32} {res : Int32 × Mem} (h : mX10_height F x0 x1 = some res) : MI l yX10_height cX10_height 3 (some .int) rmX10_height D cy F [.ref x0, .int x1] res := by
  refine mi_of (by decide) (Nat.le_of_ble_eq_true rfl) [(0, .ref x0), (1, .int x1)] rfl (fun C X hcd Qr => ?_)
  unfold mX10_height at h
  refine wp_iconst X (v := 0) dX10_height_0 (by decide) ?_
  refine wp_istore_n X (lv' := [(0, .ref x0), (1, .int x1), (2, .int 0)]) dX10_height_1 (by decide) [1, 2, 0] rfl ?_
  refine tX10_height_2 X hcd Qr   FU _ _ _ _ h
/-! TableauBenchModel.insertByRows(II)I -/
def rmX10_insertByRows : Room := { frames := 1, cells := 0, slots := 0, locals := 22 }
def fX10_insertByRows_22 (K52 : Nat → Int32 → Int32 → Int32 → Int32 → Int32 → Mem → Option (Int32 × Mem)) : Nat → Nat → Int32 → Int32 → Int32 → Int32 → Int32 → Mem → Option (Int32 × Mem)
  | 0, _, _, _, _, _, _, _ => none
  | n + 1, x0, x1, x3, x4, x5, x6, F => if x5 ≤ x6 then (K52 x0 x1 x3 x4 x5 x6 F) else ((gfR F x0 9 4).bind fun v30 => (mX10_box F x1 x4 x6).bind fun v38 => (rdI v38.2 0 v30 v38.1).bind fun v41 => if x3 < v41 then (K52 x0 x1 x3 x4 x5 x6 v38.2) else ((fX10_insertByRows_22  K52 n) x0 x1 x3 x4 x5 (x6 + 1) v38.2))
set_option maxRecDepth 100000 in
set_option maxHeartbeats 4000000 in
theorem tX10_insertByRows_22 {l : Launch} {D : va_G} {cy : Nat → ClassId} {C : Cx} {res : Int32 × Mem} (X : Fx C cX10_insertByRows RX10 (some .int) rmX10_insertByRows 8) (hcd : CD C l D cy) (Qr : RI C 0 0 res) {K52 : Nat → Int32 → Int32 → Int32 → Int32 → Int32 → Mem → Option (Int32 × Mem)} (hK52 : ∀ (x0 : Nat) (x1 : Int32) (x3 : Int32) (x4 : Int32) (x5 : Int32) (x6 : Int32) (F : Mem), K52 x0 x1 x3 x4 x5 x6 F = some res → Wp C 0 0 52 [(0, .ref x0), (1, .int x1), (3, .int x3), (4, .int x4), (5, .int x5), (6, .int x6)] [] F) : ∀ (n : Nat) (x0 : Nat) (x1 : Int32) (x3 : Int32) (x4 : Int32) (x5 : Int32) (x6 : Int32) (F : Mem), fX10_insertByRows_22 K52 n x0 x1 x3 x4 x5 x6 F = some res → Wp C 0 0 22 [(0, .ref x0), (1, .int x1), (3, .int x3), (4, .int x4), (5, .int x5), (6, .int x6)] [] F := by
  intro n
  induction n with
  | zero =>
    intro x0 x1 x3 x4 x5 x6 F h
    rw [fX10_insertByRows_22.eq_1] at h
    cases h
  | succ n ih =>
    intro x0 x1 x3 x4 x5 x6 F h
    rw [fX10_insertByRows_22.eq_2] at h
    refine wp_iload X dX10_insertByRows_22 5 rfl ?_
    refine wp_iload X dX10_insertByRows_24 4 rfl ?_
    refine wp_icmp_ge X (tgt := 52) dX10_insertByRows_26 (by decide) h (fun h => ?_) (fun h => ?_)
    · exact hK52 _ _ _ _ _ _ _ h
    · refine wp_aload_n X dX10_insertByRows_29 0 rfl ?_
      refine wp_getR X (T := TX10) (N := 20) (ci := 9) (k := 4) rfl (by decide) (by decide) inBX10 kw816 dX10_insertByRows_30 h (fun v30 h => ?_)
      refine wp_iload_n X dX10_insertByRows_33 1 rfl ?_
      refine wp_iload X dX10_insertByRows_34 3 rfl ?_
      refine wp_iload X dX10_insertByRows_36 5 rfl ?_
      refine wp_callSI X (rm := rmX10_box) (n := 3) [.int x1, .int x4, .int x6] hcd (fun q hq => cX10_box_ok hq) kw940 kw941 kw10 kw942 (by decide +kernel) (by decide) (by decide) (cs2 := 0) (sl2 := 0) rfl rfl rfl rfl (Nat.le_of_ble_eq_true rfl) dX10_insertByRows_38 h (fun v38 h => ?_)
      refine wp_iaload X dX10_insertByRows_41 h (fun v41 h => ?_)
      refine wp_iload_n X dX10_insertByRows_42 2 rfl ?_
      refine wp_icmp_gt X (tgt := 52) dX10_insertByRows_43 (by decide) h (fun h => ?_) (fun h => ?_)
      · exact hK52 _ _ _ _ _ _ _ h
      · refine wp_iinc X (v := x6 + 1) (lv' := [(0, .ref x0), (1, .int x1), (3, .int x3), (4, .int x4), (5, .int x5), (6, .int (x6 + 1))]) dX10_insertByRows_46 (by decide) 5 rfl rfl [1, 2, 3, 4, 5, 0] rfl ?_
        refine wp_goto X (tgt := 22) dX10_insertByRows_49 (by decide) ?_
        exact ih _ _ _ _ _ _ _ h
def fX10_insertByRows_52 (K5 : Nat → Int32 → Int32 → Int32 → Mem → Option (Int32 × Mem)) (K88 : Nat → Int32 → Int32 → Mem → Option (Int32 × Mem)) (x0 : Nat) (x1 : Int32) (x3 : Int32) (x4 : Int32) (x5 : Int32) (x6 : Int32) (F : Mem) : Option (Int32 × Mem) := (gfR F x0 9 4).bind fun v53 => (mX10_box F x1 x4 x6).bind fun v61 => (rdI v61.2 0 v53 v61.1).bind fun v64 => (gfR v61.2 x0 9 4).bind fun v68 => (mX10_box v61.2 x1 x4 x6).bind fun v76 => (wrI v76.2 v68 v76.1 x3).bind fun F80 => if x6 = x5 then (K88 x0 x1 x4 F80) else (K5 x0 x1 v64 (x4 + 1) F80)
set_option maxRecDepth 100000 in
set_option maxHeartbeats 4000000 in
theorem tX10_insertByRows_52 {l : Launch} {D : va_G} {cy : Nat → ClassId} {C : Cx} {res : Int32 × Mem} (X : Fx C cX10_insertByRows RX10 (some .int) rmX10_insertByRows 8) (hcd : CD C l D cy) (Qr : RI C 0 0 res) {K5 : Nat → Int32 → Int32 → Int32 → Mem → Option (Int32 × Mem)} {K88 : Nat → Int32 → Int32 → Mem → Option (Int32 × Mem)} (hK5 : ∀ (x0 : Nat) (x1 : Int32) (x3 : Int32) (x4 : Int32) (F : Mem), K5 x0 x1 x3 x4 F = some res → Wp C 0 0 5 [(0, .ref x0), (1, .int x1), (3, .int x3), (4, .int x4)] [] F) (hK88 : ∀ (x0 : Nat) (x1 : Int32) (x4 : Int32) (F : Mem), K88 x0 x1 x4 F = some res → Wp C 0 0 88 [(0, .ref x0), (1, .int x1), (4, .int x4)] [] F) (x0 : Nat) (x1 : Int32) (x3 : Int32) (x4 : Int32) (x5 : Int32) (x6 : Int32) (F : Mem) (h : fX10_insertByRows_52 K5 K88 x0 x1 x3 x4 x5 x6 F = some res) : Wp C 0 0 52 [(0, .ref x0), (1, .int x1), (3, .int x3), (4, .int x4), (5, .int x5), (6, .int x6)] [] F := by
  unfold fX10_insertByRows_52 at h
  refine wp_aload_n X dX10_insertByRows_52 0 rfl ?_
  refine wp_getR X (T := TX10) (N := 20) (ci := 9) (k := 4) rfl (by decide) (by decide) inBX10 kw816 dX10_insertByRows_53 h (fun v53 h => ?_)
  refine wp_iload_n X dX10_insertByRows_56 1 rfl ?_
  refine wp_iload X dX10_insertByRows_57 3 rfl ?_
  refine wp_iload X dX10_insertByRows_59 5 rfl ?_
  refine wp_callSI X (rm := rmX10_box) (n := 3) [.int x1, .int x4, .int x6] hcd (fun q hq => cX10_box_ok hq) kw940 kw941 kw10 kw942 (by decide +kernel) (by decide) (by decide) (cs2 := 0) (sl2 := 0) rfl rfl rfl rfl (Nat.le_of_ble_eq_true rfl) dX10_insertByRows_61 h (fun v61 h => ?_)
  refine wp_iaload X dX10_insertByRows_64 h (fun v64 h => ?_)
  refine wp_istore X (lv' := [(0, .ref x0), (1, .int x1), (3, .int x3), (4, .int x4), (5, .int x5), (6, .int x6), (7, .int v64)]) dX10_insertByRows_65 (by decide) [1, 2, 3, 4, 5, 6, 0] rfl ?_
  refine wp_aload_n X dX10_insertByRows_67 0 rfl ?_
  refine wp_getR X (T := TX10) (N := 20) (ci := 9) (k := 4) rfl (by decide) (by decide) inBX10 kw816 dX10_insertByRows_68 h (fun v68 h => ?_)
  refine wp_iload_n X dX10_insertByRows_71 1 rfl ?_
  refine wp_iload X dX10_insertByRows_72 3 rfl ?_
  refine wp_iload X dX10_insertByRows_74 5 rfl ?_
  refine wp_callSI X (rm := rmX10_box) (n := 3) [.int x1, .int x4, .int x6] hcd (fun q hq => cX10_box_ok hq) kw940 kw941 kw10 kw942 (by decide +kernel) (by decide) (by decide) (cs2 := 0) (sl2 := 0) rfl rfl rfl rfl (Nat.le_of_ble_eq_true rfl) dX10_insertByRows_76 h (fun v76 h => ?_)
  refine wp_iload_n X dX10_insertByRows_79 2 rfl ?_
  refine wp_iastore X dX10_insertByRows_80 h (fun F80 h => ?_)
  refine wp_iload X dX10_insertByRows_81 5 rfl ?_
  refine wp_iload X dX10_insertByRows_83 4 rfl ?_
  refine wp_icmp_ne X (tgt := 107) dX10_insertByRows_85 (by decide) h (fun h => ?_) (fun h => ?_)
  · refine wp_iload X dX10_insertByRows_107 6 rfl ?_
    refine wp_istore_n X (lv' := [(0, .ref x0), (1, .int x1), (3, .int v64), (4, .int x4)]) dX10_insertByRows_109 (by decide) [1, 2, 0, 3] rfl ?_
    refine wp_iinc X (v := x4 + 1) (lv' := [(0, .ref x0), (1, .int x1), (3, .int v64), (4, .int (x4 + 1))]) dX10_insertByRows_110 (by decide) 3 rfl rfl [1, 2, 3, 0] rfl ?_
    refine wp_goto X (tgt := 5) dX10_insertByRows_113 (by decide) ?_
    exact hK5 _ _ _ _ _ h
  · refine wp_sub (lv' := [(0, .ref x0), (1, .int x1), (4, .int x4)]) [0, 1, 3] rfl ?_
    exact hK88 _ _ _ _ h
def fX10_insertByRows_5 (K88 : Nat → Int32 → Int32 → Mem → Option (Int32 × Mem)) : Nat → Nat → Int32 → Int32 → Int32 → Mem → Option (Int32 × Mem)
  | 0, _, _, _, _, _ => none
  | n + 1, x0, x1, x3, x4, F => (gfR F x0 9 5).bind fun v6 => (rdI F 0 v6 ((24 * x1) + x4)).bind fun v16 => fX10_insertByRows_22  (fun (x0 : Nat) (x1 : Int32) (x3 : Int32) (x4 : Int32) (x5 : Int32) (x6 : Int32) (F : Mem) => fX10_insertByRows_52  (fX10_insertByRows_5  K88 n) K88 x0 x1 x3 x4 x5 x6 F) FU x0 x1 x3 x4 v16 0 F
set_option maxRecDepth 100000 in
set_option maxHeartbeats 4000000 in
theorem tX10_insertByRows_5 {l : Launch} {D : va_G} {cy : Nat → ClassId} {C : Cx} {res : Int32 × Mem} (X : Fx C cX10_insertByRows RX10 (some .int) rmX10_insertByRows 8) (hcd : CD C l D cy) (Qr : RI C 0 0 res) {K88 : Nat → Int32 → Int32 → Mem → Option (Int32 × Mem)} (hK88 : ∀ (x0 : Nat) (x1 : Int32) (x4 : Int32) (F : Mem), K88 x0 x1 x4 F = some res → Wp C 0 0 88 [(0, .ref x0), (1, .int x1), (4, .int x4)] [] F) : ∀ (n : Nat) (x0 : Nat) (x1 : Int32) (x3 : Int32) (x4 : Int32) (F : Mem), fX10_insertByRows_5 K88 n x0 x1 x3 x4 F = some res → Wp C 0 0 5 [(0, .ref x0), (1, .int x1), (3, .int x3), (4, .int x4)] [] F := by
  intro n
  induction n with
  | zero =>
    intro x0 x1 x3 x4 F h
    rw [fX10_insertByRows_5.eq_1] at h
    cases h
  | succ n ih =>
    intro x0 x1 x3 x4 F h
    rw [fX10_insertByRows_5.eq_2] at h
    refine wp_aload_n X dX10_insertByRows_5 0 rfl ?_
    refine wp_getR X (T := TX10) (N := 20) (ci := 9) (k := 5) rfl (by decide) (by decide) inBX10 kw817 dX10_insertByRows_6 h (fun v6 h => ?_)
    refine wp_bipush X (v := 24) dX10_insertByRows_9 (by decide) ?_
    refine wp_iload_n X dX10_insertByRows_11 1 rfl ?_
    refine wp_imul X dX10_insertByRows_12 ?_
    refine wp_iload X dX10_insertByRows_13 3 rfl ?_
    refine wp_iadd X dX10_insertByRows_15 ?_
    refine wp_iaload X dX10_insertByRows_16 h (fun v16 h => ?_)
    refine wp_istore X (lv' := [(0, .ref x0), (1, .int x1), (3, .int x3), (4, .int x4), (5, .int v16)]) dX10_insertByRows_17 (by decide) [1, 2, 3, 4, 0] rfl ?_
    refine wp_iconst X (v := 0) dX10_insertByRows_19 (by decide) ?_
    refine wp_istore X (lv' := [(0, .ref x0), (1, .int x1), (3, .int x3), (4, .int x4), (5, .int v16), (6, .int 0)]) dX10_insertByRows_20 (by decide) [1, 2, 3, 4, 5, 0] rfl ?_
    refine tX10_insertByRows_22 X hcd Qr  ?_ FU _ _ _ _ _ _ _ h
    · intro x0 x1 x3 x4 x5 x6 F h
      exact tX10_insertByRows_52 X hcd Qr  ih hK88 _ _ _ _ _ _ _ h
def mX10_insertByRows (F : Mem) (x0 : Nat) (x1 : Int32) (x2 : Int32) : Option (Int32 × Mem) := fX10_insertByRows_5  (fun (x0 : Nat) (x1 : Int32) (x4 : Int32) (F : Mem) => (gfR F x0 9 5).bind fun v89 => (rdI F 0 v89 ((24 * x1) + x4)).bind fun v100 => (wrI F v89 ((24 * x1) + x4) (v100 + 1)).bind fun F103 => some (x4, F103)) FU x0 x1 x2 0 F
set_option maxRecDepth 100000 in
set_option maxHeartbeats 4000000 in
theorem cX10_insertByRows_ok {l : Launch} {D : va_G} {cy : Nat → ClassId} {F : Mem} {x0 : Nat} {x1 : Int32} {x2 : Int32} {res : Int32 × Mem} (h : mX10_insertByRows F x0 x1 x2 = some res) : MI l yX10_insertByRows cX10_insertByRows 8 (some .int) rmX10_insertByRows D cy F [.ref x0, .int x1, .int x2] res := by
  refine mi_of (by decide) (Nat.le_of_ble_eq_true rfl) [(0, .ref x0), (1, .int x1), (2, .int x2)] rfl (fun C X hcd Qr => ?_)
  unfold mX10_insertByRows at h
  refine wp_iload_n X dX10_insertByRows_0 2 rfl ?_
  refine wp_istore_n X (lv' := [(0, .ref x0), (1, .int x1), (3, .int x2)]) dX10_insertByRows_1 (by decide) [1, 2, 0] rfl ?_
  refine wp_iconst X (v := 0) dX10_insertByRows_2 (by decide) ?_
  refine wp_istore X (lv' := [(0, .ref x0), (1, .int x1), (3, .int x2), (4, .int 0)]) dX10_insertByRows_3 (by decide) [1, 2, 3, 0] rfl ?_
  refine tX10_insertByRows_5 X hcd Qr  ?_ FU _ _ _ _ _ h
  · intro x0 x1 x4 F h
    refine wp_aload_n X dX10_insertByRows_88 0 rfl ?_
    refine wp_getR X (T := TX10) (N := 20) (ci := 9) (k := 5) rfl (by decide) (by decide) inBX10 kw817 dX10_insertByRows_89 h (fun v89 h => ?_)
    refine wp_bipush X (v := 24) dX10_insertByRows_92 (by decide) ?_
    refine wp_iload_n X dX10_insertByRows_94 1 rfl ?_
    refine wp_imul X dX10_insertByRows_95 ?_
    refine wp_iload X dX10_insertByRows_96 2 rfl ?_
    refine wp_iadd X dX10_insertByRows_98 ?_
    refine wp_dup2 X dX10_insertByRows_99 rfl rfl ?_
    refine wp_iaload X dX10_insertByRows_100 h (fun v100 h => ?_)
    refine wp_iconst X (v := 1) dX10_insertByRows_101 (by decide) ?_
    refine wp_iadd X dX10_insertByRows_102 ?_
    refine wp_iastore X dX10_insertByRows_103 h (fun F103 h => ?_)
    refine wp_iload X dX10_insertByRows_104 2 rfl ?_
    exact wp_ireturn X Qr rfl (vp_nar_int _) dX10_insertByRows_106 h
/-! TableauBenchModel.insertByColumns(II)I -/
def rmX10_insertByColumns : Room := { frames := 1, cells := 0, slots := 0, locals := 22 }
def fX10_insertByColumns_8 (K55 : Nat → Int32 → Int32 → Int32 → Int32 → Mem → Option (Int32 × Mem)) : Nat → Nat → Int32 → Int32 → Int32 → Int32 → Mem → Option (Int32 × Mem)
  | 0, _, _, _, _, _, _ => none
  | n + 1, x0, x1, x3, x4, x5, F => if 24 ≤ x5 then (K55 x0 x1 x3 x4 x5 F) else ((gfR F x0 9 5).bind fun v16 => (rdI F 0 v16 ((24 * x1) + x5)).bind fun v26 => if v26 ≤ x4 then (K55 x0 x1 x3 x4 x5 F) else ((gfR F x0 9 4).bind fun v33 => (mX10_box F x1 x5 x4).bind fun v41 => (rdI v41.2 0 v33 v41.1).bind fun v44 => if x3 ≤ v44 then (K55 x0 x1 x3 x4 x5 v41.2) else ((fX10_insertByColumns_8  K55 n) x0 x1 x3 x4 (x5 + 1) v41.2)))
set_option maxRecDepth 100000 in
set_option maxHeartbeats 4000000 in
theorem tX10_insertByColumns_8 {l : Launch} {D : va_G} {cy : Nat → ClassId} {C : Cx} {res : Int32 × Mem} (X : Fx C cX10_insertByColumns RX10 (some .int) rmX10_insertByColumns 8) (hcd : CD C l D cy) (Qr : RI C 0 0 res) {K55 : Nat → Int32 → Int32 → Int32 → Int32 → Mem → Option (Int32 × Mem)} (hK55 : ∀ (x0 : Nat) (x1 : Int32) (x3 : Int32) (x4 : Int32) (x5 : Int32) (F : Mem), K55 x0 x1 x3 x4 x5 F = some res → Wp C 0 0 55 [(0, .ref x0), (1, .int x1), (3, .int x3), (4, .int x4), (5, .int x5)] [] F) : ∀ (n : Nat) (x0 : Nat) (x1 : Int32) (x3 : Int32) (x4 : Int32) (x5 : Int32) (F : Mem), fX10_insertByColumns_8 K55 n x0 x1 x3 x4 x5 F = some res → Wp C 0 0 8 [(0, .ref x0), (1, .int x1), (3, .int x3), (4, .int x4), (5, .int x5)] [] F := by
  intro n
  induction n with
  | zero =>
    intro x0 x1 x3 x4 x5 F h
    rw [fX10_insertByColumns_8.eq_1] at h
    cases h
  | succ n ih =>
    intro x0 x1 x3 x4 x5 F h
    rw [fX10_insertByColumns_8.eq_2] at h
    refine wp_iload X dX10_insertByColumns_8 4 rfl ?_
    refine wp_bipush X (v := 24) dX10_insertByColumns_10 (by decide) ?_
    refine wp_icmp_ge X (tgt := 55) dX10_insertByColumns_12 (by decide) h (fun h => ?_) (fun h => ?_)
    · exact hK55 _ _ _ _ _ _ h
    · refine wp_aload_n X dX10_insertByColumns_15 0 rfl ?_
      refine wp_getR X (T := TX10) (N := 20) (ci := 9) (k := 5) rfl (by decide) (by decide) inBX10 kw817 dX10_insertByColumns_16 h (fun v16 h => ?_)
      refine wp_bipush X (v := 24) dX10_insertByColumns_19 (by decide) ?_
      refine wp_iload_n X dX10_insertByColumns_21 1 rfl ?_
      refine wp_imul X dX10_insertByColumns_22 ?_
      refine wp_iload X dX10_insertByColumns_23 4 rfl ?_
      refine wp_iadd X dX10_insertByColumns_25 ?_
      refine wp_iaload X dX10_insertByColumns_26 h (fun v26 h => ?_)
      refine wp_iload X dX10_insertByColumns_27 3 rfl ?_
      refine wp_icmp_le X (tgt := 55) dX10_insertByColumns_29 (by decide) h (fun h => ?_) (fun h => ?_)
      · exact hK55 _ _ _ _ _ _ h
      · refine wp_aload_n X dX10_insertByColumns_32 0 rfl ?_
        refine wp_getR X (T := TX10) (N := 20) (ci := 9) (k := 4) rfl (by decide) (by decide) inBX10 kw816 dX10_insertByColumns_33 h (fun v33 h => ?_)
        refine wp_iload_n X dX10_insertByColumns_36 1 rfl ?_
        refine wp_iload X dX10_insertByColumns_37 4 rfl ?_
        refine wp_iload X dX10_insertByColumns_39 3 rfl ?_
        refine wp_callSI X (rm := rmX10_box) (n := 3) [.int x1, .int x5, .int x4] hcd (fun q hq => cX10_box_ok hq) kw940 kw941 kw10 kw942 (by decide +kernel) (by decide) (by decide) (cs2 := 0) (sl2 := 0) rfl rfl rfl rfl (Nat.le_of_ble_eq_true rfl) dX10_insertByColumns_41 h (fun v41 h => ?_)
        refine wp_iaload X dX10_insertByColumns_44 h (fun v44 h => ?_)
        refine wp_iload_n X dX10_insertByColumns_45 2 rfl ?_
        refine wp_icmp_ge X (tgt := 55) dX10_insertByColumns_46 (by decide) h (fun h => ?_) (fun h => ?_)
        · exact hK55 _ _ _ _ _ _ h
        · refine wp_iinc X (v := x5 + 1) (lv' := [(0, .ref x0), (1, .int x1), (3, .int x3), (4, .int x4), (5, .int (x5 + 1))]) dX10_insertByColumns_49 (by decide) 4 rfl rfl [1, 2, 3, 4, 0] rfl ?_
          refine wp_goto X (tgt := 8) dX10_insertByColumns_52 (by decide) ?_
          exact ih _ _ _ _ _ _ h
def fX10_insertByColumns_77 (K5 : Nat → Int32 → Int32 → Int32 → Mem → Option (Int32 × Mem)) (K113 : Nat → Int32 → Int32 → Mem → Option (Int32 × Mem)) (x0 : Nat) (x1 : Int32) (x3 : Int32) (x4 : Int32) (x5 : Int32) (s0 : Int32) (F : Mem) : Option (Int32 × Mem) := (gfR F x0 9 4).bind fun v80 => (mX10_box F x1 x5 x4).bind fun v88 => (rdI v88.2 0 v80 v88.1).bind fun v91 => (gfR v88.2 x0 9 4).bind fun v95 => (mX10_box v88.2 x1 x5 x4).bind fun v103 => (wrI v103.2 v95 v103.1 x3).bind fun F107 => if s0 = 0 then (K5 x0 x1 v91 (x4 + 1) F107) else (K113 x0 x1 x5 F107)
set_option maxRecDepth 100000 in
set_option maxHeartbeats 4000000 in
theorem tX10_insertByColumns_77 {l : Launch} {D : va_G} {cy : Nat → ClassId} {C : Cx} {res : Int32 × Mem} (X : Fx C cX10_insertByColumns RX10 (some .int) rmX10_insertByColumns 8) (hcd : CD C l D cy) (Qr : RI C 0 0 res) {K5 : Nat → Int32 → Int32 → Int32 → Mem → Option (Int32 × Mem)} {K113 : Nat → Int32 → Int32 → Mem → Option (Int32 × Mem)} (hK5 : ∀ (x0 : Nat) (x1 : Int32) (x3 : Int32) (x4 : Int32) (F : Mem), K5 x0 x1 x3 x4 F = some res → Wp C 0 0 5 [(0, .ref x0), (1, .int x1), (3, .int x3), (4, .int x4)] [] F) (hK113 : ∀ (x0 : Nat) (x1 : Int32) (x5 : Int32) (F : Mem), K113 x0 x1 x5 F = some res → Wp C 0 0 113 [(0, .ref x0), (1, .int x1), (5, .int x5)] [] F) (x0 : Nat) (x1 : Int32) (x3 : Int32) (x4 : Int32) (x5 : Int32) (s0 : Int32) (F : Mem) (h : fX10_insertByColumns_77 K5 K113 x0 x1 x3 x4 x5 s0 F = some res) : Wp C 0 0 77 [(0, .ref x0), (1, .int x1), (3, .int x3), (4, .int x4), (5, .int x5)] [.int s0] F := by
  unfold fX10_insertByColumns_77 at h
  refine wp_istore X (lv' := [(0, .ref x0), (1, .int x1), (3, .int x3), (4, .int x4), (5, .int x5), (6, .int s0)]) dX10_insertByColumns_77 (by decide) [1, 2, 3, 4, 5, 0] rfl ?_
  refine wp_aload_n X dX10_insertByColumns_79 0 rfl ?_
  refine wp_getR X (T := TX10) (N := 20) (ci := 9) (k := 4) rfl (by decide) (by decide) inBX10 kw816 dX10_insertByColumns_80 h (fun v80 h => ?_)
  refine wp_iload_n X dX10_insertByColumns_83 1 rfl ?_
  refine wp_iload X dX10_insertByColumns_84 4 rfl ?_
  refine wp_iload X dX10_insertByColumns_86 3 rfl ?_
  refine wp_callSI X (rm := rmX10_box) (n := 3) [.int x1, .int x5, .int x4] hcd (fun q hq => cX10_box_ok hq) kw940 kw941 kw10 kw942 (by decide +kernel) (by decide) (by decide) (cs2 := 0) (sl2 := 0) rfl rfl rfl rfl (Nat.le_of_ble_eq_true rfl) dX10_insertByColumns_88 h (fun v88 h => ?_)
  refine wp_iaload X dX10_insertByColumns_91 h (fun v91 h => ?_)
  refine wp_istore X (lv' := [(0, .ref x0), (1, .int x1), (3, .int x3), (4, .int x4), (5, .int x5), (6, .int s0), (7, .int v91)]) dX10_insertByColumns_92 (by decide) [1, 2, 3, 4, 5, 6, 0] rfl ?_
  refine wp_aload_n X dX10_insertByColumns_94 0 rfl ?_
  refine wp_getR X (T := TX10) (N := 20) (ci := 9) (k := 4) rfl (by decide) (by decide) inBX10 kw816 dX10_insertByColumns_95 h (fun v95 h => ?_)
  refine wp_iload_n X dX10_insertByColumns_98 1 rfl ?_
  refine wp_iload X dX10_insertByColumns_99 4 rfl ?_
  refine wp_iload X dX10_insertByColumns_101 3 rfl ?_
  refine wp_callSI X (rm := rmX10_box) (n := 3) [.int x1, .int x5, .int x4] hcd (fun q hq => cX10_box_ok hq) kw940 kw941 kw10 kw942 (by decide +kernel) (by decide) (by decide) (cs2 := 0) (sl2 := 0) rfl rfl rfl rfl (Nat.le_of_ble_eq_true rfl) dX10_insertByColumns_103 h (fun v103 h => ?_)
  refine wp_iload_n X dX10_insertByColumns_106 2 rfl ?_
  refine wp_iastore X dX10_insertByColumns_107 h (fun F107 h => ?_)
  refine wp_iload X dX10_insertByColumns_108 5 rfl ?_
  refine wp_if_eq X (tgt := 132) dX10_insertByColumns_110 (by decide) h (fun h => ?_) (fun h => ?_)
  · refine wp_iload X dX10_insertByColumns_132 6 rfl ?_
    refine wp_istore_n X (lv' := [(0, .ref x0), (1, .int x1), (3, .int v91), (4, .int x4)]) dX10_insertByColumns_134 (by decide) [1, 2, 0, 3] rfl ?_
    refine wp_iinc X (v := x4 + 1) (lv' := [(0, .ref x0), (1, .int x1), (3, .int v91), (4, .int (x4 + 1))]) dX10_insertByColumns_135 (by decide) 3 rfl rfl [1, 2, 3, 0] rfl ?_
    refine wp_goto X (tgt := 5) dX10_insertByColumns_138 (by decide) ?_
    exact hK5 _ _ _ _ _ h
  · refine wp_sub (lv' := [(0, .ref x0), (1, .int x1), (5, .int x5)]) [0, 1, 4] rfl ?_
    exact hK113 _ _ _ _ h
def fX10_insertByColumns_55 (K5 : Nat → Int32 → Int32 → Int32 → Mem → Option (Int32 × Mem)) (K113 : Nat → Int32 → Int32 → Mem → Option (Int32 × Mem)) (x0 : Nat) (x1 : Int32) (x3 : Int32) (x4 : Int32) (x5 : Int32) (F : Mem) : Option (Int32 × Mem) := (gfR F x0 9 5).bind fun v56 => (rdI F 0 v56 ((24 * x1) + x5)).bind fun v66 => if x4 < v66 then (fX10_insertByColumns_77  K5 K113 x0 x1 x3 x4 x5 0 F) else (fX10_insertByColumns_77  K5 K113 x0 x1 x3 x4 x5 1 F)
set_option maxRecDepth 100000 in
set_option maxHeartbeats 4000000 in
theorem tX10_insertByColumns_55 {l : Launch} {D : va_G} {cy : Nat → ClassId} {C : Cx} {res : Int32 × Mem} (X : Fx C cX10_insertByColumns RX10 (some .int) rmX10_insertByColumns 8) (hcd : CD C l D cy) (Qr : RI C 0 0 res) {K5 : Nat → Int32 → Int32 → Int32 → Mem → Option (Int32 × Mem)} {K113 : Nat → Int32 → Int32 → Mem → Option (Int32 × Mem)} (hK5 : ∀ (x0 : Nat) (x1 : Int32) (x3 : Int32) (x4 : Int32) (F : Mem), K5 x0 x1 x3 x4 F = some res → Wp C 0 0 5 [(0, .ref x0), (1, .int x1), (3, .int x3), (4, .int x4)] [] F) (hK113 : ∀ (x0 : Nat) (x1 : Int32) (x5 : Int32) (F : Mem), K113 x0 x1 x5 F = some res → Wp C 0 0 113 [(0, .ref x0), (1, .int x1), (5, .int x5)] [] F) (x0 : Nat) (x1 : Int32) (x3 : Int32) (x4 : Int32) (x5 : Int32) (F : Mem) (h : fX10_insertByColumns_55 K5 K113 x0 x1 x3 x4 x5 F = some res) : Wp C 0 0 55 [(0, .ref x0), (1, .int x1), (3, .int x3), (4, .int x4), (5, .int x5)] [] F := by
  unfold fX10_insertByColumns_55 at h
  refine wp_aload_n X dX10_insertByColumns_55 0 rfl ?_
  refine wp_getR X (T := TX10) (N := 20) (ci := 9) (k := 5) rfl (by decide) (by decide) inBX10 kw817 dX10_insertByColumns_56 h (fun v56 h => ?_)
  refine wp_bipush X (v := 24) dX10_insertByColumns_59 (by decide) ?_
  refine wp_iload_n X dX10_insertByColumns_61 1 rfl ?_
  refine wp_imul X dX10_insertByColumns_62 ?_
  refine wp_iload X dX10_insertByColumns_63 4 rfl ?_
  refine wp_iadd X dX10_insertByColumns_65 ?_
  refine wp_iaload X dX10_insertByColumns_66 h (fun v66 h => ?_)
  refine wp_iload X dX10_insertByColumns_67 3 rfl ?_
  refine wp_icmp_gt X (tgt := 76) dX10_insertByColumns_69 (by decide) h (fun h => ?_) (fun h => ?_)
  · refine wp_iconst X (v := 0) dX10_insertByColumns_76 (by decide) ?_
    exact tX10_insertByColumns_77 X hcd Qr  hK5 hK113 _ _ _ _ _ _ _ h
  · refine wp_iconst X (v := 1) dX10_insertByColumns_72 (by decide) ?_
    refine wp_goto X (tgt := 77) dX10_insertByColumns_73 (by decide) ?_
    exact tX10_insertByColumns_77 X hcd Qr  hK5 hK113 _ _ _ _ _ _ _ h
def fX10_insertByColumns_5 (K113 : Nat → Int32 → Int32 → Mem → Option (Int32 × Mem)) : Nat → Nat → Int32 → Int32 → Int32 → Mem → Option (Int32 × Mem)
  | 0, _, _, _, _, _ => none
  | n + 1, x0, x1, x3, x4, F => fX10_insertByColumns_8  (fun (x0 : Nat) (x1 : Int32) (x3 : Int32) (x4 : Int32) (x5 : Int32) (F : Mem) => fX10_insertByColumns_55  (fX10_insertByColumns_5  K113 n) K113 x0 x1 x3 x4 x5 F) FU x0 x1 x3 x4 0 F
set_option maxRecDepth 100000 in
set_option maxHeartbeats 4000000 in
theorem tX10_insertByColumns_5 {l : Launch} {D : va_G} {cy : Nat → ClassId} {C : Cx} {res : Int32 × Mem} (X : Fx C cX10_insertByColumns RX10 (some .int) rmX10_insertByColumns 8) (hcd : CD C l D cy) (Qr : RI C 0 0 res) {K113 : Nat → Int32 → Int32 → Mem → Option (Int32 × Mem)} (hK113 : ∀ (x0 : Nat) (x1 : Int32) (x5 : Int32) (F : Mem), K113 x0 x1 x5 F = some res → Wp C 0 0 113 [(0, .ref x0), (1, .int x1), (5, .int x5)] [] F) : ∀ (n : Nat) (x0 : Nat) (x1 : Int32) (x3 : Int32) (x4 : Int32) (F : Mem), fX10_insertByColumns_5 K113 n x0 x1 x3 x4 F = some res → Wp C 0 0 5 [(0, .ref x0), (1, .int x1), (3, .int x3), (4, .int x4)] [] F := by
  intro n
  induction n with
  | zero =>
    intro x0 x1 x3 x4 F h
    rw [fX10_insertByColumns_5.eq_1] at h
    cases h
  | succ n ih =>
    intro x0 x1 x3 x4 F h
    rw [fX10_insertByColumns_5.eq_2] at h
    refine wp_iconst X (v := 0) dX10_insertByColumns_5 (by decide) ?_
    refine wp_istore X (lv' := [(0, .ref x0), (1, .int x1), (3, .int x3), (4, .int x4), (5, .int 0)]) dX10_insertByColumns_6 (by decide) [1, 2, 3, 4, 0] rfl ?_
    refine tX10_insertByColumns_8 X hcd Qr  ?_ FU _ _ _ _ _ _ h
    · intro x0 x1 x3 x4 x5 F h
      exact tX10_insertByColumns_55 X hcd Qr  ih hK113 _ _ _ _ _ _ h
def mX10_insertByColumns (F : Mem) (x0 : Nat) (x1 : Int32) (x2 : Int32) : Option (Int32 × Mem) := fX10_insertByColumns_5  (fun (x0 : Nat) (x1 : Int32) (x5 : Int32) (F : Mem) => (gfR F x0 9 5).bind fun v114 => (rdI F 0 v114 ((24 * x1) + x5)).bind fun v125 => (wrI F v114 ((24 * x1) + x5) (v125 + 1)).bind fun F128 => some (x5, F128)) FU x0 x1 x2 0 F
set_option maxRecDepth 100000 in
set_option maxHeartbeats 4000000 in
theorem cX10_insertByColumns_ok {l : Launch} {D : va_G} {cy : Nat → ClassId} {F : Mem} {x0 : Nat} {x1 : Int32} {x2 : Int32} {res : Int32 × Mem} (h : mX10_insertByColumns F x0 x1 x2 = some res) : MI l yX10_insertByColumns cX10_insertByColumns 8 (some .int) rmX10_insertByColumns D cy F [.ref x0, .int x1, .int x2] res := by
  refine mi_of (by decide) (Nat.le_of_ble_eq_true rfl) [(0, .ref x0), (1, .int x1), (2, .int x2)] rfl (fun C X hcd Qr => ?_)
  unfold mX10_insertByColumns at h
  refine wp_iload_n X dX10_insertByColumns_0 2 rfl ?_
  refine wp_istore_n X (lv' := [(0, .ref x0), (1, .int x1), (3, .int x2)]) dX10_insertByColumns_1 (by decide) [1, 2, 0] rfl ?_
  refine wp_iconst X (v := 0) dX10_insertByColumns_2 (by decide) ?_
  refine wp_istore X (lv' := [(0, .ref x0), (1, .int x1), (3, .int x2), (4, .int 0)]) dX10_insertByColumns_3 (by decide) [1, 2, 3, 0] rfl ?_
  refine tX10_insertByColumns_5 X hcd Qr  ?_ FU _ _ _ _ _ h
  · intro x0 x1 x5 F h
    refine wp_aload_n X dX10_insertByColumns_113 0 rfl ?_
    refine wp_getR X (T := TX10) (N := 20) (ci := 9) (k := 5) rfl (by decide) (by decide) inBX10 kw817 dX10_insertByColumns_114 h (fun v114 h => ?_)
    refine wp_bipush X (v := 24) dX10_insertByColumns_117 (by decide) ?_
    refine wp_iload_n X dX10_insertByColumns_119 1 rfl ?_
    refine wp_imul X dX10_insertByColumns_120 ?_
    refine wp_iload X dX10_insertByColumns_121 2 rfl ?_
    refine wp_iadd X dX10_insertByColumns_123 ?_
    refine wp_dup2 X dX10_insertByColumns_124 rfl rfl ?_
    refine wp_iaload X dX10_insertByColumns_125 h (fun v125 h => ?_)
    refine wp_iconst X (v := 1) dX10_insertByColumns_126 (by decide) ?_
    refine wp_iadd X dX10_insertByColumns_127 ?_
    refine wp_iastore X dX10_insertByColumns_128 h (fun F128 h => ?_)
    refine wp_iload X dX10_insertByColumns_129 2 rfl ?_
    exact wp_ireturn X Qr rfl (vp_nar_int _) dX10_insertByColumns_131 h
/-! TableauBenchModel.insertRow(II)V -/
def rmX10_insertRow : Room := { frames := 2, cells := 0, slots := 0, locals := 49 }
def fX10_insertRow_7  : Nat → Nat → Int32 → Int32 → Int32 → Mem → Option (Mem)
  | 0, _, _, _, _, _ => none
  | n + 1, x0, x1, x2, x3, F => if x2 ≤ x3 then (some F) else ((gfR F x0 9 7).bind fun v15 => (rdI F 0 v15 x3).bind fun v19 => (obj F x0 9).bind fun _ => (mX10_insertByRows F x0 x1 v19).bind fun v20 => (fX10_insertRow_7   n) x0 x1 x2 (x3 + 1) v20.2)
set_option maxRecDepth 100000 in
set_option maxHeartbeats 4000000 in
theorem tX10_insertRow_7 {l : Launch} {D : va_G} {cy : Nat → ClassId} {C : Cx} {res : Mem} (X : Fx C cX10_insertRow RX10 none rmX10_insertRow 4) (hcd : CD C l D cy) (Qr : RV C 0 0 res)   : ∀ (n : Nat) (x0 : Nat) (x1 : Int32) (x2 : Int32) (x3 : Int32) (F : Mem), fX10_insertRow_7  n x0 x1 x2 x3 F = some res → Wp C 0 0 7 [(0, .ref x0), (1, .int x1), (2, .int x2), (3, .int x3)] [] F := by
  intro n
  induction n with
  | zero =>
    intro x0 x1 x2 x3 F h
    rw [fX10_insertRow_7.eq_1] at h
    cases h
  | succ n ih =>
    intro x0 x1 x2 x3 F h
    rw [fX10_insertRow_7.eq_2] at h
    refine wp_iload_n X dX10_insertRow_7 3 rfl ?_
    refine wp_iload_n X dX10_insertRow_8 2 rfl ?_
    refine wp_icmp_ge X (tgt := 30) dX10_insertRow_9 (by decide) h (fun h => ?_) (fun h => ?_)
    · exact wp_return X Qr rfl dX10_insertRow_30 h
    · refine wp_aload_n X dX10_insertRow_12 0 rfl ?_
      refine wp_iload_n X dX10_insertRow_13 1 rfl ?_
      refine wp_aload_n X dX10_insertRow_14 0 rfl ?_
      refine wp_getR X (T := TX10) (N := 20) (ci := 9) (k := 7) rfl (by decide) (by decide) inBX10 kw819 dX10_insertRow_15 h (fun v15 h => ?_)
      refine wp_iload_n X dX10_insertRow_18 3 rfl ?_
      refine wp_iaload X dX10_insertRow_19 h (fun v19 h => ?_)
      refine wp_callVI X (rm := rmX10_insertByRows) (T := TX10) (N := 20) (ci := 9) (n := 2) [.int x1, .int v19] hcd (fun q hq => cX10_insertByRows_ok hq) kw943 kw945 ks23 kw10 kw946 (by decide +kernel) (by decide) (by decide) (cs2 := 0) (sl2 := 0) rfl rfl rfl (by decide) rfl rfl (Nat.le_of_ble_eq_true rfl) dX10_insertRow_20 h (fun v20 h => ?_)
      refine wp_pop X dX10_insertRow_23 rfl ?_
      refine wp_iinc X (v := x3 + 1) (lv' := [(0, .ref x0), (1, .int x1), (2, .int x2), (3, .int (x3 + 1))]) dX10_insertRow_24 (by decide) 3 rfl rfl [1, 2, 3, 0] rfl ?_
      refine wp_goto X (tgt := 7) dX10_insertRow_27 (by decide) ?_
      exact ih _ _ _ _ _ h
def mX10_insertRow (F : Mem) (x0 : Nat) (x1 : Int32) (x2 : Int32) : Option (Mem) := (obj F x0 9).bind fun _ => (mX10_clear F x0 x1).bind fun v2 => fX10_insertRow_7   FU x0 x1 x2 0 v2
set_option maxRecDepth 100000 in
set_option maxHeartbeats 4000000 in
theorem cX10_insertRow_ok {l : Launch} {D : va_G} {cy : Nat → ClassId} {F : Mem} {x0 : Nat} {x1 : Int32} {x2 : Int32} {res : Mem} (h : mX10_insertRow F x0 x1 x2 = some res) : MV l yX10_insertRow cX10_insertRow 4 none rmX10_insertRow D cy F [.ref x0, .int x1, .int x2] res := by
  refine mv_of (by decide) (Nat.le_of_ble_eq_true rfl) [(0, .ref x0), (1, .int x1), (2, .int x2)] rfl (fun C X hcd Qr => ?_)
  unfold mX10_insertRow at h
  refine wp_aload_n X dX10_insertRow_0 0 rfl ?_
  refine wp_iload_n X dX10_insertRow_1 1 rfl ?_
  refine wp_callVV X (rm := rmX10_clear) (T := TX10) (N := 20) (ci := 9) (n := 1) [.int x1] hcd (fun q hq => cX10_clear_ok hq) kw932 kw934 ks21 kw10 kw935 (by decide +kernel) (by decide) (by decide) (cs2 := 0) (sl2 := 0) rfl rfl rfl (by decide) rfl rfl (Nat.le_of_ble_eq_true rfl) dX10_insertRow_2 h (fun v2 h => ?_)
  refine wp_iconst X (v := 0) dX10_insertRow_5 (by decide) ?_
  refine wp_istore_n X (lv' := [(0, .ref x0), (1, .int x1), (2, .int x2), (3, .int 0)]) dX10_insertRow_6 (by decide) [1, 2, 3, 0] rfl ?_
  refine tX10_insertRow_7 X hcd Qr   FU _ _ _ _ _ h
/-! TableauBenchModel.take(I)V -/
def rmX10_take : Room := { frames := 0, cells := 0, slots := 0, locals := 0 }
def fX10_take_2  : Nat → Nat → Int32 → Int32 → Mem → Option (Mem)
  | 0, _, _, _, _ => none
  | n + 1, x0, x1, x2, F => (gfR F x0 9 3).bind fun v4 => (rdI F 0 v4 x1).bind fun v8 => if v8 ≤ x2 then (some F) else ((gfR F x0 9 7).bind fun v13 => (gfR F x0 9 2).bind fun v18 => (rdI F 0 v18 ((16 * x1) + x2)).bind fun v27 => (wrI F v13 x2 v27).bind fun F28 => (fX10_take_2   n) x0 x1 (x2 + 1) F28)
set_option maxRecDepth 100000 in
set_option maxHeartbeats 4000000 in
theorem tX10_take_2 {l : Launch} {D : va_G} {cy : Nat → ClassId} {C : Cx} {res : Mem} (X : Fx C cX10_take RX10 none rmX10_take 3) (hcd : CD C l D cy) (Qr : RV C 0 0 res)   : ∀ (n : Nat) (x0 : Nat) (x1 : Int32) (x2 : Int32) (F : Mem), fX10_take_2  n x0 x1 x2 F = some res → Wp C 0 0 2 [(0, .ref x0), (1, .int x1), (2, .int x2)] [] F := by
  intro n
  induction n with
  | zero =>
    intro x0 x1 x2 F h
    rw [fX10_take_2.eq_1] at h
    cases h
  | succ n ih =>
    intro x0 x1 x2 F h
    rw [fX10_take_2.eq_2] at h
    refine wp_iload_n X dX10_take_2 2 rfl ?_
    refine wp_aload_n X dX10_take_3 0 rfl ?_
    refine wp_getR X (T := TX10) (N := 20) (ci := 9) (k := 3) rfl (by decide) (by decide) inBX10 kw815 dX10_take_4 h (fun v4 h => ?_)
    refine wp_iload_n X dX10_take_7 1 rfl ?_
    refine wp_iaload X dX10_take_8 h (fun v8 h => ?_)
    refine wp_icmp_ge X (tgt := 35) dX10_take_9 (by decide) h (fun h => ?_) (fun h => ?_)
    · exact wp_return X Qr rfl dX10_take_35 h
    · refine wp_aload_n X dX10_take_12 0 rfl ?_
      refine wp_getR X (T := TX10) (N := 20) (ci := 9) (k := 7) rfl (by decide) (by decide) inBX10 kw819 dX10_take_13 h (fun v13 h => ?_)
      refine wp_iload_n X dX10_take_16 2 rfl ?_
      refine wp_aload_n X dX10_take_17 0 rfl ?_
      refine wp_getR X (T := TX10) (N := 20) (ci := 9) (k := 2) rfl (by decide) (by decide) inBX10 kw814 dX10_take_18 h (fun v18 h => ?_)
      refine wp_bipush X (v := 16) dX10_take_21 (by decide) ?_
      refine wp_iload_n X dX10_take_23 1 rfl ?_
      refine wp_imul X dX10_take_24 ?_
      refine wp_iload_n X dX10_take_25 2 rfl ?_
      refine wp_iadd X dX10_take_26 ?_
      refine wp_iaload X dX10_take_27 h (fun v27 h => ?_)
      refine wp_iastore X dX10_take_28 h (fun F28 h => ?_)
      refine wp_iinc X (v := x2 + 1) (lv' := [(0, .ref x0), (1, .int x1), (2, .int (x2 + 1))]) dX10_take_29 (by decide) 2 rfl rfl [1, 2, 0] rfl ?_
      refine wp_goto X (tgt := 2) dX10_take_32 (by decide) ?_
      exact ih _ _ _ _ h
def mX10_take (F : Mem) (x0 : Nat) (x1 : Int32) : Option (Mem) := fX10_take_2   FU x0 x1 0 F
set_option maxRecDepth 100000 in
set_option maxHeartbeats 4000000 in
theorem cX10_take_ok {l : Launch} {D : va_G} {cy : Nat → ClassId} {F : Mem} {x0 : Nat} {x1 : Int32} {res : Mem} (h : mX10_take F x0 x1 = some res) : MV l yX10_take cX10_take 3 none rmX10_take D cy F [.ref x0, .int x1] res := by
  refine mv_of (by decide) (Nat.le_of_ble_eq_true rfl) [(0, .ref x0), (1, .int x1)] rfl (fun C X hcd Qr => ?_)
  unfold mX10_take at h
  refine wp_iconst X (v := 0) dX10_take_0 (by decide) ?_
  refine wp_istore_n X (lv' := [(0, .ref x0), (1, .int x1), (2, .int 0)]) dX10_take_1 (by decide) [1, 2, 0] rfl ?_
  refine tX10_take_2 X hcd Qr   FU _ _ _ _ h
/-! TableauBenchModel.insert(IZ)I -/
def rmX10_insert : Room := { frames := 2, cells := 0, slots := 0, locals := 49 }
def fX10_insert_81 (K37 : Nat → Int32 → Int32 → Int32 → Mem → Option (Int32 × Mem)) (K127 : Nat → Mem → Option (Int32 × Mem)) (x0 : Nat) (x1 : Int32) (x2 : Int32) (x3 : Int32) (s0 : Int32) (F : Mem) : Option (Int32 × Mem) := (gfR F x0 9 4).bind fun v84 => (gfR F x0 9 5).bind fun v91 => (rdI F 0 v91 (48 + s0)).bind fun v99 => (mX10_box F 2 s0 v99).bind fun v100 => (wrI v100.2 v84 v100.1 (x3 + 1)).bind fun F106 => (gfR F106 x0 9 5).bind fun v108 => (rdI F106 0 v108 (48 + s0)).bind fun v117 => (wrI F106 v108 (48 + s0) (v117 + 1)).bind fun F120 => K37 x0 x1 x2 (x3 + 1) F120
set_option maxRecDepth 100000 in
set_option maxHeartbeats 4000000 in
theorem tX10_insert_81 {l : Launch} {D : va_G} {cy : Nat → ClassId} {C : Cx} {res : Int32 × Mem} (X : Fx C cX10_insert RX10 (some .int) rmX10_insert 6) (hcd : CD C l D cy) (Qr : RI C 0 0 res) {K37 : Nat → Int32 → Int32 → Int32 → Mem → Option (Int32 × Mem)} {K127 : Nat → Mem → Option (Int32 × Mem)} (hK37 : ∀ (x0 : Nat) (x1 : Int32) (x2 : Int32) (x3 : Int32) (F : Mem), K37 x0 x1 x2 x3 F = some res → Wp C 0 0 37 [(0, .ref x0), (1, .int x1), (2, .int x2), (3, .int x3)] [] F) (hK127 : ∀ (x0 : Nat) (F : Mem), K127 x0 F = some res → Wp C 0 0 127 [(0, .ref x0)] [] F) (x0 : Nat) (x1 : Int32) (x2 : Int32) (x3 : Int32) (s0 : Int32) (F : Mem) (h : fX10_insert_81 K37 K127 x0 x1 x2 x3 s0 F = some res) : Wp C 0 0 81 [(0, .ref x0), (1, .int x1), (2, .int x2), (3, .int x3)] [.int s0] F := by
  unfold fX10_insert_81 at h
  refine wp_istore X (lv' := [(0, .ref x0), (1, .int x1), (2, .int x2), (3, .int x3), (5, .int s0)]) dX10_insert_81 (by decide) [1, 2, 3, 4, 0] rfl ?_
  refine wp_aload_n X dX10_insert_83 0 rfl ?_
  refine wp_getR X (T := TX10) (N := 20) (ci := 9) (k := 4) rfl (by decide) (by decide) inBX10 kw816 dX10_insert_84 h (fun v84 h => ?_)
  refine wp_iconst X (v := 2) dX10_insert_87 (by decide) ?_
  refine wp_iload X dX10_insert_88 4 rfl ?_
  refine wp_aload_n X dX10_insert_90 0 rfl ?_
  refine wp_getR X (T := TX10) (N := 20) (ci := 9) (k := 5) rfl (by decide) (by decide) inBX10 kw817 dX10_insert_91 h (fun v91 h => ?_)
  refine wp_bipush X (v := 48) dX10_insert_94 (by decide) ?_
  refine wp_iload X dX10_insert_96 4 rfl ?_
  refine wp_iadd X dX10_insert_98 ?_
  refine wp_iaload X dX10_insert_99 h (fun v99 h => ?_)
  refine wp_callSI X (rm := rmX10_box) (n := 3) [.int 2, .int s0, .int v99] hcd (fun q hq => cX10_box_ok hq) kw940 kw941 kw10 kw942 (by decide +kernel) (by decide) (by decide) (cs2 := 0) (sl2 := 0) rfl rfl rfl rfl (Nat.le_of_ble_eq_true rfl) dX10_insert_100 h (fun v100 h => ?_)
  refine wp_iload_n X dX10_insert_103 3 rfl ?_
  refine wp_iconst X (v := 1) dX10_insert_104 (by decide) ?_
  refine wp_iadd X dX10_insert_105 ?_
  refine wp_iastore X dX10_insert_106 h (fun F106 h => ?_)
  refine wp_aload_n X dX10_insert_107 0 rfl ?_
  refine wp_getR X (T := TX10) (N := 20) (ci := 9) (k := 5) rfl (by decide) (by decide) inBX10 kw817 dX10_insert_108 h (fun v108 h => ?_)
  refine wp_bipush X (v := 48) dX10_insert_111 (by decide) ?_
  refine wp_iload X dX10_insert_113 4 rfl ?_
  refine wp_iadd X dX10_insert_115 ?_
  refine wp_dup2 X dX10_insert_116 rfl rfl ?_
  refine wp_iaload X dX10_insert_117 h (fun v117 h => ?_)
  refine wp_iconst X (v := 1) dX10_insert_118 (by decide) ?_
  refine wp_iadd X dX10_insert_119 ?_
  refine wp_iastore X dX10_insert_120 h (fun F120 h => ?_)
  refine wp_iinc X (v := x3 + 1) (lv' := [(0, .ref x0), (1, .int x1), (2, .int x2), (3, .int (x3 + 1))]) dX10_insert_121 (by decide) 3 rfl rfl [1, 2, 3, 0] rfl ?_
  refine wp_goto X (tgt := 37) dX10_insert_124 (by decide) ?_
  exact hK37 _ _ _ _ _ h
def fX10_insert_37 (K127 : Nat → Mem → Option (Int32 × Mem)) : Nat → Nat → Int32 → Int32 → Int32 → Mem → Option (Int32 × Mem)
  | 0, _, _, _, _, _ => none
  | n + 1, x0, x1, x2, x3, F => (gfR F x0 9 3).bind fun v39 => (rdI F 0 v39 x1).bind fun v43 => if v43 ≤ x3 then (K127 x0 F) else ((gfR F x0 9 2).bind fun v48 => (rdI F 0 v48 ((16 * x1) + x3)).bind fun v57 => if x2 = 0 then ((obj F x0 9).bind fun _ => (mX10_insertByRows F x0 0 v57).bind fun v78 => fX10_insert_81  (fX10_insert_37  K127 n) K127 x0 x1 x2 x3 v78.1 v78.2) else ((obj F x0 9).bind fun _ => (mX10_insertByColumns F x0 0 v57).bind fun v68 => fX10_insert_81  (fX10_insert_37  K127 n) K127 x0 x1 x2 x3 v68.1 v68.2))
set_option maxRecDepth 100000 in
set_option maxHeartbeats 4000000 in
theorem tX10_insert_37 {l : Launch} {D : va_G} {cy : Nat → ClassId} {C : Cx} {res : Int32 × Mem} (X : Fx C cX10_insert RX10 (some .int) rmX10_insert 6) (hcd : CD C l D cy) (Qr : RI C 0 0 res) {K127 : Nat → Mem → Option (Int32 × Mem)} (hK127 : ∀ (x0 : Nat) (F : Mem), K127 x0 F = some res → Wp C 0 0 127 [(0, .ref x0)] [] F) : ∀ (n : Nat) (x0 : Nat) (x1 : Int32) (x2 : Int32) (x3 : Int32) (F : Mem), fX10_insert_37 K127 n x0 x1 x2 x3 F = some res → Wp C 0 0 37 [(0, .ref x0), (1, .int x1), (2, .int x2), (3, .int x3)] [] F := by
  intro n
  induction n with
  | zero =>
    intro x0 x1 x2 x3 F h
    rw [fX10_insert_37.eq_1] at h
    cases h
  | succ n ih =>
    intro x0 x1 x2 x3 F h
    rw [fX10_insert_37.eq_2] at h
    refine wp_iload_n X dX10_insert_37 3 rfl ?_
    refine wp_aload_n X dX10_insert_38 0 rfl ?_
    refine wp_getR X (T := TX10) (N := 20) (ci := 9) (k := 3) rfl (by decide) (by decide) inBX10 kw815 dX10_insert_39 h (fun v39 h => ?_)
    refine wp_iload_n X dX10_insert_42 1 rfl ?_
    refine wp_iaload X dX10_insert_43 h (fun v43 h => ?_)
    refine wp_icmp_ge X (tgt := 127) dX10_insert_44 (by decide) h (fun h => ?_) (fun h => ?_)
    · refine wp_sub (lv' := [(0, .ref x0)]) [0] rfl ?_
      exact hK127 _ _ h
    · refine wp_aload_n X dX10_insert_47 0 rfl ?_
      refine wp_getR X (T := TX10) (N := 20) (ci := 9) (k := 2) rfl (by decide) (by decide) inBX10 kw814 dX10_insert_48 h (fun v48 h => ?_)
      refine wp_bipush X (v := 16) dX10_insert_51 (by decide) ?_
      refine wp_iload_n X dX10_insert_53 1 rfl ?_
      refine wp_imul X dX10_insert_54 ?_
      refine wp_iload_n X dX10_insert_55 3 rfl ?_
      refine wp_iadd X dX10_insert_56 ?_
      refine wp_iaload X dX10_insert_57 h (fun v57 h => ?_)
      refine wp_istore X (lv' := [(0, .ref x0), (1, .int x1), (2, .int x2), (3, .int x3), (4, .int v57)]) dX10_insert_58 (by decide) [1, 2, 3, 4, 0] rfl ?_
      refine wp_iload_n X dX10_insert_60 2 rfl ?_
      refine wp_if_eq X (tgt := 74) dX10_insert_61 (by decide) h (fun h => ?_) (fun h => ?_)
      · refine wp_aload_n X dX10_insert_74 0 rfl ?_
        refine wp_iconst X (v := 0) dX10_insert_75 (by decide) ?_
        refine wp_iload X dX10_insert_76 4 rfl ?_
        refine wp_callVI X (rm := rmX10_insertByRows) (T := TX10) (N := 20) (ci := 9) (n := 2) [.int 0, .int v57] hcd (fun q hq => cX10_insertByRows_ok hq) kw943 kw945 ks23 kw10 kw946 (by decide +kernel) (by decide) (by decide) (cs2 := 0) (sl2 := 0) rfl rfl rfl (by decide) rfl rfl (Nat.le_of_ble_eq_true rfl) dX10_insert_78 h (fun v78 h => ?_)
        refine wp_sub (lv' := [(0, .ref x0), (1, .int x1), (2, .int x2), (3, .int x3)]) [0, 1, 2, 3] rfl ?_
        exact tX10_insert_81 X hcd Qr  ih hK127 _ _ _ _ _ _ h
      · refine wp_aload_n X dX10_insert_64 0 rfl ?_
        refine wp_iconst X (v := 0) dX10_insert_65 (by decide) ?_
        refine wp_iload X dX10_insert_66 4 rfl ?_
        refine wp_callVI X (rm := rmX10_insertByColumns) (T := TX10) (N := 20) (ci := 9) (n := 2) [.int 0, .int v57] hcd (fun q hq => cX10_insertByColumns_ok hq) kw936 kw938 ks22 kw10 kw939 (by decide +kernel) (by decide) (by decide) (cs2 := 0) (sl2 := 0) rfl rfl rfl (by decide) rfl rfl (Nat.le_of_ble_eq_true rfl) dX10_insert_68 h (fun v68 h => ?_)
        refine wp_goto X (tgt := 81) dX10_insert_71 (by decide) ?_
        refine wp_sub (lv' := [(0, .ref x0), (1, .int x1), (2, .int x2), (3, .int x3)]) [0, 1, 2, 3] rfl ?_
        exact tX10_insert_81 X hcd Qr  ih hK127 _ _ _ _ _ _ h
def fX10_insert_13  (x0 : Nat) (x1 : Int32) (x2 : Int32) (s0 : Nat) (s1 : Int32) (F : Mem) : Option (Int32 × Mem) := (pf F s0 9 0 (.int s1)).bind fun F13 => (gfI F13 x0 9 0).bind fun v17 => if v17 ≤ 0 then ((obj F13 x0 9).bind fun _ => (mX10_clear F13 x0 0).bind fun v27 => (obj v27 x0 9).bind fun _ => (mX10_clear v27 x0 2).bind fun v32 => fX10_insert_37  (fun (x0 : Nat) (F : Mem) => (pf F x0 9 6 (.int 0)).bind fun F129 => (obj F129 x0 9).bind fun _ => (mX10_height F129 x0 0).bind fun v134 => some (v134.1, v134.2)) FU x0 x1 x2 0 v32) else (some (0, F13))
set_option maxRecDepth 100000 in
set_option maxHeartbeats 4000000 in
theorem tX10_insert_13 {l : Launch} {D : va_G} {cy : Nat → ClassId} {C : Cx} {res : Int32 × Mem} (X : Fx C cX10_insert RX10 (some .int) rmX10_insert 6) (hcd : CD C l D cy) (Qr : RI C 0 0 res)   (x0 : Nat) (x1 : Int32) (x2 : Int32) (s0 : Nat) (s1 : Int32) (F : Mem) (h : fX10_insert_13  x0 x1 x2 s0 s1 F = some res) : Wp C 0 0 13 [(0, .ref x0), (1, .int x1), (2, .int x2)] [.int s1, .ref s0] F := by
  unfold fX10_insert_13 at h
  refine wp_put X (T := TX10) (N := 20) (ci := 9) (k := 0) tyX10 rfl (by decide) (by decide) inBX10 kw812 tyX10_ok nmX10 rfl rfl (vp_nar_int _) rfl dX10_insert_13 h (fun F13 h => ?_)
  refine wp_aload_n X dX10_insert_16 0 rfl ?_
  refine wp_getI X (T := TX10) (N := 20) (ci := 9) (k := 0) rfl (by decide) (by decide) inBX10 kw812 dX10_insert_17 h (fun v17 h => ?_)
  refine wp_if_le X (tgt := 25) dX10_insert_20 (by decide) h (fun h => ?_) (fun h => ?_)
  · refine wp_aload_n X dX10_insert_25 0 rfl ?_
    refine wp_iconst X (v := 0) dX10_insert_26 (by decide) ?_
    refine wp_callVV X (rm := rmX10_clear) (T := TX10) (N := 20) (ci := 9) (n := 1) [.int 0] hcd (fun q hq => cX10_clear_ok hq) kw932 kw934 ks21 kw10 kw935 (by decide +kernel) (by decide) (by decide) (cs2 := 0) (sl2 := 0) rfl rfl rfl (by decide) rfl rfl (Nat.le_of_ble_eq_true rfl) dX10_insert_27 h (fun v27 h => ?_)
    refine wp_aload_n X dX10_insert_30 0 rfl ?_
    refine wp_iconst X (v := 2) dX10_insert_31 (by decide) ?_
    refine wp_callVV X (rm := rmX10_clear) (T := TX10) (N := 20) (ci := 9) (n := 1) [.int 2] hcd (fun q hq => cX10_clear_ok hq) kw932 kw934 ks21 kw10 kw935 (by decide +kernel) (by decide) (by decide) (cs2 := 0) (sl2 := 0) rfl rfl rfl (by decide) rfl rfl (Nat.le_of_ble_eq_true rfl) dX10_insert_32 h (fun v32 h => ?_)
    refine wp_iconst X (v := 0) dX10_insert_35 (by decide) ?_
    refine wp_istore_n X (lv' := [(0, .ref x0), (1, .int x1), (2, .int x2), (3, .int 0)]) dX10_insert_36 (by decide) [1, 2, 3, 0] rfl ?_
    refine tX10_insert_37 X hcd Qr  ?_ FU _ _ _ _ _ h
    · intro x0 F h
      refine wp_aload_n X dX10_insert_127 0 rfl ?_
      refine wp_iconst X (v := 0) dX10_insert_128 (by decide) ?_
      refine wp_put X (T := TX10) (N := 20) (ci := 9) (k := 6) tyX10 rfl (by decide) (by decide) inBX10 kw818 tyX10_ok nmX10 rfl rfl rfl rfl dX10_insert_129 h (fun F129 h => ?_)
      refine wp_aload_n X dX10_insert_132 0 rfl ?_
      refine wp_iconst X (v := 0) dX10_insert_133 (by decide) ?_
      refine wp_callVI X (rm := rmX10_height) (T := TX10) (N := 20) (ci := 9) (n := 1) [.int 0] hcd (fun q hq => cX10_height_ok hq) kw947 kw949 ks24 kw10 kw950 (by decide +kernel) (by decide) (by decide) (cs2 := 0) (sl2 := 0) rfl rfl rfl (by decide) rfl rfl (Nat.le_of_ble_eq_true rfl) dX10_insert_134 h (fun v134 h => ?_)
      exact wp_ireturn X Qr rfl (vp_nar_int _) dX10_insert_137 h
  · refine wp_iconst X (v := 0) dX10_insert_23 (by decide) ?_
    exact wp_ireturn X Qr rfl (vp_nar_int _) dX10_insert_24 h
def mX10_insert (F : Mem) (x0 : Nat) (x1 : Int32) (x2 : Int32) : Option (Int32 × Mem) := (mX10_isWord F x1).bind fun v2 => if v2.1 = 0 then (fX10_insert_13   x0 x1 x2 x0 1 v2.2) else (fX10_insert_13   x0 x1 x2 x0 0 v2.2)
set_option maxRecDepth 100000 in
set_option maxHeartbeats 4000000 in
theorem cX10_insert_ok {l : Launch} {D : va_G} {cy : Nat → ClassId} {F : Mem} {x0 : Nat} {x1 : Int32} {x2 : Int32} {res : Int32 × Mem} (h : mX10_insert F x0 x1 x2 = some res) : MI l yX10_insert cX10_insert 6 (some .int) rmX10_insert D cy F [.ref x0, .int x1, .int x2] res := by
  refine mi_of (by decide) (Nat.le_of_ble_eq_true rfl) [(0, .ref x0), (1, .int x1), (2, .int x2)] rfl (fun C X hcd Qr => ?_)
  unfold mX10_insert at h
  refine wp_aload_n X dX10_insert_0 0 rfl ?_
  refine wp_iload_n X dX10_insert_1 1 rfl ?_
  refine wp_callSI X (rm := rmX10_isWord) (n := 1) [.int x1] hcd (fun q hq => cX10_isWord_ok hq) kw913 kw914 kw10 kw915 (by decide +kernel) (by decide) (by decide) (cs2 := 0) (sl2 := 0) rfl rfl rfl rfl (Nat.le_of_ble_eq_true rfl) dX10_insert_2 h (fun v2 h => ?_)
  refine wp_if_eq X (tgt := 12) dX10_insert_5 (by decide) h (fun h => ?_) (fun h => ?_)
  · refine wp_iconst X (v := 1) dX10_insert_12 (by decide) ?_
    exact tX10_insert_13 X hcd Qr   _ _ _ _ _ _ h
  · refine wp_iconst X (v := 0) dX10_insert_8 (by decide) ?_
    refine wp_goto X (tgt := 13) dX10_insert_9 (by decide) ?_
    exact tX10_insert_13 X hcd Qr   _ _ _ _ _ _ h
/-! TableauBenchModel.entry(ZII)I -/
def rmX10_entry : Room := { frames := 1, cells := 0, slots := 0, locals := 22 }
def fX10_entry_27  (x0 : Nat) (x2 : Int32) (x3 : Int32) (x4 : Int32) (F : Mem) : Option (Int32 × Mem) := if x2 < 0 then (some (0, F)) else (if 23 < x2 then (some (0, F)) else (if x3 < 0 then (some (0, F)) else ((gfR F x0 9 5).bind fun v43 => (rdI F 0 v43 ((24 * x4) + x2)).bind fun v53 => if x3 < v53 then ((gfR F x0 9 4).bind fun v62 => (mX10_box F x4 x2 x3).bind fun v69 => (rdI v69.2 0 v62 v69.1).bind fun v72 => some (v72, v69.2)) else (some (0, F)))))
set_option maxRecDepth 100000 in
set_option maxHeartbeats 4000000 in
theorem tX10_entry_27 {l : Launch} {D : va_G} {cy : Nat → ClassId} {C : Cx} {res : Int32 × Mem} (X : Fx C cX10_entry RX10 (some .int) rmX10_entry 5) (hcd : CD C l D cy) (Qr : RI C 0 0 res)   (x0 : Nat) (x2 : Int32) (x3 : Int32) (x4 : Int32) (F : Mem) (h : fX10_entry_27  x0 x2 x3 x4 F = some res) : Wp C 0 0 27 [(0, .ref x0), (2, .int x2), (3, .int x3), (4, .int x4)] [] F := by
  unfold fX10_entry_27 at h
  refine wp_iload_n X dX10_entry_27 1 rfl ?_
  refine wp_if_lt X (tgt := 57) dX10_entry_28 (by decide) h (fun h => ?_) (fun h => ?_)
  · refine wp_iconst X (v := 0) dX10_entry_57 (by decide) ?_
    refine wp_goto X (tgt := 73) dX10_entry_58 (by decide) ?_
    exact wp_ireturn X Qr rfl (vp_nar_int _) dX10_entry_73 h
  · refine wp_iload_n X dX10_entry_31 1 rfl ?_
    refine wp_bipush X (v := 23) dX10_entry_32 (by decide) ?_
    refine wp_icmp_gt X (tgt := 57) dX10_entry_34 (by decide) h (fun h => ?_) (fun h => ?_)
    · refine wp_iconst X (v := 0) dX10_entry_57 (by decide) ?_
      refine wp_goto X (tgt := 73) dX10_entry_58 (by decide) ?_
      exact wp_ireturn X Qr rfl (vp_nar_int _) dX10_entry_73 h
    · refine wp_iload_n X dX10_entry_37 2 rfl ?_
      refine wp_if_lt X (tgt := 57) dX10_entry_38 (by decide) h (fun h => ?_) (fun h => ?_)
      · refine wp_iconst X (v := 0) dX10_entry_57 (by decide) ?_
        refine wp_goto X (tgt := 73) dX10_entry_58 (by decide) ?_
        exact wp_ireturn X Qr rfl (vp_nar_int _) dX10_entry_73 h
      · refine wp_iload_n X dX10_entry_41 2 rfl ?_
        refine wp_aload_n X dX10_entry_42 0 rfl ?_
        refine wp_getR X (T := TX10) (N := 20) (ci := 9) (k := 5) rfl (by decide) (by decide) inBX10 kw817 dX10_entry_43 h (fun v43 h => ?_)
        refine wp_bipush X (v := 24) dX10_entry_46 (by decide) ?_
        refine wp_iload X dX10_entry_48 3 rfl ?_
        refine wp_imul X dX10_entry_50 ?_
        refine wp_iload_n X dX10_entry_51 1 rfl ?_
        refine wp_iadd X dX10_entry_52 ?_
        refine wp_iaload X dX10_entry_53 h (fun v53 h => ?_)
        refine wp_icmp_lt X (tgt := 61) dX10_entry_54 (by decide) h (fun h => ?_) (fun h => ?_)
        · refine wp_aload_n X dX10_entry_61 0 rfl ?_
          refine wp_getR X (T := TX10) (N := 20) (ci := 9) (k := 4) rfl (by decide) (by decide) inBX10 kw816 dX10_entry_62 h (fun v62 h => ?_)
          refine wp_iload X dX10_entry_65 3 rfl ?_
          refine wp_iload_n X dX10_entry_67 1 rfl ?_
          refine wp_iload_n X dX10_entry_68 2 rfl ?_
          refine wp_callSI X (rm := rmX10_box) (n := 3) [.int x4, .int x2, .int x3] hcd (fun q hq => cX10_box_ok hq) kw940 kw941 kw10 kw942 (by decide +kernel) (by decide) (by decide) (cs2 := 0) (sl2 := 0) rfl rfl rfl rfl (Nat.le_of_ble_eq_true rfl) dX10_entry_69 h (fun v69 h => ?_)
          refine wp_iaload X dX10_entry_72 h (fun v72 h => ?_)
          exact wp_ireturn X Qr rfl (vp_nar_int _) dX10_entry_73 h
        · refine wp_iconst X (v := 0) dX10_entry_57 (by decide) ?_
          refine wp_goto X (tgt := 73) dX10_entry_58 (by decide) ?_
          exact wp_ireturn X Qr rfl (vp_nar_int _) dX10_entry_73 h
def fX10_entry_14  (x0 : Nat) (x1 : Int32) (x2 : Int32) (x3 : Int32) (s0 : Int32) (F : Mem) : Option (Int32 × Mem) := if x1 = 0 then (fX10_entry_27   x0 x2 x3 s0 F) else ((gfI F x0 9 6).bind fun v21 => if v21 = 0 then (fX10_entry_27   x0 x2 x3 s0 F) else (some (0, F)))
set_option maxRecDepth 100000 in
set_option maxHeartbeats 4000000 in
theorem tX10_entry_14 {l : Launch} {D : va_G} {cy : Nat → ClassId} {C : Cx} {res : Int32 × Mem} (X : Fx C cX10_entry RX10 (some .int) rmX10_entry 5) (hcd : CD C l D cy) (Qr : RI C 0 0 res)   (x0 : Nat) (x1 : Int32) (x2 : Int32) (x3 : Int32) (s0 : Int32) (F : Mem) (h : fX10_entry_14  x0 x1 x2 x3 s0 F = some res) : Wp C 0 0 14 [(0, .ref x0), (1, .int x1), (2, .int x2), (3, .int x3)] [.int s0] F := by
  unfold fX10_entry_14 at h
  refine wp_istore X (lv' := [(0, .ref x0), (1, .int x1), (2, .int x2), (3, .int x3), (4, .int s0)]) dX10_entry_14 (by decide) [1, 2, 3, 4, 0] rfl ?_
  refine wp_iload_n X dX10_entry_16 1 rfl ?_
  refine wp_if_eq X (tgt := 27) dX10_entry_17 (by decide) h (fun h => ?_) (fun h => ?_)
  · refine wp_sub (lv' := [(0, .ref x0), (2, .int x2), (3, .int x3), (4, .int s0)]) [0, 2, 3, 4] rfl ?_
    exact tX10_entry_27 X hcd Qr   _ _ _ _ _ h
  · refine wp_aload_n X dX10_entry_20 0 rfl ?_
    refine wp_getI X (T := TX10) (N := 20) (ci := 9) (k := 6) rfl (by decide) (by decide) inBX10 kw818 dX10_entry_21 h (fun v21 h => ?_)
    refine wp_if_ne X (tgt := 57) dX10_entry_24 (by decide) h (fun h => ?_) (fun h => ?_)
    · refine wp_iconst X (v := 0) dX10_entry_57 (by decide) ?_
      refine wp_goto X (tgt := 73) dX10_entry_58 (by decide) ?_
      exact wp_ireturn X Qr rfl (vp_nar_int _) dX10_entry_73 h
    · refine wp_sub (lv' := [(0, .ref x0), (2, .int x2), (3, .int x3), (4, .int s0)]) [0, 2, 3, 4] rfl ?_
      exact tX10_entry_27 X hcd Qr   _ _ _ _ _ h
def mX10_entry (F : Mem) (x0 : Nat) (x1 : Int32) (x2 : Int32) (x3 : Int32) : Option (Int32 × Mem) := (pf F x0 9 0 (.int 0)).bind fun F2 => if x1 = 0 then (fX10_entry_14   x0 x1 x2 x3 0 F2) else (fX10_entry_14   x0 x1 x2 x3 2 F2)
set_option maxRecDepth 100000 in
set_option maxHeartbeats 4000000 in
theorem cX10_entry_ok {l : Launch} {D : va_G} {cy : Nat → ClassId} {F : Mem} {x0 : Nat} {x1 : Int32} {x2 : Int32} {x3 : Int32} {res : Int32 × Mem} (h : mX10_entry F x0 x1 x2 x3 = some res) : MI l yX10_entry cX10_entry 5 (some .int) rmX10_entry D cy F [.ref x0, .int x1, .int x2, .int x3] res := by
  refine mi_of (by decide) (Nat.le_of_ble_eq_true rfl) [(0, .ref x0), (1, .int x1), (2, .int x2), (3, .int x3)] rfl (fun C X hcd Qr => ?_)
  unfold mX10_entry at h
  refine wp_aload_n X dX10_entry_0 0 rfl ?_
  refine wp_iconst X (v := 0) dX10_entry_1 (by decide) ?_
  refine wp_put X (T := TX10) (N := 20) (ci := 9) (k := 0) tyX10 rfl (by decide) (by decide) inBX10 kw812 tyX10_ok nmX10 rfl rfl (vp_nar_int _) rfl dX10_entry_2 h (fun F2 h => ?_)
  refine wp_iload_n X dX10_entry_5 1 rfl ?_
  refine wp_if_eq X (tgt := 13) dX10_entry_6 (by decide) h (fun h => ?_) (fun h => ?_)
  · refine wp_iconst X (v := 0) dX10_entry_13 (by decide) ?_
    exact tX10_entry_14 X hcd Qr   _ _ _ _ _ _ h
  · refine wp_iconst X (v := 2) dX10_entry_9 (by decide) ?_
    refine wp_goto X (tgt := 14) dX10_entry_10 (by decide) ?_
    exact tX10_entry_14 X hcd Qr   _ _ _ _ _ _ h
/-! TableauBenchModel.copyP(I)V -/
def rmX10_copyP : Room := { frames := 1, cells := 0, slots := 0, locals := 22 }
def fX10_copyP_27 (K65 : Nat → Int32 → Int32 → Mem → Option (Mem)) : Nat → Nat → Int32 → Int32 → Int32 → Mem → Option (Mem)
  | 0, _, _, _, _, _ => none
  | n + 1, x0, x1, x2, x3, F => (gfR F x0 9 5).bind fun v29 => (rdI F 0 v29 x2).bind fun v33 => if v33 ≤ x3 then (K65 x0 x1 x2 F) else ((gfR F x0 9 4).bind fun v38 => (mX10_box F x1 x2 x3).bind fun v44 => (gfR v44.2 x0 9 4).bind fun v48 => (mX10_box v44.2 0 x2 x3).bind fun v54 => (rdI v54.2 0 v48 v54.1).bind fun v57 => (wrI v54.2 v38 v44.1 v57).bind fun F58 => (fX10_copyP_27  K65 n) x0 x1 x2 (x3 + 1) F58)
set_option maxRecDepth 100000 in
set_option maxHeartbeats 4000000 in
theorem tX10_copyP_27 {l : Launch} {D : va_G} {cy : Nat → ClassId} {C : Cx} {res : Mem} (X : Fx C cX10_copyP RX10 none rmX10_copyP 4) (hcd : CD C l D cy) (Qr : RV C 0 0 res) {K65 : Nat → Int32 → Int32 → Mem → Option (Mem)} (hK65 : ∀ (x0 : Nat) (x1 : Int32) (x2 : Int32) (F : Mem), K65 x0 x1 x2 F = some res → Wp C 0 0 65 [(0, .ref x0), (1, .int x1), (2, .int x2)] [] F) : ∀ (n : Nat) (x0 : Nat) (x1 : Int32) (x2 : Int32) (x3 : Int32) (F : Mem), fX10_copyP_27 K65 n x0 x1 x2 x3 F = some res → Wp C 0 0 27 [(0, .ref x0), (1, .int x1), (2, .int x2), (3, .int x3)] [] F := by
  intro n
  induction n with
  | zero =>
    intro x0 x1 x2 x3 F h
    rw [fX10_copyP_27.eq_1] at h
    cases h
  | succ n ih =>
    intro x0 x1 x2 x3 F h
    rw [fX10_copyP_27.eq_2] at h
    refine wp_iload_n X dX10_copyP_27 3 rfl ?_
    refine wp_aload_n X dX10_copyP_28 0 rfl ?_
    refine wp_getR X (T := TX10) (N := 20) (ci := 9) (k := 5) rfl (by decide) (by decide) inBX10 kw817 dX10_copyP_29 h (fun v29 h => ?_)
    refine wp_iload_n X dX10_copyP_32 2 rfl ?_
    refine wp_iaload X dX10_copyP_33 h (fun v33 h => ?_)
    refine wp_icmp_ge X (tgt := 65) dX10_copyP_34 (by decide) h (fun h => ?_) (fun h => ?_)
    · refine wp_sub (lv' := [(0, .ref x0), (1, .int x1), (2, .int x2)]) [0, 1, 2] rfl ?_
      exact hK65 _ _ _ _ h
    · refine wp_aload_n X dX10_copyP_37 0 rfl ?_
      refine wp_getR X (T := TX10) (N := 20) (ci := 9) (k := 4) rfl (by decide) (by decide) inBX10 kw816 dX10_copyP_38 h (fun v38 h => ?_)
      refine wp_iload_n X dX10_copyP_41 1 rfl ?_
      refine wp_iload_n X dX10_copyP_42 2 rfl ?_
      refine wp_iload_n X dX10_copyP_43 3 rfl ?_
      refine wp_callSI X (rm := rmX10_box) (n := 3) [.int x1, .int x2, .int x3] hcd (fun q hq => cX10_box_ok hq) kw940 kw941 kw10 kw942 (by decide +kernel) (by decide) (by decide) (cs2 := 0) (sl2 := 0) rfl rfl rfl rfl (Nat.le_of_ble_eq_true rfl) dX10_copyP_44 h (fun v44 h => ?_)
      refine wp_aload_n X dX10_copyP_47 0 rfl ?_
      refine wp_getR X (T := TX10) (N := 20) (ci := 9) (k := 4) rfl (by decide) (by decide) inBX10 kw816 dX10_copyP_48 h (fun v48 h => ?_)
      refine wp_iconst X (v := 0) dX10_copyP_51 (by decide) ?_
      refine wp_iload_n X dX10_copyP_52 2 rfl ?_
      refine wp_iload_n X dX10_copyP_53 3 rfl ?_
      refine wp_callSI X (rm := rmX10_box) (n := 3) [.int 0, .int x2, .int x3] hcd (fun q hq => cX10_box_ok hq) kw940 kw941 kw10 kw942 (by decide +kernel) (by decide) (by decide) (cs2 := 0) (sl2 := 0) rfl rfl rfl rfl (Nat.le_of_ble_eq_true rfl) dX10_copyP_54 h (fun v54 h => ?_)
      refine wp_iaload X dX10_copyP_57 h (fun v57 h => ?_)
      refine wp_iastore X dX10_copyP_58 h (fun F58 h => ?_)
      refine wp_iinc X (v := x3 + 1) (lv' := [(0, .ref x0), (1, .int x1), (2, .int x2), (3, .int (x3 + 1))]) dX10_copyP_59 (by decide) 3 rfl rfl [1, 2, 3, 0] rfl ?_
      refine wp_goto X (tgt := 27) dX10_copyP_62 (by decide) ?_
      exact ih _ _ _ _ _ h
def fX10_copyP_2  : Nat → Nat → Int32 → Int32 → Mem → Option (Mem)
  | 0, _, _, _, _ => none
  | n + 1, x0, x1, x2, F => if 24 ≤ x2 then (some F) else ((gfR F x0 9 5).bind fun v9 => (gfR F x0 9 5).bind fun v19 => (rdI F 0 v19 x2).bind fun v23 => (wrI F v9 ((24 * x1) + x2) v23).bind fun F24 => fX10_copyP_27  (fun (x0 : Nat) (x1 : Int32) (x2 : Int32) (F : Mem) => (fX10_copyP_2   n) x0 x1 (x2 + 1) F) FU x0 x1 x2 0 F24)
set_option maxRecDepth 100000 in
set_option maxHeartbeats 4000000 in
theorem tX10_copyP_2 {l : Launch} {D : va_G} {cy : Nat → ClassId} {C : Cx} {res : Mem} (X : Fx C cX10_copyP RX10 none rmX10_copyP 4) (hcd : CD C l D cy) (Qr : RV C 0 0 res)   : ∀ (n : Nat) (x0 : Nat) (x1 : Int32) (x2 : Int32) (F : Mem), fX10_copyP_2  n x0 x1 x2 F = some res → Wp C 0 0 2 [(0, .ref x0), (1, .int x1), (2, .int x2)] [] F := by
  intro n
  induction n with
  | zero =>
    intro x0 x1 x2 F h
    rw [fX10_copyP_2.eq_1] at h
    cases h
  | succ n ih =>
    intro x0 x1 x2 F h
    rw [fX10_copyP_2.eq_2] at h
    refine wp_iload_n X dX10_copyP_2 2 rfl ?_
    refine wp_bipush X (v := 24) dX10_copyP_3 (by decide) ?_
    refine wp_icmp_ge X (tgt := 71) dX10_copyP_5 (by decide) h (fun h => ?_) (fun h => ?_)
    · exact wp_return X Qr rfl dX10_copyP_71 h
    · refine wp_aload_n X dX10_copyP_8 0 rfl ?_
      refine wp_getR X (T := TX10) (N := 20) (ci := 9) (k := 5) rfl (by decide) (by decide) inBX10 kw817 dX10_copyP_9 h (fun v9 h => ?_)
      refine wp_bipush X (v := 24) dX10_copyP_12 (by decide) ?_
      refine wp_iload_n X dX10_copyP_14 1 rfl ?_
      refine wp_imul X dX10_copyP_15 ?_
      refine wp_iload_n X dX10_copyP_16 2 rfl ?_
      refine wp_iadd X dX10_copyP_17 ?_
      refine wp_aload_n X dX10_copyP_18 0 rfl ?_
      refine wp_getR X (T := TX10) (N := 20) (ci := 9) (k := 5) rfl (by decide) (by decide) inBX10 kw817 dX10_copyP_19 h (fun v19 h => ?_)
      refine wp_iload_n X dX10_copyP_22 2 rfl ?_
      refine wp_iaload X dX10_copyP_23 h (fun v23 h => ?_)
      refine wp_iastore X dX10_copyP_24 h (fun F24 h => ?_)
      refine wp_iconst X (v := 0) dX10_copyP_25 (by decide) ?_
      refine wp_istore_n X (lv' := [(0, .ref x0), (1, .int x1), (2, .int x2), (3, .int 0)]) dX10_copyP_26 (by decide) [1, 2, 3, 0] rfl ?_
      refine tX10_copyP_27 X hcd Qr  ?_ FU _ _ _ _ _ h
      · intro x0 x1 x2 F h
        refine wp_iinc X (v := x2 + 1) (lv' := [(0, .ref x0), (1, .int x1), (2, .int (x2 + 1))]) dX10_copyP_65 (by decide) 2 rfl rfl [1, 2, 0] rfl ?_
        refine wp_goto X (tgt := 2) dX10_copyP_68 (by decide) ?_
        exact ih _ _ _ _ h
def mX10_copyP (F : Mem) (x0 : Nat) (x1 : Int32) : Option (Mem) := fX10_copyP_2   FU x0 x1 0 F
set_option maxRecDepth 100000 in
set_option maxHeartbeats 4000000 in
theorem cX10_copyP_ok {l : Launch} {D : va_G} {cy : Nat → ClassId} {F : Mem} {x0 : Nat} {x1 : Int32} {res : Mem} (h : mX10_copyP F x0 x1 = some res) : MV l yX10_copyP cX10_copyP 4 none rmX10_copyP D cy F [.ref x0, .int x1] res := by
  refine mv_of (by decide) (Nat.le_of_ble_eq_true rfl) [(0, .ref x0), (1, .int x1)] rfl (fun C X hcd Qr => ?_)
  unfold mX10_copyP at h
  refine wp_iconst X (v := 0) dX10_copyP_0 (by decide) ?_
  refine wp_istore_n X (lv' := [(0, .ref x0), (1, .int x1), (2, .int 0)]) dX10_copyP_1 (by decide) [1, 2, 0] rfl ?_
  refine tX10_copyP_2 X hcd Qr   FU _ _ _ _ h
/-! TableauBenchModel.count(I)I -/
def rmX10_count : Room := { frames := 0, cells := 0, slots := 0, locals := 0 }
def fX10_count_4  : Nat → Nat → Int32 → Int32 → Int32 → Mem → Option (Int32 × Mem)
  | 0, _, _, _, _, _ => none
  | n + 1, x0, x1, x2, x3, F => if 24 ≤ x3 then (some (x2, F)) else ((gfR F x0 9 5).bind fun v12 => (rdI F 0 v12 ((24 * x1) + x3)).bind fun v21 => (fX10_count_4   n) x0 x1 (x2 + v21) (x3 + 1) F)
set_option maxRecDepth 100000 in
set_option maxHeartbeats 4000000 in
theorem tX10_count_4 {l : Launch} {D : va_G} {cy : Nat → ClassId} {C : Cx} {res : Int32 × Mem} (X : Fx C cX10_count RX10 (some .int) rmX10_count 4) (hcd : CD C l D cy) (Qr : RI C 0 0 res)   : ∀ (n : Nat) (x0 : Nat) (x1 : Int32) (x2 : Int32) (x3 : Int32) (F : Mem), fX10_count_4  n x0 x1 x2 x3 F = some res → Wp C 0 0 4 [(0, .ref x0), (1, .int x1), (2, .int x2), (3, .int x3)] [] F := by
  intro n
  induction n with
  | zero =>
    intro x0 x1 x2 x3 F h
    rw [fX10_count_4.eq_1] at h
    cases h
  | succ n ih =>
    intro x0 x1 x2 x3 F h
    rw [fX10_count_4.eq_2] at h
    refine wp_iload_n X dX10_count_4 3 rfl ?_
    refine wp_bipush X (v := 24) dX10_count_5 (by decide) ?_
    refine wp_icmp_ge X (tgt := 30) dX10_count_7 (by decide) h (fun h => ?_) (fun h => ?_)
    · refine wp_iload_n X dX10_count_30 2 rfl ?_
      exact wp_ireturn X Qr rfl (vp_nar_int _) dX10_count_31 h
    · refine wp_iload_n X dX10_count_10 2 rfl ?_
      refine wp_aload_n X dX10_count_11 0 rfl ?_
      refine wp_getR X (T := TX10) (N := 20) (ci := 9) (k := 5) rfl (by decide) (by decide) inBX10 kw817 dX10_count_12 h (fun v12 h => ?_)
      refine wp_bipush X (v := 24) dX10_count_15 (by decide) ?_
      refine wp_iload_n X dX10_count_17 1 rfl ?_
      refine wp_imul X dX10_count_18 ?_
      refine wp_iload_n X dX10_count_19 3 rfl ?_
      refine wp_iadd X dX10_count_20 ?_
      refine wp_iaload X dX10_count_21 h (fun v21 h => ?_)
      refine wp_iadd X dX10_count_22 ?_
      refine wp_istore_n X (lv' := [(0, .ref x0), (1, .int x1), (2, .int (x2 + v21)), (3, .int x3)]) dX10_count_23 (by decide) [1, 2, 0, 3] rfl ?_
      refine wp_iinc X (v := x3 + 1) (lv' := [(0, .ref x0), (1, .int x1), (2, .int (x2 + v21)), (3, .int (x3 + 1))]) dX10_count_24 (by decide) 3 rfl rfl [1, 2, 3, 0] rfl ?_
      refine wp_goto X (tgt := 4) dX10_count_27 (by decide) ?_
      exact ih _ _ _ _ _ h
def mX10_count (F : Mem) (x0 : Nat) (x1 : Int32) : Option (Int32 × Mem) := fX10_count_4   FU x0 x1 0 0 F
set_option maxRecDepth 100000 in
set_option maxHeartbeats 4000000 in
theorem cX10_count_ok {l : Launch} {D : va_G} {cy : Nat → ClassId} {F : Mem} {x0 : Nat} {x1 : Int32} {res : Int32 × Mem} (h : mX10_count F x0 x1 = some res) : MI l yX10_count cX10_count 4 (some .int) rmX10_count D cy F [.ref x0, .int x1] res := by
  refine mi_of (by decide) (Nat.le_of_ble_eq_true rfl) [(0, .ref x0), (1, .int x1)] rfl (fun C X hcd Qr => ?_)
  unfold mX10_count at h
  refine wp_iconst X (v := 0) dX10_count_0 (by decide) ?_
  refine wp_istore_n X (lv' := [(0, .ref x0), (1, .int x1), (2, .int 0)]) dX10_count_1 (by decide) [1, 2, 0] rfl ?_
  refine wp_iconst X (v := 0) dX10_count_2 (by decide) ?_
  refine wp_istore_n X (lv' := [(0, .ref x0), (1, .int x1), (2, .int 0), (3, .int 0)]) dX10_count_3 (by decide) [1, 2, 3, 0] rfl ?_
  refine tX10_count_4 X hcd Qr   FU _ _ _ _ _ h
/-! TableauBenchModel.takeOut(II)I -/
def rmX10_takeOut : Room := { frames := 1, cells := 0, slots := 0, locals := 22 }
def fX10_takeOut_63 (K86 : Nat → Int32 → Int32 → Int32 → Int32 → Mem → Option (Int32 × Mem)) : Nat → Nat → Int32 → Int32 → Int32 → Int32 → Mem → Option (Int32 × Mem)
  | 0, _, _, _, _, _, _ => none
  | n + 1, x0, x1, x3, x4, x5, F => (gfR F x0 9 4).bind fun v64 => (mX10_box F x1 x4 x5).bind fun v72 => (rdI v72.2 0 v64 v72.1).bind fun v75 => if v75 < x3 then (K86 x0 x1 x3 x4 x5 v72.2) else ((fX10_takeOut_63  K86 n) x0 x1 x3 x4 (x5 + (-1)) v72.2)
set_option maxRecDepth 100000 in
set_option maxHeartbeats 4000000 in
theorem tX10_takeOut_63 {l : Launch} {D : va_G} {cy : Nat → ClassId} {C : Cx} {res : Int32 × Mem} (X : Fx C cX10_takeOut RX10 (some .int) rmX10_takeOut 7) (hcd : CD C l D cy) (Qr : RI C 0 0 res) {K86 : Nat → Int32 → Int32 → Int32 → Int32 → Mem → Option (Int32 × Mem)} (hK86 : ∀ (x0 : Nat) (x1 : Int32) (x3 : Int32) (x4 : Int32) (x5 : Int32) (F : Mem), K86 x0 x1 x3 x4 x5 F = some res → Wp C 0 0 86 [(0, .ref x0), (1, .int x1), (3, .int x3), (4, .int x4), (5, .int x5)] [] F) : ∀ (n : Nat) (x0 : Nat) (x1 : Int32) (x3 : Int32) (x4 : Int32) (x5 : Int32) (F : Mem), fX10_takeOut_63 K86 n x0 x1 x3 x4 x5 F = some res → Wp C 0 0 63 [(0, .ref x0), (1, .int x1), (3, .int x3), (4, .int x4), (5, .int x5)] [] F := by
  intro n
  induction n with
  | zero =>
    intro x0 x1 x3 x4 x5 F h
    rw [fX10_takeOut_63.eq_1] at h
    cases h
  | succ n ih =>
    intro x0 x1 x3 x4 x5 F h
    rw [fX10_takeOut_63.eq_2] at h
    refine wp_aload_n X dX10_takeOut_63 0 rfl ?_
    refine wp_getR X (T := TX10) (N := 20) (ci := 9) (k := 4) rfl (by decide) (by decide) inBX10 kw816 dX10_takeOut_64 h (fun v64 h => ?_)
    refine wp_iload_n X dX10_takeOut_67 1 rfl ?_
    refine wp_iload X dX10_takeOut_68 3 rfl ?_
    refine wp_iload X dX10_takeOut_70 4 rfl ?_
    refine wp_callSI X (rm := rmX10_box) (n := 3) [.int x1, .int x4, .int x5] hcd (fun q hq => cX10_box_ok hq) kw940 kw941 kw10 kw942 (by decide +kernel) (by decide) (by decide) (cs2 := 0) (sl2 := 0) rfl rfl rfl rfl (Nat.le_of_ble_eq_true rfl) dX10_takeOut_72 h (fun v72 h => ?_)
    refine wp_iaload X dX10_takeOut_75 h (fun v75 h => ?_)
    refine wp_iload_n X dX10_takeOut_76 2 rfl ?_
    refine wp_icmp_lt X (tgt := 86) dX10_takeOut_77 (by decide) h (fun h => ?_) (fun h => ?_)
    · exact hK86 _ _ _ _ _ _ h
    · refine wp_iinc X (v := x5 + (-1)) (lv' := [(0, .ref x0), (1, .int x1), (3, .int x3), (4, .int x4), (5, .int (x5 + (-1)))]) dX10_takeOut_80 (by decide) 4 rfl rfl [1, 2, 3, 4, 0] rfl ?_
      refine wp_goto X (tgt := 63) dX10_takeOut_83 (by decide) ?_
      exact ih _ _ _ _ _ _ h
def fX10_takeOut_42  : Nat → Nat → Int32 → Int32 → Int32 → Mem → Option (Int32 × Mem)
  | 0, _, _, _, _, _ => none
  | n + 1, x0, x1, x3, x4, F => if x4 < 0 then (some (x3, F)) else ((gfR F x0 9 5).bind fun v48 => (rdI F 0 v48 ((24 * x1) + x4)).bind fun v58 => fX10_takeOut_63  (fun (x0 : Nat) (x1 : Int32) (x3 : Int32) (x4 : Int32) (x5 : Int32) (F : Mem) => (gfR F x0 9 4).bind fun v87 => (mX10_box F x1 x4 x5).bind fun v95 => (rdI v95.2 0 v87 v95.1).bind fun v98 => (gfR v95.2 x0 9 4).bind fun v102 => (mX10_box v95.2 x1 x4 x5).bind fun v110 => (wrI v110.2 v102 v110.1 x3).bind fun F114 => (fX10_takeOut_42   n) x0 x1 v98 (x4 + (-1)) F114) FU x0 x1 x3 x4 (v58 - 1) F)
set_option maxRecDepth 100000 in
set_option maxHeartbeats 4000000 in
theorem tX10_takeOut_42 {l : Launch} {D : va_G} {cy : Nat → ClassId} {C : Cx} {res : Int32 × Mem} (X : Fx C cX10_takeOut RX10 (some .int) rmX10_takeOut 7) (hcd : CD C l D cy) (Qr : RI C 0 0 res)   : ∀ (n : Nat) (x0 : Nat) (x1 : Int32) (x3 : Int32) (x4 : Int32) (F : Mem), fX10_takeOut_42  n x0 x1 x3 x4 F = some res → Wp C 0 0 42 [(0, .ref x0), (1, .int x1), (3, .int x3), (4, .int x4)] [] F := by
  intro n
  induction n with
  | zero =>
    intro x0 x1 x3 x4 F h
    rw [fX10_takeOut_42.eq_1] at h
    cases h
  | succ n ih =>
    intro x0 x1 x3 x4 F h
    rw [fX10_takeOut_42.eq_2] at h
    refine wp_iload X dX10_takeOut_42 3 rfl ?_
    refine wp_if_lt X (tgt := 124) dX10_takeOut_44 (by decide) h (fun h => ?_) (fun h => ?_)
    · refine wp_iload_n X dX10_takeOut_124 2 rfl ?_
      exact wp_ireturn X Qr rfl (vp_nar_int _) dX10_takeOut_125 h
    · refine wp_aload_n X dX10_takeOut_47 0 rfl ?_
      refine wp_getR X (T := TX10) (N := 20) (ci := 9) (k := 5) rfl (by decide) (by decide) inBX10 kw817 dX10_takeOut_48 h (fun v48 h => ?_)
      refine wp_bipush X (v := 24) dX10_takeOut_51 (by decide) ?_
      refine wp_iload_n X dX10_takeOut_53 1 rfl ?_
      refine wp_imul X dX10_takeOut_54 ?_
      refine wp_iload X dX10_takeOut_55 3 rfl ?_
      refine wp_iadd X dX10_takeOut_57 ?_
      refine wp_iaload X dX10_takeOut_58 h (fun v58 h => ?_)
      refine wp_iconst X (v := 1) dX10_takeOut_59 (by decide) ?_
      refine wp_isub X dX10_takeOut_60 ?_
      refine wp_istore X (lv' := [(0, .ref x0), (1, .int x1), (3, .int x3), (4, .int x4), (5, .int (v58 - 1))]) dX10_takeOut_61 (by decide) [1, 2, 3, 4, 0] rfl ?_
      refine tX10_takeOut_63 X hcd Qr  ?_ FU _ _ _ _ _ _ h
      · intro x0 x1 x3 x4 x5 F h
        refine wp_aload_n X dX10_takeOut_86 0 rfl ?_
        refine wp_getR X (T := TX10) (N := 20) (ci := 9) (k := 4) rfl (by decide) (by decide) inBX10 kw816 dX10_takeOut_87 h (fun v87 h => ?_)
        refine wp_iload_n X dX10_takeOut_90 1 rfl ?_
        refine wp_iload X dX10_takeOut_91 3 rfl ?_
        refine wp_iload X dX10_takeOut_93 4 rfl ?_
        refine wp_callSI X (rm := rmX10_box) (n := 3) [.int x1, .int x4, .int x5] hcd (fun q hq => cX10_box_ok hq) kw940 kw941 kw10 kw942 (by decide +kernel) (by decide) (by decide) (cs2 := 0) (sl2 := 0) rfl rfl rfl rfl (Nat.le_of_ble_eq_true rfl) dX10_takeOut_95 h (fun v95 h => ?_)
        refine wp_iaload X dX10_takeOut_98 h (fun v98 h => ?_)
        refine wp_istore X (lv' := [(0, .ref x0), (1, .int x1), (3, .int x3), (4, .int x4), (5, .int x5), (6, .int v98)]) dX10_takeOut_99 (by decide) [1, 2, 3, 4, 5, 0] rfl ?_
        refine wp_aload_n X dX10_takeOut_101 0 rfl ?_
        refine wp_getR X (T := TX10) (N := 20) (ci := 9) (k := 4) rfl (by decide) (by decide) inBX10 kw816 dX10_takeOut_102 h (fun v102 h => ?_)
        refine wp_iload_n X dX10_takeOut_105 1 rfl ?_
        refine wp_iload X dX10_takeOut_106 3 rfl ?_
        refine wp_iload X dX10_takeOut_108 4 rfl ?_
        refine wp_callSI X (rm := rmX10_box) (n := 3) [.int x1, .int x4, .int x5] hcd (fun q hq => cX10_box_ok hq) kw940 kw941 kw10 kw942 (by decide +kernel) (by decide) (by decide) (cs2 := 0) (sl2 := 0) rfl rfl rfl rfl (Nat.le_of_ble_eq_true rfl) dX10_takeOut_110 h (fun v110 h => ?_)
        refine wp_iload_n X dX10_takeOut_113 2 rfl ?_
        refine wp_iastore X dX10_takeOut_114 h (fun F114 h => ?_)
        refine wp_iload X dX10_takeOut_115 5 rfl ?_
        refine wp_istore_n X (lv' := [(0, .ref x0), (1, .int x1), (3, .int v98), (4, .int x4)]) dX10_takeOut_117 (by decide) [1, 2, 0, 3] rfl ?_
        refine wp_iinc X (v := x4 + (-1)) (lv' := [(0, .ref x0), (1, .int x1), (3, .int v98), (4, .int (x4 + (-1)))]) dX10_takeOut_118 (by decide) 3 rfl rfl [1, 2, 3, 0] rfl ?_
        refine wp_goto X (tgt := 42) dX10_takeOut_121 (by decide) ?_
        exact ih _ _ _ _ _ h
def mX10_takeOut (F : Mem) (x0 : Nat) (x1 : Int32) (x2 : Int32) : Option (Int32 × Mem) := (gfR F x0 9 5).bind fun v1 => (rdI F 0 v1 ((24 * x1) + x2)).bind fun v11 => (wrI F v1 ((24 * x1) + x2) (v11 - 1)).bind fun F14 => (gfR F14 x0 9 4).bind fun v16 => (gfR F14 x0 9 5).bind fun v22 => (rdI F14 0 v22 ((24 * x1) + x2)).bind fun v31 => (mX10_box F14 x1 x2 v31).bind fun v32 => (rdI v32.2 0 v16 v32.1).bind fun v35 => fX10_takeOut_42   FU x0 x1 v35 (x2 - 1) v32.2
set_option maxRecDepth 100000 in
set_option maxHeartbeats 4000000 in
theorem cX10_takeOut_ok {l : Launch} {D : va_G} {cy : Nat → ClassId} {F : Mem} {x0 : Nat} {x1 : Int32} {x2 : Int32} {res : Int32 × Mem} (h : mX10_takeOut F x0 x1 x2 = some res) : MI l yX10_takeOut cX10_takeOut 7 (some .int) rmX10_takeOut D cy F [.ref x0, .int x1, .int x2] res := by
  refine mi_of (by decide) (Nat.le_of_ble_eq_true rfl) [(0, .ref x0), (1, .int x1), (2, .int x2)] rfl (fun C X hcd Qr => ?_)
  unfold mX10_takeOut at h
  refine wp_aload_n X dX10_takeOut_0 0 rfl ?_
  refine wp_getR X (T := TX10) (N := 20) (ci := 9) (k := 5) rfl (by decide) (by decide) inBX10 kw817 dX10_takeOut_1 h (fun v1 h => ?_)
  refine wp_bipush X (v := 24) dX10_takeOut_4 (by decide) ?_
  refine wp_iload_n X dX10_takeOut_6 1 rfl ?_
  refine wp_imul X dX10_takeOut_7 ?_
  refine wp_iload_n X dX10_takeOut_8 2 rfl ?_
  refine wp_iadd X dX10_takeOut_9 ?_
  refine wp_dup2 X dX10_takeOut_10 rfl rfl ?_
  refine wp_iaload X dX10_takeOut_11 h (fun v11 h => ?_)
  refine wp_iconst X (v := 1) dX10_takeOut_12 (by decide) ?_
  refine wp_isub X dX10_takeOut_13 ?_
  refine wp_iastore X dX10_takeOut_14 h (fun F14 h => ?_)
  refine wp_aload_n X dX10_takeOut_15 0 rfl ?_
  refine wp_getR X (T := TX10) (N := 20) (ci := 9) (k := 4) rfl (by decide) (by decide) inBX10 kw816 dX10_takeOut_16 h (fun v16 h => ?_)
  refine wp_iload_n X dX10_takeOut_19 1 rfl ?_
  refine wp_iload_n X dX10_takeOut_20 2 rfl ?_
  refine wp_aload_n X dX10_takeOut_21 0 rfl ?_
  refine wp_getR X (T := TX10) (N := 20) (ci := 9) (k := 5) rfl (by decide) (by decide) inBX10 kw817 dX10_takeOut_22 h (fun v22 h => ?_)
  refine wp_bipush X (v := 24) dX10_takeOut_25 (by decide) ?_
  refine wp_iload_n X dX10_takeOut_27 1 rfl ?_
  refine wp_imul X dX10_takeOut_28 ?_
  refine wp_iload_n X dX10_takeOut_29 2 rfl ?_
  refine wp_iadd X dX10_takeOut_30 ?_
  refine wp_iaload X dX10_takeOut_31 h (fun v31 h => ?_)
  refine wp_callSI X (rm := rmX10_box) (n := 3) [.int x1, .int x2, .int v31] hcd (fun q hq => cX10_box_ok hq) kw940 kw941 kw10 kw942 (by decide +kernel) (by decide) (by decide) (cs2 := 0) (sl2 := 0) rfl rfl rfl rfl (Nat.le_of_ble_eq_true rfl) dX10_takeOut_32 h (fun v32 h => ?_)
  refine wp_iaload X dX10_takeOut_35 h (fun v35 h => ?_)
  refine wp_istore_n X (lv' := [(0, .ref x0), (1, .int x1), (2, .int x2), (3, .int v35)]) dX10_takeOut_36 (by decide) [1, 2, 3, 0] rfl ?_
  refine wp_iload_n X dX10_takeOut_37 2 rfl ?_
  refine wp_iconst X (v := 1) dX10_takeOut_38 (by decide) ?_
  refine wp_isub X dX10_takeOut_39 ?_
  refine wp_istore X (lv' := [(0, .ref x0), (1, .int x1), (3, .int v35), (4, .int (x2 - 1))]) dX10_takeOut_40 (by decide) [1, 2, 4, 0] rfl ?_
  refine tX10_takeOut_42 X hcd Qr   FU _ _ _ _ _ h
/-! TableauBenchModel.rowOfNumber(I)I -/
def rmX10_rowOfNumber : Room := { frames := 1, cells := 0, slots := 0, locals := 22 }
def fX10_rowOfNumber_39 (K2 : Nat → Int32 → Int32 → Mem → Option (Int32 × Mem)) (x0 : Nat) (x1 : Int32) (x2 : Int32) (F : Mem) : Option (Int32 × Mem) := K2 x0 x1 (x2 + 1) F
set_option maxRecDepth 100000 in
set_option maxHeartbeats 4000000 in
theorem tX10_rowOfNumber_39 {l : Launch} {D : va_G} {cy : Nat → ClassId} {C : Cx} {res : Int32 × Mem} (X : Fx C cX10_rowOfNumber RX10 (some .int) rmX10_rowOfNumber 3) (hcd : CD C l D cy) (Qr : RI C 0 0 res) {K2 : Nat → Int32 → Int32 → Mem → Option (Int32 × Mem)} (hK2 : ∀ (x0 : Nat) (x1 : Int32) (x2 : Int32) (F : Mem), K2 x0 x1 x2 F = some res → Wp C 0 0 2 [(0, .ref x0), (1, .int x1), (2, .int x2)] [] F) (x0 : Nat) (x1 : Int32) (x2 : Int32) (F : Mem) (h : fX10_rowOfNumber_39 K2 x0 x1 x2 F = some res) : Wp C 0 0 39 [(0, .ref x0), (1, .int x1), (2, .int x2)] [] F := by
  unfold fX10_rowOfNumber_39 at h
  refine wp_iinc X (v := x2 + 1) (lv' := [(0, .ref x0), (1, .int x1), (2, .int (x2 + 1))]) dX10_rowOfNumber_39 (by decide) 2 rfl rfl [1, 2, 0] rfl ?_
  refine wp_goto X (tgt := 2) dX10_rowOfNumber_42 (by decide) ?_
  exact hK2 _ _ _ _ h
def fX10_rowOfNumber_2  : Nat → Nat → Int32 → Int32 → Mem → Option (Int32 × Mem)
  | 0, _, _, _, _ => none
  | n + 1, x0, x1, x2, F => (gfR F x0 9 5).bind fun v3 => (rdI F 0 v3 (24 + x2)).bind fun v10 => if v10 = 0 then (fX10_rowOfNumber_39  (fX10_rowOfNumber_2   n) x0 x1 x2 F) else ((gfR F x0 9 4).bind fun v15 => (gfR F x0 9 5).bind fun v21 => (rdI F 0 v21 (24 + x2)).bind fun v28 => (mX10_box F 2 x2 (v28 - 1)).bind fun v31 => (rdI v31.2 0 v15 v31.1).bind fun v34 => if v34 = x1 then (some (x2, v31.2)) else (fX10_rowOfNumber_39  (fX10_rowOfNumber_2   n) x0 x1 x2 v31.2))
set_option maxRecDepth 100000 in
set_option maxHeartbeats 4000000 in
theorem tX10_rowOfNumber_2 {l : Launch} {D : va_G} {cy : Nat → ClassId} {C : Cx} {res : Int32 × Mem} (X : Fx C cX10_rowOfNumber RX10 (some .int) rmX10_rowOfNumber 3) (hcd : CD C l D cy) (Qr : RI C 0 0 res)   : ∀ (n : Nat) (x0 : Nat) (x1 : Int32) (x2 : Int32) (F : Mem), fX10_rowOfNumber_2  n x0 x1 x2 F = some res → Wp C 0 0 2 [(0, .ref x0), (1, .int x1), (2, .int x2)] [] F := by
  intro n
  induction n with
  | zero =>
    intro x0 x1 x2 F h
    rw [fX10_rowOfNumber_2.eq_1] at h
    cases h
  | succ n ih =>
    intro x0 x1 x2 F h
    rw [fX10_rowOfNumber_2.eq_2] at h
    refine wp_aload_n X dX10_rowOfNumber_2 0 rfl ?_
    refine wp_getR X (T := TX10) (N := 20) (ci := 9) (k := 5) rfl (by decide) (by decide) inBX10 kw817 dX10_rowOfNumber_3 h (fun v3 h => ?_)
    refine wp_bipush X (v := 24) dX10_rowOfNumber_6 (by decide) ?_
    refine wp_iload_n X dX10_rowOfNumber_8 2 rfl ?_
    refine wp_iadd X dX10_rowOfNumber_9 ?_
    refine wp_iaload X dX10_rowOfNumber_10 h (fun v10 h => ?_)
    refine wp_if_eq X (tgt := 39) dX10_rowOfNumber_11 (by decide) h (fun h => ?_) (fun h => ?_)
    · exact tX10_rowOfNumber_39 X hcd Qr  ih _ _ _ _ h
    · refine wp_aload_n X dX10_rowOfNumber_14 0 rfl ?_
      refine wp_getR X (T := TX10) (N := 20) (ci := 9) (k := 4) rfl (by decide) (by decide) inBX10 kw816 dX10_rowOfNumber_15 h (fun v15 h => ?_)
      refine wp_iconst X (v := 2) dX10_rowOfNumber_18 (by decide) ?_
      refine wp_iload_n X dX10_rowOfNumber_19 2 rfl ?_
      refine wp_aload_n X dX10_rowOfNumber_20 0 rfl ?_
      refine wp_getR X (T := TX10) (N := 20) (ci := 9) (k := 5) rfl (by decide) (by decide) inBX10 kw817 dX10_rowOfNumber_21 h (fun v21 h => ?_)
      refine wp_bipush X (v := 24) dX10_rowOfNumber_24 (by decide) ?_
      refine wp_iload_n X dX10_rowOfNumber_26 2 rfl ?_
      refine wp_iadd X dX10_rowOfNumber_27 ?_
      refine wp_iaload X dX10_rowOfNumber_28 h (fun v28 h => ?_)
      refine wp_iconst X (v := 1) dX10_rowOfNumber_29 (by decide) ?_
      refine wp_isub X dX10_rowOfNumber_30 ?_
      refine wp_callSI X (rm := rmX10_box) (n := 3) [.int 2, .int x2, .int (v28 - 1)] hcd (fun q hq => cX10_box_ok hq) kw940 kw941 kw10 kw942 (by decide +kernel) (by decide) (by decide) (cs2 := 0) (sl2 := 0) rfl rfl rfl rfl (Nat.le_of_ble_eq_true rfl) dX10_rowOfNumber_31 h (fun v31 h => ?_)
      refine wp_iaload X dX10_rowOfNumber_34 h (fun v34 h => ?_)
      refine wp_iload_n X dX10_rowOfNumber_35 1 rfl ?_
      refine wp_icmp_eq X (tgt := 45) dX10_rowOfNumber_36 (by decide) h (fun h => ?_) (fun h => ?_)
      · refine wp_iload_n X dX10_rowOfNumber_45 2 rfl ?_
        exact wp_ireturn X Qr rfl (vp_nar_int _) dX10_rowOfNumber_46 h
      · exact tX10_rowOfNumber_39 X hcd Qr  ih _ _ _ _ h
def mX10_rowOfNumber (F : Mem) (x0 : Nat) (x1 : Int32) : Option (Int32 × Mem) := fX10_rowOfNumber_2   FU x0 x1 0 F
set_option maxRecDepth 100000 in
set_option maxHeartbeats 4000000 in
theorem cX10_rowOfNumber_ok {l : Launch} {D : va_G} {cy : Nat → ClassId} {F : Mem} {x0 : Nat} {x1 : Int32} {res : Int32 × Mem} (h : mX10_rowOfNumber F x0 x1 = some res) : MI l yX10_rowOfNumber cX10_rowOfNumber 3 (some .int) rmX10_rowOfNumber D cy F [.ref x0, .int x1] res := by
  refine mi_of (by decide) (Nat.le_of_ble_eq_true rfl) [(0, .ref x0), (1, .int x1)] rfl (fun C X hcd Qr => ?_)
  unfold mX10_rowOfNumber at h
  refine wp_iconst X (v := 0) dX10_rowOfNumber_0 (by decide) ?_
  refine wp_istore_n X (lv' := [(0, .ref x0), (1, .int x1), (2, .int 0)]) dX10_rowOfNumber_1 (by decide) [1, 2, 0] rfl ?_
  refine tX10_rowOfNumber_2 X hcd Qr   FU _ _ _ _ h
/-! TableauBenchModel.recover(I)V -/
def rmX10_recover : Room := { frames := 2, cells := 0, slots := 0, locals := 48 }
def fX10_recover_48 (K81 : Nat → Int32 → Int32 → Mem → Option (Mem)) : Nat → Nat → Int32 → Int32 → Int32 → Mem → Option (Mem)
  | 0, _, _, _, _, _ => none
  | n + 1, x0, x1, x2, x3, F => if x3 ≤ 0 then (K81 x0 x1 x2 F) else ((gfR F x0 9 2).bind fun v53 => (obj F x0 9).bind fun _ => (mX10_rowOfNumber F x0 x3).bind fun v68 => (obj v68.2 x0 9).bind fun _ => (mX10_takeOut v68.2 x0 1 v68.1).bind fun v71 => (wrI v71.2 v53 (((16 * x1) + x3) - 1) v71.1).bind fun F74 => (fX10_recover_48  K81 n) x0 x1 x2 (x3 + (-1)) F74)
set_option maxRecDepth 100000 in
set_option maxHeartbeats 4000000 in
theorem tX10_recover_48 {l : Launch} {D : va_G} {cy : Nat → ClassId} {C : Cx} {res : Mem} (X : Fx C cX10_recover RX10 none rmX10_recover 4) (hcd : CD C l D cy) (Qr : RV C 0 0 res) {K81 : Nat → Int32 → Int32 → Mem → Option (Mem)} (hK81 : ∀ (x0 : Nat) (x1 : Int32) (x2 : Int32) (F : Mem), K81 x0 x1 x2 F = some res → Wp C 0 0 81 [(0, .ref x0), (1, .int x1), (2, .int x2)] [] F) : ∀ (n : Nat) (x0 : Nat) (x1 : Int32) (x2 : Int32) (x3 : Int32) (F : Mem), fX10_recover_48 K81 n x0 x1 x2 x3 F = some res → Wp C 0 0 48 [(0, .ref x0), (1, .int x1), (2, .int x2), (3, .int x3)] [] F := by
  intro n
  induction n with
  | zero =>
    intro x0 x1 x2 x3 F h
    rw [fX10_recover_48.eq_1] at h
    cases h
  | succ n ih =>
    intro x0 x1 x2 x3 F h
    rw [fX10_recover_48.eq_2] at h
    refine wp_iload_n X dX10_recover_48 3 rfl ?_
    refine wp_if_le X (tgt := 81) dX10_recover_49 (by decide) h (fun h => ?_) (fun h => ?_)
    · refine wp_sub (lv' := [(0, .ref x0), (1, .int x1), (2, .int x2)]) [0, 1, 2] rfl ?_
      exact hK81 _ _ _ _ h
    · refine wp_aload_n X dX10_recover_52 0 rfl ?_
      refine wp_getR X (T := TX10) (N := 20) (ci := 9) (k := 2) rfl (by decide) (by decide) inBX10 kw814 dX10_recover_53 h (fun v53 h => ?_)
      refine wp_bipush X (v := 16) dX10_recover_56 (by decide) ?_
      refine wp_iload_n X dX10_recover_58 1 rfl ?_
      refine wp_imul X dX10_recover_59 ?_
      refine wp_iload_n X dX10_recover_60 3 rfl ?_
      refine wp_iadd X dX10_recover_61 ?_
      refine wp_iconst X (v := 1) dX10_recover_62 (by decide) ?_
      refine wp_isub X dX10_recover_63 ?_
      refine wp_aload_n X dX10_recover_64 0 rfl ?_
      refine wp_iconst X (v := 1) dX10_recover_65 (by decide) ?_
      refine wp_aload_n X dX10_recover_66 0 rfl ?_
      refine wp_iload_n X dX10_recover_67 3 rfl ?_
      refine wp_callVI X (rm := rmX10_rowOfNumber) (T := TX10) (N := 20) (ci := 9) (n := 1) [.int x3] hcd (fun q hq => cX10_rowOfNumber_ok hq) kw967 kw969 ks27 kw10 kw970 (by decide +kernel) (by decide) (by decide) (cs2 := 0) (sl2 := 0) rfl rfl rfl (by decide) rfl rfl (Nat.le_of_ble_eq_true rfl) dX10_recover_68 h (fun v68 h => ?_)
      refine wp_callVI X (rm := rmX10_takeOut) (T := TX10) (N := 20) (ci := 9) (n := 2) [.int 1, .int v68.1] hcd (fun q hq => cX10_takeOut_ok hq) kw971 kw973 ks28 kw10 kw974 (by decide +kernel) (by decide) (by decide) (cs2 := 0) (sl2 := 0) rfl rfl rfl (by decide) rfl rfl (Nat.le_of_ble_eq_true rfl) dX10_recover_71 h (fun v71 h => ?_)
      refine wp_iastore X dX10_recover_74 h (fun F74 h => ?_)
      refine wp_iinc X (v := x3 + (-1)) (lv' := [(0, .ref x0), (1, .int x1), (2, .int x2), (3, .int (x3 + (-1)))]) dX10_recover_75 (by decide) 3 rfl rfl [1, 2, 3, 0] rfl ?_
      refine wp_goto X (tgt := 48) dX10_recover_78 (by decide) ?_
      exact ih _ _ _ _ _ h
def fX10_recover_24  (x0 : Nat) (x1 : Int32) (s0 : Nat) (s1 : Int32) (F : Mem) : Option (Mem) := (pf F s0 9 0 (.int s1)).bind fun F24 => (gfI F24 x0 9 0).bind fun v28 => if v28 ≤ 0 then ((obj F24 x0 9).bind fun _ => (mX10_copyP F24 x0 1).bind fun v37 => (obj v37 x0 9).bind fun _ => (mX10_count v37 x0 0).bind fun v42 => fX10_recover_48  (fun (x0 : Nat) (x1 : Int32) (x2 : Int32) (F : Mem) => (gfR F x0 9 3).bind fun v82 => (wrI F v82 x1 x2).bind fun F87 => some F87) FU x0 x1 v42.1 v42.1 v42.2) else (some F24)
set_option maxRecDepth 100000 in
set_option maxHeartbeats 4000000 in
theorem tX10_recover_24 {l : Launch} {D : va_G} {cy : Nat → ClassId} {C : Cx} {res : Mem} (X : Fx C cX10_recover RX10 none rmX10_recover 4) (hcd : CD C l D cy) (Qr : RV C 0 0 res)   (x0 : Nat) (x1 : Int32) (s0 : Nat) (s1 : Int32) (F : Mem) (h : fX10_recover_24  x0 x1 s0 s1 F = some res) : Wp C 0 0 24 [(0, .ref x0), (1, .int x1)] [.int s1, .ref s0] F := by
  unfold fX10_recover_24 at h
  refine wp_put X (T := TX10) (N := 20) (ci := 9) (k := 0) tyX10 rfl (by decide) (by decide) inBX10 kw812 tyX10_ok nmX10 rfl rfl (vp_nar_int _) rfl dX10_recover_24 h (fun F24 h => ?_)
  refine wp_aload_n X dX10_recover_27 0 rfl ?_
  refine wp_getI X (T := TX10) (N := 20) (ci := 9) (k := 0) rfl (by decide) (by decide) inBX10 kw812 dX10_recover_28 h (fun v28 h => ?_)
  refine wp_if_le X (tgt := 35) dX10_recover_31 (by decide) h (fun h => ?_) (fun h => ?_)
  · refine wp_aload_n X dX10_recover_35 0 rfl ?_
    refine wp_iconst X (v := 1) dX10_recover_36 (by decide) ?_
    refine wp_callVV X (rm := rmX10_copyP) (T := TX10) (N := 20) (ci := 9) (n := 1) [.int 1] hcd (fun q hq => cX10_copyP_ok hq) kw959 kw961 ks25 kw10 kw962 (by decide +kernel) (by decide) (by decide) (cs2 := 0) (sl2 := 0) rfl rfl rfl (by decide) rfl rfl (Nat.le_of_ble_eq_true rfl) dX10_recover_37 h (fun v37 h => ?_)
    refine wp_aload_n X dX10_recover_40 0 rfl ?_
    refine wp_iconst X (v := 0) dX10_recover_41 (by decide) ?_
    refine wp_callVI X (rm := rmX10_count) (T := TX10) (N := 20) (ci := 9) (n := 1) [.int 0] hcd (fun q hq => cX10_count_ok hq) kw963 kw965 ks26 kw10 kw966 (by decide +kernel) (by decide) (by decide) (cs2 := 0) (sl2 := 0) rfl rfl rfl (by decide) rfl rfl (Nat.le_of_ble_eq_true rfl) dX10_recover_42 h (fun v42 h => ?_)
    refine wp_istore_n X (lv' := [(0, .ref x0), (1, .int x1), (2, .int v42.1)]) dX10_recover_45 (by decide) [1, 2, 0] rfl ?_
    refine wp_iload_n X dX10_recover_46 2 rfl ?_
    refine wp_istore_n X (lv' := [(0, .ref x0), (1, .int x1), (2, .int v42.1), (3, .int v42.1)]) dX10_recover_47 (by decide) [1, 2, 3, 0] rfl ?_
    refine tX10_recover_48 X hcd Qr  ?_ FU _ _ _ _ _ h
    · intro x0 x1 x2 F h
      refine wp_aload_n X dX10_recover_81 0 rfl ?_
      refine wp_getR X (T := TX10) (N := 20) (ci := 9) (k := 3) rfl (by decide) (by decide) inBX10 kw815 dX10_recover_82 h (fun v82 h => ?_)
      refine wp_iload_n X dX10_recover_85 1 rfl ?_
      refine wp_iload_n X dX10_recover_86 2 rfl ?_
      refine wp_iastore X dX10_recover_87 h (fun F87 h => ?_)
      exact wp_return X Qr rfl dX10_recover_88 h
  · exact wp_return X Qr rfl dX10_recover_34 h
def mX10_recover (F : Mem) (x0 : Nat) (x1 : Int32) : Option (Mem) := (mX10_isWord F x1).bind fun v2 => if v2.1 = 0 then (fX10_recover_24   x0 x1 x0 1 v2.2) else ((gfI v2.2 x0 9 6).bind fun v13 => if v13 = 0 then (fX10_recover_24   x0 x1 x0 0 v2.2) else (fX10_recover_24   x0 x1 x0 2 v2.2))
set_option maxRecDepth 100000 in
set_option maxHeartbeats 4000000 in
theorem cX10_recover_ok {l : Launch} {D : va_G} {cy : Nat → ClassId} {F : Mem} {x0 : Nat} {x1 : Int32} {res : Mem} (h : mX10_recover F x0 x1 = some res) : MV l yX10_recover cX10_recover 4 none rmX10_recover D cy F [.ref x0, .int x1] res := by
  refine mv_of (by decide) (Nat.le_of_ble_eq_true rfl) [(0, .ref x0), (1, .int x1)] rfl (fun C X hcd Qr => ?_)
  unfold mX10_recover at h
  refine wp_aload_n X dX10_recover_0 0 rfl ?_
  refine wp_iload_n X dX10_recover_1 1 rfl ?_
  refine wp_callSI X (rm := rmX10_isWord) (n := 1) [.int x1] hcd (fun q hq => cX10_isWord_ok hq) kw913 kw914 kw10 kw915 (by decide +kernel) (by decide) (by decide) (cs2 := 0) (sl2 := 0) rfl rfl rfl rfl (Nat.le_of_ble_eq_true rfl) dX10_recover_2 h (fun v2 h => ?_)
  refine wp_if_ne X (tgt := 12) dX10_recover_5 (by decide) h (fun h => ?_) (fun h => ?_)
  · refine wp_aload_n X dX10_recover_12 0 rfl ?_
    refine wp_getI X (T := TX10) (N := 20) (ci := 9) (k := 6) rfl (by decide) (by decide) inBX10 kw818 dX10_recover_13 h (fun v13 h => ?_)
    refine wp_if_eq X (tgt := 23) dX10_recover_16 (by decide) h (fun h => ?_) (fun h => ?_)
    · refine wp_iconst X (v := 0) dX10_recover_23 (by decide) ?_
      exact tX10_recover_24 X hcd Qr   _ _ _ _ _ h
    · refine wp_iconst X (v := 2) dX10_recover_19 (by decide) ?_
      refine wp_goto X (tgt := 24) dX10_recover_20 (by decide) ?_
      exact tX10_recover_24 X hcd Qr   _ _ _ _ _ h
  · refine wp_iconst X (v := 1) dX10_recover_8 (by decide) ?_
    refine wp_goto X (tgt := 24) dX10_recover_9 (by decide) ?_
    exact tX10_recover_24 X hcd Qr   _ _ _ _ _ h
/-! TableauBenchModel.reading()I -/
def rmX10_reading : Room := { frames := 1, cells := 0, slots := 0, locals := 22 }
def fX10_reading_11 (K47 : Nat → Int32 → Int32 → Mem → Option (Int32 × Mem)) : Nat → Nat → Int32 → Int32 → Int32 → Mem → Option (Int32 × Mem)
  | 0, _, _, _, _, _ => none
  | n + 1, x0, x1, x2, x3, F => (gfR F x0 9 5).bind fun v13 => (rdI F 0 v13 x2).bind fun v17 => if v17 ≤ x3 then (K47 x0 x1 x2 F) else ((gfR F x0 9 7).bind fun v22 => (gfR F x0 9 4).bind fun v27 => (mX10_box F 0 x2 x3).bind fun v33 => (rdI v33.2 0 v27 v33.1).bind fun v36 => (wrI v33.2 v22 x1 v36).bind fun F37 => (fX10_reading_11  K47 n) x0 (x1 + 1) x2 (x3 + 1) F37)
set_option maxRecDepth 100000 in
set_option maxHeartbeats 4000000 in
theorem tX10_reading_11 {l : Launch} {D : va_G} {cy : Nat → ClassId} {C : Cx} {res : Int32 × Mem} (X : Fx C cX10_reading RX10 (some .int) rmX10_reading 4) (hcd : CD C l D cy) (Qr : RI C 0 0 res) {K47 : Nat → Int32 → Int32 → Mem → Option (Int32 × Mem)} (hK47 : ∀ (x0 : Nat) (x1 : Int32) (x2 : Int32) (F : Mem), K47 x0 x1 x2 F = some res → Wp C 0 0 47 [(0, .ref x0), (1, .int x1), (2, .int x2)] [] F) : ∀ (n : Nat) (x0 : Nat) (x1 : Int32) (x2 : Int32) (x3 : Int32) (F : Mem), fX10_reading_11 K47 n x0 x1 x2 x3 F = some res → Wp C 0 0 11 [(0, .ref x0), (1, .int x1), (2, .int x2), (3, .int x3)] [] F := by
  intro n
  induction n with
  | zero =>
    intro x0 x1 x2 x3 F h
    rw [fX10_reading_11.eq_1] at h
    cases h
  | succ n ih =>
    intro x0 x1 x2 x3 F h
    rw [fX10_reading_11.eq_2] at h
    refine wp_iload_n X dX10_reading_11 3 rfl ?_
    refine wp_aload_n X dX10_reading_12 0 rfl ?_
    refine wp_getR X (T := TX10) (N := 20) (ci := 9) (k := 5) rfl (by decide) (by decide) inBX10 kw817 dX10_reading_13 h (fun v13 h => ?_)
    refine wp_iload_n X dX10_reading_16 2 rfl ?_
    refine wp_iaload X dX10_reading_17 h (fun v17 h => ?_)
    refine wp_icmp_ge X (tgt := 47) dX10_reading_18 (by decide) h (fun h => ?_) (fun h => ?_)
    · refine wp_sub (lv' := [(0, .ref x0), (1, .int x1), (2, .int x2)]) [0, 1, 2] rfl ?_
      exact hK47 _ _ _ _ h
    · refine wp_aload_n X dX10_reading_21 0 rfl ?_
      refine wp_getR X (T := TX10) (N := 20) (ci := 9) (k := 7) rfl (by decide) (by decide) inBX10 kw819 dX10_reading_22 h (fun v22 h => ?_)
      refine wp_iload_n X dX10_reading_25 1 rfl ?_
      refine wp_aload_n X dX10_reading_26 0 rfl ?_
      refine wp_getR X (T := TX10) (N := 20) (ci := 9) (k := 4) rfl (by decide) (by decide) inBX10 kw816 dX10_reading_27 h (fun v27 h => ?_)
      refine wp_iconst X (v := 0) dX10_reading_30 (by decide) ?_
      refine wp_iload_n X dX10_reading_31 2 rfl ?_
      refine wp_iload_n X dX10_reading_32 3 rfl ?_
      refine wp_callSI X (rm := rmX10_box) (n := 3) [.int 0, .int x2, .int x3] hcd (fun q hq => cX10_box_ok hq) kw940 kw941 kw10 kw942 (by decide +kernel) (by decide) (by decide) (cs2 := 0) (sl2 := 0) rfl rfl rfl rfl (Nat.le_of_ble_eq_true rfl) dX10_reading_33 h (fun v33 h => ?_)
      refine wp_iaload X dX10_reading_36 h (fun v36 h => ?_)
      refine wp_iastore X dX10_reading_37 h (fun F37 h => ?_)
      refine wp_iinc X (v := x1 + 1) (lv' := [(0, .ref x0), (1, .int (x1 + 1)), (2, .int x2), (3, .int x3)]) dX10_reading_38 (by decide) 1 rfl rfl [1, 0, 2, 3] rfl ?_
      refine wp_iinc X (v := x3 + 1) (lv' := [(0, .ref x0), (1, .int (x1 + 1)), (2, .int x2), (3, .int (x3 + 1))]) dX10_reading_41 (by decide) 3 rfl rfl [1, 2, 3, 0] rfl ?_
      refine wp_goto X (tgt := 11) dX10_reading_44 (by decide) ?_
      exact ih _ _ _ _ _ h
def fX10_reading_5  : Nat → Nat → Int32 → Int32 → Mem → Option (Int32 × Mem)
  | 0, _, _, _, _ => none
  | n + 1, x0, x1, x2, F => if x2 < 0 then (some (x1, F)) else (fX10_reading_11  (fun (x0 : Nat) (x1 : Int32) (x2 : Int32) (F : Mem) => (fX10_reading_5   n) x0 x1 (x2 + (-1)) F) FU x0 x1 x2 0 F)
set_option maxRecDepth 100000 in
set_option maxHeartbeats 4000000 in
theorem tX10_reading_5 {l : Launch} {D : va_G} {cy : Nat → ClassId} {C : Cx} {res : Int32 × Mem} (X : Fx C cX10_reading RX10 (some .int) rmX10_reading 4) (hcd : CD C l D cy) (Qr : RI C 0 0 res)   : ∀ (n : Nat) (x0 : Nat) (x1 : Int32) (x2 : Int32) (F : Mem), fX10_reading_5  n x0 x1 x2 F = some res → Wp C 0 0 5 [(0, .ref x0), (1, .int x1), (2, .int x2)] [] F := by
  intro n
  induction n with
  | zero =>
    intro x0 x1 x2 F h
    rw [fX10_reading_5.eq_1] at h
    cases h
  | succ n ih =>
    intro x0 x1 x2 F h
    rw [fX10_reading_5.eq_2] at h
    refine wp_iload_n X dX10_reading_5 2 rfl ?_
    refine wp_if_lt X (tgt := 53) dX10_reading_6 (by decide) h (fun h => ?_) (fun h => ?_)
    · refine wp_iload_n X dX10_reading_53 1 rfl ?_
      exact wp_ireturn X Qr rfl (vp_nar_int _) dX10_reading_54 h
    · refine wp_iconst X (v := 0) dX10_reading_9 (by decide) ?_
      refine wp_istore_n X (lv' := [(0, .ref x0), (1, .int x1), (2, .int x2), (3, .int 0)]) dX10_reading_10 (by decide) [1, 2, 3, 0] rfl ?_
      refine tX10_reading_11 X hcd Qr  ?_ FU _ _ _ _ _ h
      · intro x0 x1 x2 F h
        refine wp_iinc X (v := x2 + (-1)) (lv' := [(0, .ref x0), (1, .int x1), (2, .int (x2 + (-1)))]) dX10_reading_47 (by decide) 2 rfl rfl [1, 2, 0] rfl ?_
        refine wp_goto X (tgt := 5) dX10_reading_50 (by decide) ?_
        exact ih _ _ _ _ h
def mX10_reading (F : Mem) (x0 : Nat) : Option (Int32 × Mem) := fX10_reading_5   FU x0 0 23 F
set_option maxRecDepth 100000 in
set_option maxHeartbeats 4000000 in
theorem cX10_reading_ok {l : Launch} {D : va_G} {cy : Nat → ClassId} {F : Mem} {x0 : Nat} {res : Int32 × Mem} (h : mX10_reading F x0 = some res) : MI l yX10_reading cX10_reading 4 (some .int) rmX10_reading D cy F [.ref x0] res := by
  refine mi_of (by decide) (Nat.le_of_ble_eq_true rfl) [(0, .ref x0)] rfl (fun C X hcd Qr => ?_)
  unfold mX10_reading at h
  refine wp_iconst X (v := 0) dX10_reading_0 (by decide) ?_
  refine wp_istore_n X (lv' := [(0, .ref x0), (1, .int 0)]) dX10_reading_1 (by decide) [1, 0] rfl ?_
  refine wp_bipush X (v := 23) dX10_reading_2 (by decide) ?_
  refine wp_istore_n X (lv' := [(0, .ref x0), (1, .int 0), (2, .int 23)]) dX10_reading_4 (by decide) [1, 2, 0] rfl ?_
  refine tX10_reading_5 X hcd Qr   FU _ _ _ _ h
/-! TableauBenchModel.read(I)V -/
def rmX10_read : Room := { frames := 2, cells := 0, slots := 0, locals := 45 }
def fX10_read_71 (K44 : Nat → Int32 → Int32 → Int32 → Int32 → Mem → Option (Mem)) (K78 : Nat → Int32 → Int32 → Int32 → Mem → Option (Mem)) (x0 : Nat) (x1 : Int32) (x2 : Int32) (x4 : Int32) (s0 : Int32) (F : Mem) : Option (Mem) := K44 x0 x1 x2 s0 (x4 + 1) F
set_option maxRecDepth 100000 in
set_option maxHeartbeats 4000000 in
theorem tX10_read_71 {l : Launch} {D : va_G} {cy : Nat → ClassId} {C : Cx} {res : Mem} (X : Fx C cX10_read RX10 none rmX10_read 5) (hcd : CD C l D cy) (Qr : RV C 0 0 res) {K44 : Nat → Int32 → Int32 → Int32 → Int32 → Mem → Option (Mem)} {K78 : Nat → Int32 → Int32 → Int32 → Mem → Option (Mem)} (hK44 : ∀ (x0 : Nat) (x1 : Int32) (x2 : Int32) (x3 : Int32) (x4 : Int32) (F : Mem), K44 x0 x1 x2 x3 x4 F = some res → Wp C 0 0 44 [(0, .ref x0), (1, .int x1), (2, .int x2), (3, .int x3), (4, .int x4)] [] F) (hK78 : ∀ (x0 : Nat) (x1 : Int32) (x2 : Int32) (x3 : Int32) (F : Mem), K78 x0 x1 x2 x3 F = some res → Wp C 0 0 78 [(0, .ref x0), (1, .int x1), (2, .int x2), (3, .int x3)] [] F) (x0 : Nat) (x1 : Int32) (x2 : Int32) (x4 : Int32) (s0 : Int32) (F : Mem) (h : fX10_read_71 K44 K78 x0 x1 x2 x4 s0 F = some res) : Wp C 0 0 71 [(0, .ref x0), (1, .int x1), (2, .int x2), (4, .int x4)] [.int s0] F := by
  unfold fX10_read_71 at h
  refine wp_istore_n X (lv' := [(0, .ref x0), (1, .int x1), (2, .int x2), (3, .int s0), (4, .int x4)]) dX10_read_71 (by decide) [1, 2, 3, 0, 4] rfl ?_
  refine wp_iinc X (v := x4 + 1) (lv' := [(0, .ref x0), (1, .int x1), (2, .int x2), (3, .int s0), (4, .int (x4 + 1))]) dX10_read_72 (by decide) 4 rfl rfl [1, 2, 3, 4, 0] rfl ?_
  refine wp_goto X (tgt := 44) dX10_read_75 (by decide) ?_
  exact hK44 _ _ _ _ _ _ h
def fX10_read_44 (K78 : Nat → Int32 → Int32 → Int32 → Mem → Option (Mem)) : Nat → Nat → Int32 → Int32 → Int32 → Int32 → Mem → Option (Mem)
  | 0, _, _, _, _, _, _ => none
  | n + 1, x0, x1, x2, x3, x4, F => if x2 ≤ x4 then (K78 x0 x1 x2 x3 F) else (if x3 = 0 then (fX10_read_71  (fX10_read_44  K78 n) K78 x0 x1 x2 x4 0 F) else ((gfR F x0 9 7).bind fun v55 => (rdI F 0 v55 x4).bind fun v60 => if 16 < v60 then (fX10_read_71  (fX10_read_44  K78 n) K78 x0 x1 x2 x4 0 F) else (fX10_read_71  (fX10_read_44  K78 n) K78 x0 x1 x2 x4 1 F)))
set_option maxRecDepth 100000 in
set_option maxHeartbeats 4000000 in
theorem tX10_read_44 {l : Launch} {D : va_G} {cy : Nat → ClassId} {C : Cx} {res : Mem} (X : Fx C cX10_read RX10 none rmX10_read 5) (hcd : CD C l D cy) (Qr : RV C 0 0 res) {K78 : Nat → Int32 → Int32 → Int32 → Mem → Option (Mem)} (hK78 : ∀ (x0 : Nat) (x1 : Int32) (x2 : Int32) (x3 : Int32) (F : Mem), K78 x0 x1 x2 x3 F = some res → Wp C 0 0 78 [(0, .ref x0), (1, .int x1), (2, .int x2), (3, .int x3)] [] F) : ∀ (n : Nat) (x0 : Nat) (x1 : Int32) (x2 : Int32) (x3 : Int32) (x4 : Int32) (F : Mem), fX10_read_44 K78 n x0 x1 x2 x3 x4 F = some res → Wp C 0 0 44 [(0, .ref x0), (1, .int x1), (2, .int x2), (3, .int x3), (4, .int x4)] [] F := by
  intro n
  induction n with
  | zero =>
    intro x0 x1 x2 x3 x4 F h
    rw [fX10_read_44.eq_1] at h
    cases h
  | succ n ih =>
    intro x0 x1 x2 x3 x4 F h
    rw [fX10_read_44.eq_2] at h
    refine wp_iload X dX10_read_44 4 rfl ?_
    refine wp_iload_n X dX10_read_46 2 rfl ?_
    refine wp_icmp_ge X (tgt := 78) dX10_read_47 (by decide) h (fun h => ?_) (fun h => ?_)
    · refine wp_sub (lv' := [(0, .ref x0), (1, .int x1), (2, .int x2), (3, .int x3)]) [0, 1, 2, 3] rfl ?_
      exact hK78 _ _ _ _ _ h
    · refine wp_iload_n X dX10_read_50 3 rfl ?_
      refine wp_if_eq X (tgt := 70) dX10_read_51 (by decide) h (fun h => ?_) (fun h => ?_)
      · refine wp_iconst X (v := 0) dX10_read_70 (by decide) ?_
        refine wp_sub (lv' := [(0, .ref x0), (1, .int x1), (2, .int x2), (4, .int x4)]) [0, 1, 2, 4] rfl ?_
        exact tX10_read_71 X hcd Qr  ih hK78 _ _ _ _ _ _ h
      · refine wp_aload_n X dX10_read_54 0 rfl ?_
        refine wp_getR X (T := TX10) (N := 20) (ci := 9) (k := 7) rfl (by decide) (by decide) inBX10 kw819 dX10_read_55 h (fun v55 h => ?_)
        refine wp_iload X dX10_read_58 4 rfl ?_
        refine wp_iaload X dX10_read_60 h (fun v60 h => ?_)
        refine wp_bipush X (v := 16) dX10_read_61 (by decide) ?_
        refine wp_icmp_gt X (tgt := 70) dX10_read_63 (by decide) h (fun h => ?_) (fun h => ?_)
        · refine wp_iconst X (v := 0) dX10_read_70 (by decide) ?_
          refine wp_sub (lv' := [(0, .ref x0), (1, .int x1), (2, .int x2), (4, .int x4)]) [0, 1, 2, 4] rfl ?_
          exact tX10_read_71 X hcd Qr  ih hK78 _ _ _ _ _ _ h
        · refine wp_iconst X (v := 1) dX10_read_66 (by decide) ?_
          refine wp_goto X (tgt := 71) dX10_read_67 (by decide) ?_
          refine wp_sub (lv' := [(0, .ref x0), (1, .int x1), (2, .int x2), (4, .int x4)]) [0, 1, 2, 4] rfl ?_
          exact tX10_read_71 X hcd Qr  ih hK78 _ _ _ _ _ _ h
def fX10_read_102 (K133 : Nat → Int32 → Int32 → Mem → Option (Mem)) : Nat → Nat → Int32 → Int32 → Int32 → Mem → Option (Mem)
  | 0, _, _, _, _, _ => none
  | n + 1, x0, x1, x2, x4, F => if x2 ≤ x4 then (K133 x0 x1 x2 F) else ((gfR F x0 9 2).bind fun v109 => (gfR F x0 9 7).bind fun v120 => (rdI F 0 v120 x4).bind fun v125 => (wrI F v109 ((16 * x1) + x4) v125).bind fun F126 => (fX10_read_102  K133 n) x0 x1 x2 (x4 + 1) F126)
set_option maxRecDepth 100000 in
set_option maxHeartbeats 4000000 in
theorem tX10_read_102 {l : Launch} {D : va_G} {cy : Nat → ClassId} {C : Cx} {res : Mem} (X : Fx C cX10_read RX10 none rmX10_read 5) (hcd : CD C l D cy) (Qr : RV C 0 0 res) {K133 : Nat → Int32 → Int32 → Mem → Option (Mem)} (hK133 : ∀ (x0 : Nat) (x1 : Int32) (x2 : Int32) (F : Mem), K133 x0 x1 x2 F = some res → Wp C 0 0 133 [(0, .ref x0), (1, .int x1), (2, .int x2)] [] F) : ∀ (n : Nat) (x0 : Nat) (x1 : Int32) (x2 : Int32) (x4 : Int32) (F : Mem), fX10_read_102 K133 n x0 x1 x2 x4 F = some res → Wp C 0 0 102 [(0, .ref x0), (1, .int x1), (2, .int x2), (4, .int x4)] [] F := by
  intro n
  induction n with
  | zero =>
    intro x0 x1 x2 x4 F h
    rw [fX10_read_102.eq_1] at h
    cases h
  | succ n ih =>
    intro x0 x1 x2 x4 F h
    rw [fX10_read_102.eq_2] at h
    refine wp_iload X dX10_read_102 3 rfl ?_
    refine wp_iload_n X dX10_read_104 2 rfl ?_
    refine wp_icmp_ge X (tgt := 133) dX10_read_105 (by decide) h (fun h => ?_) (fun h => ?_)
    · refine wp_sub (lv' := [(0, .ref x0), (1, .int x1), (2, .int x2)]) [0, 1, 2] rfl ?_
      exact hK133 _ _ _ _ h
    · refine wp_aload_n X dX10_read_108 0 rfl ?_
      refine wp_getR X (T := TX10) (N := 20) (ci := 9) (k := 2) rfl (by decide) (by decide) inBX10 kw814 dX10_read_109 h (fun v109 h => ?_)
      refine wp_bipush X (v := 16) dX10_read_112 (by decide) ?_
      refine wp_iload_n X dX10_read_114 1 rfl ?_
      refine wp_imul X dX10_read_115 ?_
      refine wp_iload X dX10_read_116 3 rfl ?_
      refine wp_iadd X dX10_read_118 ?_
      refine wp_aload_n X dX10_read_119 0 rfl ?_
      refine wp_getR X (T := TX10) (N := 20) (ci := 9) (k := 7) rfl (by decide) (by decide) inBX10 kw819 dX10_read_120 h (fun v120 h => ?_)
      refine wp_iload X dX10_read_123 3 rfl ?_
      refine wp_iaload X dX10_read_125 h (fun v125 h => ?_)
      refine wp_iastore X dX10_read_126 h (fun F126 h => ?_)
      refine wp_iinc X (v := x4 + 1) (lv' := [(0, .ref x0), (1, .int x1), (2, .int x2), (4, .int (x4 + 1))]) dX10_read_127 (by decide) 3 rfl rfl [1, 2, 3, 0] rfl ?_
      refine wp_goto X (tgt := 102) dX10_read_130 (by decide) ?_
      exact ih _ _ _ _ _ h
def fX10_read_88  (x0 : Nat) (x1 : Int32) (x2 : Int32) (s0 : Nat) (s1 : Int32) (F : Mem) : Option (Mem) := (pf F s0 9 0 (.int s1)).bind fun F88 => (gfI F88 x0 9 0).bind fun v92 => if v92 ≤ 0 then (fX10_read_102  (fun (x0 : Nat) (x1 : Int32) (x2 : Int32) (F : Mem) => (gfR F x0 9 3).bind fun v134 => (wrI F v134 x1 x2).bind fun F139 => some F139) FU x0 x1 x2 0 F88) else (some F88)
set_option maxRecDepth 100000 in
set_option maxHeartbeats 4000000 in
theorem tX10_read_88 {l : Launch} {D : va_G} {cy : Nat → ClassId} {C : Cx} {res : Mem} (X : Fx C cX10_read RX10 none rmX10_read 5) (hcd : CD C l D cy) (Qr : RV C 0 0 res)   (x0 : Nat) (x1 : Int32) (x2 : Int32) (s0 : Nat) (s1 : Int32) (F : Mem) (h : fX10_read_88  x0 x1 x2 s0 s1 F = some res) : Wp C 0 0 88 [(0, .ref x0), (1, .int x1), (2, .int x2)] [.int s1, .ref s0] F := by
  unfold fX10_read_88 at h
  refine wp_put X (T := TX10) (N := 20) (ci := 9) (k := 0) tyX10 rfl (by decide) (by decide) inBX10 kw812 tyX10_ok nmX10 rfl rfl (vp_nar_int _) rfl dX10_read_88 h (fun F88 h => ?_)
  refine wp_aload_n X dX10_read_91 0 rfl ?_
  refine wp_getI X (T := TX10) (N := 20) (ci := 9) (k := 0) rfl (by decide) (by decide) inBX10 kw812 dX10_read_92 h (fun v92 h => ?_)
  refine wp_if_le X (tgt := 99) dX10_read_95 (by decide) h (fun h => ?_) (fun h => ?_)
  · refine wp_iconst X (v := 0) dX10_read_99 (by decide) ?_
    refine wp_istore X (lv' := [(0, .ref x0), (1, .int x1), (2, .int x2), (4, .int 0)]) dX10_read_100 (by decide) [1, 2, 3, 0] rfl ?_
    refine tX10_read_102 X hcd Qr  ?_ FU _ _ _ _ _ h
    · intro x0 x1 x2 F h
      refine wp_aload_n X dX10_read_133 0 rfl ?_
      refine wp_getR X (T := TX10) (N := 20) (ci := 9) (k := 3) rfl (by decide) (by decide) inBX10 kw815 dX10_read_134 h (fun v134 h => ?_)
      refine wp_iload_n X dX10_read_137 1 rfl ?_
      refine wp_iload_n X dX10_read_138 2 rfl ?_
      refine wp_iastore X dX10_read_139 h (fun F139 h => ?_)
      exact wp_return X Qr rfl dX10_read_140 h
  · exact wp_return X Qr rfl dX10_read_98 h
def fX10_read_40  (x0 : Nat) (x1 : Int32) (x2 : Int32) (s0 : Int32) (F : Mem) : Option (Mem) := fX10_read_44  (fun (x0 : Nat) (x1 : Int32) (x2 : Int32) (x3 : Int32) (F : Mem) => if x3 = 0 then (fX10_read_88   x0 x1 x2 x0 2 F) else (fX10_read_88   x0 x1 x2 x0 0 F)) FU x0 x1 x2 s0 0 F
set_option maxRecDepth 100000 in
set_option maxHeartbeats 4000000 in
theorem tX10_read_40 {l : Launch} {D : va_G} {cy : Nat → ClassId} {C : Cx} {res : Mem} (X : Fx C cX10_read RX10 none rmX10_read 5) (hcd : CD C l D cy) (Qr : RV C 0 0 res)   (x0 : Nat) (x1 : Int32) (x2 : Int32) (s0 : Int32) (F : Mem) (h : fX10_read_40  x0 x1 x2 s0 F = some res) : Wp C 0 0 40 [(0, .ref x0), (1, .int x1), (2, .int x2)] [.int s0] F := by
  unfold fX10_read_40 at h
  refine wp_istore_n X (lv' := [(0, .ref x0), (1, .int x1), (2, .int x2), (3, .int s0)]) dX10_read_40 (by decide) [1, 2, 3, 0] rfl ?_
  refine wp_iconst X (v := 0) dX10_read_41 (by decide) ?_
  refine wp_istore X (lv' := [(0, .ref x0), (1, .int x1), (2, .int x2), (3, .int s0), (4, .int 0)]) dX10_read_42 (by decide) [1, 2, 3, 4, 0] rfl ?_
  refine tX10_read_44 X hcd Qr  ?_ FU _ _ _ _ _ _ h
  · intro x0 x1 x2 x3 F h
    refine wp_aload_n X dX10_read_78 0 rfl ?_
    refine wp_iload_n X dX10_read_79 3 rfl ?_
    refine wp_if_eq X (tgt := 87) dX10_read_80 (by decide) h (fun h => ?_) (fun h => ?_)
    · refine wp_iconst X (v := 2) dX10_read_87 (by decide) ?_
      refine wp_sub (lv' := [(0, .ref x0), (1, .int x1), (2, .int x2)]) [0, 1, 2] rfl ?_
      exact tX10_read_88 X hcd Qr   _ _ _ _ _ _ h
    · refine wp_iconst X (v := 0) dX10_read_83 (by decide) ?_
      refine wp_goto X (tgt := 88) dX10_read_84 (by decide) ?_
      refine wp_sub (lv' := [(0, .ref x0), (1, .int x1), (2, .int x2)]) [0, 1, 2] rfl ?_
      exact tX10_read_88 X hcd Qr   _ _ _ _ _ _ h
def fX10_read_13  (x0 : Nat) (x1 : Int32) (s0 : Nat) (s1 : Int32) (F : Mem) : Option (Mem) := (pf F s0 9 0 (.int s1)).bind fun F13 => (gfI F13 x0 9 0).bind fun v17 => if v17 ≤ 0 then ((obj F13 x0 9).bind fun _ => (mX10_reading F13 x0).bind fun v25 => if 16 < v25.1 then (fX10_read_40   x0 x1 v25.1 0 v25.2) else (fX10_read_40   x0 x1 v25.1 1 v25.2)) else (some F13)
set_option maxRecDepth 100000 in
set_option maxHeartbeats 4000000 in
theorem tX10_read_13 {l : Launch} {D : va_G} {cy : Nat → ClassId} {C : Cx} {res : Mem} (X : Fx C cX10_read RX10 none rmX10_read 5) (hcd : CD C l D cy) (Qr : RV C 0 0 res)   (x0 : Nat) (x1 : Int32) (s0 : Nat) (s1 : Int32) (F : Mem) (h : fX10_read_13  x0 x1 s0 s1 F = some res) : Wp C 0 0 13 [(0, .ref x0), (1, .int x1)] [.int s1, .ref s0] F := by
  unfold fX10_read_13 at h
  refine wp_put X (T := TX10) (N := 20) (ci := 9) (k := 0) tyX10 rfl (by decide) (by decide) inBX10 kw812 tyX10_ok nmX10 rfl rfl (vp_nar_int _) rfl dX10_read_13 h (fun F13 h => ?_)
  refine wp_aload_n X dX10_read_16 0 rfl ?_
  refine wp_getI X (T := TX10) (N := 20) (ci := 9) (k := 0) rfl (by decide) (by decide) inBX10 kw812 dX10_read_17 h (fun v17 h => ?_)
  refine wp_if_le X (tgt := 24) dX10_read_20 (by decide) h (fun h => ?_) (fun h => ?_)
  · refine wp_aload_n X dX10_read_24 0 rfl ?_
    refine wp_callVI X (rm := rmX10_reading) (T := TX10) (N := 20) (ci := 9) (n := 0) [] hcd (fun q hq => cX10_reading_ok hq) kw979 kw981 ks29 kw10 kw982 (by decide +kernel) (by decide) (by decide) (cs2 := 0) (sl2 := 0) rfl rfl rfl (by decide) rfl rfl (Nat.le_of_ble_eq_true rfl) dX10_read_25 h (fun v25 h => ?_)
    refine wp_istore_n X (lv' := [(0, .ref x0), (1, .int x1), (2, .int v25.1)]) dX10_read_28 (by decide) [1, 2, 0] rfl ?_
    refine wp_iload_n X dX10_read_29 2 rfl ?_
    refine wp_bipush X (v := 16) dX10_read_30 (by decide) ?_
    refine wp_icmp_gt X (tgt := 39) dX10_read_32 (by decide) h (fun h => ?_) (fun h => ?_)
    · refine wp_iconst X (v := 0) dX10_read_39 (by decide) ?_
      exact tX10_read_40 X hcd Qr   _ _ _ _ _ h
    · refine wp_iconst X (v := 1) dX10_read_35 (by decide) ?_
      refine wp_goto X (tgt := 40) dX10_read_36 (by decide) ?_
      exact tX10_read_40 X hcd Qr   _ _ _ _ _ h
  · exact wp_return X Qr rfl dX10_read_23 h
def mX10_read (F : Mem) (x0 : Nat) (x1 : Int32) : Option (Mem) := (mX10_isWord F x1).bind fun v2 => if v2.1 = 0 then (fX10_read_13   x0 x1 x0 1 v2.2) else (fX10_read_13   x0 x1 x0 0 v2.2)
set_option maxRecDepth 100000 in
set_option maxHeartbeats 4000000 in
theorem cX10_read_ok {l : Launch} {D : va_G} {cy : Nat → ClassId} {F : Mem} {x0 : Nat} {x1 : Int32} {res : Mem} (h : mX10_read F x0 x1 = some res) : MV l yX10_read cX10_read 5 none rmX10_read D cy F [.ref x0, .int x1] res := by
  refine mv_of (by decide) (Nat.le_of_ble_eq_true rfl) [(0, .ref x0), (1, .int x1)] rfl (fun C X hcd Qr => ?_)
  unfold mX10_read at h
  refine wp_aload_n X dX10_read_0 0 rfl ?_
  refine wp_iload_n X dX10_read_1 1 rfl ?_
  refine wp_callSI X (rm := rmX10_isWord) (n := 1) [.int x1] hcd (fun q hq => cX10_isWord_ok hq) kw913 kw914 kw10 kw915 (by decide +kernel) (by decide) (by decide) (cs2 := 0) (sl2 := 0) rfl rfl rfl rfl (Nat.le_of_ble_eq_true rfl) dX10_read_2 h (fun v2 h => ?_)
  refine wp_if_eq X (tgt := 12) dX10_read_5 (by decide) h (fun h => ?_) (fun h => ?_)
  · refine wp_iconst X (v := 1) dX10_read_12 (by decide) ?_
    exact tX10_read_13 X hcd Qr   _ _ _ _ _ h
  · refine wp_iconst X (v := 0) dX10_read_8 (by decide) ?_
    refine wp_goto X (tgt := 13) dX10_read_9 (by decide) ?_
    exact tX10_read_13 X hcd Qr   _ _ _ _ _ h
/-! TableauBenchModel.equivalent()Z -/
def rmX10_equivalent : Room := { frames := 3, cells := 0, slots := 0, locals := 72 }
def fX10_equivalent_57 (K112 : Nat → Int32 → Int32 → Mem → Option (Int32 × Mem)) : Nat → Nat → Int32 → Int32 → Int32 → Mem → Option (Int32 × Mem)
  | 0, _, _, _, _, _ => none
  | n + 1, x0, x1, x2, x3, F => (gfR F x0 9 5).bind fun v59 => (rdI F 0 v59 (24 + x2)).bind fun v66 => if v66 ≤ x3 then (K112 x0 x1 x2 F) else ((gfR F x0 9 14).bind fun v71 => (gfI F x0 9 13).bind fun v75 => (gfR F x0 9 4).bind fun v83 => (mX10_box F 1 x2 x3).bind fun v89 => (rdI v89.2 0 v83 v89.1).bind fun v92 => (wrJ v89.2 v71 v75 (Int32.toInt64 ((100 * x2) + v92))).bind fun F95 => (gfI F95 x0 9 13).bind fun v98 => (pf F95 x0 9 13 (.int (v98 + 1))).bind fun F103 => (fX10_equivalent_57  K112 n) x0 x1 x2 (x3 + 1) F103)
set_option maxRecDepth 100000 in
set_option maxHeartbeats 4000000 in
theorem tX10_equivalent_57 {l : Launch} {D : va_G} {cy : Nat → ClassId} {C : Cx} {res : Int32 × Mem} (X : Fx C cX10_equivalent RX10 (some .boolean) rmX10_equivalent 5) (hcd : CD C l D cy) (Qr : RI C 0 0 res) {K112 : Nat → Int32 → Int32 → Mem → Option (Int32 × Mem)} (hK112 : ∀ (x0 : Nat) (x1 : Int32) (x2 : Int32) (F : Mem), K112 x0 x1 x2 F = some res → Wp C 0 0 112 [(0, .ref x0), (1, .int x1), (2, .int x2)] [] F) : ∀ (n : Nat) (x0 : Nat) (x1 : Int32) (x2 : Int32) (x3 : Int32) (F : Mem), fX10_equivalent_57 K112 n x0 x1 x2 x3 F = some res → Wp C 0 0 57 [(0, .ref x0), (1, .int x1), (2, .int x2), (3, .int x3)] [] F := by
  intro n
  induction n with
  | zero =>
    intro x0 x1 x2 x3 F h
    rw [fX10_equivalent_57.eq_1] at h
    cases h
  | succ n ih =>
    intro x0 x1 x2 x3 F h
    rw [fX10_equivalent_57.eq_2] at h
    refine wp_iload_n X dX10_equivalent_57 3 rfl ?_
    refine wp_aload_n X dX10_equivalent_58 0 rfl ?_
    refine wp_getR X (T := TX10) (N := 20) (ci := 9) (k := 5) rfl (by decide) (by decide) inBX10 kw817 dX10_equivalent_59 h (fun v59 h => ?_)
    refine wp_bipush X (v := 24) dX10_equivalent_62 (by decide) ?_
    refine wp_iload_n X dX10_equivalent_64 2 rfl ?_
    refine wp_iadd X dX10_equivalent_65 ?_
    refine wp_iaload X dX10_equivalent_66 h (fun v66 h => ?_)
    refine wp_icmp_ge X (tgt := 112) dX10_equivalent_67 (by decide) h (fun h => ?_) (fun h => ?_)
    · refine wp_sub (lv' := [(0, .ref x0), (1, .int x1), (2, .int x2)]) [0, 1, 2] rfl ?_
      exact hK112 _ _ _ _ h
    · refine wp_aload_n X dX10_equivalent_70 0 rfl ?_
      refine wp_getR X (T := TX10) (N := 20) (ci := 9) (k := 14) rfl (by decide) (by decide) inBX10 kw826 dX10_equivalent_71 h (fun v71 h => ?_)
      refine wp_aload_n X dX10_equivalent_74 0 rfl ?_
      refine wp_getI X (T := TX10) (N := 20) (ci := 9) (k := 13) rfl (by decide) (by decide) inBX10 kw825 dX10_equivalent_75 h (fun v75 h => ?_)
      refine wp_bipush X (v := 100) dX10_equivalent_78 (by decide) ?_
      refine wp_iload_n X dX10_equivalent_80 2 rfl ?_
      refine wp_imul X dX10_equivalent_81 ?_
      refine wp_aload_n X dX10_equivalent_82 0 rfl ?_
      refine wp_getR X (T := TX10) (N := 20) (ci := 9) (k := 4) rfl (by decide) (by decide) inBX10 kw816 dX10_equivalent_83 h (fun v83 h => ?_)
      refine wp_iconst X (v := 1) dX10_equivalent_86 (by decide) ?_
      refine wp_iload_n X dX10_equivalent_87 2 rfl ?_
      refine wp_iload_n X dX10_equivalent_88 3 rfl ?_
      refine wp_callSI X (rm := rmX10_box) (n := 3) [.int 1, .int x2, .int x3] hcd (fun q hq => cX10_box_ok hq) kw940 kw941 kw10 kw942 (by decide +kernel) (by decide) (by decide) (cs2 := 0) (sl2 := 0) rfl rfl rfl rfl (Nat.le_of_ble_eq_true rfl) dX10_equivalent_89 h (fun v89 h => ?_)
      refine wp_iaload X dX10_equivalent_92 h (fun v92 h => ?_)
      refine wp_iadd X dX10_equivalent_93 ?_
      refine wp_i2l X dX10_equivalent_94 ?_
      refine wp_lastore X dX10_equivalent_95 h (fun F95 h => ?_)
      refine wp_aload_n X dX10_equivalent_96 0 rfl ?_
      refine wp_dup X dX10_equivalent_97 rfl ?_
      refine wp_getI X (T := TX10) (N := 20) (ci := 9) (k := 13) rfl (by decide) (by decide) inBX10 kw825 dX10_equivalent_98 h (fun v98 h => ?_)
      refine wp_iconst X (v := 1) dX10_equivalent_101 (by decide) ?_
      refine wp_iadd X dX10_equivalent_102 ?_
      refine wp_put X (T := TX10) (N := 20) (ci := 9) (k := 13) tyX10 rfl (by decide) (by decide) inBX10 kw825 tyX10_ok nmX10 rfl rfl (vp_nar_int _) rfl dX10_equivalent_103 h (fun F103 h => ?_)
      refine wp_iinc X (v := x3 + 1) (lv' := [(0, .ref x0), (1, .int x1), (2, .int x2), (3, .int (x3 + 1))]) dX10_equivalent_106 (by decide) 3 rfl rfl [1, 2, 3, 0] rfl ?_
      refine wp_goto X (tgt := 57) dX10_equivalent_109 (by decide) ?_
      exact ih _ _ _ _ _ h
def fX10_equivalent_49 (K118 : Nat → Int32 → Mem → Option (Int32 × Mem)) : Nat → Nat → Int32 → Int32 → Mem → Option (Int32 × Mem)
  | 0, _, _, _, _ => none
  | n + 1, x0, x1, x2, F => if 24 ≤ x2 then (K118 x0 x1 F) else (fX10_equivalent_57  (fun (x0 : Nat) (x1 : Int32) (x2 : Int32) (F : Mem) => (fX10_equivalent_49  K118 n) x0 x1 (x2 + 1) F) FU x0 x1 x2 0 F)
set_option maxRecDepth 100000 in
set_option maxHeartbeats 4000000 in
theorem tX10_equivalent_49 {l : Launch} {D : va_G} {cy : Nat → ClassId} {C : Cx} {res : Int32 × Mem} (X : Fx C cX10_equivalent RX10 (some .boolean) rmX10_equivalent 5) (hcd : CD C l D cy) (Qr : RI C 0 0 res) {K118 : Nat → Int32 → Mem → Option (Int32 × Mem)} (hK118 : ∀ (x0 : Nat) (x1 : Int32) (F : Mem), K118 x0 x1 F = some res → Wp C 0 0 118 [(0, .ref x0), (1, .int x1)] [] F) : ∀ (n : Nat) (x0 : Nat) (x1 : Int32) (x2 : Int32) (F : Mem), fX10_equivalent_49 K118 n x0 x1 x2 F = some res → Wp C 0 0 49 [(0, .ref x0), (1, .int x1), (2, .int x2)] [] F := by
  intro n
  induction n with
  | zero =>
    intro x0 x1 x2 F h
    rw [fX10_equivalent_49.eq_1] at h
    cases h
  | succ n ih =>
    intro x0 x1 x2 F h
    rw [fX10_equivalent_49.eq_2] at h
    refine wp_iload_n X dX10_equivalent_49 2 rfl ?_
    refine wp_bipush X (v := 24) dX10_equivalent_50 (by decide) ?_
    refine wp_icmp_ge X (tgt := 118) dX10_equivalent_52 (by decide) h (fun h => ?_) (fun h => ?_)
    · refine wp_sub (lv' := [(0, .ref x0), (1, .int x1)]) [0, 1] rfl ?_
      exact hK118 _ _ _ h
    · refine wp_iconst X (v := 0) dX10_equivalent_55 (by decide) ?_
      refine wp_istore_n X (lv' := [(0, .ref x0), (1, .int x1), (2, .int x2), (3, .int 0)]) dX10_equivalent_56 (by decide) [1, 2, 3, 0] rfl ?_
      refine tX10_equivalent_57 X hcd Qr  ?_ FU _ _ _ _ _ h
      · intro x0 x1 x2 F h
        refine wp_iinc X (v := x2 + 1) (lv' := [(0, .ref x0), (1, .int x1), (2, .int (x2 + 1))]) dX10_equivalent_112 (by decide) 2 rfl rfl [1, 2, 0] rfl ?_
        refine wp_goto X (tgt := 49) dX10_equivalent_115 (by decide) ?_
        exact ih _ _ _ _ h
def fX10_equivalent_202 (K151 : Nat → Int32 → Int32 → Int32 → Int32 → Mem → Option (Int32 × Mem)) (K212 : Nat → Int32 → Int32 → Int32 → Mem → Option (Int32 × Mem)) (x0 : Nat) (x2 : Int32) (x3 : Int32) (x4 : Int32) (s0 : Int32) (F : Mem) : Option (Int32 × Mem) := K151 x0 s0 (x2 + 1) x3 (x4 + 1) F
set_option maxRecDepth 100000 in
set_option maxHeartbeats 4000000 in
theorem tX10_equivalent_202 {l : Launch} {D : va_G} {cy : Nat → ClassId} {C : Cx} {res : Int32 × Mem} (X : Fx C cX10_equivalent RX10 (some .boolean) rmX10_equivalent 5) (hcd : CD C l D cy) (Qr : RI C 0 0 res) {K151 : Nat → Int32 → Int32 → Int32 → Int32 → Mem → Option (Int32 × Mem)} {K212 : Nat → Int32 → Int32 → Int32 → Mem → Option (Int32 × Mem)} (hK151 : ∀ (x0 : Nat) (x1 : Int32) (x2 : Int32) (x3 : Int32) (x4 : Int32) (F : Mem), K151 x0 x1 x2 x3 x4 F = some res → Wp C 0 0 151 [(0, .ref x0), (1, .int x1), (2, .int x2), (3, .int x3), (4, .int x4)] [] F) (hK212 : ∀ (x0 : Nat) (x1 : Int32) (x2 : Int32) (x3 : Int32) (F : Mem), K212 x0 x1 x2 x3 F = some res → Wp C 0 0 212 [(0, .ref x0), (1, .int x1), (2, .int x2), (3, .int x3)] [] F) (x0 : Nat) (x2 : Int32) (x3 : Int32) (x4 : Int32) (s0 : Int32) (F : Mem) (h : fX10_equivalent_202 K151 K212 x0 x2 x3 x4 s0 F = some res) : Wp C 0 0 202 [(0, .ref x0), (2, .int x2), (3, .int x3), (4, .int x4)] [.int s0] F := by
  unfold fX10_equivalent_202 at h
  refine wp_istore_n X (lv' := [(0, .ref x0), (1, .int s0), (2, .int x2), (3, .int x3), (4, .int x4)]) dX10_equivalent_202 (by decide) [1, 0, 2, 3, 4] rfl ?_
  refine wp_iinc X (v := x2 + 1) (lv' := [(0, .ref x0), (1, .int s0), (2, .int (x2 + 1)), (3, .int x3), (4, .int x4)]) dX10_equivalent_203 (by decide) 2 rfl rfl [1, 2, 0, 3, 4] rfl ?_
  refine wp_iinc X (v := x4 + 1) (lv' := [(0, .ref x0), (1, .int s0), (2, .int (x2 + 1)), (3, .int x3), (4, .int (x4 + 1))]) dX10_equivalent_206 (by decide) 4 rfl rfl [1, 2, 3, 4, 0] rfl ?_
  refine wp_goto X (tgt := 151) dX10_equivalent_209 (by decide) ?_
  exact hK151 _ _ _ _ _ _ h
def fX10_equivalent_151 (K212 : Nat → Int32 → Int32 → Int32 → Mem → Option (Int32 × Mem)) : Nat → Nat → Int32 → Int32 → Int32 → Int32 → Mem → Option (Int32 × Mem)
  | 0, _, _, _, _, _, _ => none
  | n + 1, x0, x1, x2, x3, x4, F => (gfR F x0 9 5).bind fun v154 => (rdI F 0 v154 (24 + x3)).bind fun v161 => if v161 ≤ x4 then (K212 x0 x1 x2 x3 F) else (if x1 = 0 then (K212 x0 x1 x2 x3 F) else ((gfR F x0 9 14).bind fun v170 => (rdJ F v170 x2).bind fun v174 => (gfR F x0 9 4).bind fun v180 => (mX10_box F 1 x3 x4).bind fun v187 => (rdI v187.2 0 v180 v187.1).bind fun v190 => if (lg_cmp v174 (Int32.toInt64 ((100 * x3) + v190))) = 0 then (fX10_equivalent_202  (fX10_equivalent_151  K212 n) K212 x0 x2 x3 x4 1 v187.2) else (fX10_equivalent_202  (fX10_equivalent_151  K212 n) K212 x0 x2 x3 x4 0 v187.2)))
set_option maxRecDepth 100000 in
set_option maxHeartbeats 4000000 in
theorem tX10_equivalent_151 {l : Launch} {D : va_G} {cy : Nat → ClassId} {C : Cx} {res : Int32 × Mem} (X : Fx C cX10_equivalent RX10 (some .boolean) rmX10_equivalent 5) (hcd : CD C l D cy) (Qr : RI C 0 0 res) {K212 : Nat → Int32 → Int32 → Int32 → Mem → Option (Int32 × Mem)} (hK212 : ∀ (x0 : Nat) (x1 : Int32) (x2 : Int32) (x3 : Int32) (F : Mem), K212 x0 x1 x2 x3 F = some res → Wp C 0 0 212 [(0, .ref x0), (1, .int x1), (2, .int x2), (3, .int x3)] [] F) : ∀ (n : Nat) (x0 : Nat) (x1 : Int32) (x2 : Int32) (x3 : Int32) (x4 : Int32) (F : Mem), fX10_equivalent_151 K212 n x0 x1 x2 x3 x4 F = some res → Wp C 0 0 151 [(0, .ref x0), (1, .int x1), (2, .int x2), (3, .int x3), (4, .int x4)] [] F := by
  intro n
  induction n with
  | zero =>
    intro x0 x1 x2 x3 x4 F h
    rw [fX10_equivalent_151.eq_1] at h
    cases h
  | succ n ih =>
    intro x0 x1 x2 x3 x4 F h
    rw [fX10_equivalent_151.eq_2] at h
    refine wp_iload X dX10_equivalent_151 4 rfl ?_
    refine wp_aload_n X dX10_equivalent_153 0 rfl ?_
    refine wp_getR X (T := TX10) (N := 20) (ci := 9) (k := 5) rfl (by decide) (by decide) inBX10 kw817 dX10_equivalent_154 h (fun v154 h => ?_)
    refine wp_bipush X (v := 24) dX10_equivalent_157 (by decide) ?_
    refine wp_iload_n X dX10_equivalent_159 3 rfl ?_
    refine wp_iadd X dX10_equivalent_160 ?_
    refine wp_iaload X dX10_equivalent_161 h (fun v161 h => ?_)
    refine wp_icmp_ge X (tgt := 212) dX10_equivalent_162 (by decide) h (fun h => ?_) (fun h => ?_)
    · refine wp_sub (lv' := [(0, .ref x0), (1, .int x1), (2, .int x2), (3, .int x3)]) [0, 1, 2, 3] rfl ?_
      exact hK212 _ _ _ _ _ h
    · refine wp_iload_n X dX10_equivalent_165 1 rfl ?_
      refine wp_if_eq X (tgt := 212) dX10_equivalent_166 (by decide) h (fun h => ?_) (fun h => ?_)
      · refine wp_sub (lv' := [(0, .ref x0), (1, .int x1), (2, .int x2), (3, .int x3)]) [0, 1, 2, 3] rfl ?_
        exact hK212 _ _ _ _ _ h
      · refine wp_aload_n X dX10_equivalent_169 0 rfl ?_
        refine wp_getR X (T := TX10) (N := 20) (ci := 9) (k := 14) rfl (by decide) (by decide) inBX10 kw826 dX10_equivalent_170 h (fun v170 h => ?_)
        refine wp_iload_n X dX10_equivalent_173 2 rfl ?_
        refine wp_laload X dX10_equivalent_174 h (fun v174 h => ?_)
        refine wp_bipush X (v := 100) dX10_equivalent_175 (by decide) ?_
        refine wp_iload_n X dX10_equivalent_177 3 rfl ?_
        refine wp_imul X dX10_equivalent_178 ?_
        refine wp_aload_n X dX10_equivalent_179 0 rfl ?_
        refine wp_getR X (T := TX10) (N := 20) (ci := 9) (k := 4) rfl (by decide) (by decide) inBX10 kw816 dX10_equivalent_180 h (fun v180 h => ?_)
        refine wp_iconst X (v := 1) dX10_equivalent_183 (by decide) ?_
        refine wp_iload_n X dX10_equivalent_184 3 rfl ?_
        refine wp_iload X dX10_equivalent_185 4 rfl ?_
        refine wp_callSI X (rm := rmX10_box) (n := 3) [.int 1, .int x3, .int x4] hcd (fun q hq => cX10_box_ok hq) kw940 kw941 kw10 kw942 (by decide +kernel) (by decide) (by decide) (cs2 := 0) (sl2 := 0) rfl rfl rfl rfl (Nat.le_of_ble_eq_true rfl) dX10_equivalent_187 h (fun v187 h => ?_)
        refine wp_iaload X dX10_equivalent_190 h (fun v190 h => ?_)
        refine wp_iadd X dX10_equivalent_191 ?_
        refine wp_i2l X dX10_equivalent_192 ?_
        refine wp_lcmp X dX10_equivalent_193 ?_
        refine wp_if_ne X (tgt := 201) dX10_equivalent_194 (by decide) h (fun h => ?_) (fun h => ?_)
        · refine wp_iconst X (v := 0) dX10_equivalent_201 (by decide) ?_
          refine wp_sub (lv' := [(0, .ref x0), (2, .int x2), (3, .int x3), (4, .int x4)]) [0, 2, 3, 4] rfl ?_
          exact tX10_equivalent_202 X hcd Qr  ih hK212 _ _ _ _ _ _ h
        · refine wp_iconst X (v := 1) dX10_equivalent_197 (by decide) ?_
          refine wp_goto X (tgt := 202) dX10_equivalent_198 (by decide) ?_
          refine wp_sub (lv' := [(0, .ref x0), (2, .int x2), (3, .int x3), (4, .int x4)]) [0, 2, 3, 4] rfl ?_
          exact tX10_equivalent_202 X hcd Qr  ih hK212 _ _ _ _ _ _ h
def fX10_equivalent_212 (K138 : Nat → Int32 → Int32 → Int32 → Mem → Option (Int32 × Mem)) (x0 : Nat) (x1 : Int32) (x2 : Int32) (x3 : Int32) (F : Mem) : Option (Int32 × Mem) := K138 x0 x1 x2 (x3 + 1) F
set_option maxRecDepth 100000 in
set_option maxHeartbeats 4000000 in
theorem tX10_equivalent_212 {l : Launch} {D : va_G} {cy : Nat → ClassId} {C : Cx} {res : Int32 × Mem} (X : Fx C cX10_equivalent RX10 (some .boolean) rmX10_equivalent 5) (hcd : CD C l D cy) (Qr : RI C 0 0 res) {K138 : Nat → Int32 → Int32 → Int32 → Mem → Option (Int32 × Mem)} (hK138 : ∀ (x0 : Nat) (x1 : Int32) (x2 : Int32) (x3 : Int32) (F : Mem), K138 x0 x1 x2 x3 F = some res → Wp C 0 0 138 [(0, .ref x0), (1, .int x1), (2, .int x2), (3, .int x3)] [] F) (x0 : Nat) (x1 : Int32) (x2 : Int32) (x3 : Int32) (F : Mem) (h : fX10_equivalent_212 K138 x0 x1 x2 x3 F = some res) : Wp C 0 0 212 [(0, .ref x0), (1, .int x1), (2, .int x2), (3, .int x3)] [] F := by
  unfold fX10_equivalent_212 at h
  refine wp_iinc X (v := x3 + 1) (lv' := [(0, .ref x0), (1, .int x1), (2, .int x2), (3, .int (x3 + 1))]) dX10_equivalent_212 (by decide) 3 rfl rfl [1, 2, 3, 0] rfl ?_
  refine wp_goto X (tgt := 138) dX10_equivalent_215 (by decide) ?_
  exact hK138 _ _ _ _ _ h
def fX10_equivalent_138  : Nat → Nat → Int32 → Int32 → Int32 → Mem → Option (Int32 × Mem)
  | 0, _, _, _, _, _ => none
  | n + 1, x0, x1, x2, x3, F => if 24 ≤ x3 then ((bz x1).bind fun u9 => some (u9, F)) else (if x1 = 0 then ((bz x1).bind fun u9 => some (u9, F)) else (fX10_equivalent_151  (fun (x0 : Nat) (x1 : Int32) (x2 : Int32) (x3 : Int32) (F : Mem) => fX10_equivalent_212  (fX10_equivalent_138   n) x0 x1 x2 x3 F) FU x0 x1 x2 x3 0 F))
set_option maxRecDepth 100000 in
set_option maxHeartbeats 4000000 in
theorem tX10_equivalent_138 {l : Launch} {D : va_G} {cy : Nat → ClassId} {C : Cx} {res : Int32 × Mem} (X : Fx C cX10_equivalent RX10 (some .boolean) rmX10_equivalent 5) (hcd : CD C l D cy) (Qr : RI C 0 0 res)   : ∀ (n : Nat) (x0 : Nat) (x1 : Int32) (x2 : Int32) (x3 : Int32) (F : Mem), fX10_equivalent_138  n x0 x1 x2 x3 F = some res → Wp C 0 0 138 [(0, .ref x0), (1, .int x1), (2, .int x2), (3, .int x3)] [] F := by
  intro n
  induction n with
  | zero =>
    intro x0 x1 x2 x3 F h
    rw [fX10_equivalent_138.eq_1] at h
    cases h
  | succ n ih =>
    intro x0 x1 x2 x3 F h
    rw [fX10_equivalent_138.eq_2] at h
    refine wp_iload_n X dX10_equivalent_138 3 rfl ?_
    refine wp_bipush X (v := 24) dX10_equivalent_139 (by decide) ?_
    refine wp_icmp_ge X (tgt := 218) dX10_equivalent_141 (by decide) h (fun h => ?_) (fun h => ?_)
    · refine wp_iload_n X dX10_equivalent_218 1 rfl ?_
      obtain ⟨u9, hu9, h9⟩ := bnd h
      obtain ⟨e9, hz9⟩ := bz_eq hu9
      rw [e9] at h9
      exact wp_ireturn X Qr rfl hz9 dX10_equivalent_219 h9
    · refine wp_iload_n X dX10_equivalent_144 1 rfl ?_
      refine wp_if_eq X (tgt := 218) dX10_equivalent_145 (by decide) h (fun h => ?_) (fun h => ?_)
      · refine wp_iload_n X dX10_equivalent_218 1 rfl ?_
        obtain ⟨u9, hu9, h9⟩ := bnd h
        obtain ⟨e9, hz9⟩ := bz_eq hu9
        rw [e9] at h9
        exact wp_ireturn X Qr rfl hz9 dX10_equivalent_219 h9
      · refine wp_iconst X (v := 0) dX10_equivalent_148 (by decide) ?_
        refine wp_istore X (lv' := [(0, .ref x0), (1, .int x1), (2, .int x2), (3, .int x3), (4, .int 0)]) dX10_equivalent_149 (by decide) [1, 2, 3, 4, 0] rfl ?_
        refine tX10_equivalent_151 X hcd Qr  ?_ FU _ _ _ _ _ _ h
        · intro x0 x1 x2 x3 F h
          exact tX10_equivalent_212 X hcd Qr  ih _ _ _ _ _ h
def fX10_equivalent_41  (x0 : Nat) (s0 : Int32) (F : Mem) : Option (Int32 × Mem) := (pf F x0 9 13 (.int 0)).bind fun F44 => fX10_equivalent_49  (fun (x0 : Nat) (x1 : Int32) (F : Mem) => (obj F x0 9).bind fun _ => (mX10_take F x0 1).bind fun v120 => (gfR v120 x0 9 3).bind fun v126 => (rdI v120 0 v126 1).bind fun v130 => (obj v120 x0 9).bind fun _ => (mX10_insertRow v120 x0 1 v130).bind fun v131 => fX10_equivalent_138   FU x0 x1 0 0 v131) FU x0 s0 0 F44
set_option maxRecDepth 100000 in
set_option maxHeartbeats 4000000 in
theorem tX10_equivalent_41 {l : Launch} {D : va_G} {cy : Nat → ClassId} {C : Cx} {res : Int32 × Mem} (X : Fx C cX10_equivalent RX10 (some .boolean) rmX10_equivalent 5) (hcd : CD C l D cy) (Qr : RI C 0 0 res)   (x0 : Nat) (s0 : Int32) (F : Mem) (h : fX10_equivalent_41  x0 s0 F = some res) : Wp C 0 0 41 [(0, .ref x0)] [.int s0] F := by
  unfold fX10_equivalent_41 at h
  refine wp_istore_n X (lv' := [(0, .ref x0), (1, .int s0)]) dX10_equivalent_41 (by decide) [1, 0] rfl ?_
  refine wp_aload_n X dX10_equivalent_42 0 rfl ?_
  refine wp_iconst X (v := 0) dX10_equivalent_43 (by decide) ?_
  refine wp_put X (T := TX10) (N := 20) (ci := 9) (k := 13) tyX10 rfl (by decide) (by decide) inBX10 kw825 tyX10_ok nmX10 rfl rfl (vp_nar_int _) rfl dX10_equivalent_44 h (fun F44 h => ?_)
  refine wp_iconst X (v := 0) dX10_equivalent_47 (by decide) ?_
  refine wp_istore_n X (lv' := [(0, .ref x0), (1, .int s0), (2, .int 0)]) dX10_equivalent_48 (by decide) [1, 2, 0] rfl ?_
  refine tX10_equivalent_49 X hcd Qr  ?_ FU _ _ _ _ h
  · intro x0 x1 F h
    refine wp_aload_n X dX10_equivalent_118 0 rfl ?_
    refine wp_iconst X (v := 1) dX10_equivalent_119 (by decide) ?_
    refine wp_callVV X (rm := rmX10_take) (T := TX10) (N := 20) (ci := 9) (n := 1) [.int 1] hcd (fun q hq => cX10_take_ok hq) kw987 kw989 ks30 kw10 kw990 (by decide +kernel) (by decide) (by decide) (cs2 := 0) (sl2 := 0) rfl rfl rfl (by decide) rfl rfl (Nat.le_of_ble_eq_true rfl) dX10_equivalent_120 h (fun v120 h => ?_)
    refine wp_aload_n X dX10_equivalent_123 0 rfl ?_
    refine wp_iconst X (v := 1) dX10_equivalent_124 (by decide) ?_
    refine wp_aload_n X dX10_equivalent_125 0 rfl ?_
    refine wp_getR X (T := TX10) (N := 20) (ci := 9) (k := 3) rfl (by decide) (by decide) inBX10 kw815 dX10_equivalent_126 h (fun v126 h => ?_)
    refine wp_iconst X (v := 1) dX10_equivalent_129 (by decide) ?_
    refine wp_iaload X dX10_equivalent_130 h (fun v130 h => ?_)
    refine wp_callVV X (rm := rmX10_insertRow) (T := TX10) (N := 20) (ci := 9) (n := 2) [.int 1, .int v130] hcd (fun q hq => cX10_insertRow_ok hq) kw991 kw993 ks31 kw10 kw994 (by decide +kernel) (by decide) (by decide) (cs2 := 0) (sl2 := 0) rfl rfl rfl (by decide) rfl rfl (Nat.le_of_ble_eq_true rfl) dX10_equivalent_131 h (fun v131 h => ?_)
    refine wp_iconst X (v := 0) dX10_equivalent_134 (by decide) ?_
    refine wp_istore_n X (lv' := [(0, .ref x0), (1, .int x1), (2, .int 0)]) dX10_equivalent_135 (by decide) [1, 2, 0] rfl ?_
    refine wp_iconst X (v := 0) dX10_equivalent_136 (by decide) ?_
    refine wp_istore_n X (lv' := [(0, .ref x0), (1, .int x1), (2, .int 0), (3, .int 0)]) dX10_equivalent_137 (by decide) [1, 2, 3, 0] rfl ?_
    refine tX10_equivalent_138 X hcd Qr   FU _ _ _ _ _ h
def mX10_equivalent (F : Mem) (x0 : Nat) : Option (Int32 × Mem) := (pf F x0 9 0 (.int 0)).bind fun F2 => (obj F2 x0 9).bind fun _ => (mX10_take F2 x0 0).bind fun v7 => (gfR v7 x0 9 3).bind fun v13 => (rdI v7 0 v13 0).bind fun v17 => (obj v7 x0 9).bind fun _ => (mX10_insertRow v7 x0 1 v17).bind fun v18 => (gfR v18 x0 9 3).bind fun v22 => (rdI v18 0 v22 0).bind fun v26 => (gfR v18 x0 9 3).bind fun v28 => (rdI v18 0 v28 1).bind fun v32 => if v26 = v32 then (fX10_equivalent_41   x0 1 v18) else (fX10_equivalent_41   x0 0 v18)
set_option maxRecDepth 100000 in
set_option maxHeartbeats 4000000 in
theorem cX10_equivalent_ok {l : Launch} {D : va_G} {cy : Nat → ClassId} {F : Mem} {x0 : Nat} {res : Int32 × Mem} (h : mX10_equivalent F x0 = some res) : MI l yX10_equivalent cX10_equivalent 5 (some .boolean) rmX10_equivalent D cy F [.ref x0] res := by
  refine mi_of (by decide) (Nat.le_of_ble_eq_true rfl) [(0, .ref x0)] rfl (fun C X hcd Qr => ?_)
  unfold mX10_equivalent at h
  refine wp_aload_n X dX10_equivalent_0 0 rfl ?_
  refine wp_iconst X (v := 0) dX10_equivalent_1 (by decide) ?_
  refine wp_put X (T := TX10) (N := 20) (ci := 9) (k := 0) tyX10 rfl (by decide) (by decide) inBX10 kw812 tyX10_ok nmX10 rfl rfl (vp_nar_int _) rfl dX10_equivalent_2 h (fun F2 h => ?_)
  refine wp_aload_n X dX10_equivalent_5 0 rfl ?_
  refine wp_iconst X (v := 0) dX10_equivalent_6 (by decide) ?_
  refine wp_callVV X (rm := rmX10_take) (T := TX10) (N := 20) (ci := 9) (n := 1) [.int 0] hcd (fun q hq => cX10_take_ok hq) kw987 kw989 ks30 kw10 kw990 (by decide +kernel) (by decide) (by decide) (cs2 := 0) (sl2 := 0) rfl rfl rfl (by decide) rfl rfl (Nat.le_of_ble_eq_true rfl) dX10_equivalent_7 h (fun v7 h => ?_)
  refine wp_aload_n X dX10_equivalent_10 0 rfl ?_
  refine wp_iconst X (v := 1) dX10_equivalent_11 (by decide) ?_
  refine wp_aload_n X dX10_equivalent_12 0 rfl ?_
  refine wp_getR X (T := TX10) (N := 20) (ci := 9) (k := 3) rfl (by decide) (by decide) inBX10 kw815 dX10_equivalent_13 h (fun v13 h => ?_)
  refine wp_iconst X (v := 0) dX10_equivalent_16 (by decide) ?_
  refine wp_iaload X dX10_equivalent_17 h (fun v17 h => ?_)
  refine wp_callVV X (rm := rmX10_insertRow) (T := TX10) (N := 20) (ci := 9) (n := 2) [.int 1, .int v17] hcd (fun q hq => cX10_insertRow_ok hq) kw991 kw993 ks31 kw10 kw994 (by decide +kernel) (by decide) (by decide) (cs2 := 0) (sl2 := 0) rfl rfl rfl (by decide) rfl rfl (Nat.le_of_ble_eq_true rfl) dX10_equivalent_18 h (fun v18 h => ?_)
  refine wp_aload_n X dX10_equivalent_21 0 rfl ?_
  refine wp_getR X (T := TX10) (N := 20) (ci := 9) (k := 3) rfl (by decide) (by decide) inBX10 kw815 dX10_equivalent_22 h (fun v22 h => ?_)
  refine wp_iconst X (v := 0) dX10_equivalent_25 (by decide) ?_
  refine wp_iaload X dX10_equivalent_26 h (fun v26 h => ?_)
  refine wp_aload_n X dX10_equivalent_27 0 rfl ?_
  refine wp_getR X (T := TX10) (N := 20) (ci := 9) (k := 3) rfl (by decide) (by decide) inBX10 kw815 dX10_equivalent_28 h (fun v28 h => ?_)
  refine wp_iconst X (v := 1) dX10_equivalent_31 (by decide) ?_
  refine wp_iaload X dX10_equivalent_32 h (fun v32 h => ?_)
  refine wp_icmp_ne X (tgt := 40) dX10_equivalent_33 (by decide) h (fun h => ?_) (fun h => ?_)
  · refine wp_iconst X (v := 0) dX10_equivalent_40 (by decide) ?_
    exact tX10_equivalent_41 X hcd Qr   _ _ _ h
  · refine wp_iconst X (v := 1) dX10_equivalent_36 (by decide) ?_
    refine wp_goto X (tgt := 41) dX10_equivalent_37 (by decide) ?_
    exact tX10_equivalent_41 X hcd Qr   _ _ _ h
/-! TableauBenchModel.isStrict(II)Z -/
def rmX10_isStrict : Room := { frames := 1, cells := 0, slots := 0, locals := 22 }
def fX10_isStrict_176 (K28 : Nat → Int32 → Int32 → Int32 → Int32 → Int32 → Int32 → Mem → Option (Int32 × Mem)) (K187 : Nat → Int32 → Int32 → Int32 → Int32 → Int32 → Mem → Option (Int32 × Mem)) (x0 : Nat) (x1 : Int32) (x2 : Int32) (x3 : Int32) (x5 : Int32) (x6 : Int32) (s0 : Int32) (F : Mem) : Option (Int32 × Mem) := K28 x0 x1 x2 (x3 + 1) s0 x5 (x6 + 1) F
set_option maxRecDepth 100000 in
set_option maxHeartbeats 4000000 in
theorem tX10_isStrict_176 {l : Launch} {D : va_G} {cy : Nat → ClassId} {C : Cx} {res : Int32 × Mem} (X : Fx C cX10_isStrict RX10 (some .boolean) rmX10_isStrict 7) (hcd : CD C l D cy) (Qr : RI C 0 0 res) {K28 : Nat → Int32 → Int32 → Int32 → Int32 → Int32 → Int32 → Mem → Option (Int32 × Mem)} {K187 : Nat → Int32 → Int32 → Int32 → Int32 → Int32 → Mem → Option (Int32 × Mem)} (hK28 : ∀ (x0 : Nat) (x1 : Int32) (x2 : Int32) (x3 : Int32) (x4 : Int32) (x5 : Int32) (x6 : Int32) (F : Mem), K28 x0 x1 x2 x3 x4 x5 x6 F = some res → Wp C 0 0 28 [(0, .ref x0), (1, .int x1), (2, .int x2), (3, .int x3), (4, .int x4), (5, .int x5), (6, .int x6)] [] F) (hK187 : ∀ (x0 : Nat) (x1 : Int32) (x2 : Int32) (x3 : Int32) (x4 : Int32) (x5 : Int32) (F : Mem), K187 x0 x1 x2 x3 x4 x5 F = some res → Wp C 0 0 187 [(0, .ref x0), (1, .int x1), (2, .int x2), (3, .int x3), (4, .int x4), (5, .int x5)] [] F) (x0 : Nat) (x1 : Int32) (x2 : Int32) (x3 : Int32) (x5 : Int32) (x6 : Int32) (s0 : Int32) (F : Mem) (h : fX10_isStrict_176 K28 K187 x0 x1 x2 x3 x5 x6 s0 F = some res) : Wp C 0 0 176 [(0, .ref x0), (1, .int x1), (2, .int x2), (3, .int x3), (5, .int x5), (6, .int x6)] [.int s0] F := by
  unfold fX10_isStrict_176 at h
  refine wp_istore X (lv' := [(0, .ref x0), (1, .int x1), (2, .int x2), (3, .int x3), (4, .int s0), (5, .int x5), (6, .int x6)]) dX10_isStrict_176 (by decide) [1, 2, 3, 4, 0, 5, 6] rfl ?_
  refine wp_iinc X (v := x3 + 1) (lv' := [(0, .ref x0), (1, .int x1), (2, .int x2), (3, .int (x3 + 1)), (4, .int s0), (5, .int x5), (6, .int x6)]) dX10_isStrict_178 (by decide) 3 rfl rfl [1, 2, 3, 0, 4, 5, 6] rfl ?_
  refine wp_iinc X (v := x6 + 1) (lv' := [(0, .ref x0), (1, .int x1), (2, .int x2), (3, .int (x3 + 1)), (4, .int s0), (5, .int x5), (6, .int (x6 + 1))]) dX10_isStrict_181 (by decide) 6 rfl rfl [1, 2, 3, 4, 5, 6, 0] rfl ?_
  refine wp_goto X (tgt := 28) dX10_isStrict_184 (by decide) ?_
  exact hK28 _ _ _ _ _ _ _ _ h
def fX10_isStrict_105 (K28 : Nat → Int32 → Int32 → Int32 → Int32 → Int32 → Int32 → Mem → Option (Int32 × Mem)) (K187 : Nat → Int32 → Int32 → Int32 → Int32 → Int32 → Mem → Option (Int32 × Mem)) (x0 : Nat) (x1 : Int32) (x2 : Int32) (x3 : Int32) (x5 : Int32) (x6 : Int32) (s0 : Int32) (F : Mem) : Option (Int32 × Mem) := if s0 = 0 then (fX10_isStrict_176  K28 K187 x0 x1 x2 x3 x5 x6 0 F) else (if x5 = 7 then (fX10_isStrict_176  K28 K187 x0 x1 x2 x3 x5 x6 1 F) else ((obj F x0 9).bind fun _ => (mX10_rowOf F x0 x1 (x5 + 1)).bind fun v127 => if x6 < v127.1 then (fX10_isStrict_176  K28 K187 x0 x1 x2 x3 x5 x6 1 v127.2) else ((obj v127.2 x0 9).bind fun _ => (mX10_rowOf v127.2 x0 x2 (x5 + 1)).bind fun v141 => if v141.1 ≤ x6 then (fX10_isStrict_176  K28 K187 x0 x1 x2 x3 x5 x6 1 v141.2) else ((gfR v141.2 x0 9 4).bind fun v148 => (mX10_box v141.2 1 (x5 + 1) x6).bind fun v158 => (rdI v158.2 0 v148 v158.1).bind fun v161 => (gfR v158.2 x0 9 7).bind fun v163 => (rdI v158.2 0 v163 x3).bind fun v167 => if v161 ≤ v167 then (fX10_isStrict_176  K28 K187 x0 x1 x2 x3 x5 x6 0 v158.2) else (fX10_isStrict_176  K28 K187 x0 x1 x2 x3 x5 x6 1 v158.2)))))
set_option maxRecDepth 100000 in
set_option maxHeartbeats 4000000 in
theorem tX10_isStrict_105 {l : Launch} {D : va_G} {cy : Nat → ClassId} {C : Cx} {res : Int32 × Mem} (X : Fx C cX10_isStrict RX10 (some .boolean) rmX10_isStrict 7) (hcd : CD C l D cy) (Qr : RI C 0 0 res) {K28 : Nat → Int32 → Int32 → Int32 → Int32 → Int32 → Int32 → Mem → Option (Int32 × Mem)} {K187 : Nat → Int32 → Int32 → Int32 → Int32 → Int32 → Mem → Option (Int32 × Mem)} (hK28 : ∀ (x0 : Nat) (x1 : Int32) (x2 : Int32) (x3 : Int32) (x4 : Int32) (x5 : Int32) (x6 : Int32) (F : Mem), K28 x0 x1 x2 x3 x4 x5 x6 F = some res → Wp C 0 0 28 [(0, .ref x0), (1, .int x1), (2, .int x2), (3, .int x3), (4, .int x4), (5, .int x5), (6, .int x6)] [] F) (hK187 : ∀ (x0 : Nat) (x1 : Int32) (x2 : Int32) (x3 : Int32) (x4 : Int32) (x5 : Int32) (F : Mem), K187 x0 x1 x2 x3 x4 x5 F = some res → Wp C 0 0 187 [(0, .ref x0), (1, .int x1), (2, .int x2), (3, .int x3), (4, .int x4), (5, .int x5)] [] F) (x0 : Nat) (x1 : Int32) (x2 : Int32) (x3 : Int32) (x5 : Int32) (x6 : Int32) (s0 : Int32) (F : Mem) (h : fX10_isStrict_105 K28 K187 x0 x1 x2 x3 x5 x6 s0 F = some res) : Wp C 0 0 105 [(0, .ref x0), (1, .int x1), (2, .int x2), (3, .int x3), (5, .int x5), (6, .int x6)] [.int s0] F := by
  unfold fX10_isStrict_105 at h
  refine wp_istore X (lv' := [(0, .ref x0), (1, .int x1), (2, .int x2), (3, .int x3), (4, .int s0), (5, .int x5), (6, .int x6)]) dX10_isStrict_105 (by decide) [1, 2, 3, 4, 0, 5, 6] rfl ?_
  refine wp_iload X dX10_isStrict_107 4 rfl ?_
  refine wp_if_eq X (tgt := 175) dX10_isStrict_109 (by decide) h (fun h => ?_) (fun h => ?_)
  · refine wp_iconst X (v := 0) dX10_isStrict_175 (by decide) ?_
    refine wp_sub (lv' := [(0, .ref x0), (1, .int x1), (2, .int x2), (3, .int x3), (5, .int x5), (6, .int x6)]) [0, 1, 2, 3, 5, 6] rfl ?_
    exact tX10_isStrict_176 X hcd Qr  hK28 hK187 _ _ _ _ _ _ _ _ h
  · refine wp_iload X dX10_isStrict_112 5 rfl ?_
    refine wp_bipush X (v := 7) dX10_isStrict_114 (by decide) ?_
    refine wp_icmp_eq X (tgt := 171) dX10_isStrict_116 (by decide) h (fun h => ?_) (fun h => ?_)
    · refine wp_iconst X (v := 1) dX10_isStrict_171 (by decide) ?_
      refine wp_goto X (tgt := 176) dX10_isStrict_172 (by decide) ?_
      refine wp_sub (lv' := [(0, .ref x0), (1, .int x1), (2, .int x2), (3, .int x3), (5, .int x5), (6, .int x6)]) [0, 1, 2, 3, 5, 6] rfl ?_
      exact tX10_isStrict_176 X hcd Qr  hK28 hK187 _ _ _ _ _ _ _ _ h
    · refine wp_iload X dX10_isStrict_119 6 rfl ?_
      refine wp_aload_n X dX10_isStrict_121 0 rfl ?_
      refine wp_iload_n X dX10_isStrict_122 1 rfl ?_
      refine wp_iload X dX10_isStrict_123 5 rfl ?_
      refine wp_iconst X (v := 1) dX10_isStrict_125 (by decide) ?_
      refine wp_iadd X dX10_isStrict_126 ?_
      refine wp_callVI X (rm := rmX10_rowOf) (T := TX10) (N := 20) (ci := 9) (n := 2) [.int x1, .int (x5 + 1)] hcd (fun q hq => cX10_rowOf_ok hq) kw889 kw891 ks19 kw10 kw892 (by decide +kernel) (by decide) (by decide) (cs2 := 0) (sl2 := 0) rfl rfl rfl (by decide) rfl rfl (Nat.le_of_ble_eq_true rfl) dX10_isStrict_127 h (fun v127 h => ?_)
      refine wp_icmp_lt X (tgt := 171) dX10_isStrict_130 (by decide) h (fun h => ?_) (fun h => ?_)
      · refine wp_iconst X (v := 1) dX10_isStrict_171 (by decide) ?_
        refine wp_goto X (tgt := 176) dX10_isStrict_172 (by decide) ?_
        refine wp_sub (lv' := [(0, .ref x0), (1, .int x1), (2, .int x2), (3, .int x3), (5, .int x5), (6, .int x6)]) [0, 1, 2, 3, 5, 6] rfl ?_
        exact tX10_isStrict_176 X hcd Qr  hK28 hK187 _ _ _ _ _ _ _ _ h
      · refine wp_iload X dX10_isStrict_133 6 rfl ?_
        refine wp_aload_n X dX10_isStrict_135 0 rfl ?_
        refine wp_iload_n X dX10_isStrict_136 2 rfl ?_
        refine wp_iload X dX10_isStrict_137 5 rfl ?_
        refine wp_iconst X (v := 1) dX10_isStrict_139 (by decide) ?_
        refine wp_iadd X dX10_isStrict_140 ?_
        refine wp_callVI X (rm := rmX10_rowOf) (T := TX10) (N := 20) (ci := 9) (n := 2) [.int x2, .int (x5 + 1)] hcd (fun q hq => cX10_rowOf_ok hq) kw889 kw891 ks19 kw10 kw892 (by decide +kernel) (by decide) (by decide) (cs2 := 0) (sl2 := 0) rfl rfl rfl (by decide) rfl rfl (Nat.le_of_ble_eq_true rfl) dX10_isStrict_141 h (fun v141 h => ?_)
        refine wp_icmp_ge X (tgt := 171) dX10_isStrict_144 (by decide) h (fun h => ?_) (fun h => ?_)
        · refine wp_iconst X (v := 1) dX10_isStrict_171 (by decide) ?_
          refine wp_goto X (tgt := 176) dX10_isStrict_172 (by decide) ?_
          refine wp_sub (lv' := [(0, .ref x0), (1, .int x1), (2, .int x2), (3, .int x3), (5, .int x5), (6, .int x6)]) [0, 1, 2, 3, 5, 6] rfl ?_
          exact tX10_isStrict_176 X hcd Qr  hK28 hK187 _ _ _ _ _ _ _ _ h
        · refine wp_aload_n X dX10_isStrict_147 0 rfl ?_
          refine wp_getR X (T := TX10) (N := 20) (ci := 9) (k := 4) rfl (by decide) (by decide) inBX10 kw816 dX10_isStrict_148 h (fun v148 h => ?_)
          refine wp_iconst X (v := 1) dX10_isStrict_151 (by decide) ?_
          refine wp_iload X dX10_isStrict_152 5 rfl ?_
          refine wp_iconst X (v := 1) dX10_isStrict_154 (by decide) ?_
          refine wp_iadd X dX10_isStrict_155 ?_
          refine wp_iload X dX10_isStrict_156 6 rfl ?_
          refine wp_callSI X (rm := rmX10_box) (n := 3) [.int 1, .int (x5 + 1), .int x6] hcd (fun q hq => cX10_box_ok hq) kw940 kw941 kw10 kw942 (by decide +kernel) (by decide) (by decide) (cs2 := 0) (sl2 := 0) rfl rfl rfl rfl (Nat.le_of_ble_eq_true rfl) dX10_isStrict_158 h (fun v158 h => ?_)
          refine wp_iaload X dX10_isStrict_161 h (fun v161 h => ?_)
          refine wp_aload_n X dX10_isStrict_162 0 rfl ?_
          refine wp_getR X (T := TX10) (N := 20) (ci := 9) (k := 7) rfl (by decide) (by decide) inBX10 kw819 dX10_isStrict_163 h (fun v163 h => ?_)
          refine wp_iload_n X dX10_isStrict_166 3 rfl ?_
          refine wp_iaload X dX10_isStrict_167 h (fun v167 h => ?_)
          refine wp_icmp_le X (tgt := 175) dX10_isStrict_168 (by decide) h (fun h => ?_) (fun h => ?_)
          · refine wp_iconst X (v := 0) dX10_isStrict_175 (by decide) ?_
            refine wp_sub (lv' := [(0, .ref x0), (1, .int x1), (2, .int x2), (3, .int x3), (5, .int x5), (6, .int x6)]) [0, 1, 2, 3, 5, 6] rfl ?_
            exact tX10_isStrict_176 X hcd Qr  hK28 hK187 _ _ _ _ _ _ _ _ h
          · refine wp_iconst X (v := 1) dX10_isStrict_171 (by decide) ?_
            refine wp_goto X (tgt := 176) dX10_isStrict_172 (by decide) ?_
            refine wp_sub (lv' := [(0, .ref x0), (1, .int x1), (2, .int x2), (3, .int x3), (5, .int x5), (6, .int x6)]) [0, 1, 2, 3, 5, 6] rfl ?_
            exact tX10_isStrict_176 X hcd Qr  hK28 hK187 _ _ _ _ _ _ _ _ h
def fX10_isStrict_28 (K187 : Nat → Int32 → Int32 → Int32 → Int32 → Int32 → Mem → Option (Int32 × Mem)) : Nat → Nat → Int32 → Int32 → Int32 → Int32 → Int32 → Int32 → Mem → Option (Int32 × Mem)
  | 0, _, _, _, _, _, _, _, _ => none
  | n + 1, x0, x1, x2, x3, x4, x5, x6, F => (obj F x0 9).bind fun _ => (mX10_rowOf F x0 x2 x5).bind fun v34 => if v34.1 ≤ x6 then (K187 x0 x1 x2 x3 x4 x5 v34.2) else ((gfR v34.2 x0 9 4).bind fun v41 => (mX10_box v34.2 1 x5 x6).bind fun v49 => (gfR v49.2 x0 9 7).bind fun v53 => (rdI v49.2 0 v53 x3).bind fun v57 => (wrI v49.2 v41 v49.1 v57).bind fun F58 => if x4 = 0 then (fX10_isStrict_105  (fX10_isStrict_28  K187 n) K187 x0 x1 x2 x3 x5 x6 0 F58) else ((obj F58 x0 9).bind fun _ => (mX10_rowOf F58 x0 x1 x5).bind fun v70 => if x6 = v70.1 then (fX10_isStrict_105  (fX10_isStrict_28  K187 n) K187 x0 x1 x2 x3 x5 x6 1 v70.2) else ((gfR v70.2 x0 9 4).bind fun v77 => (mX10_box v70.2 1 x5 (x6 - 1)).bind fun v87 => (rdI v87.2 0 v77 v87.1).bind fun v90 => (gfR v87.2 x0 9 7).bind fun v92 => (rdI v87.2 0 v92 x3).bind fun v96 => if v96 < v90 then (fX10_isStrict_105  (fX10_isStrict_28  K187 n) K187 x0 x1 x2 x3 x5 x6 0 v87.2) else (fX10_isStrict_105  (fX10_isStrict_28  K187 n) K187 x0 x1 x2 x3 x5 x6 1 v87.2))))
set_option maxRecDepth 100000 in
set_option maxHeartbeats 4000000 in
theorem tX10_isStrict_28 {l : Launch} {D : va_G} {cy : Nat → ClassId} {C : Cx} {res : Int32 × Mem} (X : Fx C cX10_isStrict RX10 (some .boolean) rmX10_isStrict 7) (hcd : CD C l D cy) (Qr : RI C 0 0 res) {K187 : Nat → Int32 → Int32 → Int32 → Int32 → Int32 → Mem → Option (Int32 × Mem)} (hK187 : ∀ (x0 : Nat) (x1 : Int32) (x2 : Int32) (x3 : Int32) (x4 : Int32) (x5 : Int32) (F : Mem), K187 x0 x1 x2 x3 x4 x5 F = some res → Wp C 0 0 187 [(0, .ref x0), (1, .int x1), (2, .int x2), (3, .int x3), (4, .int x4), (5, .int x5)] [] F) : ∀ (n : Nat) (x0 : Nat) (x1 : Int32) (x2 : Int32) (x3 : Int32) (x4 : Int32) (x5 : Int32) (x6 : Int32) (F : Mem), fX10_isStrict_28 K187 n x0 x1 x2 x3 x4 x5 x6 F = some res → Wp C 0 0 28 [(0, .ref x0), (1, .int x1), (2, .int x2), (3, .int x3), (4, .int x4), (5, .int x5), (6, .int x6)] [] F := by
  intro n
  induction n with
  | zero =>
    intro x0 x1 x2 x3 x4 x5 x6 F h
    rw [fX10_isStrict_28.eq_1] at h
    cases h
  | succ n ih =>
    intro x0 x1 x2 x3 x4 x5 x6 F h
    rw [fX10_isStrict_28.eq_2] at h
    refine wp_iload X dX10_isStrict_28 6 rfl ?_
    refine wp_aload_n X dX10_isStrict_30 0 rfl ?_
    refine wp_iload_n X dX10_isStrict_31 2 rfl ?_
    refine wp_iload X dX10_isStrict_32 5 rfl ?_
    refine wp_callVI X (rm := rmX10_rowOf) (T := TX10) (N := 20) (ci := 9) (n := 2) [.int x2, .int x5] hcd (fun q hq => cX10_rowOf_ok hq) kw889 kw891 ks19 kw10 kw892 (by decide +kernel) (by decide) (by decide) (cs2 := 0) (sl2 := 0) rfl rfl rfl (by decide) rfl rfl (Nat.le_of_ble_eq_true rfl) dX10_isStrict_34 h (fun v34 h => ?_)
    refine wp_icmp_ge X (tgt := 187) dX10_isStrict_37 (by decide) h (fun h => ?_) (fun h => ?_)
    · refine wp_sub (lv' := [(0, .ref x0), (1, .int x1), (2, .int x2), (3, .int x3), (4, .int x4), (5, .int x5)]) [0, 1, 2, 3, 4, 5] rfl ?_
      exact hK187 _ _ _ _ _ _ _ h
    · refine wp_aload_n X dX10_isStrict_40 0 rfl ?_
      refine wp_getR X (T := TX10) (N := 20) (ci := 9) (k := 4) rfl (by decide) (by decide) inBX10 kw816 dX10_isStrict_41 h (fun v41 h => ?_)
      refine wp_iconst X (v := 1) dX10_isStrict_44 (by decide) ?_
      refine wp_iload X dX10_isStrict_45 5 rfl ?_
      refine wp_iload X dX10_isStrict_47 6 rfl ?_
      refine wp_callSI X (rm := rmX10_box) (n := 3) [.int 1, .int x5, .int x6] hcd (fun q hq => cX10_box_ok hq) kw940 kw941 kw10 kw942 (by decide +kernel) (by decide) (by decide) (cs2 := 0) (sl2 := 0) rfl rfl rfl rfl (Nat.le_of_ble_eq_true rfl) dX10_isStrict_49 h (fun v49 h => ?_)
      refine wp_aload_n X dX10_isStrict_52 0 rfl ?_
      refine wp_getR X (T := TX10) (N := 20) (ci := 9) (k := 7) rfl (by decide) (by decide) inBX10 kw819 dX10_isStrict_53 h (fun v53 h => ?_)
      refine wp_iload_n X dX10_isStrict_56 3 rfl ?_
      refine wp_iaload X dX10_isStrict_57 h (fun v57 h => ?_)
      refine wp_iastore X dX10_isStrict_58 h (fun F58 h => ?_)
      refine wp_iload X dX10_isStrict_59 4 rfl ?_
      refine wp_if_eq X (tgt := 104) dX10_isStrict_61 (by decide) h (fun h => ?_) (fun h => ?_)
      · refine wp_iconst X (v := 0) dX10_isStrict_104 (by decide) ?_
        refine wp_sub (lv' := [(0, .ref x0), (1, .int x1), (2, .int x2), (3, .int x3), (5, .int x5), (6, .int x6)]) [0, 1, 2, 3, 5, 6] rfl ?_
        exact tX10_isStrict_105 X hcd Qr  ih hK187 _ _ _ _ _ _ _ _ h
      · refine wp_iload X dX10_isStrict_64 6 rfl ?_
        refine wp_aload_n X dX10_isStrict_66 0 rfl ?_
        refine wp_iload_n X dX10_isStrict_67 1 rfl ?_
        refine wp_iload X dX10_isStrict_68 5 rfl ?_
        refine wp_callVI X (rm := rmX10_rowOf) (T := TX10) (N := 20) (ci := 9) (n := 2) [.int x1, .int x5] hcd (fun q hq => cX10_rowOf_ok hq) kw889 kw891 ks19 kw10 kw892 (by decide +kernel) (by decide) (by decide) (cs2 := 0) (sl2 := 0) rfl rfl rfl (by decide) rfl rfl (Nat.le_of_ble_eq_true rfl) dX10_isStrict_70 h (fun v70 h => ?_)
        refine wp_icmp_eq X (tgt := 100) dX10_isStrict_73 (by decide) h (fun h => ?_) (fun h => ?_)
        · refine wp_iconst X (v := 1) dX10_isStrict_100 (by decide) ?_
          refine wp_goto X (tgt := 105) dX10_isStrict_101 (by decide) ?_
          refine wp_sub (lv' := [(0, .ref x0), (1, .int x1), (2, .int x2), (3, .int x3), (5, .int x5), (6, .int x6)]) [0, 1, 2, 3, 5, 6] rfl ?_
          exact tX10_isStrict_105 X hcd Qr  ih hK187 _ _ _ _ _ _ _ _ h
        · refine wp_aload_n X dX10_isStrict_76 0 rfl ?_
          refine wp_getR X (T := TX10) (N := 20) (ci := 9) (k := 4) rfl (by decide) (by decide) inBX10 kw816 dX10_isStrict_77 h (fun v77 h => ?_)
          refine wp_iconst X (v := 1) dX10_isStrict_80 (by decide) ?_
          refine wp_iload X dX10_isStrict_81 5 rfl ?_
          refine wp_iload X dX10_isStrict_83 6 rfl ?_
          refine wp_iconst X (v := 1) dX10_isStrict_85 (by decide) ?_
          refine wp_isub X dX10_isStrict_86 ?_
          refine wp_callSI X (rm := rmX10_box) (n := 3) [.int 1, .int x5, .int (x6 - 1)] hcd (fun q hq => cX10_box_ok hq) kw940 kw941 kw10 kw942 (by decide +kernel) (by decide) (by decide) (cs2 := 0) (sl2 := 0) rfl rfl rfl rfl (Nat.le_of_ble_eq_true rfl) dX10_isStrict_87 h (fun v87 h => ?_)
          refine wp_iaload X dX10_isStrict_90 h (fun v90 h => ?_)
          refine wp_aload_n X dX10_isStrict_91 0 rfl ?_
          refine wp_getR X (T := TX10) (N := 20) (ci := 9) (k := 7) rfl (by decide) (by decide) inBX10 kw819 dX10_isStrict_92 h (fun v92 h => ?_)
          refine wp_iload_n X dX10_isStrict_95 3 rfl ?_
          refine wp_iaload X dX10_isStrict_96 h (fun v96 h => ?_)
          refine wp_icmp_gt X (tgt := 104) dX10_isStrict_97 (by decide) h (fun h => ?_) (fun h => ?_)
          · refine wp_iconst X (v := 0) dX10_isStrict_104 (by decide) ?_
            refine wp_sub (lv' := [(0, .ref x0), (1, .int x1), (2, .int x2), (3, .int x3), (5, .int x5), (6, .int x6)]) [0, 1, 2, 3, 5, 6] rfl ?_
            exact tX10_isStrict_105 X hcd Qr  ih hK187 _ _ _ _ _ _ _ _ h
          · refine wp_iconst X (v := 1) dX10_isStrict_100 (by decide) ?_
            refine wp_goto X (tgt := 105) dX10_isStrict_101 (by decide) ?_
            refine wp_sub (lv' := [(0, .ref x0), (1, .int x1), (2, .int x2), (3, .int x3), (5, .int x5), (6, .int x6)]) [0, 1, 2, 3, 5, 6] rfl ?_
            exact tX10_isStrict_105 X hcd Qr  ih hK187 _ _ _ _ _ _ _ _ h
def fX10_isStrict_14  : Nat → Nat → Int32 → Int32 → Int32 → Int32 → Int32 → Mem → Option (Int32 × Mem)
  | 0, _, _, _, _, _, _, _ => none
  | n + 1, x0, x1, x2, x3, x4, x5, F => if x5 < 0 then ((bz x4).bind fun u9 => some (u9, F)) else ((obj F x0 9).bind fun _ => (mX10_rowOf F x0 x1 x5).bind fun v23 => fX10_isStrict_28  (fun (x0 : Nat) (x1 : Int32) (x2 : Int32) (x3 : Int32) (x4 : Int32) (x5 : Int32) (F : Mem) => (fX10_isStrict_14   n) x0 x1 x2 x3 x4 (x5 + (-1)) F) FU x0 x1 x2 x3 x4 x5 v23.1 v23.2)
set_option maxRecDepth 100000 in
set_option maxHeartbeats 4000000 in
theorem tX10_isStrict_14 {l : Launch} {D : va_G} {cy : Nat → ClassId} {C : Cx} {res : Int32 × Mem} (X : Fx C cX10_isStrict RX10 (some .boolean) rmX10_isStrict 7) (hcd : CD C l D cy) (Qr : RI C 0 0 res)   : ∀ (n : Nat) (x0 : Nat) (x1 : Int32) (x2 : Int32) (x3 : Int32) (x4 : Int32) (x5 : Int32) (F : Mem), fX10_isStrict_14  n x0 x1 x2 x3 x4 x5 F = some res → Wp C 0 0 14 [(0, .ref x0), (1, .int x1), (2, .int x2), (3, .int x3), (4, .int x4), (5, .int x5)] [] F := by
  intro n
  induction n with
  | zero =>
    intro x0 x1 x2 x3 x4 x5 F h
    rw [fX10_isStrict_14.eq_1] at h
    cases h
  | succ n ih =>
    intro x0 x1 x2 x3 x4 x5 F h
    rw [fX10_isStrict_14.eq_2] at h
    refine wp_iload X dX10_isStrict_14 5 rfl ?_
    refine wp_if_lt X (tgt := 193) dX10_isStrict_16 (by decide) h (fun h => ?_) (fun h => ?_)
    · refine wp_iload X dX10_isStrict_193 4 rfl ?_
      obtain ⟨u9, hu9, h9⟩ := bnd h
      obtain ⟨e9, hz9⟩ := bz_eq hu9
      rw [e9] at h9
      exact wp_ireturn X Qr rfl hz9 dX10_isStrict_195 h9
    · refine wp_aload_n X dX10_isStrict_19 0 rfl ?_
      refine wp_iload_n X dX10_isStrict_20 1 rfl ?_
      refine wp_iload X dX10_isStrict_21 5 rfl ?_
      refine wp_callVI X (rm := rmX10_rowOf) (T := TX10) (N := 20) (ci := 9) (n := 2) [.int x1, .int x5] hcd (fun q hq => cX10_rowOf_ok hq) kw889 kw891 ks19 kw10 kw892 (by decide +kernel) (by decide) (by decide) (cs2 := 0) (sl2 := 0) rfl rfl rfl (by decide) rfl rfl (Nat.le_of_ble_eq_true rfl) dX10_isStrict_23 h (fun v23 h => ?_)
      refine wp_istore X (lv' := [(0, .ref x0), (1, .int x1), (2, .int x2), (3, .int x3), (4, .int x4), (5, .int x5), (6, .int v23.1)]) dX10_isStrict_26 (by decide) [1, 2, 3, 4, 5, 6, 0] rfl ?_
      refine tX10_isStrict_28 X hcd Qr  ?_ FU _ _ _ _ _ _ _ _ h
      · intro x0 x1 x2 x3 x4 x5 F h
        refine wp_iinc X (v := x5 + (-1)) (lv' := [(0, .ref x0), (1, .int x1), (2, .int x2), (3, .int x3), (4, .int x4), (5, .int (x5 + (-1)))]) dX10_isStrict_187 (by decide) 5 rfl rfl [1, 2, 3, 4, 5, 0] rfl ?_
        refine wp_goto X (tgt := 14) dX10_isStrict_190 (by decide) ?_
        exact ih _ _ _ _ _ _ _ h
def mX10_isStrict (F : Mem) (x0 : Nat) (x1 : Int32) (x2 : Int32) : Option (Int32 × Mem) := (obj F x0 9).bind fun _ => (mX10_clear F x0 1).bind fun v7 => fX10_isStrict_14   FU x0 x1 x2 0 1 7 v7
set_option maxRecDepth 100000 in
set_option maxHeartbeats 4000000 in
theorem cX10_isStrict_ok {l : Launch} {D : va_G} {cy : Nat → ClassId} {F : Mem} {x0 : Nat} {x1 : Int32} {x2 : Int32} {res : Int32 × Mem} (h : mX10_isStrict F x0 x1 x2 = some res) : MI l yX10_isStrict cX10_isStrict 7 (some .boolean) rmX10_isStrict D cy F [.ref x0, .int x1, .int x2] res := by
  refine mi_of (by decide) (Nat.le_of_ble_eq_true rfl) [(0, .ref x0), (1, .int x1), (2, .int x2)] rfl (fun C X hcd Qr => ?_)
  unfold mX10_isStrict at h
  refine wp_iconst X (v := 0) dX10_isStrict_0 (by decide) ?_
  refine wp_istore_n X (lv' := [(0, .ref x0), (1, .int x1), (2, .int x2), (3, .int 0)]) dX10_isStrict_1 (by decide) [1, 2, 3, 0] rfl ?_
  refine wp_iconst X (v := 1) dX10_isStrict_2 (by decide) ?_
  refine wp_istore X (lv' := [(0, .ref x0), (1, .int x1), (2, .int x2), (3, .int 0), (4, .int 1)]) dX10_isStrict_3 (by decide) [1, 2, 3, 4, 0] rfl ?_
  refine wp_aload_n X dX10_isStrict_5 0 rfl ?_
  refine wp_iconst X (v := 1) dX10_isStrict_6 (by decide) ?_
  refine wp_callVV X (rm := rmX10_clear) (T := TX10) (N := 20) (ci := 9) (n := 1) [.int 1] hcd (fun q hq => cX10_clear_ok hq) kw932 kw934 ks21 kw10 kw935 (by decide +kernel) (by decide) (by decide) (cs2 := 0) (sl2 := 0) rfl rfl rfl (by decide) rfl rfl (Nat.le_of_ble_eq_true rfl) dX10_isStrict_7 h (fun v7 h => ?_)
  refine wp_bipush X (v := 7) dX10_isStrict_10 (by decide) ?_
  refine wp_istore X (lv' := [(0, .ref x0), (1, .int x1), (2, .int x2), (3, .int 0), (4, .int 1), (5, .int 7)]) dX10_isStrict_12 (by decide) [1, 2, 3, 4, 5, 0] rfl ?_
  refine tX10_isStrict_14 X hcd Qr   FU _ _ _ _ _ _ _ h
/-! TableauBenchModel.isWithin(II)Z -/
def rmX10_isWithin : Room := { frames := 1, cells := 0, slots := 0, locals := 22 }
def fX10_isWithin_38 (K5 : Nat → Int32 → Int32 → Int32 → Int32 → Mem → Option (Int32 × Mem)) (x0 : Nat) (x1 : Int32) (x2 : Int32) (x4 : Int32) (s0 : Int32) (F : Mem) : Option (Int32 × Mem) := K5 x0 x1 x2 s0 (x4 + 1) F
set_option maxRecDepth 100000 in
set_option maxHeartbeats 4000000 in
theorem tX10_isWithin_38 {l : Launch} {D : va_G} {cy : Nat → ClassId} {C : Cx} {res : Int32 × Mem} (X : Fx C cX10_isWithin RX10 (some .boolean) rmX10_isWithin 5) (hcd : CD C l D cy) (Qr : RI C 0 0 res) {K5 : Nat → Int32 → Int32 → Int32 → Int32 → Mem → Option (Int32 × Mem)} (hK5 : ∀ (x0 : Nat) (x1 : Int32) (x2 : Int32) (x3 : Int32) (x4 : Int32) (F : Mem), K5 x0 x1 x2 x3 x4 F = some res → Wp C 0 0 5 [(0, .ref x0), (1, .int x1), (2, .int x2), (3, .int x3), (4, .int x4)] [] F) (x0 : Nat) (x1 : Int32) (x2 : Int32) (x4 : Int32) (s0 : Int32) (F : Mem) (h : fX10_isWithin_38 K5 x0 x1 x2 x4 s0 F = some res) : Wp C 0 0 38 [(0, .ref x0), (1, .int x1), (2, .int x2), (4, .int x4)] [.int s0] F := by
  unfold fX10_isWithin_38 at h
  refine wp_istore_n X (lv' := [(0, .ref x0), (1, .int x1), (2, .int x2), (3, .int s0), (4, .int x4)]) dX10_isWithin_38 (by decide) [1, 2, 3, 0, 4] rfl ?_
  refine wp_iinc X (v := x4 + 1) (lv' := [(0, .ref x0), (1, .int x1), (2, .int x2), (3, .int s0), (4, .int (x4 + 1))]) dX10_isWithin_39 (by decide) 4 rfl rfl [1, 2, 3, 4, 0] rfl ?_
  refine wp_goto X (tgt := 5) dX10_isWithin_42 (by decide) ?_
  exact hK5 _ _ _ _ _ _ h
def fX10_isWithin_5  : Nat → Nat → Int32 → Int32 → Int32 → Int32 → Mem → Option (Int32 × Mem)
  | 0, _, _, _, _, _, _ => none
  | n + 1, x0, x1, x2, x3, x4, F => if 8 ≤ x4 then ((bz x3).bind fun u9 => some (u9, F)) else (if x3 = 0 then (fX10_isWithin_38  (fX10_isWithin_5   n) x0 x1 x2 x4 0 F) else ((obj F x0 9).bind fun _ => (mX10_rowOf F x0 x1 x4).bind fun v20 => (obj v20.2 x0 9).bind fun _ => (mX10_rowOf v20.2 x0 x2 x4).bind fun v27 => if v27.1 < v20.1 then (fX10_isWithin_38  (fX10_isWithin_5   n) x0 x1 x2 x4 0 v27.2) else (fX10_isWithin_38  (fX10_isWithin_5   n) x0 x1 x2 x4 1 v27.2)))
set_option maxRecDepth 100000 in
set_option maxHeartbeats 4000000 in
theorem tX10_isWithin_5 {l : Launch} {D : va_G} {cy : Nat → ClassId} {C : Cx} {res : Int32 × Mem} (X : Fx C cX10_isWithin RX10 (some .boolean) rmX10_isWithin 5) (hcd : CD C l D cy) (Qr : RI C 0 0 res)   : ∀ (n : Nat) (x0 : Nat) (x1 : Int32) (x2 : Int32) (x3 : Int32) (x4 : Int32) (F : Mem), fX10_isWithin_5  n x0 x1 x2 x3 x4 F = some res → Wp C 0 0 5 [(0, .ref x0), (1, .int x1), (2, .int x2), (3, .int x3), (4, .int x4)] [] F := by
  intro n
  induction n with
  | zero =>
    intro x0 x1 x2 x3 x4 F h
    rw [fX10_isWithin_5.eq_1] at h
    cases h
  | succ n ih =>
    intro x0 x1 x2 x3 x4 F h
    rw [fX10_isWithin_5.eq_2] at h
    refine wp_iload X dX10_isWithin_5 4 rfl ?_
    refine wp_bipush X (v := 8) dX10_isWithin_7 (by decide) ?_
    refine wp_icmp_ge X (tgt := 45) dX10_isWithin_9 (by decide) h (fun h => ?_) (fun h => ?_)
    · refine wp_iload_n X dX10_isWithin_45 3 rfl ?_
      obtain ⟨u9, hu9, h9⟩ := bnd h
      obtain ⟨e9, hz9⟩ := bz_eq hu9
      rw [e9] at h9
      exact wp_ireturn X Qr rfl hz9 dX10_isWithin_46 h9
    · refine wp_iload_n X dX10_isWithin_12 3 rfl ?_
      refine wp_if_eq X (tgt := 37) dX10_isWithin_13 (by decide) h (fun h => ?_) (fun h => ?_)
      · refine wp_iconst X (v := 0) dX10_isWithin_37 (by decide) ?_
        refine wp_sub (lv' := [(0, .ref x0), (1, .int x1), (2, .int x2), (4, .int x4)]) [0, 1, 2, 4] rfl ?_
        exact tX10_isWithin_38 X hcd Qr  ih _ _ _ _ _ _ h
      · refine wp_aload_n X dX10_isWithin_16 0 rfl ?_
        refine wp_iload_n X dX10_isWithin_17 1 rfl ?_
        refine wp_iload X dX10_isWithin_18 4 rfl ?_
        refine wp_callVI X (rm := rmX10_rowOf) (T := TX10) (N := 20) (ci := 9) (n := 2) [.int x1, .int x4] hcd (fun q hq => cX10_rowOf_ok hq) kw889 kw891 ks19 kw10 kw892 (by decide +kernel) (by decide) (by decide) (cs2 := 0) (sl2 := 0) rfl rfl rfl (by decide) rfl rfl (Nat.le_of_ble_eq_true rfl) dX10_isWithin_20 h (fun v20 h => ?_)
        refine wp_aload_n X dX10_isWithin_23 0 rfl ?_
        refine wp_iload_n X dX10_isWithin_24 2 rfl ?_
        refine wp_iload X dX10_isWithin_25 4 rfl ?_
        refine wp_callVI X (rm := rmX10_rowOf) (T := TX10) (N := 20) (ci := 9) (n := 2) [.int x2, .int x4] hcd (fun q hq => cX10_rowOf_ok hq) kw889 kw891 ks19 kw10 kw892 (by decide +kernel) (by decide) (by decide) (cs2 := 0) (sl2 := 0) rfl rfl rfl (by decide) rfl rfl (Nat.le_of_ble_eq_true rfl) dX10_isWithin_27 h (fun v27 h => ?_)
        refine wp_icmp_gt X (tgt := 37) dX10_isWithin_30 (by decide) h (fun h => ?_) (fun h => ?_)
        · refine wp_iconst X (v := 0) dX10_isWithin_37 (by decide) ?_
          refine wp_sub (lv' := [(0, .ref x0), (1, .int x1), (2, .int x2), (4, .int x4)]) [0, 1, 2, 4] rfl ?_
          exact tX10_isWithin_38 X hcd Qr  ih _ _ _ _ _ _ h
        · refine wp_iconst X (v := 1) dX10_isWithin_33 (by decide) ?_
          refine wp_goto X (tgt := 38) dX10_isWithin_34 (by decide) ?_
          refine wp_sub (lv' := [(0, .ref x0), (1, .int x1), (2, .int x2), (4, .int x4)]) [0, 1, 2, 4] rfl ?_
          exact tX10_isWithin_38 X hcd Qr  ih _ _ _ _ _ _ h
def mX10_isWithin (F : Mem) (x0 : Nat) (x1 : Int32) (x2 : Int32) : Option (Int32 × Mem) := fX10_isWithin_5   FU x0 x1 x2 1 0 F
set_option maxRecDepth 100000 in
set_option maxHeartbeats 4000000 in
theorem cX10_isWithin_ok {l : Launch} {D : va_G} {cy : Nat → ClassId} {F : Mem} {x0 : Nat} {x1 : Int32} {x2 : Int32} {res : Int32 × Mem} (h : mX10_isWithin F x0 x1 x2 = some res) : MI l yX10_isWithin cX10_isWithin 5 (some .boolean) rmX10_isWithin D cy F [.ref x0, .int x1, .int x2] res := by
  refine mi_of (by decide) (Nat.le_of_ble_eq_true rfl) [(0, .ref x0), (1, .int x1), (2, .int x2)] rfl (fun C X hcd Qr => ?_)
  unfold mX10_isWithin at h
  refine wp_iconst X (v := 1) dX10_isWithin_0 (by decide) ?_
  refine wp_istore_n X (lv' := [(0, .ref x0), (1, .int x1), (2, .int x2), (3, .int 1)]) dX10_isWithin_1 (by decide) [1, 2, 3, 0] rfl ?_
  refine wp_iconst X (v := 0) dX10_isWithin_2 (by decide) ?_
  refine wp_istore X (lv' := [(0, .ref x0), (1, .int x1), (2, .int x2), (3, .int 1), (4, .int 0)]) dX10_isWithin_3 (by decide) [1, 2, 3, 4, 0] rfl ?_
  refine tX10_isWithin_5 X hcd Qr   FU _ _ _ _ _ _ h
/-! TableauBenchModel.rectify(IIII)I -/
def rmX10_rectify : Room := { frames := 3, cells := 0, slots := 0, locals := 72 }
def fX10_rectify_75  (x0 : Nat) (x1 : Int32) (x2 : Int32) (x3 : Int32) (s0 : Nat) (s1 : Int32) (F : Mem) : Option (Int32 × Mem) := (pf F s0 9 0 (.int s1)).bind fun F75 => (gfI F75 x0 9 0).bind fun v79 => if v79 ≤ 0 then ((obj F75 x0 9).bind fun _ => (mX10_take F75 x0 x3).bind fun v89 => (obj v89 x0 9).bind fun _ => (mX10_isStrict v89 x0 x1 x2).bind fun v95 => if v95.1 = 0 then ((obj v95.2 x0 9).bind fun _ => (mX10_fail v95.2 x0 4).bind fun v103 => some (v103.1, v103.2)) else ((gfR v95.2 x0 9 3).bind fun v110 => (rdI v95.2 0 v110 x3).bind fun v114 => (obj v95.2 x0 9).bind fun _ => (mX10_insertRow v95.2 x0 0 v114).bind fun v115 => (pf v115 x0 9 6 (.int 1)).bind fun F120 => (obj F120 x0 9).bind fun _ => (mX10_boxesOf F120 x0 x1).bind fun v125 => some (v125.1, v125.2))) else (some (0, F75))
set_option maxRecDepth 100000 in
set_option maxHeartbeats 4000000 in
theorem tX10_rectify_75 {l : Launch} {D : va_G} {cy : Nat → ClassId} {C : Cx} {res : Int32 × Mem} (X : Fx C cX10_rectify RX10 (some .int) rmX10_rectify 5) (hcd : CD C l D cy) (Qr : RI C 0 0 res)   (x0 : Nat) (x1 : Int32) (x2 : Int32) (x3 : Int32) (s0 : Nat) (s1 : Int32) (F : Mem) (h : fX10_rectify_75  x0 x1 x2 x3 s0 s1 F = some res) : Wp C 0 0 75 [(0, .ref x0), (1, .int x1), (2, .int x2), (3, .int x3)] [.int s1, .ref s0] F := by
  unfold fX10_rectify_75 at h
  refine wp_put X (T := TX10) (N := 20) (ci := 9) (k := 0) tyX10 rfl (by decide) (by decide) inBX10 kw812 tyX10_ok nmX10 rfl rfl (vp_nar_int _) rfl dX10_rectify_75 h (fun F75 h => ?_)
  refine wp_aload_n X dX10_rectify_78 0 rfl ?_
  refine wp_getI X (T := TX10) (N := 20) (ci := 9) (k := 0) rfl (by decide) (by decide) inBX10 kw812 dX10_rectify_79 h (fun v79 h => ?_)
  refine wp_if_le X (tgt := 87) dX10_rectify_82 (by decide) h (fun h => ?_) (fun h => ?_)
  · refine wp_aload_n X dX10_rectify_87 0 rfl ?_
    refine wp_iload_n X dX10_rectify_88 3 rfl ?_
    refine wp_callVV X (rm := rmX10_take) (T := TX10) (N := 20) (ci := 9) (n := 1) [.int x3] hcd (fun q hq => cX10_take_ok hq) kw987 kw989 ks30 kw10 kw990 (by decide +kernel) (by decide) (by decide) (cs2 := 0) (sl2 := 0) rfl rfl rfl (by decide) rfl rfl (Nat.le_of_ble_eq_true rfl) dX10_rectify_89 h (fun v89 h => ?_)
    refine wp_aload_n X dX10_rectify_92 0 rfl ?_
    refine wp_iload_n X dX10_rectify_93 1 rfl ?_
    refine wp_iload_n X dX10_rectify_94 2 rfl ?_
    refine wp_callVI X (rm := rmX10_isStrict) (T := TX10) (N := 20) (ci := 9) (n := 2) [.int x1, .int x2] hcd (fun q hq => cX10_isStrict_ok hq) kw1003 kw1005 ks33 kw10 kw1006 (by decide +kernel) (by decide) (by decide) (cs2 := 0) (sl2 := 0) rfl rfl rfl (by decide) rfl rfl (Nat.le_of_ble_eq_true rfl) dX10_rectify_95 h (fun v95 h => ?_)
    refine wp_if_ne X (tgt := 107) dX10_rectify_98 (by decide) h (fun h => ?_) (fun h => ?_)
    · refine wp_aload_n X dX10_rectify_107 0 rfl ?_
      refine wp_iconst X (v := 0) dX10_rectify_108 (by decide) ?_
      refine wp_aload_n X dX10_rectify_109 0 rfl ?_
      refine wp_getR X (T := TX10) (N := 20) (ci := 9) (k := 3) rfl (by decide) (by decide) inBX10 kw815 dX10_rectify_110 h (fun v110 h => ?_)
      refine wp_iload_n X dX10_rectify_113 3 rfl ?_
      refine wp_iaload X dX10_rectify_114 h (fun v114 h => ?_)
      refine wp_callVV X (rm := rmX10_insertRow) (T := TX10) (N := 20) (ci := 9) (n := 2) [.int 0, .int v114] hcd (fun q hq => cX10_insertRow_ok hq) kw991 kw993 ks31 kw10 kw994 (by decide +kernel) (by decide) (by decide) (cs2 := 0) (sl2 := 0) rfl rfl rfl (by decide) rfl rfl (Nat.le_of_ble_eq_true rfl) dX10_rectify_115 h (fun v115 h => ?_)
      refine wp_aload_n X dX10_rectify_118 0 rfl ?_
      refine wp_iconst X (v := 1) dX10_rectify_119 (by decide) ?_
      refine wp_put X (T := TX10) (N := 20) (ci := 9) (k := 6) tyX10 rfl (by decide) (by decide) inBX10 kw818 tyX10_ok nmX10 rfl rfl rfl rfl dX10_rectify_120 h (fun F120 h => ?_)
      refine wp_aload_n X dX10_rectify_123 0 rfl ?_
      refine wp_iload_n X dX10_rectify_124 1 rfl ?_
      refine wp_callVI X (rm := rmX10_boxesOf) (T := TX10) (N := 20) (ci := 9) (n := 1) [.int x1] hcd (fun q hq => cX10_boxesOf_ok hq) kw901 kw903 ks20 kw10 kw904 (by decide +kernel) (by decide) (by decide) (cs2 := 0) (sl2 := 0) rfl rfl rfl (by decide) rfl rfl (Nat.le_of_ble_eq_true rfl) dX10_rectify_125 h (fun v125 h => ?_)
      exact wp_ireturn X Qr rfl (vp_nar_int _) dX10_rectify_128 h
    · refine wp_aload_n X dX10_rectify_101 0 rfl ?_
      refine wp_iconst X (v := 4) dX10_rectify_102 (by decide) ?_
      refine wp_callVI X (rm := rmX10_fail) (T := TX10) (N := 20) (ci := 9) (n := 1) [.int 4] hcd (fun q hq => cX10_fail_ok hq) kw1007 kw1009 ks34 kw10 kw1010 (by decide +kernel) (by decide) (by decide) (cs2 := 0) (sl2 := 0) rfl rfl rfl (by decide) rfl rfl (Nat.le_of_ble_eq_true rfl) dX10_rectify_103 h (fun v103 h => ?_)
      exact wp_ireturn X Qr rfl (vp_nar_int _) dX10_rectify_106 h
  · refine wp_iconst X (v := 0) dX10_rectify_85 (by decide) ?_
    exact wp_ireturn X Qr rfl (vp_nar_int _) dX10_rectify_86 h
def mX10_rectify (F : Mem) (x0 : Nat) (x1 : Int32) (x2 : Int32) (x3 : Int32) (x4 : Int32) : Option (Int32 × Mem) := (mX10_isSlot F x1).bind fun v2 => if v2.1 = 0 then (fX10_rectify_75   x0 x1 x2 x3 x0 1 v2.2) else ((mX10_isSlot v2.2 x2).bind fun v9 => if v9.1 = 0 then (fX10_rectify_75   x0 x1 x2 x3 x0 1 v9.2) else ((mX10_isWord v9.2 x3).bind fun v16 => if v16.1 = 0 then (fX10_rectify_75   x0 x1 x2 x3 x0 1 v16.2) else (if x4 < 0 then (fX10_rectify_75   x0 x1 x2 x3 x0 2 v16.2) else (if 2 < x4 then (fX10_rectify_75   x0 x1 x2 x3 x0 2 v16.2) else ((obj v16.2 x0 9).bind fun _ => (mX10_isWithin v16.2 x0 x1 x2).bind fun v40 => if v40.1 = 0 then (fX10_rectify_75   x0 x1 x2 x3 x0 2 v40.2) else ((gfR v40.2 x0 9 3).bind fun v51 => (rdI v40.2 0 v51 x3).bind fun v55 => (obj v40.2 x0 9).bind fun _ => (mX10_boxesOf v40.2 x0 x2).bind fun v58 => (obj v58.2 x0 9).bind fun _ => (mX10_boxesOf v58.2 x0 x1).bind fun v63 => if v55 = (v58.1 - v63.1) then (fX10_rectify_75   x0 x1 x2 x3 x0 0 v63.2) else (fX10_rectify_75   x0 x1 x2 x3 x0 3 v63.2)))))))
set_option maxRecDepth 100000 in
set_option maxHeartbeats 4000000 in
theorem cX10_rectify_ok {l : Launch} {D : va_G} {cy : Nat → ClassId} {F : Mem} {x0 : Nat} {x1 : Int32} {x2 : Int32} {x3 : Int32} {x4 : Int32} {res : Int32 × Mem} (h : mX10_rectify F x0 x1 x2 x3 x4 = some res) : MI l yX10_rectify cX10_rectify 5 (some .int) rmX10_rectify D cy F [.ref x0, .int x1, .int x2, .int x3, .int x4] res := by
  refine mi_of (by decide) (Nat.le_of_ble_eq_true rfl) [(0, .ref x0), (1, .int x1), (2, .int x2), (3, .int x3), (4, .int x4)] rfl (fun C X hcd Qr => ?_)
  unfold mX10_rectify at h
  refine wp_aload_n X dX10_rectify_0 0 rfl ?_
  refine wp_iload_n X dX10_rectify_1 1 rfl ?_
  refine wp_callSI X (rm := rmX10_isSlot) (n := 1) [.int x1] hcd (fun q hq => cX10_isSlot_ok hq) kw881 kw882 kw10 kw883 (by decide +kernel) (by decide) (by decide) (cs2 := 0) (sl2 := 0) rfl rfl rfl rfl (Nat.le_of_ble_eq_true rfl) dX10_rectify_2 h (fun v2 h => ?_)
  refine wp_if_eq X (tgt := 22) dX10_rectify_5 (by decide) h (fun h => ?_) (fun h => ?_)
  · refine wp_iconst X (v := 1) dX10_rectify_22 (by decide) ?_
    refine wp_goto X (tgt := 75) dX10_rectify_23 (by decide) ?_
    refine wp_sub (lv' := [(0, .ref x0), (1, .int x1), (2, .int x2), (3, .int x3)]) [0, 1, 2, 3] rfl ?_
    exact tX10_rectify_75 X hcd Qr   _ _ _ _ _ _ _ h
  · refine wp_iload_n X dX10_rectify_8 2 rfl ?_
    refine wp_callSI X (rm := rmX10_isSlot) (n := 1) [.int x2] hcd (fun q hq => cX10_isSlot_ok hq) kw881 kw882 kw10 kw883 (by decide +kernel) (by decide) (by decide) (cs2 := 0) (sl2 := 0) rfl rfl rfl rfl (Nat.le_of_ble_eq_true rfl) dX10_rectify_9 h (fun v9 h => ?_)
    refine wp_if_eq X (tgt := 22) dX10_rectify_12 (by decide) h (fun h => ?_) (fun h => ?_)
    · refine wp_iconst X (v := 1) dX10_rectify_22 (by decide) ?_
      refine wp_goto X (tgt := 75) dX10_rectify_23 (by decide) ?_
      refine wp_sub (lv' := [(0, .ref x0), (1, .int x1), (2, .int x2), (3, .int x3)]) [0, 1, 2, 3] rfl ?_
      exact tX10_rectify_75 X hcd Qr   _ _ _ _ _ _ _ h
    · refine wp_iload_n X dX10_rectify_15 3 rfl ?_
      refine wp_callSI X (rm := rmX10_isWord) (n := 1) [.int x3] hcd (fun q hq => cX10_isWord_ok hq) kw913 kw914 kw10 kw915 (by decide +kernel) (by decide) (by decide) (cs2 := 0) (sl2 := 0) rfl rfl rfl rfl (Nat.le_of_ble_eq_true rfl) dX10_rectify_16 h (fun v16 h => ?_)
      refine wp_if_ne X (tgt := 26) dX10_rectify_19 (by decide) h (fun h => ?_) (fun h => ?_)
      · refine wp_iload X dX10_rectify_26 4 rfl ?_
        refine wp_if_lt X (tgt := 46) dX10_rectify_28 (by decide) h (fun h => ?_) (fun h => ?_)
        · refine wp_iconst X (v := 2) dX10_rectify_46 (by decide) ?_
          refine wp_goto X (tgt := 75) dX10_rectify_47 (by decide) ?_
          refine wp_sub (lv' := [(0, .ref x0), (1, .int x1), (2, .int x2), (3, .int x3)]) [0, 1, 2, 3] rfl ?_
          exact tX10_rectify_75 X hcd Qr   _ _ _ _ _ _ _ h
        · refine wp_iload X dX10_rectify_31 4 rfl ?_
          refine wp_iconst X (v := 2) dX10_rectify_33 (by decide) ?_
          refine wp_icmp_gt X (tgt := 46) dX10_rectify_34 (by decide) h (fun h => ?_) (fun h => ?_)
          · refine wp_iconst X (v := 2) dX10_rectify_46 (by decide) ?_
            refine wp_goto X (tgt := 75) dX10_rectify_47 (by decide) ?_
            refine wp_sub (lv' := [(0, .ref x0), (1, .int x1), (2, .int x2), (3, .int x3)]) [0, 1, 2, 3] rfl ?_
            exact tX10_rectify_75 X hcd Qr   _ _ _ _ _ _ _ h
          · refine wp_aload_n X dX10_rectify_37 0 rfl ?_
            refine wp_iload_n X dX10_rectify_38 1 rfl ?_
            refine wp_iload_n X dX10_rectify_39 2 rfl ?_
            refine wp_callVI X (rm := rmX10_isWithin) (T := TX10) (N := 20) (ci := 9) (n := 2) [.int x1, .int x2] hcd (fun q hq => cX10_isWithin_ok hq) kw999 kw1001 ks32 kw10 kw1002 (by decide +kernel) (by decide) (by decide) (cs2 := 0) (sl2 := 0) rfl rfl rfl (by decide) rfl rfl (Nat.le_of_ble_eq_true rfl) dX10_rectify_40 h (fun v40 h => ?_)
            refine wp_if_ne X (tgt := 50) dX10_rectify_43 (by decide) h (fun h => ?_) (fun h => ?_)
            · refine wp_aload_n X dX10_rectify_50 0 rfl ?_
              refine wp_getR X (T := TX10) (N := 20) (ci := 9) (k := 3) rfl (by decide) (by decide) inBX10 kw815 dX10_rectify_51 h (fun v51 h => ?_)
              refine wp_iload_n X dX10_rectify_54 3 rfl ?_
              refine wp_iaload X dX10_rectify_55 h (fun v55 h => ?_)
              refine wp_aload_n X dX10_rectify_56 0 rfl ?_
              refine wp_iload_n X dX10_rectify_57 2 rfl ?_
              refine wp_callVI X (rm := rmX10_boxesOf) (T := TX10) (N := 20) (ci := 9) (n := 1) [.int x2] hcd (fun q hq => cX10_boxesOf_ok hq) kw901 kw903 ks20 kw10 kw904 (by decide +kernel) (by decide) (by decide) (cs2 := 0) (sl2 := 0) rfl rfl rfl (by decide) rfl rfl (Nat.le_of_ble_eq_true rfl) dX10_rectify_58 h (fun v58 h => ?_)
              refine wp_aload_n X dX10_rectify_61 0 rfl ?_
              refine wp_iload_n X dX10_rectify_62 1 rfl ?_
              refine wp_callVI X (rm := rmX10_boxesOf) (T := TX10) (N := 20) (ci := 9) (n := 1) [.int x1] hcd (fun q hq => cX10_boxesOf_ok hq) kw901 kw903 ks20 kw10 kw904 (by decide +kernel) (by decide) (by decide) (cs2 := 0) (sl2 := 0) rfl rfl rfl (by decide) rfl rfl (Nat.le_of_ble_eq_true rfl) dX10_rectify_63 h (fun v63 h => ?_)
              refine wp_isub X dX10_rectify_66 ?_
              refine wp_icmp_eq X (tgt := 74) dX10_rectify_67 (by decide) h (fun h => ?_) (fun h => ?_)
              · refine wp_iconst X (v := 0) dX10_rectify_74 (by decide) ?_
                refine wp_sub (lv' := [(0, .ref x0), (1, .int x1), (2, .int x2), (3, .int x3)]) [0, 1, 2, 3] rfl ?_
                exact tX10_rectify_75 X hcd Qr   _ _ _ _ _ _ _ h
              · refine wp_iconst X (v := 3) dX10_rectify_70 (by decide) ?_
                refine wp_goto X (tgt := 75) dX10_rectify_71 (by decide) ?_
                refine wp_sub (lv' := [(0, .ref x0), (1, .int x1), (2, .int x2), (3, .int x3)]) [0, 1, 2, 3] rfl ?_
                exact tX10_rectify_75 X hcd Qr   _ _ _ _ _ _ _ h
            · refine wp_iconst X (v := 2) dX10_rectify_46 (by decide) ?_
              refine wp_goto X (tgt := 75) dX10_rectify_47 (by decide) ?_
              refine wp_sub (lv' := [(0, .ref x0), (1, .int x1), (2, .int x2), (3, .int x3)]) [0, 1, 2, 3] rfl ?_
              exact tX10_rectify_75 X hcd Qr   _ _ _ _ _ _ _ h
      · refine wp_iconst X (v := 1) dX10_rectify_22 (by decide) ?_
        refine wp_goto X (tgt := 75) dX10_rectify_23 (by decide) ?_
        refine wp_sub (lv' := [(0, .ref x0), (1, .int x1), (2, .int x2), (3, .int x3)]) [0, 1, 2, 3] rfl ?_
        exact tX10_rectify_75 X hcd Qr   _ _ _ _ _ _ _ h
/-! TableauBenchModel.isStandard()Z -/
def rmX10_isStandard : Room := { frames := 1, cells := 0, slots := 0, locals := 23 }
def fX10_isStandard_74 (K23 : Nat → Int32 → Int32 → Int32 → Int32 → Int32 → Mem → Option (Int32 × Mem)) (K88 : Nat → Int32 → Int32 → Int32 → Int32 → Mem → Option (Int32 × Mem)) (x0 : Nat) (x1 : Int32) (x2 : Int32) (x4 : Int32) (x5 : Int32) (x6 : Int32) (s0 : Int32) (F : Mem) : Option (Int32 × Mem) := K23 x0 x1 (x2 ||| (1 <<< (x6 &&& 31))) s0 x4 (x5 + 1) F
set_option maxRecDepth 100000 in
set_option maxHeartbeats 4000000 in
theorem tX10_isStandard_74 {l : Launch} {D : va_G} {cy : Nat → ClassId} {C : Cx} {res : Int32 × Mem} (X : Fx C cX10_isStandard RX10 (some .boolean) rmX10_isStandard 7) (hcd : CD C l D cy) (Qr : RI C 0 0 res) {K23 : Nat → Int32 → Int32 → Int32 → Int32 → Int32 → Mem → Option (Int32 × Mem)} {K88 : Nat → Int32 → Int32 → Int32 → Int32 → Mem → Option (Int32 × Mem)} (hK23 : ∀ (x0 : Nat) (x1 : Int32) (x2 : Int32) (x3 : Int32) (x4 : Int32) (x5 : Int32) (F : Mem), K23 x0 x1 x2 x3 x4 x5 F = some res → Wp C 0 0 23 [(0, .ref x0), (1, .int x1), (2, .int x2), (3, .int x3), (4, .int x4), (5, .int x5)] [] F) (hK88 : ∀ (x0 : Nat) (x1 : Int32) (x2 : Int32) (x3 : Int32) (x4 : Int32) (F : Mem), K88 x0 x1 x2 x3 x4 F = some res → Wp C 0 0 88 [(0, .ref x0), (1, .int x1), (2, .int x2), (3, .int x3), (4, .int x4)] [] F) (x0 : Nat) (x1 : Int32) (x2 : Int32) (x4 : Int32) (x5 : Int32) (x6 : Int32) (s0 : Int32) (F : Mem) (h : fX10_isStandard_74 K23 K88 x0 x1 x2 x4 x5 x6 s0 F = some res) : Wp C 0 0 74 [(0, .ref x0), (1, .int x1), (2, .int x2), (4, .int x4), (5, .int x5), (6, .int x6)] [.int s0] F := by
  unfold fX10_isStandard_74 at h
  refine wp_istore_n X (lv' := [(0, .ref x0), (1, .int x1), (2, .int x2), (3, .int s0), (4, .int x4), (5, .int x5), (6, .int x6)]) dX10_isStandard_74 (by decide) [1, 2, 3, 0, 4, 5, 6] rfl ?_
  refine wp_iload_n X dX10_isStandard_75 2 rfl ?_
  refine wp_iconst X (v := 1) dX10_isStandard_76 (by decide) ?_
  refine wp_iload X dX10_isStandard_77 6 rfl ?_
  refine wp_ishl X dX10_isStandard_79 ?_
  refine wp_ior X dX10_isStandard_80 ?_
  refine wp_istore_n X (lv' := [(0, .ref x0), (1, .int x1), (2, .int (x2 ||| (1 <<< (x6 &&& 31)))), (3, .int s0), (4, .int x4), (5, .int x5)]) dX10_isStandard_81 (by decide) [1, 2, 0, 3, 4, 5] rfl ?_
  refine wp_iinc X (v := x5 + 1) (lv' := [(0, .ref x0), (1, .int x1), (2, .int (x2 ||| (1 <<< (x6 &&& 31)))), (3, .int s0), (4, .int x4), (5, .int (x5 + 1))]) dX10_isStandard_82 (by decide) 5 rfl rfl [1, 2, 3, 4, 5, 0] rfl ?_
  refine wp_goto X (tgt := 23) dX10_isStandard_85 (by decide) ?_
  exact hK23 _ _ _ _ _ _ _ h
def fX10_isStandard_23 (K88 : Nat → Int32 → Int32 → Int32 → Int32 → Mem → Option (Int32 × Mem)) : Nat → Nat → Int32 → Int32 → Int32 → Int32 → Int32 → Mem → Option (Int32 × Mem)
  | 0, _, _, _, _, _, _, _ => none
  | n + 1, x0, x1, x2, x3, x4, x5, F => (gfR F x0 9 5).bind fun v26 => (rdI F 0 v26 x4).bind fun v31 => if v31 ≤ x5 then (K88 x0 x1 x2 x3 x4 F) else ((gfR F x0 9 4).bind fun v36 => (mX10_box F 0 x4 x5).bind fun v44 => (rdI v44.2 0 v36 v44.1).bind fun v47 => if x3 = 0 then (fX10_isStandard_74  (fX10_isStandard_23  K88 n) K88 x0 x1 x2 x4 x5 v47 0 v44.2) else (if x1 < v47 then (fX10_isStandard_74  (fX10_isStandard_23  K88 n) K88 x0 x1 x2 x4 x5 v47 0 v44.2) else (if ((x2 >>> (v47 &&& 31)) &&& 1) = 0 then (fX10_isStandard_74  (fX10_isStandard_23  K88 n) K88 x0 x1 x2 x4 x5 v47 1 v44.2) else (fX10_isStandard_74  (fX10_isStandard_23  K88 n) K88 x0 x1 x2 x4 x5 v47 0 v44.2))))
set_option maxRecDepth 100000 in
set_option maxHeartbeats 4000000 in
theorem tX10_isStandard_23 {l : Launch} {D : va_G} {cy : Nat → ClassId} {C : Cx} {res : Int32 × Mem} (X : Fx C cX10_isStandard RX10 (some .boolean) rmX10_isStandard 7) (hcd : CD C l D cy) (Qr : RI C 0 0 res) {K88 : Nat → Int32 → Int32 → Int32 → Int32 → Mem → Option (Int32 × Mem)} (hK88 : ∀ (x0 : Nat) (x1 : Int32) (x2 : Int32) (x3 : Int32) (x4 : Int32) (F : Mem), K88 x0 x1 x2 x3 x4 F = some res → Wp C 0 0 88 [(0, .ref x0), (1, .int x1), (2, .int x2), (3, .int x3), (4, .int x4)] [] F) : ∀ (n : Nat) (x0 : Nat) (x1 : Int32) (x2 : Int32) (x3 : Int32) (x4 : Int32) (x5 : Int32) (F : Mem), fX10_isStandard_23 K88 n x0 x1 x2 x3 x4 x5 F = some res → Wp C 0 0 23 [(0, .ref x0), (1, .int x1), (2, .int x2), (3, .int x3), (4, .int x4), (5, .int x5)] [] F := by
  intro n
  induction n with
  | zero =>
    intro x0 x1 x2 x3 x4 x5 F h
    rw [fX10_isStandard_23.eq_1] at h
    cases h
  | succ n ih =>
    intro x0 x1 x2 x3 x4 x5 F h
    rw [fX10_isStandard_23.eq_2] at h
    refine wp_iload X dX10_isStandard_23 5 rfl ?_
    refine wp_aload_n X dX10_isStandard_25 0 rfl ?_
    refine wp_getR X (T := TX10) (N := 20) (ci := 9) (k := 5) rfl (by decide) (by decide) inBX10 kw817 dX10_isStandard_26 h (fun v26 h => ?_)
    refine wp_iload X dX10_isStandard_29 4 rfl ?_
    refine wp_iaload X dX10_isStandard_31 h (fun v31 h => ?_)
    refine wp_icmp_ge X (tgt := 88) dX10_isStandard_32 (by decide) h (fun h => ?_) (fun h => ?_)
    · refine wp_sub (lv' := [(0, .ref x0), (1, .int x1), (2, .int x2), (3, .int x3), (4, .int x4)]) [0, 1, 2, 3, 4] rfl ?_
      exact hK88 _ _ _ _ _ _ h
    · refine wp_aload_n X dX10_isStandard_35 0 rfl ?_
      refine wp_getR X (T := TX10) (N := 20) (ci := 9) (k := 4) rfl (by decide) (by decide) inBX10 kw816 dX10_isStandard_36 h (fun v36 h => ?_)
      refine wp_iconst X (v := 0) dX10_isStandard_39 (by decide) ?_
      refine wp_iload X dX10_isStandard_40 4 rfl ?_
      refine wp_iload X dX10_isStandard_42 5 rfl ?_
      refine wp_callSI X (rm := rmX10_box) (n := 3) [.int 0, .int x4, .int x5] hcd (fun q hq => cX10_box_ok hq) kw940 kw941 kw10 kw942 (by decide +kernel) (by decide) (by decide) (cs2 := 0) (sl2 := 0) rfl rfl rfl rfl (Nat.le_of_ble_eq_true rfl) dX10_isStandard_44 h (fun v44 h => ?_)
      refine wp_iaload X dX10_isStandard_47 h (fun v47 h => ?_)
      refine wp_istore X (lv' := [(0, .ref x0), (1, .int x1), (2, .int x2), (3, .int x3), (4, .int x4), (5, .int x5), (6, .int v47)]) dX10_isStandard_48 (by decide) [1, 2, 3, 4, 5, 6, 0] rfl ?_
      refine wp_iload_n X dX10_isStandard_50 3 rfl ?_
      refine wp_if_eq X (tgt := 73) dX10_isStandard_51 (by decide) h (fun h => ?_) (fun h => ?_)
      · refine wp_iconst X (v := 0) dX10_isStandard_73 (by decide) ?_
        refine wp_sub (lv' := [(0, .ref x0), (1, .int x1), (2, .int x2), (4, .int x4), (5, .int x5), (6, .int v47)]) [0, 1, 2, 4, 5, 6] rfl ?_
        exact tX10_isStandard_74 X hcd Qr  ih hK88 _ _ _ _ _ _ _ _ h
      · refine wp_iload X dX10_isStandard_54 6 rfl ?_
        refine wp_iload_n X dX10_isStandard_56 1 rfl ?_
        refine wp_icmp_gt X (tgt := 73) dX10_isStandard_57 (by decide) h (fun h => ?_) (fun h => ?_)
        · refine wp_iconst X (v := 0) dX10_isStandard_73 (by decide) ?_
          refine wp_sub (lv' := [(0, .ref x0), (1, .int x1), (2, .int x2), (4, .int x4), (5, .int x5), (6, .int v47)]) [0, 1, 2, 4, 5, 6] rfl ?_
          exact tX10_isStandard_74 X hcd Qr  ih hK88 _ _ _ _ _ _ _ _ h
        · refine wp_iload_n X dX10_isStandard_60 2 rfl ?_
          refine wp_iload X dX10_isStandard_61 6 rfl ?_
          refine wp_ishr X dX10_isStandard_63 ?_
          refine wp_iconst X (v := 1) dX10_isStandard_64 (by decide) ?_
          refine wp_iand X dX10_isStandard_65 ?_
          refine wp_if_ne X (tgt := 73) dX10_isStandard_66 (by decide) h (fun h => ?_) (fun h => ?_)
          · refine wp_iconst X (v := 0) dX10_isStandard_73 (by decide) ?_
            refine wp_sub (lv' := [(0, .ref x0), (1, .int x1), (2, .int x2), (4, .int x4), (5, .int x5), (6, .int v47)]) [0, 1, 2, 4, 5, 6] rfl ?_
            exact tX10_isStandard_74 X hcd Qr  ih hK88 _ _ _ _ _ _ _ _ h
          · refine wp_iconst X (v := 1) dX10_isStandard_69 (by decide) ?_
            refine wp_goto X (tgt := 74) dX10_isStandard_70 (by decide) ?_
            refine wp_sub (lv' := [(0, .ref x0), (1, .int x1), (2, .int x2), (4, .int x4), (5, .int x5), (6, .int v47)]) [0, 1, 2, 4, 5, 6] rfl ?_
            exact tX10_isStandard_74 X hcd Qr  ih hK88 _ _ _ _ _ _ _ _ h
def fX10_isStandard_13  : Nat → Nat → Int32 → Int32 → Int32 → Int32 → Mem → Option (Int32 × Mem)
  | 0, _, _, _, _, _, _ => none
  | n + 1, x0, x1, x2, x3, x4, F => if 24 ≤ x4 then ((bz x3).bind fun u9 => some (u9, F)) else (fX10_isStandard_23  (fun (x0 : Nat) (x1 : Int32) (x2 : Int32) (x3 : Int32) (x4 : Int32) (F : Mem) => (fX10_isStandard_13   n) x0 x1 x2 x3 (x4 + 1) F) FU x0 x1 x2 x3 x4 0 F)
set_option maxRecDepth 100000 in
set_option maxHeartbeats 4000000 in
theorem tX10_isStandard_13 {l : Launch} {D : va_G} {cy : Nat → ClassId} {C : Cx} {res : Int32 × Mem} (X : Fx C cX10_isStandard RX10 (some .boolean) rmX10_isStandard 7) (hcd : CD C l D cy) (Qr : RI C 0 0 res)   : ∀ (n : Nat) (x0 : Nat) (x1 : Int32) (x2 : Int32) (x3 : Int32) (x4 : Int32) (F : Mem), fX10_isStandard_13  n x0 x1 x2 x3 x4 F = some res → Wp C 0 0 13 [(0, .ref x0), (1, .int x1), (2, .int x2), (3, .int x3), (4, .int x4)] [] F := by
  intro n
  induction n with
  | zero =>
    intro x0 x1 x2 x3 x4 F h
    rw [fX10_isStandard_13.eq_1] at h
    cases h
  | succ n ih =>
    intro x0 x1 x2 x3 x4 F h
    rw [fX10_isStandard_13.eq_2] at h
    refine wp_iload X dX10_isStandard_13 4 rfl ?_
    refine wp_bipush X (v := 24) dX10_isStandard_15 (by decide) ?_
    refine wp_icmp_ge X (tgt := 94) dX10_isStandard_17 (by decide) h (fun h => ?_) (fun h => ?_)
    · refine wp_iload_n X dX10_isStandard_94 3 rfl ?_
      obtain ⟨u9, hu9, h9⟩ := bnd h
      obtain ⟨e9, hz9⟩ := bz_eq hu9
      rw [e9] at h9
      exact wp_ireturn X Qr rfl hz9 dX10_isStandard_95 h9
    · refine wp_iconst X (v := 0) dX10_isStandard_20 (by decide) ?_
      refine wp_istore X (lv' := [(0, .ref x0), (1, .int x1), (2, .int x2), (3, .int x3), (4, .int x4), (5, .int 0)]) dX10_isStandard_21 (by decide) [1, 2, 3, 4, 5, 0] rfl ?_
      refine tX10_isStandard_23 X hcd Qr  ?_ FU _ _ _ _ _ _ _ h
      · intro x0 x1 x2 x3 x4 F h
        refine wp_iinc X (v := x4 + 1) (lv' := [(0, .ref x0), (1, .int x1), (2, .int x2), (3, .int x3), (4, .int (x4 + 1))]) dX10_isStandard_88 (by decide) 4 rfl rfl [1, 2, 3, 4, 0] rfl ?_
        refine wp_goto X (tgt := 13) dX10_isStandard_91 (by decide) ?_
        exact ih _ _ _ _ _ _ h
def mX10_isStandard (F : Mem) (x0 : Nat) : Option (Int32 × Mem) := (obj F x0 9).bind fun _ => (mX10_count F x0 0).bind fun v2 => fX10_isStandard_13   FU x0 v2.1 0 1 0 v2.2
set_option maxRecDepth 100000 in
set_option maxHeartbeats 4000000 in
theorem cX10_isStandard_ok {l : Launch} {D : va_G} {cy : Nat → ClassId} {F : Mem} {x0 : Nat} {res : Int32 × Mem} (h : mX10_isStandard F x0 = some res) : MI l yX10_isStandard cX10_isStandard 7 (some .boolean) rmX10_isStandard D cy F [.ref x0] res := by
  refine mi_of (by decide) (Nat.le_of_ble_eq_true rfl) [(0, .ref x0)] rfl (fun C X hcd Qr => ?_)
  unfold mX10_isStandard at h
  refine wp_aload_n X dX10_isStandard_0 0 rfl ?_
  refine wp_iconst X (v := 0) dX10_isStandard_1 (by decide) ?_
  refine wp_callVI X (rm := rmX10_count) (T := TX10) (N := 20) (ci := 9) (n := 1) [.int 0] hcd (fun q hq => cX10_count_ok hq) kw963 kw965 ks26 kw10 kw966 (by decide +kernel) (by decide) (by decide) (cs2 := 0) (sl2 := 0) rfl rfl rfl (by decide) rfl rfl (Nat.le_of_ble_eq_true rfl) dX10_isStandard_2 h (fun v2 h => ?_)
  refine wp_istore_n X (lv' := [(0, .ref x0), (1, .int v2.1)]) dX10_isStandard_5 (by decide) [1, 0] rfl ?_
  refine wp_iconst X (v := 0) dX10_isStandard_6 (by decide) ?_
  refine wp_istore_n X (lv' := [(0, .ref x0), (1, .int v2.1), (2, .int 0)]) dX10_isStandard_7 (by decide) [1, 2, 0] rfl ?_
  refine wp_iconst X (v := 1) dX10_isStandard_8 (by decide) ?_
  refine wp_istore_n X (lv' := [(0, .ref x0), (1, .int v2.1), (2, .int 0), (3, .int 1)]) dX10_isStandard_9 (by decide) [1, 2, 3, 0] rfl ?_
  refine wp_iconst X (v := 0) dX10_isStandard_10 (by decide) ?_
  refine wp_istore X (lv' := [(0, .ref x0), (1, .int v2.1), (2, .int 0), (3, .int 1), (4, .int 0)]) dX10_isStandard_11 (by decide) [1, 2, 3, 4, 0] rfl ?_
  refine tX10_isStandard_13 X hcd Qr   FU _ _ _ _ _ _ h
/-! TableauBenchModel.turn()V -/
def rmX10_turn : Room := { frames := 3, cells := 0, slots := 0, locals := 72 }
def fX10_turn_31 (K80 : Nat → Int32 → Mem → Option (Mem)) : Nat → Nat → Int32 → Int32 → Mem → Option (Mem)
  | 0, _, _, _, _ => none
  | n + 1, x0, x1, x2, F => if ((x1 - 1) - x2) ≤ x2 then (K80 x0 x1 F) else ((gfR F x0 9 7).bind fun v41 => (rdI F 0 v41 x2).bind fun v45 => (gfR F x0 9 7).bind fun v48 => (gfR F x0 9 7).bind fun v53 => (rdI F 0 v53 ((x1 - 1) - x2)).bind fun v61 => (wrI F v48 x2 v61).bind fun F62 => (gfR F62 x0 9 7).bind fun v64 => (wrI F62 v64 ((x1 - 1) - x2) v45).bind fun F73 => (fX10_turn_31  K80 n) x0 x1 (x2 + 1) F73)
set_option maxRecDepth 100000 in
set_option maxHeartbeats 4000000 in
theorem tX10_turn_31 {l : Launch} {D : va_G} {cy : Nat → ClassId} {C : Cx} {res : Mem} (X : Fx C cX10_turn RX10 none rmX10_turn 4) (hcd : CD C l D cy) (Qr : RV C 0 0 res) {K80 : Nat → Int32 → Mem → Option (Mem)} (hK80 : ∀ (x0 : Nat) (x1 : Int32) (F : Mem), K80 x0 x1 F = some res → Wp C 0 0 80 [(0, .ref x0), (1, .int x1)] [] F) : ∀ (n : Nat) (x0 : Nat) (x1 : Int32) (x2 : Int32) (F : Mem), fX10_turn_31 K80 n x0 x1 x2 F = some res → Wp C 0 0 31 [(0, .ref x0), (1, .int x1), (2, .int x2)] [] F := by
  intro n
  induction n with
  | zero =>
    intro x0 x1 x2 F h
    rw [fX10_turn_31.eq_1] at h
    cases h
  | succ n ih =>
    intro x0 x1 x2 F h
    rw [fX10_turn_31.eq_2] at h
    refine wp_iload_n X dX10_turn_31 2 rfl ?_
    refine wp_iload_n X dX10_turn_32 1 rfl ?_
    refine wp_iconst X (v := 1) dX10_turn_33 (by decide) ?_
    refine wp_isub X dX10_turn_34 ?_
    refine wp_iload_n X dX10_turn_35 2 rfl ?_
    refine wp_isub X dX10_turn_36 ?_
    refine wp_icmp_ge X (tgt := 80) dX10_turn_37 (by decide) h (fun h => ?_) (fun h => ?_)
    · refine wp_sub (lv' := [(0, .ref x0), (1, .int x1)]) [0, 1] rfl ?_
      exact hK80 _ _ _ h
    · refine wp_aload_n X dX10_turn_40 0 rfl ?_
      refine wp_getR X (T := TX10) (N := 20) (ci := 9) (k := 7) rfl (by decide) (by decide) inBX10 kw819 dX10_turn_41 h (fun v41 h => ?_)
      refine wp_iload_n X dX10_turn_44 2 rfl ?_
      refine wp_iaload X dX10_turn_45 h (fun v45 h => ?_)
      refine wp_istore_n X (lv' := [(0, .ref x0), (1, .int x1), (2, .int x2), (3, .int v45)]) dX10_turn_46 (by decide) [1, 2, 3, 0] rfl ?_
      refine wp_aload_n X dX10_turn_47 0 rfl ?_
      refine wp_getR X (T := TX10) (N := 20) (ci := 9) (k := 7) rfl (by decide) (by decide) inBX10 kw819 dX10_turn_48 h (fun v48 h => ?_)
      refine wp_iload_n X dX10_turn_51 2 rfl ?_
      refine wp_aload_n X dX10_turn_52 0 rfl ?_
      refine wp_getR X (T := TX10) (N := 20) (ci := 9) (k := 7) rfl (by decide) (by decide) inBX10 kw819 dX10_turn_53 h (fun v53 h => ?_)
      refine wp_iload_n X dX10_turn_56 1 rfl ?_
      refine wp_iconst X (v := 1) dX10_turn_57 (by decide) ?_
      refine wp_isub X dX10_turn_58 ?_
      refine wp_iload_n X dX10_turn_59 2 rfl ?_
      refine wp_isub X dX10_turn_60 ?_
      refine wp_iaload X dX10_turn_61 h (fun v61 h => ?_)
      refine wp_iastore X dX10_turn_62 h (fun F62 h => ?_)
      refine wp_aload_n X dX10_turn_63 0 rfl ?_
      refine wp_getR X (T := TX10) (N := 20) (ci := 9) (k := 7) rfl (by decide) (by decide) inBX10 kw819 dX10_turn_64 h (fun v64 h => ?_)
      refine wp_iload_n X dX10_turn_67 1 rfl ?_
      refine wp_iconst X (v := 1) dX10_turn_68 (by decide) ?_
      refine wp_isub X dX10_turn_69 ?_
      refine wp_iload_n X dX10_turn_70 2 rfl ?_
      refine wp_isub X dX10_turn_71 ?_
      refine wp_iload_n X dX10_turn_72 3 rfl ?_
      refine wp_iastore X dX10_turn_73 h (fun F73 h => ?_)
      refine wp_iinc X (v := x2 + 1) (lv' := [(0, .ref x0), (1, .int x1), (2, .int (x2 + 1))]) dX10_turn_74 (by decide) 2 rfl rfl [1, 2, 0] rfl ?_
      refine wp_goto X (tgt := 31) dX10_turn_77 (by decide) ?_
      exact ih _ _ _ _ h
def fX10_turn_82 (K109 : Nat → Int32 → Mem → Option (Mem)) : Nat → Nat → Int32 → Int32 → Mem → Option (Mem)
  | 0, _, _, _, _ => none
  | n + 1, x0, x1, x2, F => if x1 ≤ x2 then (K109 x0 x1 F) else ((gfR F x0 9 7).bind fun v88 => (gfR F x0 9 7).bind fun v96 => (rdI F 0 v96 x2).bind fun v100 => (wrI F v88 x2 ((x1 + 1) - v100)).bind fun F102 => (fX10_turn_82  K109 n) x0 x1 (x2 + 1) F102)
set_option maxRecDepth 100000 in
set_option maxHeartbeats 4000000 in
theorem tX10_turn_82 {l : Launch} {D : va_G} {cy : Nat → ClassId} {C : Cx} {res : Mem} (X : Fx C cX10_turn RX10 none rmX10_turn 4) (hcd : CD C l D cy) (Qr : RV C 0 0 res) {K109 : Nat → Int32 → Mem → Option (Mem)} (hK109 : ∀ (x0 : Nat) (x1 : Int32) (F : Mem), K109 x0 x1 F = some res → Wp C 0 0 109 [(0, .ref x0), (1, .int x1)] [] F) : ∀ (n : Nat) (x0 : Nat) (x1 : Int32) (x2 : Int32) (F : Mem), fX10_turn_82 K109 n x0 x1 x2 F = some res → Wp C 0 0 82 [(0, .ref x0), (1, .int x1), (2, .int x2)] [] F := by
  intro n
  induction n with
  | zero =>
    intro x0 x1 x2 F h
    rw [fX10_turn_82.eq_1] at h
    cases h
  | succ n ih =>
    intro x0 x1 x2 F h
    rw [fX10_turn_82.eq_2] at h
    refine wp_iload_n X dX10_turn_82 2 rfl ?_
    refine wp_iload_n X dX10_turn_83 1 rfl ?_
    refine wp_icmp_ge X (tgt := 109) dX10_turn_84 (by decide) h (fun h => ?_) (fun h => ?_)
    · refine wp_sub (lv' := [(0, .ref x0), (1, .int x1)]) [0, 1] rfl ?_
      exact hK109 _ _ _ h
    · refine wp_aload_n X dX10_turn_87 0 rfl ?_
      refine wp_getR X (T := TX10) (N := 20) (ci := 9) (k := 7) rfl (by decide) (by decide) inBX10 kw819 dX10_turn_88 h (fun v88 h => ?_)
      refine wp_iload_n X dX10_turn_91 2 rfl ?_
      refine wp_iload_n X dX10_turn_92 1 rfl ?_
      refine wp_iconst X (v := 1) dX10_turn_93 (by decide) ?_
      refine wp_iadd X dX10_turn_94 ?_
      refine wp_aload_n X dX10_turn_95 0 rfl ?_
      refine wp_getR X (T := TX10) (N := 20) (ci := 9) (k := 7) rfl (by decide) (by decide) inBX10 kw819 dX10_turn_96 h (fun v96 h => ?_)
      refine wp_iload_n X dX10_turn_99 2 rfl ?_
      refine wp_iaload X dX10_turn_100 h (fun v100 h => ?_)
      refine wp_isub X dX10_turn_101 ?_
      refine wp_iastore X dX10_turn_102 h (fun F102 h => ?_)
      refine wp_iinc X (v := x2 + 1) (lv' := [(0, .ref x0), (1, .int x1), (2, .int (x2 + 1))]) dX10_turn_103 (by decide) 2 rfl rfl [1, 2, 0] rfl ?_
      refine wp_goto X (tgt := 82) dX10_turn_106 (by decide) ?_
      exact ih _ _ _ _ h
def fX10_turn_13  (x0 : Nat) (s0 : Nat) (s1 : Int32) (F : Mem) : Option (Mem) := (pf F s0 9 0 (.int s1)).bind fun F13 => (gfI F13 x0 9 0).bind fun v17 => if v17 ≤ 0 then ((obj F13 x0 9).bind fun _ => (mX10_reading F13 x0).bind fun v25 => fX10_turn_31  (fun (x0 : Nat) (x1 : Int32) (F : Mem) => fX10_turn_82  (fun (x0 : Nat) (x1 : Int32) (F : Mem) => (obj F x0 9).bind fun _ => (mX10_insertRow F x0 0 x1).bind fun v112 => (pf v112 x0 9 6 (.int 1)).bind fun F117 => some F117) FU x0 x1 0 F) FU x0 v25.1 0 v25.2) else (some F13)
set_option maxRecDepth 100000 in
set_option maxHeartbeats 4000000 in
theorem tX10_turn_13 {l : Launch} {D : va_G} {cy : Nat → ClassId} {C : Cx} {res : Mem} (X : Fx C cX10_turn RX10 none rmX10_turn 4) (hcd : CD C l D cy) (Qr : RV C 0 0 res)   (x0 : Nat) (s0 : Nat) (s1 : Int32) (F : Mem) (h : fX10_turn_13  x0 s0 s1 F = some res) : Wp C 0 0 13 [(0, .ref x0)] [.int s1, .ref s0] F := by
  unfold fX10_turn_13 at h
  refine wp_put X (T := TX10) (N := 20) (ci := 9) (k := 0) tyX10 rfl (by decide) (by decide) inBX10 kw812 tyX10_ok nmX10 rfl rfl (vp_nar_int _) rfl dX10_turn_13 h (fun F13 h => ?_)
  refine wp_aload_n X dX10_turn_16 0 rfl ?_
  refine wp_getI X (T := TX10) (N := 20) (ci := 9) (k := 0) rfl (by decide) (by decide) inBX10 kw812 dX10_turn_17 h (fun v17 h => ?_)
  refine wp_if_le X (tgt := 24) dX10_turn_20 (by decide) h (fun h => ?_) (fun h => ?_)
  · refine wp_aload_n X dX10_turn_24 0 rfl ?_
    refine wp_callVI X (rm := rmX10_reading) (T := TX10) (N := 20) (ci := 9) (n := 0) [] hcd (fun q hq => cX10_reading_ok hq) kw979 kw981 ks29 kw10 kw982 (by decide +kernel) (by decide) (by decide) (cs2 := 0) (sl2 := 0) rfl rfl rfl (by decide) rfl rfl (Nat.le_of_ble_eq_true rfl) dX10_turn_25 h (fun v25 h => ?_)
    refine wp_istore_n X (lv' := [(0, .ref x0), (1, .int v25.1)]) dX10_turn_28 (by decide) [1, 0] rfl ?_
    refine wp_iconst X (v := 0) dX10_turn_29 (by decide) ?_
    refine wp_istore_n X (lv' := [(0, .ref x0), (1, .int v25.1), (2, .int 0)]) dX10_turn_30 (by decide) [1, 2, 0] rfl ?_
    refine tX10_turn_31 X hcd Qr  ?_ FU _ _ _ _ h
    · intro x0 x1 F h
      refine wp_iconst X (v := 0) dX10_turn_80 (by decide) ?_
      refine wp_istore_n X (lv' := [(0, .ref x0), (1, .int x1), (2, .int 0)]) dX10_turn_81 (by decide) [1, 2, 0] rfl ?_
      refine tX10_turn_82 X hcd Qr  ?_ FU _ _ _ _ h
      · intro x0 x1 F h
        refine wp_aload_n X dX10_turn_109 0 rfl ?_
        refine wp_iconst X (v := 0) dX10_turn_110 (by decide) ?_
        refine wp_iload_n X dX10_turn_111 1 rfl ?_
        refine wp_callVV X (rm := rmX10_insertRow) (T := TX10) (N := 20) (ci := 9) (n := 2) [.int 0, .int x1] hcd (fun q hq => cX10_insertRow_ok hq) kw991 kw993 ks31 kw10 kw994 (by decide +kernel) (by decide) (by decide) (cs2 := 0) (sl2 := 0) rfl rfl rfl (by decide) rfl rfl (Nat.le_of_ble_eq_true rfl) dX10_turn_112 h (fun v112 h => ?_)
        refine wp_aload_n X dX10_turn_115 0 rfl ?_
        refine wp_iconst X (v := 1) dX10_turn_116 (by decide) ?_
        refine wp_put X (T := TX10) (N := 20) (ci := 9) (k := 6) tyX10 rfl (by decide) (by decide) inBX10 kw818 tyX10_ok nmX10 rfl rfl rfl rfl dX10_turn_117 h (fun F117 h => ?_)
        exact wp_return X Qr rfl dX10_turn_120 h
  · exact wp_return X Qr rfl dX10_turn_23 h
def mX10_turn (F : Mem) (x0 : Nat) : Option (Mem) := (obj F x0 9).bind fun _ => (mX10_isStandard F x0).bind fun v2 => if v2.1 = 0 then (fX10_turn_13   x0 x0 1 v2.2) else (fX10_turn_13   x0 x0 0 v2.2)
set_option maxRecDepth 100000 in
set_option maxHeartbeats 4000000 in
theorem cX10_turn_ok {l : Launch} {D : va_G} {cy : Nat → ClassId} {F : Mem} {x0 : Nat} {res : Mem} (h : mX10_turn F x0 = some res) : MV l yX10_turn cX10_turn 4 none rmX10_turn D cy F [.ref x0] res := by
  refine mv_of (by decide) (Nat.le_of_ble_eq_true rfl) [(0, .ref x0)] rfl (fun C X hcd Qr => ?_)
  unfold mX10_turn at h
  refine wp_aload_n X dX10_turn_0 0 rfl ?_
  refine wp_aload_n X dX10_turn_1 0 rfl ?_
  refine wp_callVI X (rm := rmX10_isStandard) (T := TX10) (N := 20) (ci := 9) (n := 0) [] hcd (fun q hq => cX10_isStandard_ok hq) kw1015 kw1017 ks35 kw10 kw1018 (by decide +kernel) (by decide) (by decide) (cs2 := 0) (sl2 := 0) rfl rfl rfl (by decide) rfl rfl (Nat.le_of_ble_eq_true rfl) dX10_turn_2 h (fun v2 h => ?_)
  refine wp_if_eq X (tgt := 12) dX10_turn_5 (by decide) h (fun h => ?_) (fun h => ?_)
  · refine wp_iconst X (v := 1) dX10_turn_12 (by decide) ?_
    exact tX10_turn_13 X hcd Qr   _ _ _ _ h
  · refine wp_iconst X (v := 0) dX10_turn_8 (by decide) ?_
    refine wp_goto X (tgt := 13) dX10_turn_9 (by decide) ?_
    exact tX10_turn_13 X hcd Qr   _ _ _ _ h
/-! TableauBenchModel.takeShape(I)V -/
def rmX10_takeShape : Room := { frames := 1, cells := 0, slots := 0, locals := 22 }
def fX10_takeShape_2  : Nat → Nat → Int32 → Int32 → Mem → Option (Mem)
  | 0, _, _, _, _ => none
  | n + 1, x0, x1, x2, F => if 9 ≤ x2 then (some F) else ((gfR F x0 9 9).bind fun v9 => (obj F x0 9).bind fun _ => (mX10_rowOf F x0 x1 x2).bind fun v16 => (wrI v16.2 v9 x2 v16.1).bind fun F19 => (fX10_takeShape_2   n) x0 x1 (x2 + 1) F19)
set_option maxRecDepth 100000 in
set_option maxHeartbeats 4000000 in
theorem tX10_takeShape_2 {l : Launch} {D : va_G} {cy : Nat → ClassId} {C : Cx} {res : Mem} (X : Fx C cX10_takeShape RX10 none rmX10_takeShape 3) (hcd : CD C l D cy) (Qr : RV C 0 0 res)   : ∀ (n : Nat) (x0 : Nat) (x1 : Int32) (x2 : Int32) (F : Mem), fX10_takeShape_2  n x0 x1 x2 F = some res → Wp C 0 0 2 [(0, .ref x0), (1, .int x1), (2, .int x2)] [] F := by
  intro n
  induction n with
  | zero =>
    intro x0 x1 x2 F h
    rw [fX10_takeShape_2.eq_1] at h
    cases h
  | succ n ih =>
    intro x0 x1 x2 F h
    rw [fX10_takeShape_2.eq_2] at h
    refine wp_iload_n X dX10_takeShape_2 2 rfl ?_
    refine wp_bipush X (v := 9) dX10_takeShape_3 (by decide) ?_
    refine wp_icmp_ge X (tgt := 26) dX10_takeShape_5 (by decide) h (fun h => ?_) (fun h => ?_)
    · exact wp_return X Qr rfl dX10_takeShape_26 h
    · refine wp_aload_n X dX10_takeShape_8 0 rfl ?_
      refine wp_getR X (T := TX10) (N := 20) (ci := 9) (k := 9) rfl (by decide) (by decide) inBX10 kw821 dX10_takeShape_9 h (fun v9 h => ?_)
      refine wp_iload_n X dX10_takeShape_12 2 rfl ?_
      refine wp_aload_n X dX10_takeShape_13 0 rfl ?_
      refine wp_iload_n X dX10_takeShape_14 1 rfl ?_
      refine wp_iload_n X dX10_takeShape_15 2 rfl ?_
      refine wp_callVI X (rm := rmX10_rowOf) (T := TX10) (N := 20) (ci := 9) (n := 2) [.int x1, .int x2] hcd (fun q hq => cX10_rowOf_ok hq) kw889 kw891 ks19 kw10 kw892 (by decide +kernel) (by decide) (by decide) (cs2 := 0) (sl2 := 0) rfl rfl rfl (by decide) rfl rfl (Nat.le_of_ble_eq_true rfl) dX10_takeShape_16 h (fun v16 h => ?_)
      refine wp_iastore X dX10_takeShape_19 h (fun F19 h => ?_)
      refine wp_iinc X (v := x2 + 1) (lv' := [(0, .ref x0), (1, .int x1), (2, .int (x2 + 1))]) dX10_takeShape_20 (by decide) 2 rfl rfl [1, 2, 0] rfl ?_
      refine wp_goto X (tgt := 2) dX10_takeShape_23 (by decide) ?_
      exact ih _ _ _ _ h
def mX10_takeShape (F : Mem) (x0 : Nat) (x1 : Int32) : Option (Mem) := fX10_takeShape_2   FU x0 x1 0 F
set_option maxRecDepth 100000 in
set_option maxHeartbeats 4000000 in
theorem cX10_takeShape_ok {l : Launch} {D : va_G} {cy : Nat → ClassId} {F : Mem} {x0 : Nat} {x1 : Int32} {res : Mem} (h : mX10_takeShape F x0 x1 = some res) : MV l yX10_takeShape cX10_takeShape 3 none rmX10_takeShape D cy F [.ref x0, .int x1] res := by
  refine mv_of (by decide) (Nat.le_of_ble_eq_true rfl) [(0, .ref x0), (1, .int x1)] rfl (fun C X hcd Qr => ?_)
  unfold mX10_takeShape at h
  refine wp_iconst X (v := 0) dX10_takeShape_0 (by decide) ?_
  refine wp_istore_n X (lv' := [(0, .ref x0), (1, .int x1), (2, .int 0)]) dX10_takeShape_1 (by decide) [1, 2, 0] rfl ?_
  refine tX10_takeShape_2 X hcd Qr   FU _ _ _ _ h
/-! TableauBenchModel.below(II)I -/
def rmX10_below : Room := { frames := 0, cells := 0, slots := 0, locals := 0 }
def fX10_below_2  : Nat → Nat → Int32 → Int32 → Int32 → Mem → Option (Int32 × Mem)
  | 0, _, _, _, _, _ => none
  | n + 1, x0, x1, x2, x3, F => if 8 ≤ ((x1 + 1) + x3) then (some (x3, F)) else ((gfR F x0 9 9).bind fun v13 => (rdI F 0 v13 ((x1 + 1) + x3)).bind fun v21 => if v21 ≤ x2 then (some (x3, F)) else ((fX10_below_2   n) x0 x1 x2 (x3 + 1) F))
set_option maxRecDepth 100000 in
set_option maxHeartbeats 4000000 in
theorem tX10_below_2 {l : Launch} {D : va_G} {cy : Nat → ClassId} {C : Cx} {res : Int32 × Mem} (X : Fx C cX10_below RX10 (some .int) rmX10_below 4) (hcd : CD C l D cy) (Qr : RI C 0 0 res)   : ∀ (n : Nat) (x0 : Nat) (x1 : Int32) (x2 : Int32) (x3 : Int32) (F : Mem), fX10_below_2  n x0 x1 x2 x3 F = some res → Wp C 0 0 2 [(0, .ref x0), (1, .int x1), (2, .int x2), (3, .int x3)] [] F := by
  intro n
  induction n with
  | zero =>
    intro x0 x1 x2 x3 F h
    rw [fX10_below_2.eq_1] at h
    cases h
  | succ n ih =>
    intro x0 x1 x2 x3 F h
    rw [fX10_below_2.eq_2] at h
    refine wp_iload_n X dX10_below_2 1 rfl ?_
    refine wp_iconst X (v := 1) dX10_below_3 (by decide) ?_
    refine wp_iadd X dX10_below_4 ?_
    refine wp_iload_n X dX10_below_5 3 rfl ?_
    refine wp_iadd X dX10_below_6 ?_
    refine wp_bipush X (v := 8) dX10_below_7 (by decide) ?_
    refine wp_icmp_ge X (tgt := 32) dX10_below_9 (by decide) h (fun h => ?_) (fun h => ?_)
    · refine wp_iload_n X dX10_below_32 3 rfl ?_
      exact wp_ireturn X Qr rfl (vp_nar_int _) dX10_below_33 h
    · refine wp_aload_n X dX10_below_12 0 rfl ?_
      refine wp_getR X (T := TX10) (N := 20) (ci := 9) (k := 9) rfl (by decide) (by decide) inBX10 kw821 dX10_below_13 h (fun v13 h => ?_)
      refine wp_iload_n X dX10_below_16 1 rfl ?_
      refine wp_iconst X (v := 1) dX10_below_17 (by decide) ?_
      refine wp_iadd X dX10_below_18 ?_
      refine wp_iload_n X dX10_below_19 3 rfl ?_
      refine wp_iadd X dX10_below_20 ?_
      refine wp_iaload X dX10_below_21 h (fun v21 h => ?_)
      refine wp_iload_n X dX10_below_22 2 rfl ?_
      refine wp_icmp_le X (tgt := 32) dX10_below_23 (by decide) h (fun h => ?_) (fun h => ?_)
      · refine wp_iload_n X dX10_below_32 3 rfl ?_
        exact wp_ireturn X Qr rfl (vp_nar_int _) dX10_below_33 h
      · refine wp_iinc X (v := x3 + 1) (lv' := [(0, .ref x0), (1, .int x1), (2, .int x2), (3, .int (x3 + 1))]) dX10_below_26 (by decide) 3 rfl rfl [1, 2, 3, 0] rfl ?_
        refine wp_goto X (tgt := 2) dX10_below_29 (by decide) ?_
        exact ih _ _ _ _ _ h
def mX10_below (F : Mem) (x0 : Nat) (x1 : Int32) (x2 : Int32) : Option (Int32 × Mem) := fX10_below_2   FU x0 x1 x2 0 F
set_option maxRecDepth 100000 in
set_option maxHeartbeats 4000000 in
theorem cX10_below_ok {l : Launch} {D : va_G} {cy : Nat → ClassId} {F : Mem} {x0 : Nat} {x1 : Int32} {x2 : Int32} {res : Int32 × Mem} (h : mX10_below F x0 x1 x2 = some res) : MI l yX10_below cX10_below 4 (some .int) rmX10_below D cy F [.ref x0, .int x1, .int x2] res := by
  refine mi_of (by decide) (Nat.le_of_ble_eq_true rfl) [(0, .ref x0), (1, .int x1), (2, .int x2)] rfl (fun C X hcd Qr => ?_)
  unfold mX10_below at h
  refine wp_iconst X (v := 0) dX10_below_0 (by decide) ?_
  refine wp_istore_n X (lv' := [(0, .ref x0), (1, .int x1), (2, .int x2), (3, .int 0)]) dX10_below_1 (by decide) [1, 2, 3, 0] rfl ?_
  refine tX10_below_2 X hcd Qr   FU _ _ _ _ _ h
/-! TableauBenchModel.draw(IJ)J -/
def rmX10_draw : Room := { frames := 2, cells := 0, slots := 0, locals := 45 }
def fX10_draw_38 (K65 : Nat → Int32 → Int64 → Mem → Option (Int64 × Mem)) : Nat → Nat → Int32 → Int64 → Int32 → Mem → Option (Int64 × Mem)
  | 0, _, _, _, _, _ => none
  | n + 1, x0, x1, x2, x4, F => if 8 ≤ x4 then (K65 x0 x1 x2 F) else ((gfR F x0 9 5).bind fun v46 => (gfR F x0 9 9).bind fun v52 => (rdI F 0 v52 x4).bind fun v57 => (wrI F v46 x4 v57).bind fun F58 => (fX10_draw_38  K65 n) x0 x1 x2 (x4 + 1) F58)
set_option maxRecDepth 100000 in
set_option maxHeartbeats 4000000 in
theorem tX10_draw_38 {l : Launch} {D : va_G} {cy : Nat → ClassId} {C : Cx} {res : Int64 × Mem} (X : Fx C cX10_draw RX10 (some .long) rmX10_draw 14) (hcd : CD C l D cy) (Qr : RJ C 0 0 res) {K65 : Nat → Int32 → Int64 → Mem → Option (Int64 × Mem)} (hK65 : ∀ (x0 : Nat) (x1 : Int32) (x2 : Int64) (F : Mem), K65 x0 x1 x2 F = some res → Wp C 0 0 65 [(0, .ref x0), (1, .int x1), (2, .long x2)] [] F) : ∀ (n : Nat) (x0 : Nat) (x1 : Int32) (x2 : Int64) (x4 : Int32) (F : Mem), fX10_draw_38 K65 n x0 x1 x2 x4 F = some res → Wp C 0 0 38 [(0, .ref x0), (1, .int x1), (2, .long x2), (4, .int x4)] [] F := by
  intro n
  induction n with
  | zero =>
    intro x0 x1 x2 x4 F h
    rw [fX10_draw_38.eq_1] at h
    cases h
  | succ n ih =>
    intro x0 x1 x2 x4 F h
    rw [fX10_draw_38.eq_2] at h
    refine wp_iload X dX10_draw_38 3 rfl ?_
    refine wp_bipush X (v := 8) dX10_draw_40 (by decide) ?_
    refine wp_icmp_ge X (tgt := 65) dX10_draw_42 (by decide) h (fun h => ?_) (fun h => ?_)
    · refine wp_sub (lv' := [(0, .ref x0), (1, .int x1), (2, .long x2)]) [0, 1, 2] rfl ?_
      exact hK65 _ _ _ _ h
    · refine wp_aload_n X dX10_draw_45 0 rfl ?_
      refine wp_getR X (T := TX10) (N := 20) (ci := 9) (k := 5) rfl (by decide) (by decide) inBX10 kw817 dX10_draw_46 h (fun v46 h => ?_)
      refine wp_iload X dX10_draw_49 3 rfl ?_
      refine wp_aload_n X dX10_draw_51 0 rfl ?_
      refine wp_getR X (T := TX10) (N := 20) (ci := 9) (k := 9) rfl (by decide) (by decide) inBX10 kw821 dX10_draw_52 h (fun v52 h => ?_)
      refine wp_iload X dX10_draw_55 3 rfl ?_
      refine wp_iaload X dX10_draw_57 h (fun v57 h => ?_)
      refine wp_iastore X dX10_draw_58 h (fun F58 h => ?_)
      refine wp_iinc X (v := x4 + 1) (lv' := [(0, .ref x0), (1, .int x1), (2, .long x2), (4, .int (x4 + 1))]) dX10_draw_59 (by decide) 3 rfl rfl [1, 2, 3, 0] rfl ?_
      refine wp_goto X (tgt := 38) dX10_draw_62 (by decide) ?_
      exact ih _ _ _ _ _ h
def fX10_draw_107 (K137 : Nat → Int64 → Int32 → Int32 → Int32 → Mem → Option (Int64 × Mem)) : Nat → Nat → Int64 → Int32 → Int32 → Int32 → Mem → Option (Int64 × Mem)
  | 0, _, _, _, _, _, _ => none
  | n + 1, x0, x4, x6, x7, x8, F => (gfR F x0 9 9).bind fun v110 => (rdI F 0 v110 x8).bind fun v115 => if x7 < v115 then (K137 x0 x4 x6 x7 x8 F) else ((gfR F x0 9 9).bind fun v122 => (rdI F 0 v122 x8).bind fun v127 => (fX10_draw_107  K137 n) x0 x4 x6 (x7 - v127) (x8 + 1) F)
set_option maxRecDepth 100000 in
set_option maxHeartbeats 4000000 in
theorem tX10_draw_107 {l : Launch} {D : va_G} {cy : Nat → ClassId} {C : Cx} {res : Int64 × Mem} (X : Fx C cX10_draw RX10 (some .long) rmX10_draw 14) (hcd : CD C l D cy) (Qr : RJ C 0 0 res) {K137 : Nat → Int64 → Int32 → Int32 → Int32 → Mem → Option (Int64 × Mem)} (hK137 : ∀ (x0 : Nat) (x4 : Int64) (x6 : Int32) (x7 : Int32) (x8 : Int32) (F : Mem), K137 x0 x4 x6 x7 x8 F = some res → Wp C 0 0 137 [(0, .ref x0), (4, .long x4), (6, .int x6), (7, .int x7), (8, .int x8)] [] F) : ∀ (n : Nat) (x0 : Nat) (x4 : Int64) (x6 : Int32) (x7 : Int32) (x8 : Int32) (F : Mem), fX10_draw_107 K137 n x0 x4 x6 x7 x8 F = some res → Wp C 0 0 107 [(0, .ref x0), (4, .long x4), (6, .int x6), (7, .int x7), (8, .int x8)] [] F := by
  intro n
  induction n with
  | zero =>
    intro x0 x4 x6 x7 x8 F h
    rw [fX10_draw_107.eq_1] at h
    cases h
  | succ n ih =>
    intro x0 x4 x6 x7 x8 F h
    rw [fX10_draw_107.eq_2] at h
    refine wp_iload X dX10_draw_107 3 rfl ?_
    refine wp_aload_n X dX10_draw_109 0 rfl ?_
    refine wp_getR X (T := TX10) (N := 20) (ci := 9) (k := 9) rfl (by decide) (by decide) inBX10 kw821 dX10_draw_110 h (fun v110 h => ?_)
    refine wp_iload X dX10_draw_113 4 rfl ?_
    refine wp_iaload X dX10_draw_115 h (fun v115 h => ?_)
    refine wp_icmp_lt X (tgt := 137) dX10_draw_116 (by decide) h (fun h => ?_) (fun h => ?_)
    · exact hK137 _ _ _ _ _ _ h
    · refine wp_iload X dX10_draw_119 3 rfl ?_
      refine wp_aload_n X dX10_draw_121 0 rfl ?_
      refine wp_getR X (T := TX10) (N := 20) (ci := 9) (k := 9) rfl (by decide) (by decide) inBX10 kw821 dX10_draw_122 h (fun v122 h => ?_)
      refine wp_iload X dX10_draw_125 4 rfl ?_
      refine wp_iaload X dX10_draw_127 h (fun v127 h => ?_)
      refine wp_isub X dX10_draw_128 ?_
      refine wp_istore X (lv' := [(0, .ref x0), (4, .long x4), (6, .int x6), (7, .int (x7 - v127)), (8, .int x8)]) dX10_draw_129 (by decide) [1, 2, 3, 0, 4] rfl ?_
      refine wp_iinc X (v := x8 + 1) (lv' := [(0, .ref x0), (4, .long x4), (6, .int x6), (7, .int (x7 - v127)), (8, .int (x8 + 1))]) dX10_draw_131 (by decide) 4 rfl rfl [1, 2, 3, 4, 0] rfl ?_
      refine wp_goto X (tgt := 107) dX10_draw_134 (by decide) ?_
      exact ih _ _ _ _ _ _ h
def fX10_draw_236 (K168 : Nat → Int64 → Int32 → Int32 → Int32 → Int32 → Int32 → Mem → Option (Int64 × Mem)) (K275 : Nat → Int64 → Int32 → Int32 → Int32 → Mem → Option (Int64 × Mem)) (x0 : Nat) (x4 : Int64) (x6 : Int32) (x8 : Int32) (x13 : Int32) (s0 : Int32) (F : Mem) : Option (Int64 × Mem) := (gfR F x0 9 9).bind fun v246 => (rdI F 0 v246 (x8 + x13)).bind fun v251 => (obj F x0 9).bind fun _ => (mX10_below F x0 (x8 + x13) s0).bind fun v266 => K168 x0 x4 x6 (x8 + x13) s0 ((v251 - s0) - 1) (((v251 - s0) - 1) + v266.1) v266.2
set_option maxRecDepth 100000 in
set_option maxHeartbeats 4000000 in
theorem tX10_draw_236 {l : Launch} {D : va_G} {cy : Nat → ClassId} {C : Cx} {res : Int64 × Mem} (X : Fx C cX10_draw RX10 (some .long) rmX10_draw 14) (hcd : CD C l D cy) (Qr : RJ C 0 0 res) {K168 : Nat → Int64 → Int32 → Int32 → Int32 → Int32 → Int32 → Mem → Option (Int64 × Mem)} {K275 : Nat → Int64 → Int32 → Int32 → Int32 → Mem → Option (Int64 × Mem)} (hK168 : ∀ (x0 : Nat) (x4 : Int64) (x6 : Int32) (x8 : Int32) (x9 : Int32) (x10 : Int32) (x11 : Int32) (F : Mem), K168 x0 x4 x6 x8 x9 x10 x11 F = some res → Wp C 0 0 168 [(0, .ref x0), (4, .long x4), (6, .int x6), (8, .int x8), (9, .int x9), (10, .int x10), (11, .int x11)] [] F) (hK275 : ∀ (x0 : Nat) (x4 : Int64) (x6 : Int32) (x8 : Int32) (x9 : Int32) (F : Mem), K275 x0 x4 x6 x8 x9 F = some res → Wp C 0 0 275 [(0, .ref x0), (4, .long x4), (6, .int x6), (8, .int x8), (9, .int x9)] [] F) (x0 : Nat) (x4 : Int64) (x6 : Int32) (x8 : Int32) (x13 : Int32) (s0 : Int32) (F : Mem) (h : fX10_draw_236 K168 K275 x0 x4 x6 x8 x13 s0 F = some res) : Wp C 0 0 236 [(0, .ref x0), (4, .long x4), (6, .int x6), (8, .int x8), (13, .int x13)] [.int s0] F := by
  unfold fX10_draw_236 at h
  refine wp_istore X (lv' := [(0, .ref x0), (4, .long x4), (6, .int x6), (8, .int x8), (9, .int s0), (13, .int x13)]) dX10_draw_236 (by decide) [1, 2, 3, 4, 0, 5] rfl ?_
  refine wp_iload X dX10_draw_238 3 rfl ?_
  refine wp_iload X dX10_draw_240 5 rfl ?_
  refine wp_iadd X dX10_draw_242 ?_
  refine wp_istore X (lv' := [(0, .ref x0), (4, .long x4), (6, .int x6), (8, .int (x8 + x13)), (9, .int s0)]) dX10_draw_243 (by decide) [1, 2, 3, 0, 4] rfl ?_
  refine wp_aload_n X dX10_draw_245 0 rfl ?_
  refine wp_getR X (T := TX10) (N := 20) (ci := 9) (k := 9) rfl (by decide) (by decide) inBX10 kw821 dX10_draw_246 h (fun v246 h => ?_)
  refine wp_iload X dX10_draw_249 3 rfl ?_
  refine wp_iaload X dX10_draw_251 h (fun v251 h => ?_)
  refine wp_iload X dX10_draw_252 4 rfl ?_
  refine wp_isub X dX10_draw_254 ?_
  refine wp_iconst X (v := 1) dX10_draw_255 (by decide) ?_
  refine wp_isub X dX10_draw_256 ?_
  refine wp_istore X (lv' := [(0, .ref x0), (4, .long x4), (6, .int x6), (8, .int (x8 + x13)), (9, .int s0), (10, .int ((v251 - s0) - 1))]) dX10_draw_257 (by decide) [1, 2, 3, 4, 5, 0] rfl ?_
  refine wp_iload X dX10_draw_259 5 rfl ?_
  refine wp_aload_n X dX10_draw_261 0 rfl ?_
  refine wp_iload X dX10_draw_262 3 rfl ?_
  refine wp_iload X dX10_draw_264 4 rfl ?_
  refine wp_callVI X (rm := rmX10_below) (T := TX10) (N := 20) (ci := 9) (n := 2) [.int (x8 + x13), .int s0] hcd (fun q hq => cX10_below_ok hq) kw1029 kw1031 ks37 kw10 kw1032 (by decide +kernel) (by decide) (by decide) (cs2 := 0) (sl2 := 0) rfl rfl rfl (by decide) rfl rfl (Nat.le_of_ble_eq_true rfl) dX10_draw_266 h (fun v266 h => ?_)
  refine wp_iadd X dX10_draw_269 ?_
  refine wp_istore X (lv' := [(0, .ref x0), (4, .long x4), (6, .int x6), (8, .int (x8 + x13)), (9, .int s0), (10, .int ((v251 - s0) - 1)), (11, .int (((v251 - s0) - 1) + v266.1))]) dX10_draw_270 (by decide) [1, 2, 3, 4, 5, 6, 0] rfl ?_
  refine wp_goto X (tgt := 168) dX10_draw_272 (by decide) ?_
  exact hK168 _ _ _ _ _ _ _ _ h
def fX10_draw_215 (K168 : Nat → Int64 → Int32 → Int32 → Int32 → Int32 → Int32 → Mem → Option (Int64 × Mem)) (K275 : Nat → Int64 → Int32 → Int32 → Int32 → Mem → Option (Int64 × Mem)) (x0 : Nat) (x4 : Int64) (x6 : Int32) (x8 : Int32) (x9 : Int32) (x10 : Int32) (x12 : Int32) (s0 : Int32) (F : Mem) : Option (Int64 × Mem) := if x10 ≤ x12 then (fX10_draw_236  K168 K275 x0 x4 x6 x8 s0 x9 F) else (fX10_draw_236  K168 K275 x0 x4 x6 x8 s0 ((x9 + x12) + 1) F)
set_option maxRecDepth 100000 in
set_option maxHeartbeats 4000000 in
theorem tX10_draw_215 {l : Launch} {D : va_G} {cy : Nat → ClassId} {C : Cx} {res : Int64 × Mem} (X : Fx C cX10_draw RX10 (some .long) rmX10_draw 14) (hcd : CD C l D cy) (Qr : RJ C 0 0 res) {K168 : Nat → Int64 → Int32 → Int32 → Int32 → Int32 → Int32 → Mem → Option (Int64 × Mem)} {K275 : Nat → Int64 → Int32 → Int32 → Int32 → Mem → Option (Int64 × Mem)} (hK168 : ∀ (x0 : Nat) (x4 : Int64) (x6 : Int32) (x8 : Int32) (x9 : Int32) (x10 : Int32) (x11 : Int32) (F : Mem), K168 x0 x4 x6 x8 x9 x10 x11 F = some res → Wp C 0 0 168 [(0, .ref x0), (4, .long x4), (6, .int x6), (8, .int x8), (9, .int x9), (10, .int x10), (11, .int x11)] [] F) (hK275 : ∀ (x0 : Nat) (x4 : Int64) (x6 : Int32) (x8 : Int32) (x9 : Int32) (F : Mem), K275 x0 x4 x6 x8 x9 F = some res → Wp C 0 0 275 [(0, .ref x0), (4, .long x4), (6, .int x6), (8, .int x8), (9, .int x9)] [] F) (x0 : Nat) (x4 : Int64) (x6 : Int32) (x8 : Int32) (x9 : Int32) (x10 : Int32) (x12 : Int32) (s0 : Int32) (F : Mem) (h : fX10_draw_215 K168 K275 x0 x4 x6 x8 x9 x10 x12 s0 F = some res) : Wp C 0 0 215 [(0, .ref x0), (4, .long x4), (6, .int x6), (8, .int x8), (9, .int x9), (10, .int x10), (12, .int x12)] [.int s0] F := by
  unfold fX10_draw_215 at h
  refine wp_istore X (lv' := [(0, .ref x0), (4, .long x4), (6, .int x6), (8, .int x8), (9, .int x9), (10, .int x10), (12, .int x12), (13, .int s0)]) dX10_draw_215 (by decide) [1, 2, 3, 4, 5, 6, 7, 0] rfl ?_
  refine wp_iload X dX10_draw_217 6 rfl ?_
  refine wp_iload X dX10_draw_219 5 rfl ?_
  refine wp_icmp_ge X (tgt := 234) dX10_draw_221 (by decide) h (fun h => ?_) (fun h => ?_)
  · refine wp_iload X dX10_draw_234 4 rfl ?_
    refine wp_sub (lv' := [(0, .ref x0), (4, .long x4), (6, .int x6), (8, .int x8), (13, .int s0)]) [0, 1, 2, 3, 7] rfl ?_
    exact tX10_draw_236 X hcd Qr  hK168 hK275 _ _ _ _ _ _ _ h
  · refine wp_iload X dX10_draw_224 4 rfl ?_
    refine wp_iload X dX10_draw_226 6 rfl ?_
    refine wp_iadd X dX10_draw_228 ?_
    refine wp_iconst X (v := 1) dX10_draw_229 (by decide) ?_
    refine wp_iadd X dX10_draw_230 ?_
    refine wp_goto X (tgt := 236) dX10_draw_231 (by decide) ?_
    refine wp_sub (lv' := [(0, .ref x0), (4, .long x4), (6, .int x6), (8, .int x8), (13, .int s0)]) [0, 1, 2, 3, 7] rfl ?_
    exact tX10_draw_236 X hcd Qr  hK168 hK275 _ _ _ _ _ _ _ h
def fX10_draw_168 (K275 : Nat → Int64 → Int32 → Int32 → Int32 → Mem → Option (Int64 × Mem)) : Nat → Nat → Int64 → Int32 → Int32 → Int32 → Int32 → Int32 → Mem → Option (Int64 × Mem)
  | 0, _, _, _, _, _, _, _, _ => none
  | n + 1, x0, x4, x6, x8, x9, x10, x11, F => if x11 ≤ 0 then (K275 x0 x4 x6 x8 x9 F) else ((lrem0 (lush ((x4 * 6364136223846793005) + 1442695040888963407) 33) (Int32.toInt64 x11)).bind fun v193 => if x10 ≤ (Int64.toInt32 v193) then (fX10_draw_215  (fX10_draw_168  K275 n) K275 x0 ((x4 * 6364136223846793005) + 1442695040888963407) x6 x8 x9 x10 (Int64.toInt32 v193) (((Int64.toInt32 v193) - x10) + 1) F) else (fX10_draw_215  (fX10_draw_168  K275 n) K275 x0 ((x4 * 6364136223846793005) + 1442695040888963407) x6 x8 x9 x10 (Int64.toInt32 v193) 0 F))
set_option maxRecDepth 100000 in
set_option maxHeartbeats 4000000 in
theorem tX10_draw_168 {l : Launch} {D : va_G} {cy : Nat → ClassId} {C : Cx} {res : Int64 × Mem} (X : Fx C cX10_draw RX10 (some .long) rmX10_draw 14) (hcd : CD C l D cy) (Qr : RJ C 0 0 res) {K275 : Nat → Int64 → Int32 → Int32 → Int32 → Mem → Option (Int64 × Mem)} (hK275 : ∀ (x0 : Nat) (x4 : Int64) (x6 : Int32) (x8 : Int32) (x9 : Int32) (F : Mem), K275 x0 x4 x6 x8 x9 F = some res → Wp C 0 0 275 [(0, .ref x0), (4, .long x4), (6, .int x6), (8, .int x8), (9, .int x9)] [] F) : ∀ (n : Nat) (x0 : Nat) (x4 : Int64) (x6 : Int32) (x8 : Int32) (x9 : Int32) (x10 : Int32) (x11 : Int32) (F : Mem), fX10_draw_168 K275 n x0 x4 x6 x8 x9 x10 x11 F = some res → Wp C 0 0 168 [(0, .ref x0), (4, .long x4), (6, .int x6), (8, .int x8), (9, .int x9), (10, .int x10), (11, .int x11)] [] F := by
  intro n
  induction n with
  | zero =>
    intro x0 x4 x6 x8 x9 x10 x11 F h
    rw [fX10_draw_168.eq_1] at h
    cases h
  | succ n ih =>
    intro x0 x4 x6 x8 x9 x10 x11 F h
    rw [fX10_draw_168.eq_2] at h
    refine wp_iload X dX10_draw_168 6 rfl ?_
    refine wp_if_le X (tgt := 275) dX10_draw_170 (by decide) h (fun h => ?_) (fun h => ?_)
    · refine wp_sub (lv' := [(0, .ref x0), (4, .long x4), (6, .int x6), (8, .int x8), (9, .int x9)]) [0, 1, 2, 3, 4] rfl ?_
      exact hK275 _ _ _ _ _ _ h
    · refine wp_lload X dX10_draw_173 1 rfl ?_
      refine wp_ldc2 X dX10_draw_175 (v := 6364136223846793005) kw1027 ?_
      refine wp_lmul X dX10_draw_178 ?_
      refine wp_ldc2 X dX10_draw_179 (v := 1442695040888963407) kw1028 ?_
      refine wp_ladd X dX10_draw_182 ?_
      refine wp_lstore X (lv' := [(0, .ref x0), (4, .long ((x4 * 6364136223846793005) + 1442695040888963407)), (6, .int x6), (8, .int x8), (9, .int x9), (10, .int x10), (11, .int x11)]) dX10_draw_183 (by decide) [1, 0, 2, 3, 4, 5, 6] rfl ?_
      refine wp_lload X dX10_draw_185 1 rfl ?_
      refine wp_bipush X (v := 33) dX10_draw_187 (by decide) ?_
      refine wp_lushr X dX10_draw_189 ?_
      refine wp_iload X dX10_draw_190 6 rfl ?_
      refine wp_i2l X dX10_draw_192 ?_
      refine wp_lrem X dX10_draw_193 h (fun v193 h => ?_)
      refine wp_l2i X dX10_draw_194 ?_
      refine wp_istore X (lv' := [(0, .ref x0), (4, .long ((x4 * 6364136223846793005) + 1442695040888963407)), (6, .int x6), (8, .int x8), (9, .int x9), (10, .int x10), (12, .int (Int64.toInt32 v193))]) dX10_draw_195 (by decide) [1, 2, 3, 4, 5, 6, 0] rfl ?_
      refine wp_iload X dX10_draw_197 6 rfl ?_
      refine wp_iload X dX10_draw_199 5 rfl ?_
      refine wp_icmp_ge X (tgt := 208) dX10_draw_201 (by decide) h (fun h => ?_) (fun h => ?_)
      · refine wp_iload X dX10_draw_208 6 rfl ?_
        refine wp_iload X dX10_draw_210 5 rfl ?_
        refine wp_isub X dX10_draw_212 ?_
        refine wp_iconst X (v := 1) dX10_draw_213 (by decide) ?_
        refine wp_iadd X dX10_draw_214 ?_
        exact tX10_draw_215 X hcd Qr  ih hK275 _ _ _ _ _ _ _ _ _ h
      · refine wp_iconst X (v := 0) dX10_draw_204 (by decide) ?_
        refine wp_goto X (tgt := 215) dX10_draw_205 (by decide) ?_
        exact tX10_draw_215 X hcd Qr  ih hK275 _ _ _ _ _ _ _ _ _ h
def fX10_draw_75 (K307 : Nat → Int64 → Mem → Option (Int64 × Mem)) : Nat → Nat → Int64 → Int32 → Mem → Option (Int64 × Mem)
  | 0, _, _, _, _ => none
  | n + 1, x0, x4, x6, F => if x6 ≤ 0 then (K307 x0 x4 F) else ((lrem0 (lush ((x4 * 6364136223846793005) + 1442695040888963407) 33) (Int32.toInt64 x6)).bind fun v100 => fX10_draw_107  (fun (x0 : Nat) (x4 : Int64) (x6 : Int32) (x7 : Int32) (x8 : Int32) (F : Mem) => (gfR F x0 9 9).bind fun v142 => (rdI F 0 v142 x8).bind fun v147 => (obj F x0 9).bind fun _ => (mX10_below F x0 x8 x7).bind fun v162 => fX10_draw_168  (fun (x0 : Nat) (x4 : Int64) (x6 : Int32) (x8 : Int32) (x9 : Int32) (F : Mem) => (gfR F x0 9 4).bind fun v276 => (mX10_box F 0 x8 x9).bind fun v284 => (wrI v284.2 v276 v284.1 x6).bind fun F289 => (gfR F289 x0 9 9).bind fun v291 => (rdI F289 0 v291 x8).bind fun v297 => (wrI F289 v291 x8 (v297 - 1)).bind fun F300 => (fX10_draw_75  K307 n) x0 x4 (x6 + (-1)) F300) FU x0 x4 x6 x8 x7 ((v147 - x7) - 1) (((v147 - x7) - 1) + v162.1) v162.2) FU x0 ((x4 * 6364136223846793005) + 1442695040888963407) x6 (Int64.toInt32 v100) 0 F)
set_option maxRecDepth 100000 in
set_option maxHeartbeats 4000000 in
theorem tX10_draw_75 {l : Launch} {D : va_G} {cy : Nat → ClassId} {C : Cx} {res : Int64 × Mem} (X : Fx C cX10_draw RX10 (some .long) rmX10_draw 14) (hcd : CD C l D cy) (Qr : RJ C 0 0 res) {K307 : Nat → Int64 → Mem → Option (Int64 × Mem)} (hK307 : ∀ (x0 : Nat) (x4 : Int64) (F : Mem), K307 x0 x4 F = some res → Wp C 0 0 307 [(0, .ref x0), (4, .long x4)] [] F) : ∀ (n : Nat) (x0 : Nat) (x4 : Int64) (x6 : Int32) (F : Mem), fX10_draw_75 K307 n x0 x4 x6 F = some res → Wp C 0 0 75 [(0, .ref x0), (4, .long x4), (6, .int x6)] [] F := by
  intro n
  induction n with
  | zero =>
    intro x0 x4 x6 F h
    rw [fX10_draw_75.eq_1] at h
    cases h
  | succ n ih =>
    intro x0 x4 x6 F h
    rw [fX10_draw_75.eq_2] at h
    refine wp_iload X dX10_draw_75 2 rfl ?_
    refine wp_if_le X (tgt := 307) dX10_draw_77 (by decide) h (fun h => ?_) (fun h => ?_)
    · refine wp_sub (lv' := [(0, .ref x0), (4, .long x4)]) [0, 1] rfl ?_
      exact hK307 _ _ _ h
    · refine wp_lload X dX10_draw_80 1 rfl ?_
      refine wp_ldc2 X dX10_draw_82 (v := 6364136223846793005) kw1027 ?_
      refine wp_lmul X dX10_draw_85 ?_
      refine wp_ldc2 X dX10_draw_86 (v := 1442695040888963407) kw1028 ?_
      refine wp_ladd X dX10_draw_89 ?_
      refine wp_lstore X (lv' := [(0, .ref x0), (4, .long ((x4 * 6364136223846793005) + 1442695040888963407)), (6, .int x6)]) dX10_draw_90 (by decide) [1, 0, 2] rfl ?_
      refine wp_lload X dX10_draw_92 1 rfl ?_
      refine wp_bipush X (v := 33) dX10_draw_94 (by decide) ?_
      refine wp_lushr X dX10_draw_96 ?_
      refine wp_iload X dX10_draw_97 2 rfl ?_
      refine wp_i2l X dX10_draw_99 ?_
      refine wp_lrem X dX10_draw_100 h (fun v100 h => ?_)
      refine wp_l2i X dX10_draw_101 ?_
      refine wp_istore X (lv' := [(0, .ref x0), (4, .long ((x4 * 6364136223846793005) + 1442695040888963407)), (6, .int x6), (7, .int (Int64.toInt32 v100))]) dX10_draw_102 (by decide) [1, 2, 3, 0] rfl ?_
      refine wp_iconst X (v := 0) dX10_draw_104 (by decide) ?_
      refine wp_istore X (lv' := [(0, .ref x0), (4, .long ((x4 * 6364136223846793005) + 1442695040888963407)), (6, .int x6), (7, .int (Int64.toInt32 v100)), (8, .int 0)]) dX10_draw_105 (by decide) [1, 2, 3, 4, 0] rfl ?_
      refine tX10_draw_107 X hcd Qr  ?_ FU _ _ _ _ _ _ h
      · intro x0 x4 x6 x7 x8 F h
        refine wp_iload X dX10_draw_137 3 rfl ?_
        refine wp_istore X (lv' := [(0, .ref x0), (4, .long x4), (6, .int x6), (8, .int x8), (9, .int x7)]) dX10_draw_139 (by decide) [1, 2, 3, 5, 0] rfl ?_
        refine wp_aload_n X dX10_draw_141 0 rfl ?_
        refine wp_getR X (T := TX10) (N := 20) (ci := 9) (k := 9) rfl (by decide) (by decide) inBX10 kw821 dX10_draw_142 h (fun v142 h => ?_)
        refine wp_iload X dX10_draw_145 3 rfl ?_
        refine wp_iaload X dX10_draw_147 h (fun v147 h => ?_)
        refine wp_iload X dX10_draw_148 4 rfl ?_
        refine wp_isub X dX10_draw_150 ?_
        refine wp_iconst X (v := 1) dX10_draw_151 (by decide) ?_
        refine wp_isub X dX10_draw_152 ?_
        refine wp_istore X (lv' := [(0, .ref x0), (4, .long x4), (6, .int x6), (8, .int x8), (9, .int x7), (10, .int ((v147 - x7) - 1))]) dX10_draw_153 (by decide) [1, 2, 3, 4, 5, 0] rfl ?_
        refine wp_iload X dX10_draw_155 5 rfl ?_
        refine wp_aload_n X dX10_draw_157 0 rfl ?_
        refine wp_iload X dX10_draw_158 3 rfl ?_
        refine wp_iload X dX10_draw_160 4 rfl ?_
        refine wp_callVI X (rm := rmX10_below) (T := TX10) (N := 20) (ci := 9) (n := 2) [.int x8, .int x7] hcd (fun q hq => cX10_below_ok hq) kw1029 kw1031 ks37 kw10 kw1032 (by decide +kernel) (by decide) (by decide) (cs2 := 0) (sl2 := 0) rfl rfl rfl (by decide) rfl rfl (Nat.le_of_ble_eq_true rfl) dX10_draw_162 h (fun v162 h => ?_)
        refine wp_iadd X dX10_draw_165 ?_
        refine wp_istore X (lv' := [(0, .ref x0), (4, .long x4), (6, .int x6), (8, .int x8), (9, .int x7), (10, .int ((v147 - x7) - 1)), (11, .int (((v147 - x7) - 1) + v162.1))]) dX10_draw_166 (by decide) [1, 2, 3, 4, 5, 6, 0] rfl ?_
        refine tX10_draw_168 X hcd Qr  ?_ FU _ _ _ _ _ _ _ _ h
        · intro x0 x4 x6 x8 x9 F h
          refine wp_aload_n X dX10_draw_275 0 rfl ?_
          refine wp_getR X (T := TX10) (N := 20) (ci := 9) (k := 4) rfl (by decide) (by decide) inBX10 kw816 dX10_draw_276 h (fun v276 h => ?_)
          refine wp_iconst X (v := 0) dX10_draw_279 (by decide) ?_
          refine wp_iload X dX10_draw_280 3 rfl ?_
          refine wp_iload X dX10_draw_282 4 rfl ?_
          refine wp_callSI X (rm := rmX10_box) (n := 3) [.int 0, .int x8, .int x9] hcd (fun q hq => cX10_box_ok hq) kw940 kw941 kw10 kw942 (by decide +kernel) (by decide) (by decide) (cs2 := 0) (sl2 := 0) rfl rfl rfl rfl (Nat.le_of_ble_eq_true rfl) dX10_draw_284 h (fun v284 h => ?_)
          refine wp_iload X dX10_draw_287 2 rfl ?_
          refine wp_iastore X dX10_draw_289 h (fun F289 h => ?_)
          refine wp_aload_n X dX10_draw_290 0 rfl ?_
          refine wp_getR X (T := TX10) (N := 20) (ci := 9) (k := 9) rfl (by decide) (by decide) inBX10 kw821 dX10_draw_291 h (fun v291 h => ?_)
          refine wp_iload X dX10_draw_294 3 rfl ?_
          refine wp_dup2 X dX10_draw_296 rfl rfl ?_
          refine wp_iaload X dX10_draw_297 h (fun v297 h => ?_)
          refine wp_iconst X (v := 1) dX10_draw_298 (by decide) ?_
          refine wp_isub X dX10_draw_299 ?_
          refine wp_iastore X dX10_draw_300 h (fun F300 h => ?_)
          refine wp_iinc X (v := x6 + (-1)) (lv' := [(0, .ref x0), (4, .long x4), (6, .int (x6 + (-1)))]) dX10_draw_301 (by decide) 2 rfl rfl [1, 2, 0] rfl ?_
          refine wp_goto X (tgt := 75) dX10_draw_304 (by decide) ?_
          exact ih _ _ _ _ h
def fX10_draw_13  (x0 : Nat) (x1 : Int32) (x2 : Int64) (s0 : Nat) (s1 : Int32) (F : Mem) : Option (Int64 × Mem) := (pf F s0 9 0 (.int s1)).bind fun F13 => (gfI F13 x0 9 0).bind fun v17 => if v17 ≤ 0 then ((obj F13 x0 9).bind fun _ => (mX10_takeShape F13 x0 x1).bind fun v27 => (obj v27 x0 9).bind fun _ => (mX10_clear v27 x0 0).bind fun v32 => fX10_draw_38  (fun (x0 : Nat) (x1 : Int32) (x2 : Int64) (F : Mem) => (obj F x0 9).bind fun _ => (mX10_boxesOf F x0 x1).bind fun v70 => fX10_draw_75  (fun (x0 : Nat) (x4 : Int64) (F : Mem) => (pf F x0 9 6 (.int 1)).bind fun F309 => some (x4, F309)) FU x0 x2 v70.1 v70.2) FU x0 x1 x2 0 v32) else (some (0, F13))
set_option maxRecDepth 100000 in
set_option maxHeartbeats 4000000 in
theorem tX10_draw_13 {l : Launch} {D : va_G} {cy : Nat → ClassId} {C : Cx} {res : Int64 × Mem} (X : Fx C cX10_draw RX10 (some .long) rmX10_draw 14) (hcd : CD C l D cy) (Qr : RJ C 0 0 res)   (x0 : Nat) (x1 : Int32) (x2 : Int64) (s0 : Nat) (s1 : Int32) (F : Mem) (h : fX10_draw_13  x0 x1 x2 s0 s1 F = some res) : Wp C 0 0 13 [(0, .ref x0), (1, .int x1), (2, .long x2)] [.int s1, .ref s0] F := by
  unfold fX10_draw_13 at h
  refine wp_put X (T := TX10) (N := 20) (ci := 9) (k := 0) tyX10 rfl (by decide) (by decide) inBX10 kw812 tyX10_ok nmX10 rfl rfl (vp_nar_int _) rfl dX10_draw_13 h (fun F13 h => ?_)
  refine wp_aload_n X dX10_draw_16 0 rfl ?_
  refine wp_getI X (T := TX10) (N := 20) (ci := 9) (k := 0) rfl (by decide) (by decide) inBX10 kw812 dX10_draw_17 h (fun v17 h => ?_)
  refine wp_if_le X (tgt := 25) dX10_draw_20 (by decide) h (fun h => ?_) (fun h => ?_)
  · refine wp_aload_n X dX10_draw_25 0 rfl ?_
    refine wp_iload_n X dX10_draw_26 1 rfl ?_
    refine wp_callVV X (rm := rmX10_takeShape) (T := TX10) (N := 20) (ci := 9) (n := 1) [.int x1] hcd (fun q hq => cX10_takeShape_ok hq) kw1023 kw1025 ks36 kw10 kw1026 (by decide +kernel) (by decide) (by decide) (cs2 := 0) (sl2 := 0) rfl rfl rfl (by decide) rfl rfl (Nat.le_of_ble_eq_true rfl) dX10_draw_27 h (fun v27 h => ?_)
    refine wp_aload_n X dX10_draw_30 0 rfl ?_
    refine wp_iconst X (v := 0) dX10_draw_31 (by decide) ?_
    refine wp_callVV X (rm := rmX10_clear) (T := TX10) (N := 20) (ci := 9) (n := 1) [.int 0] hcd (fun q hq => cX10_clear_ok hq) kw932 kw934 ks21 kw10 kw935 (by decide +kernel) (by decide) (by decide) (cs2 := 0) (sl2 := 0) rfl rfl rfl (by decide) rfl rfl (Nat.le_of_ble_eq_true rfl) dX10_draw_32 h (fun v32 h => ?_)
    refine wp_iconst X (v := 0) dX10_draw_35 (by decide) ?_
    refine wp_istore X (lv' := [(0, .ref x0), (1, .int x1), (2, .long x2), (4, .int 0)]) dX10_draw_36 (by decide) [1, 2, 3, 0] rfl ?_
    refine tX10_draw_38 X hcd Qr  ?_ FU _ _ _ _ _ h
    · intro x0 x1 x2 F h
      refine wp_lload_n X dX10_draw_65 2 rfl ?_
      refine wp_lstore X (lv' := [(0, .ref x0), (1, .int x1), (4, .long x2)]) dX10_draw_66 (by decide) [1, 2, 0] rfl ?_
      refine wp_aload_n X dX10_draw_68 0 rfl ?_
      refine wp_iload_n X dX10_draw_69 1 rfl ?_
      refine wp_callVI X (rm := rmX10_boxesOf) (T := TX10) (N := 20) (ci := 9) (n := 1) [.int x1] hcd (fun q hq => cX10_boxesOf_ok hq) kw901 kw903 ks20 kw10 kw904 (by decide +kernel) (by decide) (by decide) (cs2 := 0) (sl2 := 0) rfl rfl rfl (by decide) rfl rfl (Nat.le_of_ble_eq_true rfl) dX10_draw_70 h (fun v70 h => ?_)
      refine wp_istore X (lv' := [(0, .ref x0), (4, .long x2), (6, .int v70.1)]) dX10_draw_73 (by decide) [1, 3, 0] rfl ?_
      refine tX10_draw_75 X hcd Qr  ?_ FU _ _ _ _ h
      · intro x0 x4 F h
        refine wp_aload_n X dX10_draw_307 0 rfl ?_
        refine wp_iconst X (v := 1) dX10_draw_308 (by decide) ?_
        refine wp_put X (T := TX10) (N := 20) (ci := 9) (k := 6) tyX10 rfl (by decide) (by decide) inBX10 kw818 tyX10_ok nmX10 rfl rfl rfl rfl dX10_draw_309 h (fun F309 h => ?_)
        refine wp_lload X dX10_draw_312 1 rfl ?_
        exact wp_lreturn X Qr rfl dX10_draw_314 h
  · refine wp_lconst X (v := 0) dX10_draw_23 (by decide) ?_
    exact wp_lreturn X Qr rfl dX10_draw_24 h
def mX10_draw (F : Mem) (x0 : Nat) (x1 : Int32) (x2 : Int64) : Option (Int64 × Mem) := (mX10_isSlot F x1).bind fun v2 => if v2.1 = 0 then (fX10_draw_13   x0 x1 x2 x0 1 v2.2) else (fX10_draw_13   x0 x1 x2 x0 0 v2.2)
set_option maxRecDepth 100000 in
set_option maxHeartbeats 4000000 in
theorem cX10_draw_ok {l : Launch} {D : va_G} {cy : Nat → ClassId} {F : Mem} {x0 : Nat} {x1 : Int32} {x2 : Int64} {res : Int64 × Mem} (h : mX10_draw F x0 x1 x2 = some res) : ML l yX10_draw cX10_draw 14 (some .long) rmX10_draw D cy F [.ref x0, .int x1, .long x2] res := by
  refine ml_of (by decide) (Nat.le_of_ble_eq_true rfl) [(0, .ref x0), (1, .int x1), (2, .long x2)] rfl (fun C X hcd Qr => ?_)
  unfold mX10_draw at h
  refine wp_aload_n X dX10_draw_0 0 rfl ?_
  refine wp_iload_n X dX10_draw_1 1 rfl ?_
  refine wp_callSI X (rm := rmX10_isSlot) (n := 1) [.int x1] hcd (fun q hq => cX10_isSlot_ok hq) kw881 kw882 kw10 kw883 (by decide +kernel) (by decide) (by decide) (cs2 := 0) (sl2 := 0) rfl rfl rfl rfl (Nat.le_of_ble_eq_true rfl) dX10_draw_2 h (fun v2 h => ?_)
  refine wp_if_eq X (tgt := 12) dX10_draw_5 (by decide) h (fun h => ?_) (fun h => ?_)
  · refine wp_iconst X (v := 1) dX10_draw_12 (by decide) ?_
    exact tX10_draw_13 X hcd Qr   _ _ _ _ _ _ h
  · refine wp_iconst X (v := 0) dX10_draw_8 (by decide) ?_
    refine wp_goto X (tgt := 13) dX10_draw_9 (by decide) ?_
    exact tX10_draw_13 X hcd Qr   _ _ _ _ _ _ h
/-! TableauBenchModel.multiply(II)V -/
def rmX10_multiply : Room := { frames := 0, cells := 0, slots := 0, locals := 0 }
def fX10_multiply_11 (K42 : Nat → Int32 → Int32 → Int32 → Mem → Option (Mem)) : Nat → Nat → Int32 → Int32 → Int32 → Mem → Option (Mem)
  | 0, _, _, _, _, _ => none
  | n + 1, x0, x2, x3, x4, F => (irem0 x3 x4).bind fun v14 => if v14 = 0 then ((gfR F x0 9 19).bind fun v19 => (gfR F x0 9 19).bind fun v25 => (rdI F 0 v25 x4).bind fun v30 => (wrI F v19 x4 (v30 + x2)).bind fun F33 => (idiv0 x3 x4).bind fun v37 => (fX10_multiply_11  K42 n) x0 x2 v37 x4 F33) else (K42 x0 x2 x3 x4 F)
set_option maxRecDepth 100000 in
set_option maxHeartbeats 4000000 in
theorem tX10_multiply_11 {l : Launch} {D : va_G} {cy : Nat → ClassId} {C : Cx} {res : Mem} (X : Fx C cX10_multiply RX10 none rmX10_multiply 5) (hcd : CD C l D cy) (Qr : RV C 0 0 res) {K42 : Nat → Int32 → Int32 → Int32 → Mem → Option (Mem)} (hK42 : ∀ (x0 : Nat) (x2 : Int32) (x3 : Int32) (x4 : Int32) (F : Mem), K42 x0 x2 x3 x4 F = some res → Wp C 0 0 42 [(0, .ref x0), (2, .int x2), (3, .int x3), (4, .int x4)] [] F) : ∀ (n : Nat) (x0 : Nat) (x2 : Int32) (x3 : Int32) (x4 : Int32) (F : Mem), fX10_multiply_11 K42 n x0 x2 x3 x4 F = some res → Wp C 0 0 11 [(0, .ref x0), (2, .int x2), (3, .int x3), (4, .int x4)] [] F := by
  intro n
  induction n with
  | zero =>
    intro x0 x2 x3 x4 F h
    rw [fX10_multiply_11.eq_1] at h
    cases h
  | succ n ih =>
    intro x0 x2 x3 x4 F h
    rw [fX10_multiply_11.eq_2] at h
    refine wp_iload_n X dX10_multiply_11 2 rfl ?_
    refine wp_iload X dX10_multiply_12 3 rfl ?_
    refine wp_irem X dX10_multiply_14 h (fun v14 h => ?_)
    refine wp_if_ne X (tgt := 42) dX10_multiply_15 (by decide) h (fun h => ?_) (fun h => ?_)
    · exact hK42 _ _ _ _ _ h
    · refine wp_aload_n X dX10_multiply_18 0 rfl ?_
      refine wp_getR X (T := TX10) (N := 20) (ci := 9) (k := 19) rfl (by decide) (by decide) inBX10 kw831 dX10_multiply_19 h (fun v19 h => ?_)
      refine wp_iload X dX10_multiply_22 3 rfl ?_
      refine wp_aload_n X dX10_multiply_24 0 rfl ?_
      refine wp_getR X (T := TX10) (N := 20) (ci := 9) (k := 19) rfl (by decide) (by decide) inBX10 kw831 dX10_multiply_25 h (fun v25 h => ?_)
      refine wp_iload X dX10_multiply_28 3 rfl ?_
      refine wp_iaload X dX10_multiply_30 h (fun v30 h => ?_)
      refine wp_iload_n X dX10_multiply_31 1 rfl ?_
      refine wp_iadd X dX10_multiply_32 ?_
      refine wp_iastore X dX10_multiply_33 h (fun F33 h => ?_)
      refine wp_iload_n X dX10_multiply_34 2 rfl ?_
      refine wp_iload X dX10_multiply_35 3 rfl ?_
      refine wp_idiv X dX10_multiply_37 h (fun v37 h => ?_)
      refine wp_istore_n X (lv' := [(0, .ref x0), (2, .int x2), (3, .int v37), (4, .int x4)]) dX10_multiply_38 (by decide) [1, 2, 0, 3] rfl ?_
      refine wp_goto X (tgt := 11) dX10_multiply_39 (by decide) ?_
      exact ih _ _ _ _ _ h
def fX10_multiply_5  : Nat → Nat → Int32 → Int32 → Int32 → Mem → Option (Mem)
  | 0, _, _, _, _, _ => none
  | n + 1, x0, x2, x3, x4, F => if x3 < x4 then (some F) else (fX10_multiply_11  (fun (x0 : Nat) (x2 : Int32) (x3 : Int32) (x4 : Int32) (F : Mem) => (fX10_multiply_5   n) x0 x2 x3 (x4 + 1) F) FU x0 x2 x3 x4 F)
set_option maxRecDepth 100000 in
set_option maxHeartbeats 4000000 in
theorem tX10_multiply_5 {l : Launch} {D : va_G} {cy : Nat → ClassId} {C : Cx} {res : Mem} (X : Fx C cX10_multiply RX10 none rmX10_multiply 5) (hcd : CD C l D cy) (Qr : RV C 0 0 res)   : ∀ (n : Nat) (x0 : Nat) (x2 : Int32) (x3 : Int32) (x4 : Int32) (F : Mem), fX10_multiply_5  n x0 x2 x3 x4 F = some res → Wp C 0 0 5 [(0, .ref x0), (2, .int x2), (3, .int x3), (4, .int x4)] [] F := by
  intro n
  induction n with
  | zero =>
    intro x0 x2 x3 x4 F h
    rw [fX10_multiply_5.eq_1] at h
    cases h
  | succ n ih =>
    intro x0 x2 x3 x4 F h
    rw [fX10_multiply_5.eq_2] at h
    refine wp_iload X dX10_multiply_5 3 rfl ?_
    refine wp_iload_n X dX10_multiply_7 2 rfl ?_
    refine wp_icmp_gt X (tgt := 48) dX10_multiply_8 (by decide) h (fun h => ?_) (fun h => ?_)
    · exact wp_return X Qr rfl dX10_multiply_48 h
    · refine tX10_multiply_11 X hcd Qr  ?_ FU _ _ _ _ _ h
      · intro x0 x2 x3 x4 F h
        refine wp_iinc X (v := x4 + 1) (lv' := [(0, .ref x0), (2, .int x2), (3, .int x3), (4, .int (x4 + 1))]) dX10_multiply_42 (by decide) 3 rfl rfl [1, 2, 3, 0] rfl ?_
        refine wp_goto X (tgt := 5) dX10_multiply_45 (by decide) ?_
        exact ih _ _ _ _ _ h
def mX10_multiply (F : Mem) (x0 : Nat) (x1 : Int32) (x2 : Int32) : Option (Mem) := fX10_multiply_5   FU x0 x2 x1 2 F
set_option maxRecDepth 100000 in
set_option maxHeartbeats 4000000 in
theorem cX10_multiply_ok {l : Launch} {D : va_G} {cy : Nat → ClassId} {F : Mem} {x0 : Nat} {x1 : Int32} {x2 : Int32} {res : Mem} (h : mX10_multiply F x0 x1 x2 = some res) : MV l yX10_multiply cX10_multiply 5 none rmX10_multiply D cy F [.ref x0, .int x1, .int x2] res := by
  refine mv_of (by decide) (Nat.le_of_ble_eq_true rfl) [(0, .ref x0), (1, .int x1), (2, .int x2)] rfl (fun C X hcd Qr => ?_)
  unfold mX10_multiply at h
  refine wp_iload_n X dX10_multiply_0 1 rfl ?_
  refine wp_istore_n X (lv' := [(0, .ref x0), (2, .int x2), (3, .int x1)]) dX10_multiply_1 (by decide) [1, 3, 0] rfl ?_
  refine wp_iconst X (v := 2) dX10_multiply_2 (by decide) ?_
  refine wp_istore X (lv' := [(0, .ref x0), (2, .int x2), (3, .int x1), (4, .int 2)]) dX10_multiply_3 (by decide) [1, 2, 3, 0] rfl ?_
  refine tX10_multiply_5 X hcd Qr   FU _ _ _ _ _ h
/-! TableauBenchModel.factorial(II)V -/
def rmX10_factorial : Room := { frames := 1, cells := 0, slots := 0, locals := 24 }
def fX10_factorial_2  : Nat → Nat → Int32 → Int32 → Int32 → Mem → Option (Mem)
  | 0, _, _, _, _, _ => none
  | n + 1, x0, x1, x2, x3, F => if x1 < x3 then (some F) else ((obj F x0 9).bind fun _ => (mX10_multiply F x0 x3 x2).bind fun v10 => (fX10_factorial_2   n) x0 x1 x2 (x3 + 1) v10)
set_option maxRecDepth 100000 in
set_option maxHeartbeats 4000000 in
theorem tX10_factorial_2 {l : Launch} {D : va_G} {cy : Nat → ClassId} {C : Cx} {res : Mem} (X : Fx C cX10_factorial RX10 none rmX10_factorial 4) (hcd : CD C l D cy) (Qr : RV C 0 0 res)   : ∀ (n : Nat) (x0 : Nat) (x1 : Int32) (x2 : Int32) (x3 : Int32) (F : Mem), fX10_factorial_2  n x0 x1 x2 x3 F = some res → Wp C 0 0 2 [(0, .ref x0), (1, .int x1), (2, .int x2), (3, .int x3)] [] F := by
  intro n
  induction n with
  | zero =>
    intro x0 x1 x2 x3 F h
    rw [fX10_factorial_2.eq_1] at h
    cases h
  | succ n ih =>
    intro x0 x1 x2 x3 F h
    rw [fX10_factorial_2.eq_2] at h
    refine wp_iload_n X dX10_factorial_2 3 rfl ?_
    refine wp_iload_n X dX10_factorial_3 1 rfl ?_
    refine wp_icmp_gt X (tgt := 19) dX10_factorial_4 (by decide) h (fun h => ?_) (fun h => ?_)
    · exact wp_return X Qr rfl dX10_factorial_19 h
    · refine wp_aload_n X dX10_factorial_7 0 rfl ?_
      refine wp_iload_n X dX10_factorial_8 3 rfl ?_
      refine wp_iload_n X dX10_factorial_9 2 rfl ?_
      refine wp_callVV X (rm := rmX10_multiply) (T := TX10) (N := 20) (ci := 9) (n := 2) [.int x3, .int x2] hcd (fun q hq => cX10_multiply_ok hq) kw1041 kw1043 ks39 kw10 kw1044 (by decide +kernel) (by decide) (by decide) (cs2 := 0) (sl2 := 0) rfl rfl rfl (by decide) rfl rfl (Nat.le_of_ble_eq_true rfl) dX10_factorial_10 h (fun v10 h => ?_)
      refine wp_iinc X (v := x3 + 1) (lv' := [(0, .ref x0), (1, .int x1), (2, .int x2), (3, .int (x3 + 1))]) dX10_factorial_13 (by decide) 3 rfl rfl [1, 2, 3, 0] rfl ?_
      refine wp_goto X (tgt := 2) dX10_factorial_16 (by decide) ?_
      exact ih _ _ _ _ _ h
def mX10_factorial (F : Mem) (x0 : Nat) (x1 : Int32) (x2 : Int32) : Option (Mem) := fX10_factorial_2   FU x0 x1 x2 2 F
set_option maxRecDepth 100000 in
set_option maxHeartbeats 4000000 in
theorem cX10_factorial_ok {l : Launch} {D : va_G} {cy : Nat → ClassId} {F : Mem} {x0 : Nat} {x1 : Int32} {x2 : Int32} {res : Mem} (h : mX10_factorial F x0 x1 x2 = some res) : MV l yX10_factorial cX10_factorial 4 none rmX10_factorial D cy F [.ref x0, .int x1, .int x2] res := by
  refine mv_of (by decide) (Nat.le_of_ble_eq_true rfl) [(0, .ref x0), (1, .int x1), (2, .int x2)] rfl (fun C X hcd Qr => ?_)
  unfold mX10_factorial at h
  refine wp_iconst X (v := 2) dX10_factorial_0 (by decide) ?_
  refine wp_istore_n X (lv' := [(0, .ref x0), (1, .int x1), (2, .int x2), (3, .int 2)]) dX10_factorial_1 (by decide) [1, 2, 3, 0] rfl ?_
  refine tX10_factorial_2 X hcd Qr   FU _ _ _ _ _ h
/-! TableauBenchModel.standard(I)J -/
def rmX10_standard : Room := { frames := 2, cells := 0, slots := 0, locals := 47 }
def fX10_standard_27 (K46 : Nat → Int32 → Mem → Option (Int64 × Mem)) : Nat → Nat → Int32 → Int32 → Mem → Option (Int64 × Mem)
  | 0, _, _, _, _ => none
  | n + 1, x0, x1, x2, F => if 40 ≤ x2 then (K46 x0 x1 F) else ((gfR F x0 9 19).bind fun v34 => (wrI F v34 x2 0).bind fun F39 => (fX10_standard_27  K46 n) x0 x1 (x2 + 1) F39)
set_option maxRecDepth 100000 in
set_option maxHeartbeats 4000000 in
theorem tX10_standard_27 {l : Launch} {D : va_G} {cy : Nat → ClassId} {C : Cx} {res : Int64 × Mem} (X : Fx C cX10_standard RX10 (some .long) rmX10_standard 6) (hcd : CD C l D cy) (Qr : RJ C 0 0 res) {K46 : Nat → Int32 → Mem → Option (Int64 × Mem)} (hK46 : ∀ (x0 : Nat) (x1 : Int32) (F : Mem), K46 x0 x1 F = some res → Wp C 0 0 46 [(0, .ref x0), (1, .int x1)] [] F) : ∀ (n : Nat) (x0 : Nat) (x1 : Int32) (x2 : Int32) (F : Mem), fX10_standard_27 K46 n x0 x1 x2 F = some res → Wp C 0 0 27 [(0, .ref x0), (1, .int x1), (2, .int x2)] [] F := by
  intro n
  induction n with
  | zero =>
    intro x0 x1 x2 F h
    rw [fX10_standard_27.eq_1] at h
    cases h
  | succ n ih =>
    intro x0 x1 x2 F h
    rw [fX10_standard_27.eq_2] at h
    refine wp_iload_n X dX10_standard_27 2 rfl ?_
    refine wp_bipush X (v := 40) dX10_standard_28 (by decide) ?_
    refine wp_icmp_ge X (tgt := 46) dX10_standard_30 (by decide) h (fun h => ?_) (fun h => ?_)
    · refine wp_sub (lv' := [(0, .ref x0), (1, .int x1)]) [0, 1] rfl ?_
      exact hK46 _ _ _ h
    · refine wp_aload_n X dX10_standard_33 0 rfl ?_
      refine wp_getR X (T := TX10) (N := 20) (ci := 9) (k := 19) rfl (by decide) (by decide) inBX10 kw831 dX10_standard_34 h (fun v34 h => ?_)
      refine wp_iload_n X dX10_standard_37 2 rfl ?_
      refine wp_iconst X (v := 0) dX10_standard_38 (by decide) ?_
      refine wp_iastore X dX10_standard_39 h (fun F39 h => ?_)
      refine wp_iinc X (v := x2 + 1) (lv' := [(0, .ref x0), (1, .int x1), (2, .int (x2 + 1))]) dX10_standard_40 (by decide) 2 rfl rfl [1, 2, 0] rfl ?_
      refine wp_goto X (tgt := 27) dX10_standard_43 (by decide) ?_
      exact ih _ _ _ _ h
def fX10_standard_87 (K120 : Nat → Int32 → Int32 → Mem → Option (Int64 × Mem)) : Nat → Nat → Int32 → Int32 → Int32 → Int32 → Mem → Option (Int64 × Mem)
  | 0, _, _, _, _, _, _ => none
  | n + 1, x0, x1, x2, x3, x4, F => if 8 ≤ x4 then (K120 x0 x1 x2 F) else ((obj F x0 9).bind fun _ => (mX10_rowOf F x0 x1 x4).bind fun v100 => (obj v100.2 x0 9).bind fun _ => (mX10_multiply v100.2 x0 (((x3 - v100.1) - 7) + x4) 1).bind fun v111 => (fX10_standard_87  K120 n) x0 x1 x2 x3 (x4 + 1) v111)
set_option maxRecDepth 100000 in
set_option maxHeartbeats 4000000 in
theorem tX10_standard_87 {l : Launch} {D : va_G} {cy : Nat → ClassId} {C : Cx} {res : Int64 × Mem} (X : Fx C cX10_standard RX10 (some .long) rmX10_standard 6) (hcd : CD C l D cy) (Qr : RJ C 0 0 res) {K120 : Nat → Int32 → Int32 → Mem → Option (Int64 × Mem)} (hK120 : ∀ (x0 : Nat) (x1 : Int32) (x2 : Int32) (F : Mem), K120 x0 x1 x2 F = some res → Wp C 0 0 120 [(0, .ref x0), (1, .int x1), (2, .int x2)] [] F) : ∀ (n : Nat) (x0 : Nat) (x1 : Int32) (x2 : Int32) (x3 : Int32) (x4 : Int32) (F : Mem), fX10_standard_87 K120 n x0 x1 x2 x3 x4 F = some res → Wp C 0 0 87 [(0, .ref x0), (1, .int x1), (2, .int x2), (3, .int x3), (4, .int x4)] [] F := by
  intro n
  induction n with
  | zero =>
    intro x0 x1 x2 x3 x4 F h
    rw [fX10_standard_87.eq_1] at h
    cases h
  | succ n ih =>
    intro x0 x1 x2 x3 x4 F h
    rw [fX10_standard_87.eq_2] at h
    refine wp_iload X dX10_standard_87 4 rfl ?_
    refine wp_bipush X (v := 8) dX10_standard_89 (by decide) ?_
    refine wp_icmp_ge X (tgt := 120) dX10_standard_91 (by decide) h (fun h => ?_) (fun h => ?_)
    · refine wp_sub (lv' := [(0, .ref x0), (1, .int x1), (2, .int x2)]) [0, 1, 2] rfl ?_
      exact hK120 _ _ _ _ h
    · refine wp_aload_n X dX10_standard_94 0 rfl ?_
      refine wp_iload_n X dX10_standard_95 3 rfl ?_
      refine wp_aload_n X dX10_standard_96 0 rfl ?_
      refine wp_iload_n X dX10_standard_97 1 rfl ?_
      refine wp_iload X dX10_standard_98 4 rfl ?_
      refine wp_callVI X (rm := rmX10_rowOf) (T := TX10) (N := 20) (ci := 9) (n := 2) [.int x1, .int x4] hcd (fun q hq => cX10_rowOf_ok hq) kw889 kw891 ks19 kw10 kw892 (by decide +kernel) (by decide) (by decide) (cs2 := 0) (sl2 := 0) rfl rfl rfl (by decide) rfl rfl (Nat.le_of_ble_eq_true rfl) dX10_standard_100 h (fun v100 h => ?_)
      refine wp_isub X dX10_standard_103 ?_
      refine wp_bipush X (v := 7) dX10_standard_104 (by decide) ?_
      refine wp_isub X dX10_standard_106 ?_
      refine wp_iload X dX10_standard_107 4 rfl ?_
      refine wp_iadd X dX10_standard_109 ?_
      refine wp_iconst X (v := 1) dX10_standard_110 (by decide) ?_
      refine wp_callVV X (rm := rmX10_multiply) (T := TX10) (N := 20) (ci := 9) (n := 2) [.int (((x3 - v100.1) - 7) + x4), .int 1] hcd (fun q hq => cX10_multiply_ok hq) kw1041 kw1043 ks39 kw10 kw1044 (by decide +kernel) (by decide) (by decide) (cs2 := 0) (sl2 := 0) rfl rfl rfl (by decide) rfl rfl (Nat.le_of_ble_eq_true rfl) dX10_standard_111 h (fun v111 h => ?_)
      refine wp_iinc X (v := x4 + 1) (lv' := [(0, .ref x0), (1, .int x1), (2, .int x2), (3, .int x3), (4, .int (x4 + 1))]) dX10_standard_114 (by decide) 4 rfl rfl [1, 2, 3, 4, 0] rfl ?_
      refine wp_goto X (tgt := 87) dX10_standard_117 (by decide) ?_
      exact ih _ _ _ _ _ _ h
def fX10_standard_58 (K126 : Nat → Mem → Option (Int64 × Mem)) : Nat → Nat → Int32 → Int32 → Mem → Option (Int64 × Mem)
  | 0, _, _, _, _ => none
  | n + 1, x0, x1, x2, F => if 8 ≤ x2 then (K126 x0 F) else ((obj F x0 9).bind fun _ => (mX10_rowOf F x0 x1 x2).bind fun v67 => (obj v67.2 x0 9).bind fun _ => (mX10_factorial v67.2 x0 ((v67.1 + 7) - x2) (-1)).bind fun v79 => fX10_standard_87  (fun (x0 : Nat) (x1 : Int32) (x2 : Int32) (F : Mem) => (fX10_standard_58  K126 n) x0 x1 (x2 + 1) F) FU x0 x1 x2 ((v67.1 + 7) - x2) (x2 + 1) v79)
set_option maxRecDepth 100000 in
set_option maxHeartbeats 4000000 in
theorem tX10_standard_58 {l : Launch} {D : va_G} {cy : Nat → ClassId} {C : Cx} {res : Int64 × Mem} (X : Fx C cX10_standard RX10 (some .long) rmX10_standard 6) (hcd : CD C l D cy) (Qr : RJ C 0 0 res) {K126 : Nat → Mem → Option (Int64 × Mem)} (hK126 : ∀ (x0 : Nat) (F : Mem), K126 x0 F = some res → Wp C 0 0 126 [(0, .ref x0)] [] F) : ∀ (n : Nat) (x0 : Nat) (x1 : Int32) (x2 : Int32) (F : Mem), fX10_standard_58 K126 n x0 x1 x2 F = some res → Wp C 0 0 58 [(0, .ref x0), (1, .int x1), (2, .int x2)] [] F := by
  intro n
  induction n with
  | zero =>
    intro x0 x1 x2 F h
    rw [fX10_standard_58.eq_1] at h
    cases h
  | succ n ih =>
    intro x0 x1 x2 F h
    rw [fX10_standard_58.eq_2] at h
    refine wp_iload_n X dX10_standard_58 2 rfl ?_
    refine wp_bipush X (v := 8) dX10_standard_59 (by decide) ?_
    refine wp_icmp_ge X (tgt := 126) dX10_standard_61 (by decide) h (fun h => ?_) (fun h => ?_)
    · refine wp_sub (lv' := [(0, .ref x0)]) [0] rfl ?_
      exact hK126 _ _ h
    · refine wp_aload_n X dX10_standard_64 0 rfl ?_
      refine wp_iload_n X dX10_standard_65 1 rfl ?_
      refine wp_iload_n X dX10_standard_66 2 rfl ?_
      refine wp_callVI X (rm := rmX10_rowOf) (T := TX10) (N := 20) (ci := 9) (n := 2) [.int x1, .int x2] hcd (fun q hq => cX10_rowOf_ok hq) kw889 kw891 ks19 kw10 kw892 (by decide +kernel) (by decide) (by decide) (cs2 := 0) (sl2 := 0) rfl rfl rfl (by decide) rfl rfl (Nat.le_of_ble_eq_true rfl) dX10_standard_67 h (fun v67 h => ?_)
      refine wp_bipush X (v := 7) dX10_standard_70 (by decide) ?_
      refine wp_iadd X dX10_standard_72 ?_
      refine wp_iload_n X dX10_standard_73 2 rfl ?_
      refine wp_isub X dX10_standard_74 ?_
      refine wp_istore_n X (lv' := [(0, .ref x0), (1, .int x1), (2, .int x2), (3, .int ((v67.1 + 7) - x2))]) dX10_standard_75 (by decide) [1, 2, 3, 0] rfl ?_
      refine wp_aload_n X dX10_standard_76 0 rfl ?_
      refine wp_iload_n X dX10_standard_77 3 rfl ?_
      refine wp_iconst X (v := -1) dX10_standard_78 (by decide) ?_
      refine wp_callVV X (rm := rmX10_factorial) (T := TX10) (N := 20) (ci := 9) (n := 2) [.int ((v67.1 + 7) - x2), .int (-1)] hcd (fun q hq => cX10_factorial_ok hq) kw1037 kw1039 ks38 kw10 kw1040 (by decide +kernel) (by decide) (by decide) (cs2 := 0) (sl2 := 0) rfl rfl rfl (by decide) rfl rfl (Nat.le_of_ble_eq_true rfl) dX10_standard_79 h (fun v79 h => ?_)
      refine wp_iload_n X dX10_standard_82 2 rfl ?_
      refine wp_iconst X (v := 1) dX10_standard_83 (by decide) ?_
      refine wp_iadd X dX10_standard_84 ?_
      refine wp_istore X (lv' := [(0, .ref x0), (1, .int x1), (2, .int x2), (3, .int ((v67.1 + 7) - x2)), (4, .int (x2 + 1))]) dX10_standard_85 (by decide) [1, 2, 3, 4, 0] rfl ?_
      refine tX10_standard_87 X hcd Qr  ?_ FU _ _ _ _ _ _ h
      · intro x0 x1 x2 F h
        refine wp_iinc X (v := x2 + 1) (lv' := [(0, .ref x0), (1, .int x1), (2, .int (x2 + 1))]) dX10_standard_120 (by decide) 2 rfl rfl [1, 2, 0] rfl ?_
        refine wp_goto X (tgt := 58) dX10_standard_123 (by decide) ?_
        exact ih _ _ _ _ h
def fX10_standard_141 (K165 : Nat → Int64 → Int32 → Mem → Option (Int64 × Mem)) : Nat → Nat → Int64 → Int32 → Int32 → Mem → Option (Int64 × Mem)
  | 0, _, _, _, _, _ => none
  | n + 1, x0, x2, x4, x5, F => (gfR F x0 9 19).bind fun v144 => (rdI F 0 v144 x4).bind fun v149 => if v149 ≤ x5 then (K165 x0 x2 x4 F) else ((fX10_standard_141  K165 n) x0 (x2 * (Int32.toInt64 x4)) x4 (x5 + 1) F)
set_option maxRecDepth 100000 in
set_option maxHeartbeats 4000000 in
theorem tX10_standard_141 {l : Launch} {D : va_G} {cy : Nat → ClassId} {C : Cx} {res : Int64 × Mem} (X : Fx C cX10_standard RX10 (some .long) rmX10_standard 6) (hcd : CD C l D cy) (Qr : RJ C 0 0 res) {K165 : Nat → Int64 → Int32 → Mem → Option (Int64 × Mem)} (hK165 : ∀ (x0 : Nat) (x2 : Int64) (x4 : Int32) (F : Mem), K165 x0 x2 x4 F = some res → Wp C 0 0 165 [(0, .ref x0), (2, .long x2), (4, .int x4)] [] F) : ∀ (n : Nat) (x0 : Nat) (x2 : Int64) (x4 : Int32) (x5 : Int32) (F : Mem), fX10_standard_141 K165 n x0 x2 x4 x5 F = some res → Wp C 0 0 141 [(0, .ref x0), (2, .long x2), (4, .int x4), (5, .int x5)] [] F := by
  intro n
  induction n with
  | zero =>
    intro x0 x2 x4 x5 F h
    rw [fX10_standard_141.eq_1] at h
    cases h
  | succ n ih =>
    intro x0 x2 x4 x5 F h
    rw [fX10_standard_141.eq_2] at h
    refine wp_iload X dX10_standard_141 3 rfl ?_
    refine wp_aload_n X dX10_standard_143 0 rfl ?_
    refine wp_getR X (T := TX10) (N := 20) (ci := 9) (k := 19) rfl (by decide) (by decide) inBX10 kw831 dX10_standard_144 h (fun v144 h => ?_)
    refine wp_iload X dX10_standard_147 2 rfl ?_
    refine wp_iaload X dX10_standard_149 h (fun v149 h => ?_)
    refine wp_icmp_ge X (tgt := 165) dX10_standard_150 (by decide) h (fun h => ?_) (fun h => ?_)
    · refine wp_sub (lv' := [(0, .ref x0), (2, .long x2), (4, .int x4)]) [0, 1, 2] rfl ?_
      exact hK165 _ _ _ _ h
    · refine wp_lload_n X dX10_standard_153 1 rfl ?_
      refine wp_iload X dX10_standard_154 2 rfl ?_
      refine wp_i2l X dX10_standard_156 ?_
      refine wp_lmul X dX10_standard_157 ?_
      refine wp_lstore_n X (lv' := [(0, .ref x0), (2, .long (x2 * (Int32.toInt64 x4))), (4, .int x4), (5, .int x5)]) dX10_standard_158 (by decide) [1, 0, 2, 3] rfl ?_
      refine wp_iinc X (v := x5 + 1) (lv' := [(0, .ref x0), (2, .long (x2 * (Int32.toInt64 x4))), (4, .int x4), (5, .int (x5 + 1))]) dX10_standard_159 (by decide) 3 rfl rfl [1, 2, 3, 0] rfl ?_
      refine wp_goto X (tgt := 141) dX10_standard_162 (by decide) ?_
      exact ih _ _ _ _ _ h
def fX10_standard_131  : Nat → Nat → Int64 → Int32 → Mem → Option (Int64 × Mem)
  | 0, _, _, _, _ => none
  | n + 1, x0, x2, x4, F => if 40 ≤ x4 then (some (x2, F)) else (fX10_standard_141  (fun (x0 : Nat) (x2 : Int64) (x4 : Int32) (F : Mem) => (fX10_standard_131   n) x0 x2 (x4 + 1) F) FU x0 x2 x4 0 F)
set_option maxRecDepth 100000 in
set_option maxHeartbeats 4000000 in
theorem tX10_standard_131 {l : Launch} {D : va_G} {cy : Nat → ClassId} {C : Cx} {res : Int64 × Mem} (X : Fx C cX10_standard RX10 (some .long) rmX10_standard 6) (hcd : CD C l D cy) (Qr : RJ C 0 0 res)   : ∀ (n : Nat) (x0 : Nat) (x2 : Int64) (x4 : Int32) (F : Mem), fX10_standard_131  n x0 x2 x4 F = some res → Wp C 0 0 131 [(0, .ref x0), (2, .long x2), (4, .int x4)] [] F := by
  intro n
  induction n with
  | zero =>
    intro x0 x2 x4 F h
    rw [fX10_standard_131.eq_1] at h
    cases h
  | succ n ih =>
    intro x0 x2 x4 F h
    rw [fX10_standard_131.eq_2] at h
    refine wp_iload X dX10_standard_131 2 rfl ?_
    refine wp_bipush X (v := 40) dX10_standard_133 (by decide) ?_
    refine wp_icmp_ge X (tgt := 171) dX10_standard_135 (by decide) h (fun h => ?_) (fun h => ?_)
    · refine wp_lload_n X dX10_standard_171 1 rfl ?_
      exact wp_lreturn X Qr rfl dX10_standard_172 h
    · refine wp_iconst X (v := 0) dX10_standard_138 (by decide) ?_
      refine wp_istore X (lv' := [(0, .ref x0), (2, .long x2), (4, .int x4), (5, .int 0)]) dX10_standard_139 (by decide) [1, 2, 3, 0] rfl ?_
      refine tX10_standard_141 X hcd Qr  ?_ FU _ _ _ _ _ h
      · intro x0 x2 x4 F h
        refine wp_iinc X (v := x4 + 1) (lv' := [(0, .ref x0), (2, .long x2), (4, .int (x4 + 1))]) dX10_standard_165 (by decide) 2 rfl rfl [1, 2, 0] rfl ?_
        refine wp_goto X (tgt := 131) dX10_standard_168 (by decide) ?_
        exact ih _ _ _ _ h
def fX10_standard_13  (x0 : Nat) (x1 : Int32) (s0 : Nat) (s1 : Int32) (F : Mem) : Option (Int64 × Mem) := (pf F s0 9 0 (.int s1)).bind fun F13 => (gfI F13 x0 9 0).bind fun v17 => if v17 ≤ 0 then (fX10_standard_27  (fun (x0 : Nat) (x1 : Int32) (F : Mem) => (obj F x0 9).bind fun _ => (mX10_boxesOf F x0 x1).bind fun v49 => (obj v49.2 x0 9).bind fun _ => (mX10_factorial v49.2 x0 v49.1 1).bind fun v53 => fX10_standard_58  (fun (x0 : Nat) (F : Mem) => fX10_standard_131   FU x0 1 2 F) FU x0 x1 0 v53) FU x0 x1 0 F13) else (some (0, F13))
set_option maxRecDepth 100000 in
set_option maxHeartbeats 4000000 in
theorem tX10_standard_13 {l : Launch} {D : va_G} {cy : Nat → ClassId} {C : Cx} {res : Int64 × Mem} (X : Fx C cX10_standard RX10 (some .long) rmX10_standard 6) (hcd : CD C l D cy) (Qr : RJ C 0 0 res)   (x0 : Nat) (x1 : Int32) (s0 : Nat) (s1 : Int32) (F : Mem) (h : fX10_standard_13  x0 x1 s0 s1 F = some res) : Wp C 0 0 13 [(0, .ref x0), (1, .int x1)] [.int s1, .ref s0] F := by
  unfold fX10_standard_13 at h
  refine wp_put X (T := TX10) (N := 20) (ci := 9) (k := 0) tyX10 rfl (by decide) (by decide) inBX10 kw812 tyX10_ok nmX10 rfl rfl (vp_nar_int _) rfl dX10_standard_13 h (fun F13 h => ?_)
  refine wp_aload_n X dX10_standard_16 0 rfl ?_
  refine wp_getI X (T := TX10) (N := 20) (ci := 9) (k := 0) rfl (by decide) (by decide) inBX10 kw812 dX10_standard_17 h (fun v17 h => ?_)
  refine wp_if_le X (tgt := 25) dX10_standard_20 (by decide) h (fun h => ?_) (fun h => ?_)
  · refine wp_iconst X (v := 0) dX10_standard_25 (by decide) ?_
    refine wp_istore_n X (lv' := [(0, .ref x0), (1, .int x1), (2, .int 0)]) dX10_standard_26 (by decide) [1, 2, 0] rfl ?_
    refine tX10_standard_27 X hcd Qr  ?_ FU _ _ _ _ h
    · intro x0 x1 F h
      refine wp_aload_n X dX10_standard_46 0 rfl ?_
      refine wp_aload_n X dX10_standard_47 0 rfl ?_
      refine wp_iload_n X dX10_standard_48 1 rfl ?_
      refine wp_callVI X (rm := rmX10_boxesOf) (T := TX10) (N := 20) (ci := 9) (n := 1) [.int x1] hcd (fun q hq => cX10_boxesOf_ok hq) kw901 kw903 ks20 kw10 kw904 (by decide +kernel) (by decide) (by decide) (cs2 := 0) (sl2 := 0) rfl rfl rfl (by decide) rfl rfl (Nat.le_of_ble_eq_true rfl) dX10_standard_49 h (fun v49 h => ?_)
      refine wp_iconst X (v := 1) dX10_standard_52 (by decide) ?_
      refine wp_callVV X (rm := rmX10_factorial) (T := TX10) (N := 20) (ci := 9) (n := 2) [.int v49.1, .int 1] hcd (fun q hq => cX10_factorial_ok hq) kw1037 kw1039 ks38 kw10 kw1040 (by decide +kernel) (by decide) (by decide) (cs2 := 0) (sl2 := 0) rfl rfl rfl (by decide) rfl rfl (Nat.le_of_ble_eq_true rfl) dX10_standard_53 h (fun v53 h => ?_)
      refine wp_iconst X (v := 0) dX10_standard_56 (by decide) ?_
      refine wp_istore_n X (lv' := [(0, .ref x0), (1, .int x1), (2, .int 0)]) dX10_standard_57 (by decide) [1, 2, 0] rfl ?_
      refine tX10_standard_58 X hcd Qr  ?_ FU _ _ _ _ h
      · intro x0 F h
        refine wp_lconst X (v := 1) dX10_standard_126 (by decide) ?_
        refine wp_lstore_n X (lv' := [(0, .ref x0), (2, .long 1)]) dX10_standard_127 (by decide) [1, 0] rfl ?_
        refine wp_iconst X (v := 2) dX10_standard_128 (by decide) ?_
        refine wp_istore X (lv' := [(0, .ref x0), (2, .long 1), (4, .int 2)]) dX10_standard_129 (by decide) [1, 2, 0] rfl ?_
        refine tX10_standard_131 X hcd Qr   FU _ _ _ _ h
  · refine wp_lconst X (v := 0) dX10_standard_23 (by decide) ?_
    exact wp_lreturn X Qr rfl dX10_standard_24 h
def mX10_standard (F : Mem) (x0 : Nat) (x1 : Int32) : Option (Int64 × Mem) := (mX10_isSlot F x1).bind fun v2 => if v2.1 = 0 then (fX10_standard_13   x0 x1 x0 1 v2.2) else (fX10_standard_13   x0 x1 x0 0 v2.2)
set_option maxRecDepth 100000 in
set_option maxHeartbeats 4000000 in
theorem cX10_standard_ok {l : Launch} {D : va_G} {cy : Nat → ClassId} {F : Mem} {x0 : Nat} {x1 : Int32} {res : Int64 × Mem} (h : mX10_standard F x0 x1 = some res) : ML l yX10_standard cX10_standard 6 (some .long) rmX10_standard D cy F [.ref x0, .int x1] res := by
  refine ml_of (by decide) (Nat.le_of_ble_eq_true rfl) [(0, .ref x0), (1, .int x1)] rfl (fun C X hcd Qr => ?_)
  unfold mX10_standard at h
  refine wp_aload_n X dX10_standard_0 0 rfl ?_
  refine wp_iload_n X dX10_standard_1 1 rfl ?_
  refine wp_callSI X (rm := rmX10_isSlot) (n := 1) [.int x1] hcd (fun q hq => cX10_isSlot_ok hq) kw881 kw882 kw10 kw883 (by decide +kernel) (by decide) (by decide) (cs2 := 0) (sl2 := 0) rfl rfl rfl rfl (Nat.le_of_ble_eq_true rfl) dX10_standard_2 h (fun v2 h => ?_)
  refine wp_if_eq X (tgt := 12) dX10_standard_5 (by decide) h (fun h => ?_) (fun h => ?_)
  · refine wp_iconst X (v := 1) dX10_standard_12 (by decide) ?_
    exact tX10_standard_13 X hcd Qr   _ _ _ _ _ h
  · refine wp_iconst X (v := 0) dX10_standard_8 (by decide) ?_
    refine wp_goto X (tgt := 13) dX10_standard_9 (by decide) ?_
    exact tX10_standard_13 X hcd Qr   _ _ _ _ _ h
/-! TableauBenchModel.note(JJ)V -/
def rmX10_note : Room := { frames := 0, cells := 0, slots := 0, locals := 0 }
def fX10_note_3 (K30 : Nat → Int64 → Int64 → Int32 → Mem → Option (Mem)) : Nat → Nat → Int64 → Int64 → Int32 → Mem → Option (Mem)
  | 0, _, _, _, _, _ => none
  | n + 1, x0, x1, x3, x5, F => (gfI F x0 9 13).bind fun v6 => if v6 ≤ x5 then (K30 x0 x1 x3 x5 F) else ((gfR F x0 9 14).bind fun v13 => (rdJ F v13 x5).bind fun v18 => if (lg_cmp v18 x1) = 0 then (K30 x0 x1 x3 x5 F) else ((fX10_note_3  K30 n) x0 x1 x3 (x5 + 1) F))
set_option maxRecDepth 100000 in
set_option maxHeartbeats 4000000 in
theorem tX10_note_3 {l : Launch} {D : va_G} {cy : Nat → ClassId} {C : Cx} {res : Mem} (X : Fx C cX10_note RX10 none rmX10_note 6) (hcd : CD C l D cy) (Qr : RV C 0 0 res) {K30 : Nat → Int64 → Int64 → Int32 → Mem → Option (Mem)} (hK30 : ∀ (x0 : Nat) (x1 : Int64) (x3 : Int64) (x5 : Int32) (F : Mem), K30 x0 x1 x3 x5 F = some res → Wp C 0 0 30 [(0, .ref x0), (1, .long x1), (3, .long x3), (5, .int x5)] [] F) : ∀ (n : Nat) (x0 : Nat) (x1 : Int64) (x3 : Int64) (x5 : Int32) (F : Mem), fX10_note_3 K30 n x0 x1 x3 x5 F = some res → Wp C 0 0 3 [(0, .ref x0), (1, .long x1), (3, .long x3), (5, .int x5)] [] F := by
  intro n
  induction n with
  | zero =>
    intro x0 x1 x3 x5 F h
    rw [fX10_note_3.eq_1] at h
    cases h
  | succ n ih =>
    intro x0 x1 x3 x5 F h
    rw [fX10_note_3.eq_2] at h
    refine wp_iload X dX10_note_3 3 rfl ?_
    refine wp_aload_n X dX10_note_5 0 rfl ?_
    refine wp_getI X (T := TX10) (N := 20) (ci := 9) (k := 13) rfl (by decide) (by decide) inBX10 kw825 dX10_note_6 h (fun v6 h => ?_)
    refine wp_icmp_ge X (tgt := 30) dX10_note_9 (by decide) h (fun h => ?_) (fun h => ?_)
    · exact hK30 _ _ _ _ _ h
    · refine wp_aload_n X dX10_note_12 0 rfl ?_
      refine wp_getR X (T := TX10) (N := 20) (ci := 9) (k := 14) rfl (by decide) (by decide) inBX10 kw826 dX10_note_13 h (fun v13 h => ?_)
      refine wp_iload X dX10_note_16 3 rfl ?_
      refine wp_laload X dX10_note_18 h (fun v18 h => ?_)
      refine wp_lload_n X dX10_note_19 1 rfl ?_
      refine wp_lcmp X dX10_note_20 ?_
      refine wp_if_eq X (tgt := 30) dX10_note_21 (by decide) h (fun h => ?_) (fun h => ?_)
      · exact hK30 _ _ _ _ _ h
      · refine wp_iinc X (v := x5 + 1) (lv' := [(0, .ref x0), (1, .long x1), (3, .long x3), (5, .int (x5 + 1))]) dX10_note_24 (by decide) 3 rfl rfl [1, 2, 3, 0] rfl ?_
        refine wp_goto X (tgt := 3) dX10_note_27 (by decide) ?_
        exact ih _ _ _ _ _ h
def fX10_note_65  (x0 : Nat) (x3 : Int64) (x5 : Int32) (F : Mem) : Option (Mem) := (gfR F x0 9 15).bind fun v66 => (gfR F x0 9 15).bind fun v72 => (rdJ F v72 x5).bind fun v77 => (wrJ F v66 x5 (v77 + x3)).bind fun F80 => some F80
set_option maxRecDepth 100000 in
set_option maxHeartbeats 4000000 in
theorem tX10_note_65 {l : Launch} {D : va_G} {cy : Nat → ClassId} {C : Cx} {res : Mem} (X : Fx C cX10_note RX10 none rmX10_note 6) (hcd : CD C l D cy) (Qr : RV C 0 0 res)   (x0 : Nat) (x3 : Int64) (x5 : Int32) (F : Mem) (h : fX10_note_65  x0 x3 x5 F = some res) : Wp C 0 0 65 [(0, .ref x0), (3, .long x3), (5, .int x5)] [] F := by
  unfold fX10_note_65 at h
  refine wp_aload_n X dX10_note_65 0 rfl ?_
  refine wp_getR X (T := TX10) (N := 20) (ci := 9) (k := 15) rfl (by decide) (by decide) inBX10 kw827 dX10_note_66 h (fun v66 h => ?_)
  refine wp_iload X dX10_note_69 2 rfl ?_
  refine wp_aload_n X dX10_note_71 0 rfl ?_
  refine wp_getR X (T := TX10) (N := 20) (ci := 9) (k := 15) rfl (by decide) (by decide) inBX10 kw827 dX10_note_72 h (fun v72 h => ?_)
  refine wp_iload X dX10_note_75 2 rfl ?_
  refine wp_laload X dX10_note_77 h (fun v77 h => ?_)
  refine wp_lload_n X dX10_note_78 1 rfl ?_
  refine wp_ladd X dX10_note_79 ?_
  refine wp_lastore X dX10_note_80 h (fun F80 h => ?_)
  exact wp_return X Qr rfl dX10_note_81 h
def fX10_note_30  (x0 : Nat) (x1 : Int64) (x3 : Int64) (x5 : Int32) (F : Mem) : Option (Mem) := (gfI F x0 9 13).bind fun v33 => if x5 = v33 then ((gfR F x0 9 14).bind fun v40 => (wrJ F v40 x5 x1).bind fun F46 => (gfR F46 x0 9 15).bind fun v48 => (wrJ F46 v48 x5 0).bind fun F54 => (gfI F54 x0 9 13).bind fun v57 => (pf F54 x0 9 13 (.int (v57 + 1))).bind fun F62 => fX10_note_65   x0 x3 x5 F62) else (fX10_note_65   x0 x3 x5 F)
set_option maxRecDepth 100000 in
set_option maxHeartbeats 4000000 in
theorem tX10_note_30 {l : Launch} {D : va_G} {cy : Nat → ClassId} {C : Cx} {res : Mem} (X : Fx C cX10_note RX10 none rmX10_note 6) (hcd : CD C l D cy) (Qr : RV C 0 0 res)   (x0 : Nat) (x1 : Int64) (x3 : Int64) (x5 : Int32) (F : Mem) (h : fX10_note_30  x0 x1 x3 x5 F = some res) : Wp C 0 0 30 [(0, .ref x0), (1, .long x1), (3, .long x3), (5, .int x5)] [] F := by
  unfold fX10_note_30 at h
  refine wp_iload X dX10_note_30 3 rfl ?_
  refine wp_aload_n X dX10_note_32 0 rfl ?_
  refine wp_getI X (T := TX10) (N := 20) (ci := 9) (k := 13) rfl (by decide) (by decide) inBX10 kw825 dX10_note_33 h (fun v33 h => ?_)
  refine wp_icmp_ne X (tgt := 65) dX10_note_36 (by decide) h (fun h => ?_) (fun h => ?_)
  · refine wp_sub (lv' := [(0, .ref x0), (3, .long x3), (5, .int x5)]) [0, 2, 3] rfl ?_
    exact tX10_note_65 X hcd Qr   _ _ _ _ h
  · refine wp_aload_n X dX10_note_39 0 rfl ?_
    refine wp_getR X (T := TX10) (N := 20) (ci := 9) (k := 14) rfl (by decide) (by decide) inBX10 kw826 dX10_note_40 h (fun v40 h => ?_)
    refine wp_iload X dX10_note_43 3 rfl ?_
    refine wp_lload_n X dX10_note_45 1 rfl ?_
    refine wp_lastore X dX10_note_46 h (fun F46 h => ?_)
    refine wp_aload_n X dX10_note_47 0 rfl ?_
    refine wp_getR X (T := TX10) (N := 20) (ci := 9) (k := 15) rfl (by decide) (by decide) inBX10 kw827 dX10_note_48 h (fun v48 h => ?_)
    refine wp_iload X dX10_note_51 3 rfl ?_
    refine wp_lconst X (v := 0) dX10_note_53 (by decide) ?_
    refine wp_lastore X dX10_note_54 h (fun F54 h => ?_)
    refine wp_aload_n X dX10_note_55 0 rfl ?_
    refine wp_dup X dX10_note_56 rfl ?_
    refine wp_getI X (T := TX10) (N := 20) (ci := 9) (k := 13) rfl (by decide) (by decide) inBX10 kw825 dX10_note_57 h (fun v57 h => ?_)
    refine wp_iconst X (v := 1) dX10_note_60 (by decide) ?_
    refine wp_iadd X dX10_note_61 ?_
    refine wp_put X (T := TX10) (N := 20) (ci := 9) (k := 13) tyX10 rfl (by decide) (by decide) inBX10 kw825 tyX10_ok nmX10 rfl rfl (vp_nar_int _) rfl dX10_note_62 h (fun F62 h => ?_)
    refine wp_sub (lv' := [(0, .ref x0), (3, .long x3), (5, .int x5)]) [0, 2, 3] rfl ?_
    exact tX10_note_65 X hcd Qr   _ _ _ _ h
def mX10_note (F : Mem) (x0 : Nat) (x1 : Int64) (x3 : Int64) : Option (Mem) := fX10_note_3  (fun (x0 : Nat) (x1 : Int64) (x3 : Int64) (x5 : Int32) (F : Mem) => fX10_note_30   x0 x1 x3 x5 F) FU x0 x1 x3 0 F
set_option maxRecDepth 100000 in
set_option maxHeartbeats 4000000 in
theorem cX10_note_ok {l : Launch} {D : va_G} {cy : Nat → ClassId} {F : Mem} {x0 : Nat} {x1 : Int64} {x3 : Int64} {res : Mem} (h : mX10_note F x0 x1 x3 = some res) : MV l yX10_note cX10_note 6 none rmX10_note D cy F [.ref x0, .long x1, .long x3] res := by
  refine mv_of (by decide) (Nat.le_of_ble_eq_true rfl) [(0, .ref x0), (1, .long x1), (3, .long x3)] rfl (fun C X hcd Qr => ?_)
  unfold mX10_note at h
  refine wp_iconst X (v := 0) dX10_note_0 (by decide) ?_
  refine wp_istore X (lv' := [(0, .ref x0), (1, .long x1), (3, .long x3), (5, .int 0)]) dX10_note_1 (by decide) [1, 2, 3, 0] rfl ?_
  refine tX10_note_3 X hcd Qr  ?_ FU _ _ _ _ _ h
  · intro x0 x1 x3 x5 F h
    exact tX10_note_30 X hcd Qr   _ _ _ _ _ h
/-! TableauBenchModel.turnOver()V -/
def rmX10_turnOver : Room := { frames := 0, cells := 0, slots := 0, locals := 0 }
def fX10_turnOver_10 (K48 : Nat → Mem → Option (Mem)) : Nat → Nat → Int32 → Mem → Option (Mem)
  | 0, _, _, _ => none
  | n + 1, x0, x1, F => (gfI F x0 9 13).bind fun v12 => if v12 ≤ x1 then (K48 x0 F) else ((gfR F x0 9 17).bind fun v19 => (gfR F x0 9 14).bind fun v24 => (rdJ F v24 x1).bind fun v28 => (wrJ F v19 x1 v28).bind fun F29 => (gfR F29 x0 9 18).bind fun v31 => (gfR F29 x0 9 15).bind fun v36 => (rdJ F29 v36 x1).bind fun v40 => (wrJ F29 v31 x1 v40).bind fun F41 => (fX10_turnOver_10  K48 n) x0 (x1 + 1) F41)
set_option maxRecDepth 100000 in
set_option maxHeartbeats 4000000 in
theorem tX10_turnOver_10 {l : Launch} {D : va_G} {cy : Nat → ClassId} {C : Cx} {res : Mem} (X : Fx C cX10_turnOver RX10 none rmX10_turnOver 2) (hcd : CD C l D cy) (Qr : RV C 0 0 res) {K48 : Nat → Mem → Option (Mem)} (hK48 : ∀ (x0 : Nat) (F : Mem), K48 x0 F = some res → Wp C 0 0 48 [(0, .ref x0)] [] F) : ∀ (n : Nat) (x0 : Nat) (x1 : Int32) (F : Mem), fX10_turnOver_10 K48 n x0 x1 F = some res → Wp C 0 0 10 [(0, .ref x0), (1, .int x1)] [] F := by
  intro n
  induction n with
  | zero =>
    intro x0 x1 F h
    rw [fX10_turnOver_10.eq_1] at h
    cases h
  | succ n ih =>
    intro x0 x1 F h
    rw [fX10_turnOver_10.eq_2] at h
    refine wp_iload_n X dX10_turnOver_10 1 rfl ?_
    refine wp_aload_n X dX10_turnOver_11 0 rfl ?_
    refine wp_getI X (T := TX10) (N := 20) (ci := 9) (k := 13) rfl (by decide) (by decide) inBX10 kw825 dX10_turnOver_12 h (fun v12 h => ?_)
    refine wp_icmp_ge X (tgt := 48) dX10_turnOver_15 (by decide) h (fun h => ?_) (fun h => ?_)
    · refine wp_sub (lv' := [(0, .ref x0)]) [0] rfl ?_
      exact hK48 _ _ h
    · refine wp_aload_n X dX10_turnOver_18 0 rfl ?_
      refine wp_getR X (T := TX10) (N := 20) (ci := 9) (k := 17) rfl (by decide) (by decide) inBX10 kw829 dX10_turnOver_19 h (fun v19 h => ?_)
      refine wp_iload_n X dX10_turnOver_22 1 rfl ?_
      refine wp_aload_n X dX10_turnOver_23 0 rfl ?_
      refine wp_getR X (T := TX10) (N := 20) (ci := 9) (k := 14) rfl (by decide) (by decide) inBX10 kw826 dX10_turnOver_24 h (fun v24 h => ?_)
      refine wp_iload_n X dX10_turnOver_27 1 rfl ?_
      refine wp_laload X dX10_turnOver_28 h (fun v28 h => ?_)
      refine wp_lastore X dX10_turnOver_29 h (fun F29 h => ?_)
      refine wp_aload_n X dX10_turnOver_30 0 rfl ?_
      refine wp_getR X (T := TX10) (N := 20) (ci := 9) (k := 18) rfl (by decide) (by decide) inBX10 kw830 dX10_turnOver_31 h (fun v31 h => ?_)
      refine wp_iload_n X dX10_turnOver_34 1 rfl ?_
      refine wp_aload_n X dX10_turnOver_35 0 rfl ?_
      refine wp_getR X (T := TX10) (N := 20) (ci := 9) (k := 15) rfl (by decide) (by decide) inBX10 kw827 dX10_turnOver_36 h (fun v36 h => ?_)
      refine wp_iload_n X dX10_turnOver_39 1 rfl ?_
      refine wp_laload X dX10_turnOver_40 h (fun v40 h => ?_)
      refine wp_lastore X dX10_turnOver_41 h (fun F41 h => ?_)
      refine wp_iinc X (v := x1 + 1) (lv' := [(0, .ref x0), (1, .int (x1 + 1))]) dX10_turnOver_42 (by decide) 1 rfl rfl [1, 0] rfl ?_
      refine wp_goto X (tgt := 10) dX10_turnOver_45 (by decide) ?_
      exact ih _ _ _ h
def mX10_turnOver (F : Mem) (x0 : Nat) : Option (Mem) := (gfI F x0 9 13).bind fun v2 => (pf F x0 9 16 (.int v2)).bind fun F5 => fX10_turnOver_10  (fun (x0 : Nat) (F : Mem) => (pf F x0 9 13 (.int 0)).bind fun F50 => some F50) FU x0 0 F5
set_option maxRecDepth 100000 in
set_option maxHeartbeats 4000000 in
theorem cX10_turnOver_ok {l : Launch} {D : va_G} {cy : Nat → ClassId} {F : Mem} {x0 : Nat} {res : Mem} (h : mX10_turnOver F x0 = some res) : MV l yX10_turnOver cX10_turnOver 2 none rmX10_turnOver D cy F [.ref x0] res := by
  refine mv_of (by decide) (Nat.le_of_ble_eq_true rfl) [(0, .ref x0)] rfl (fun C X hcd Qr => ?_)
  unfold mX10_turnOver at h
  refine wp_aload_n X dX10_turnOver_0 0 rfl ?_
  refine wp_aload_n X dX10_turnOver_1 0 rfl ?_
  refine wp_getI X (T := TX10) (N := 20) (ci := 9) (k := 13) rfl (by decide) (by decide) inBX10 kw825 dX10_turnOver_2 h (fun v2 h => ?_)
  refine wp_put X (T := TX10) (N := 20) (ci := 9) (k := 16) tyX10 rfl (by decide) (by decide) inBX10 kw828 tyX10_ok nmX10 rfl rfl (vp_nar_int _) rfl dX10_turnOver_5 h (fun F5 h => ?_)
  refine wp_iconst X (v := 0) dX10_turnOver_8 (by decide) ?_
  refine wp_istore_n X (lv' := [(0, .ref x0), (1, .int 0)]) dX10_turnOver_9 (by decide) [1, 0] rfl ?_
  refine tX10_turnOver_10 X hcd Qr  ?_ FU _ _ _ h
  · intro x0 F h
    refine wp_aload_n X dX10_turnOver_48 0 rfl ?_
    refine wp_iconst X (v := 0) dX10_turnOver_49 (by decide) ?_
    refine wp_put X (T := TX10) (N := 20) (ci := 9) (k := 13) tyX10 rfl (by decide) (by decide) inBX10 kw825 tyX10_ok nmX10 rfl rfl (vp_nar_int _) rfl dX10_turnOver_50 h (fun F50 h => ?_)
    exact wp_return X Qr rfl dX10_turnOver_53 h
/-! TableauBenchModel.part(JI)I -/
def rmX10_part : Room := { frames := 0, cells := 0, slots := 0, locals := 0 }
def mX10_part (F : Mem) (x0 : Int64) (x2 : Int32) : Option (Int32 × Mem) := some ((Int64.toInt32 ((x0 >>> (Int32.toInt64 (5 * x2) &&& 63)) &&& 31)), F)
set_option maxRecDepth 100000 in
set_option maxHeartbeats 4000000 in
theorem cX10_part_ok {l : Launch} {D : va_G} {cy : Nat → ClassId} {F : Mem} {x0 : Int64} {x2 : Int32} {res : Int32 × Mem} (h : mX10_part F x0 x2 = some res) : MI l yX10_part cX10_part 3 (some .int) rmX10_part D cy F [.long x0, .int x2] res := by
  refine mi_of (by decide) (Nat.le_of_ble_eq_true rfl) [(0, .long x0), (2, .int x2)] rfl (fun C X hcd Qr => ?_)
  unfold mX10_part at h
  refine wp_lload_n X dX10_part_0 0 rfl ?_
  refine wp_iconst X (v := 5) dX10_part_1 (by decide) ?_
  refine wp_iload_n X dX10_part_2 1 rfl ?_
  refine wp_imul X dX10_part_3 ?_
  refine wp_lshr X dX10_part_4 ?_
  refine wp_ldc2 X dX10_part_5 (v := 31) kw1064 ?_
  refine wp_land X dX10_part_8 ?_
  refine wp_l2i X dX10_part_9 ?_
  exact wp_ireturn X Qr rfl (vp_nar_int _) dX10_part_10 h
/-! TableauBenchModel.strip(JIJ)V -/
def rmX10_strip : Room := { frames := 1, cells := 0, slots := 0, locals := 25 }
def fX10_strip_3 (K24 : Nat → Int64 → Int32 → Int64 → Mem → Option (Mem)) : Nat → Nat → Int64 → Int32 → Int64 → Int32 → Mem → Option (Mem)
  | 0, _, _, _, _, _, _ => none
  | n + 1, x0, x1, x3, x4, x6, F => if 9 ≤ x6 then (K24 x0 x1 x3 x4 F) else ((gfR F x0 9 9).bind fun v11 => (wrI F v11 x6 0).bind fun F17 => (fX10_strip_3  K24 n) x0 x1 x3 x4 (x6 + 1) F17)
set_option maxRecDepth 100000 in
set_option maxHeartbeats 4000000 in
theorem tX10_strip_3 {l : Launch} {D : va_G} {cy : Nat → ClassId} {C : Cx} {res : Mem} (X : Fx C cX10_strip RX10 none rmX10_strip 11) (hcd : CD C l D cy) (Qr : RV C 0 0 res) {K24 : Nat → Int64 → Int32 → Int64 → Mem → Option (Mem)} (hK24 : ∀ (x0 : Nat) (x1 : Int64) (x3 : Int32) (x4 : Int64) (F : Mem), K24 x0 x1 x3 x4 F = some res → Wp C 0 0 24 [(0, .ref x0), (1, .long x1), (3, .int x3), (4, .long x4)] [] F) : ∀ (n : Nat) (x0 : Nat) (x1 : Int64) (x3 : Int32) (x4 : Int64) (x6 : Int32) (F : Mem), fX10_strip_3 K24 n x0 x1 x3 x4 x6 F = some res → Wp C 0 0 3 [(0, .ref x0), (1, .long x1), (3, .int x3), (4, .long x4), (6, .int x6)] [] F := by
  intro n
  induction n with
  | zero =>
    intro x0 x1 x3 x4 x6 F h
    rw [fX10_strip_3.eq_1] at h
    cases h
  | succ n ih =>
    intro x0 x1 x3 x4 x6 F h
    rw [fX10_strip_3.eq_2] at h
    refine wp_iload X dX10_strip_3 4 rfl ?_
    refine wp_bipush X (v := 9) dX10_strip_5 (by decide) ?_
    refine wp_icmp_ge X (tgt := 24) dX10_strip_7 (by decide) h (fun h => ?_) (fun h => ?_)
    · refine wp_sub (lv' := [(0, .ref x0), (1, .long x1), (3, .int x3), (4, .long x4)]) [0, 1, 2, 3] rfl ?_
      exact hK24 _ _ _ _ _ h
    · refine wp_aload_n X dX10_strip_10 0 rfl ?_
      refine wp_getR X (T := TX10) (N := 20) (ci := 9) (k := 9) rfl (by decide) (by decide) inBX10 kw821 dX10_strip_11 h (fun v11 h => ?_)
      refine wp_iload X dX10_strip_14 4 rfl ?_
      refine wp_iconst X (v := 0) dX10_strip_16 (by decide) ?_
      refine wp_iastore X dX10_strip_17 h (fun F17 h => ?_)
      refine wp_iinc X (v := x6 + 1) (lv' := [(0, .ref x0), (1, .long x1), (3, .int x3), (4, .long x4), (6, .int (x6 + 1))]) dX10_strip_18 (by decide) 4 rfl rfl [1, 2, 3, 4, 0] rfl ?_
      refine wp_goto X (tgt := 3) dX10_strip_21 (by decide) ?_
      exact ih _ _ _ _ _ _ h
def fX10_strip_42 (K87 : Nat → Int64 → Int32 → Int64 → Int32 → Int64 → Mem → Option (Mem)) : Nat → Nat → Int64 → Int32 → Int64 → Int32 → Int64 → Int32 → Mem → Option (Mem)
  | 0, _, _, _, _, _, _, _, _ => none
  | n + 1, x0, x1, x3, x4, x7, x8, x10, F => if x10 < 0 then (K87 x0 x1 x3 x4 x7 x8 F) else ((gfR F x0 9 9).bind fun v50 => (rdI F 0 v50 x10).bind fun v55 => (mX10_part F x1 x10).bind fun v66 => (gfR v66.2 x0 9 9).bind fun v70 => (rdI v66.2 0 v70 x10).bind fun v75 => (fX10_strip_42  K87 n) x0 x1 x3 x4 (x7 + v55) ((x8 <<< (Int32.toInt64 5 &&& 63)) ||| (Int32.toInt64 (v66.1 - v75))) (x10 + (-1)) v66.2)
set_option maxRecDepth 100000 in
set_option maxHeartbeats 4000000 in
theorem tX10_strip_42 {l : Launch} {D : va_G} {cy : Nat → ClassId} {C : Cx} {res : Mem} (X : Fx C cX10_strip RX10 none rmX10_strip 11) (hcd : CD C l D cy) (Qr : RV C 0 0 res) {K87 : Nat → Int64 → Int32 → Int64 → Int32 → Int64 → Mem → Option (Mem)} (hK87 : ∀ (x0 : Nat) (x1 : Int64) (x3 : Int32) (x4 : Int64) (x7 : Int32) (x8 : Int64) (F : Mem), K87 x0 x1 x3 x4 x7 x8 F = some res → Wp C 0 0 87 [(0, .ref x0), (1, .long x1), (3, .int x3), (4, .long x4), (7, .int x7), (8, .long x8)] [] F) : ∀ (n : Nat) (x0 : Nat) (x1 : Int64) (x3 : Int32) (x4 : Int64) (x7 : Int32) (x8 : Int64) (x10 : Int32) (F : Mem), fX10_strip_42 K87 n x0 x1 x3 x4 x7 x8 x10 F = some res → Wp C 0 0 42 [(0, .ref x0), (1, .long x1), (3, .int x3), (4, .long x4), (7, .int x7), (8, .long x8), (10, .int x10)] [] F := by
  intro n
  induction n with
  | zero =>
    intro x0 x1 x3 x4 x7 x8 x10 F h
    rw [fX10_strip_42.eq_1] at h
    cases h
  | succ n ih =>
    intro x0 x1 x3 x4 x7 x8 x10 F h
    rw [fX10_strip_42.eq_2] at h
    refine wp_iload X dX10_strip_42 6 rfl ?_
    refine wp_if_lt X (tgt := 87) dX10_strip_44 (by decide) h (fun h => ?_) (fun h => ?_)
    · refine wp_sub (lv' := [(0, .ref x0), (1, .long x1), (3, .int x3), (4, .long x4), (7, .int x7), (8, .long x8)]) [0, 1, 2, 3, 4, 5] rfl ?_
      exact hK87 _ _ _ _ _ _ _ h
    · refine wp_iload X dX10_strip_47 4 rfl ?_
      refine wp_aload_n X dX10_strip_49 0 rfl ?_
      refine wp_getR X (T := TX10) (N := 20) (ci := 9) (k := 9) rfl (by decide) (by decide) inBX10 kw821 dX10_strip_50 h (fun v50 h => ?_)
      refine wp_iload X dX10_strip_53 6 rfl ?_
      refine wp_iaload X dX10_strip_55 h (fun v55 h => ?_)
      refine wp_iadd X dX10_strip_56 ?_
      refine wp_istore X (lv' := [(0, .ref x0), (1, .long x1), (3, .int x3), (4, .long x4), (7, .int (x7 + v55)), (8, .long x8), (10, .int x10)]) dX10_strip_57 (by decide) [1, 2, 3, 4, 0, 5, 6] rfl ?_
      refine wp_lload X dX10_strip_59 5 rfl ?_
      refine wp_iconst X (v := 5) dX10_strip_61 (by decide) ?_
      refine wp_lshl X dX10_strip_62 ?_
      refine wp_lload_n X dX10_strip_63 1 rfl ?_
      refine wp_iload X dX10_strip_64 6 rfl ?_
      refine wp_callSI X (rm := rmX10_part) (n := 2) [.long x1, .int x10] hcd (fun q hq => cX10_part_ok hq) kw1061 kw1062 kw10 kw1063 (by decide +kernel) (by decide) (by decide) (cs2 := 0) (sl2 := 0) rfl rfl rfl rfl (Nat.le_of_ble_eq_true rfl) dX10_strip_66 h (fun v66 h => ?_)
      refine wp_aload_n X dX10_strip_69 0 rfl ?_
      refine wp_getR X (T := TX10) (N := 20) (ci := 9) (k := 9) rfl (by decide) (by decide) inBX10 kw821 dX10_strip_70 h (fun v70 h => ?_)
      refine wp_iload X dX10_strip_73 6 rfl ?_
      refine wp_iaload X dX10_strip_75 h (fun v75 h => ?_)
      refine wp_isub X dX10_strip_76 ?_
      refine wp_i2l X dX10_strip_77 ?_
      refine wp_lor X dX10_strip_78 ?_
      refine wp_lstore X (lv' := [(0, .ref x0), (1, .long x1), (3, .int x3), (4, .long x4), (7, .int (x7 + v55)), (8, .long ((x8 <<< (Int32.toInt64 5 &&& 63)) ||| (Int32.toInt64 (v66.1 - v75)))), (10, .int x10)]) dX10_strip_79 (by decide) [1, 2, 3, 4, 5, 0, 6] rfl ?_
      refine wp_iinc X (v := x10 + (-1)) (lv' := [(0, .ref x0), (1, .long x1), (3, .int x3), (4, .long x4), (7, .int (x7 + v55)), (8, .long ((x8 <<< (Int32.toInt64 5 &&& 63)) ||| (Int32.toInt64 (v66.1 - v75)))), (10, .int (x10 + (-1)))]) dX10_strip_81 (by decide) 6 rfl rfl [1, 2, 3, 4, 5, 6, 0] rfl ?_
      refine wp_goto X (tgt := 42) dX10_strip_84 (by decide) ?_
      exact ih _ _ _ _ _ _ _ _ h
def fX10_strip_143 (K104 : Nat → Int64 → Int32 → Int64 → Int32 → Mem → Option (Mem)) (K161 : Nat → Int64 → Int32 → Int64 → Int32 → Mem → Option (Mem)) (x0 : Nat) (x1 : Int64) (x3 : Int32) (x4 : Int64) (x10 : Int32) (s0 : Int32) (s1 : Int32) (s2 : Int32) (F : Mem) : Option (Mem) := if s0 = (s1 - s2) then ((gfR F x0 9 9).bind fun v148 => (wrI F v148 x10 0).bind fun F154 => K104 x0 x1 x3 x4 (x10 + 1) F154) else (K161 x0 x1 x3 x4 x10 F)
set_option maxRecDepth 100000 in
set_option maxHeartbeats 4000000 in
theorem tX10_strip_143 {l : Launch} {D : va_G} {cy : Nat → ClassId} {C : Cx} {res : Mem} (X : Fx C cX10_strip RX10 none rmX10_strip 11) (hcd : CD C l D cy) (Qr : RV C 0 0 res) {K104 : Nat → Int64 → Int32 → Int64 → Int32 → Mem → Option (Mem)} {K161 : Nat → Int64 → Int32 → Int64 → Int32 → Mem → Option (Mem)} (hK104 : ∀ (x0 : Nat) (x1 : Int64) (x3 : Int32) (x4 : Int64) (x10 : Int32) (F : Mem), K104 x0 x1 x3 x4 x10 F = some res → Wp C 0 0 104 [(0, .ref x0), (1, .long x1), (3, .int x3), (4, .long x4), (10, .int x10)] [] F) (hK161 : ∀ (x0 : Nat) (x1 : Int64) (x3 : Int32) (x4 : Int64) (x10 : Int32) (F : Mem), K161 x0 x1 x3 x4 x10 F = some res → Wp C 0 0 161 [(0, .ref x0), (1, .long x1), (3, .int x3), (4, .long x4), (10, .int x10)] [] F) (x0 : Nat) (x1 : Int64) (x3 : Int32) (x4 : Int64) (x10 : Int32) (s0 : Int32) (s1 : Int32) (s2 : Int32) (F : Mem) (h : fX10_strip_143 K104 K161 x0 x1 x3 x4 x10 s0 s1 s2 F = some res) : Wp C 0 0 143 [(0, .ref x0), (1, .long x1), (3, .int x3), (4, .long x4), (10, .int x10)] [.int s2, .int s1, .int s0] F := by
  unfold fX10_strip_143 at h
  refine wp_isub X dX10_strip_143 ?_
  refine wp_icmp_ne X (tgt := 161) dX10_strip_144 (by decide) h (fun h => ?_) (fun h => ?_)
  · exact hK161 _ _ _ _ _ _ h
  · refine wp_aload_n X dX10_strip_147 0 rfl ?_
    refine wp_getR X (T := TX10) (N := 20) (ci := 9) (k := 9) rfl (by decide) (by decide) inBX10 kw821 dX10_strip_148 h (fun v148 h => ?_)
    refine wp_iload X dX10_strip_151 4 rfl ?_
    refine wp_iconst X (v := 0) dX10_strip_153 (by decide) ?_
    refine wp_iastore X dX10_strip_154 h (fun F154 h => ?_)
    refine wp_iinc X (v := x10 + 1) (lv' := [(0, .ref x0), (1, .long x1), (3, .int x3), (4, .long x4), (10, .int (x10 + 1))]) dX10_strip_155 (by decide) 4 rfl rfl [1, 2, 3, 4, 0] rfl ?_
    refine wp_goto X (tgt := 104) dX10_strip_158 (by decide) ?_
    exact hK104 _ _ _ _ _ _ h
def fX10_strip_104 (K161 : Nat → Int64 → Int32 → Int64 → Int32 → Mem → Option (Mem)) : Nat → Nat → Int64 → Int32 → Int64 → Int32 → Mem → Option (Mem)
  | 0, _, _, _, _, _, _ => none
  | n + 1, x0, x1, x3, x4, x10, F => if 8 ≤ x10 then (K161 x0 x1 x3 x4 x10 F) else ((gfR F x0 9 9).bind fun v112 => (rdI F 0 v112 x10).bind fun v117 => (mX10_part F x1 x10).bind fun v121 => if x10 = 7 then (fX10_strip_143  (fX10_strip_104  K161 n) K161 x0 x1 x3 x4 x10 v117 v121.1 0 v121.2) else ((mX10_part v121.2 x1 (x10 + 1)).bind fun v140 => fX10_strip_143  (fX10_strip_104  K161 n) K161 x0 x1 x3 x4 x10 v117 v121.1 v140.1 v140.2))
set_option maxRecDepth 100000 in
set_option maxHeartbeats 4000000 in
theorem tX10_strip_104 {l : Launch} {D : va_G} {cy : Nat → ClassId} {C : Cx} {res : Mem} (X : Fx C cX10_strip RX10 none rmX10_strip 11) (hcd : CD C l D cy) (Qr : RV C 0 0 res) {K161 : Nat → Int64 → Int32 → Int64 → Int32 → Mem → Option (Mem)} (hK161 : ∀ (x0 : Nat) (x1 : Int64) (x3 : Int32) (x4 : Int64) (x10 : Int32) (F : Mem), K161 x0 x1 x3 x4 x10 F = some res → Wp C 0 0 161 [(0, .ref x0), (1, .long x1), (3, .int x3), (4, .long x4), (10, .int x10)] [] F) : ∀ (n : Nat) (x0 : Nat) (x1 : Int64) (x3 : Int32) (x4 : Int64) (x10 : Int32) (F : Mem), fX10_strip_104 K161 n x0 x1 x3 x4 x10 F = some res → Wp C 0 0 104 [(0, .ref x0), (1, .long x1), (3, .int x3), (4, .long x4), (10, .int x10)] [] F := by
  intro n
  induction n with
  | zero =>
    intro x0 x1 x3 x4 x10 F h
    rw [fX10_strip_104.eq_1] at h
    cases h
  | succ n ih =>
    intro x0 x1 x3 x4 x10 F h
    rw [fX10_strip_104.eq_2] at h
    refine wp_iload X dX10_strip_104 4 rfl ?_
    refine wp_bipush X (v := 8) dX10_strip_106 (by decide) ?_
    refine wp_icmp_ge X (tgt := 161) dX10_strip_108 (by decide) h (fun h => ?_) (fun h => ?_)
    · exact hK161 _ _ _ _ _ _ h
    · refine wp_aload_n X dX10_strip_111 0 rfl ?_
      refine wp_getR X (T := TX10) (N := 20) (ci := 9) (k := 9) rfl (by decide) (by decide) inBX10 kw821 dX10_strip_112 h (fun v112 h => ?_)
      refine wp_iload X dX10_strip_115 4 rfl ?_
      refine wp_iaload X dX10_strip_117 h (fun v117 h => ?_)
      refine wp_lload_n X dX10_strip_118 1 rfl ?_
      refine wp_iload X dX10_strip_119 4 rfl ?_
      refine wp_callSI X (rm := rmX10_part) (n := 2) [.long x1, .int x10] hcd (fun q hq => cX10_part_ok hq) kw1061 kw1062 kw10 kw1063 (by decide +kernel) (by decide) (by decide) (cs2 := 0) (sl2 := 0) rfl rfl rfl rfl (Nat.le_of_ble_eq_true rfl) dX10_strip_121 h (fun v121 h => ?_)
      refine wp_iload X dX10_strip_124 4 rfl ?_
      refine wp_bipush X (v := 7) dX10_strip_126 (by decide) ?_
      refine wp_icmp_ne X (tgt := 135) dX10_strip_128 (by decide) h (fun h => ?_) (fun h => ?_)
      · refine wp_lload_n X dX10_strip_135 1 rfl ?_
        refine wp_iload X dX10_strip_136 4 rfl ?_
        refine wp_iconst X (v := 1) dX10_strip_138 (by decide) ?_
        refine wp_iadd X dX10_strip_139 ?_
        refine wp_callSI X (rm := rmX10_part) (n := 2) [.long x1, .int (x10 + 1)] hcd (fun q hq => cX10_part_ok hq) kw1061 kw1062 kw10 kw1063 (by decide +kernel) (by decide) (by decide) (cs2 := 0) (sl2 := 0) rfl rfl rfl rfl (Nat.le_of_ble_eq_true rfl) dX10_strip_140 h (fun v140 h => ?_)
        exact tX10_strip_143 X hcd Qr  ih hK161 _ _ _ _ _ _ _ _ _ h
      · refine wp_iconst X (v := 0) dX10_strip_131 (by decide) ?_
        refine wp_goto X (tgt := 143) dX10_strip_132 (by decide) ?_
        exact tX10_strip_143 X hcd Qr  ih hK161 _ _ _ _ _ _ _ _ _ h
def fX10_strip_173 (K27 : Nat → Int64 → Int32 → Int64 → Int32 → Mem → Option (Mem)) (x0 : Nat) (x1 : Int64) (x3 : Int32) (x4 : Int64) (x10 : Int32) (s0 : Int32) (F : Mem) : Option (Mem) := (gfR F x0 9 9).bind fun v176 => (rdI F 0 v176 x10).bind fun v182 => (wrI F v176 x10 (v182 + 1)).bind fun F185 => K27 x0 x1 x3 x4 s0 F185
set_option maxRecDepth 100000 in
set_option maxHeartbeats 4000000 in
theorem tX10_strip_173 {l : Launch} {D : va_G} {cy : Nat → ClassId} {C : Cx} {res : Mem} (X : Fx C cX10_strip RX10 none rmX10_strip 11) (hcd : CD C l D cy) (Qr : RV C 0 0 res) {K27 : Nat → Int64 → Int32 → Int64 → Int32 → Mem → Option (Mem)} (hK27 : ∀ (x0 : Nat) (x1 : Int64) (x3 : Int32) (x4 : Int64) (x6 : Int32) (F : Mem), K27 x0 x1 x3 x4 x6 F = some res → Wp C 0 0 27 [(0, .ref x0), (1, .long x1), (3, .int x3), (4, .long x4), (6, .int x6)] [] F) (x0 : Nat) (x1 : Int64) (x3 : Int32) (x4 : Int64) (x10 : Int32) (s0 : Int32) (F : Mem) (h : fX10_strip_173 K27 x0 x1 x3 x4 x10 s0 F = some res) : Wp C 0 0 173 [(0, .ref x0), (1, .long x1), (3, .int x3), (4, .long x4), (10, .int x10)] [.int s0] F := by
  unfold fX10_strip_173 at h
  refine wp_istore X (lv' := [(0, .ref x0), (1, .long x1), (3, .int x3), (4, .long x4), (6, .int s0), (10, .int x10)]) dX10_strip_173 (by decide) [1, 2, 3, 4, 0, 5] rfl ?_
  refine wp_aload_n X dX10_strip_175 0 rfl ?_
  refine wp_getR X (T := TX10) (N := 20) (ci := 9) (k := 9) rfl (by decide) (by decide) inBX10 kw821 dX10_strip_176 h (fun v176 h => ?_)
  refine wp_iload X dX10_strip_179 5 rfl ?_
  refine wp_dup2 X dX10_strip_181 rfl rfl ?_
  refine wp_iaload X dX10_strip_182 h (fun v182 h => ?_)
  refine wp_iconst X (v := 1) dX10_strip_183 (by decide) ?_
  refine wp_iadd X dX10_strip_184 ?_
  refine wp_iastore X dX10_strip_185 h (fun F185 h => ?_)
  refine wp_goto X (tgt := 27) dX10_strip_186 (by decide) ?_
  refine wp_sub (lv' := [(0, .ref x0), (1, .long x1), (3, .int x3), (4, .long x4), (6, .int s0)]) [0, 1, 2, 3, 4] rfl ?_
  exact hK27 _ _ _ _ _ _ h
def fX10_strip_161 (K27 : Nat → Int64 → Int32 → Int64 → Int32 → Mem → Option (Mem)) (x0 : Nat) (x1 : Int64) (x3 : Int32) (x4 : Int64) (x10 : Int32) (F : Mem) : Option (Mem) := if 8 ≤ x10 then (fX10_strip_173  K27 x0 x1 x3 x4 x10 0 F) else (fX10_strip_173  K27 x0 x1 x3 x4 x10 1 F)
set_option maxRecDepth 100000 in
set_option maxHeartbeats 4000000 in
theorem tX10_strip_161 {l : Launch} {D : va_G} {cy : Nat → ClassId} {C : Cx} {res : Mem} (X : Fx C cX10_strip RX10 none rmX10_strip 11) (hcd : CD C l D cy) (Qr : RV C 0 0 res) {K27 : Nat → Int64 → Int32 → Int64 → Int32 → Mem → Option (Mem)} (hK27 : ∀ (x0 : Nat) (x1 : Int64) (x3 : Int32) (x4 : Int64) (x6 : Int32) (F : Mem), K27 x0 x1 x3 x4 x6 F = some res → Wp C 0 0 27 [(0, .ref x0), (1, .long x1), (3, .int x3), (4, .long x4), (6, .int x6)] [] F) (x0 : Nat) (x1 : Int64) (x3 : Int32) (x4 : Int64) (x10 : Int32) (F : Mem) (h : fX10_strip_161 K27 x0 x1 x3 x4 x10 F = some res) : Wp C 0 0 161 [(0, .ref x0), (1, .long x1), (3, .int x3), (4, .long x4), (10, .int x10)] [] F := by
  unfold fX10_strip_161 at h
  refine wp_iload X dX10_strip_161 4 rfl ?_
  refine wp_bipush X (v := 8) dX10_strip_163 (by decide) ?_
  refine wp_icmp_ge X (tgt := 172) dX10_strip_165 (by decide) h (fun h => ?_) (fun h => ?_)
  · refine wp_iconst X (v := 0) dX10_strip_172 (by decide) ?_
    exact tX10_strip_173 X hcd Qr  hK27 _ _ _ _ _ _ _ h
  · refine wp_iconst X (v := 1) dX10_strip_168 (by decide) ?_
    refine wp_goto X (tgt := 173) dX10_strip_169 (by decide) ?_
    exact tX10_strip_173 X hcd Qr  hK27 _ _ _ _ _ _ _ h
def fX10_strip_101 (K27 : Nat → Int64 → Int32 → Int64 → Int32 → Mem → Option (Mem)) (x0 : Nat) (x1 : Int64) (x3 : Int32) (x4 : Int64) (F : Mem) : Option (Mem) := fX10_strip_104  (fun (x0 : Nat) (x1 : Int64) (x3 : Int32) (x4 : Int64) (x10 : Int32) (F : Mem) => fX10_strip_161  K27 x0 x1 x3 x4 x10 F) FU x0 x1 x3 x4 0 F
set_option maxRecDepth 100000 in
set_option maxHeartbeats 4000000 in
theorem tX10_strip_101 {l : Launch} {D : va_G} {cy : Nat → ClassId} {C : Cx} {res : Mem} (X : Fx C cX10_strip RX10 none rmX10_strip 11) (hcd : CD C l D cy) (Qr : RV C 0 0 res) {K27 : Nat → Int64 → Int32 → Int64 → Int32 → Mem → Option (Mem)} (hK27 : ∀ (x0 : Nat) (x1 : Int64) (x3 : Int32) (x4 : Int64) (x6 : Int32) (F : Mem), K27 x0 x1 x3 x4 x6 F = some res → Wp C 0 0 27 [(0, .ref x0), (1, .long x1), (3, .int x3), (4, .long x4), (6, .int x6)] [] F) (x0 : Nat) (x1 : Int64) (x3 : Int32) (x4 : Int64) (F : Mem) (h : fX10_strip_101 K27 x0 x1 x3 x4 F = some res) : Wp C 0 0 101 [(0, .ref x0), (1, .long x1), (3, .int x3), (4, .long x4)] [] F := by
  unfold fX10_strip_101 at h
  refine wp_iconst X (v := 0) dX10_strip_101 (by decide) ?_
  refine wp_istore X (lv' := [(0, .ref x0), (1, .long x1), (3, .int x3), (4, .long x4), (10, .int 0)]) dX10_strip_102 (by decide) [1, 2, 3, 4, 0] rfl ?_
  refine tX10_strip_104 X hcd Qr  ?_ FU _ _ _ _ _ _ h
  · intro x0 x1 x3 x4 x10 F h
    exact tX10_strip_161 X hcd Qr  hK27 _ _ _ _ _ _ h
def fX10_strip_27  : Nat → Nat → Int64 → Int32 → Int64 → Int32 → Mem → Option (Mem)
  | 0, _, _, _, _, _, _ => none
  | n + 1, x0, x1, x3, x4, x6, F => if x6 = 0 then (some F) else (fX10_strip_42  (fun (x0 : Nat) (x1 : Int64) (x3 : Int32) (x4 : Int64) (x7 : Int32) (x8 : Int64) (F : Mem) => if x7 = x3 then ((obj F x0 9).bind fun _ => (mX10_note F x0 x8 x4).bind fun v98 => fX10_strip_101  (fX10_strip_27   n) x0 x1 x3 x4 v98) else (fX10_strip_101  (fX10_strip_27   n) x0 x1 x3 x4 F)) FU x0 x1 x3 x4 0 0 7 F)
set_option maxRecDepth 100000 in
set_option maxHeartbeats 4000000 in
theorem tX10_strip_27 {l : Launch} {D : va_G} {cy : Nat → ClassId} {C : Cx} {res : Mem} (X : Fx C cX10_strip RX10 none rmX10_strip 11) (hcd : CD C l D cy) (Qr : RV C 0 0 res)   : ∀ (n : Nat) (x0 : Nat) (x1 : Int64) (x3 : Int32) (x4 : Int64) (x6 : Int32) (F : Mem), fX10_strip_27  n x0 x1 x3 x4 x6 F = some res → Wp C 0 0 27 [(0, .ref x0), (1, .long x1), (3, .int x3), (4, .long x4), (6, .int x6)] [] F := by
  intro n
  induction n with
  | zero =>
    intro x0 x1 x3 x4 x6 F h
    rw [fX10_strip_27.eq_1] at h
    cases h
  | succ n ih =>
    intro x0 x1 x3 x4 x6 F h
    rw [fX10_strip_27.eq_2] at h
    refine wp_iload X dX10_strip_27 4 rfl ?_
    refine wp_if_eq X (tgt := 189) dX10_strip_29 (by decide) h (fun h => ?_) (fun h => ?_)
    · exact wp_return X Qr rfl dX10_strip_189 h
    · refine wp_iconst X (v := 0) dX10_strip_32 (by decide) ?_
      refine wp_istore X (lv' := [(0, .ref x0), (1, .long x1), (3, .int x3), (4, .long x4), (7, .int 0)]) dX10_strip_33 (by decide) [1, 2, 3, 4, 0] rfl ?_
      refine wp_lconst X (v := 0) dX10_strip_35 (by decide) ?_
      refine wp_lstore X (lv' := [(0, .ref x0), (1, .long x1), (3, .int x3), (4, .long x4), (7, .int 0), (8, .long 0)]) dX10_strip_36 (by decide) [1, 2, 3, 4, 5, 0] rfl ?_
      refine wp_bipush X (v := 7) dX10_strip_38 (by decide) ?_
      refine wp_istore X (lv' := [(0, .ref x0), (1, .long x1), (3, .int x3), (4, .long x4), (7, .int 0), (8, .long 0), (10, .int 7)]) dX10_strip_40 (by decide) [1, 2, 3, 4, 5, 6, 0] rfl ?_
      refine tX10_strip_42 X hcd Qr  ?_ FU _ _ _ _ _ _ _ _ h
      · intro x0 x1 x3 x4 x7 x8 F h
        refine wp_iload X dX10_strip_87 4 rfl ?_
        refine wp_iload_n X dX10_strip_89 2 rfl ?_
        refine wp_icmp_ne X (tgt := 101) dX10_strip_90 (by decide) h (fun h => ?_) (fun h => ?_)
        · refine wp_sub (lv' := [(0, .ref x0), (1, .long x1), (3, .int x3), (4, .long x4)]) [0, 1, 2, 3] rfl ?_
          exact tX10_strip_101 X hcd Qr  ih _ _ _ _ _ h
        · refine wp_aload_n X dX10_strip_93 0 rfl ?_
          refine wp_lload X dX10_strip_94 5 rfl ?_
          refine wp_lload X dX10_strip_96 3 rfl ?_
          refine wp_callVV X (rm := rmX10_note) (T := TX10) (N := 20) (ci := 9) (n := 2) [.long x8, .long x4] hcd (fun q hq => cX10_note_ok hq) kw1049 kw1051 ks40 kw10 kw1052 (by decide +kernel) (by decide) (by decide) (cs2 := 0) (sl2 := 0) rfl rfl rfl (by decide) rfl rfl (Nat.le_of_ble_eq_true rfl) dX10_strip_98 h (fun v98 h => ?_)
          refine wp_sub (lv' := [(0, .ref x0), (1, .long x1), (3, .int x3), (4, .long x4)]) [0, 1, 2, 3] rfl ?_
          exact tX10_strip_101 X hcd Qr  ih _ _ _ _ _ h
def mX10_strip (F : Mem) (x0 : Nat) (x1 : Int64) (x3 : Int32) (x4 : Int64) : Option (Mem) := fX10_strip_3  (fun (x0 : Nat) (x1 : Int64) (x3 : Int32) (x4 : Int64) (F : Mem) => fX10_strip_27   FU x0 x1 x3 x4 1 F) FU x0 x1 x3 x4 0 F
set_option maxRecDepth 100000 in
set_option maxHeartbeats 4000000 in
theorem cX10_strip_ok {l : Launch} {D : va_G} {cy : Nat → ClassId} {F : Mem} {x0 : Nat} {x1 : Int64} {x3 : Int32} {x4 : Int64} {res : Mem} (h : mX10_strip F x0 x1 x3 x4 = some res) : MV l yX10_strip cX10_strip 11 none rmX10_strip D cy F [.ref x0, .long x1, .int x3, .long x4] res := by
  refine mv_of (by decide) (Nat.le_of_ble_eq_true rfl) [(0, .ref x0), (1, .long x1), (3, .int x3), (4, .long x4)] rfl (fun C X hcd Qr => ?_)
  unfold mX10_strip at h
  refine wp_iconst X (v := 0) dX10_strip_0 (by decide) ?_
  refine wp_istore X (lv' := [(0, .ref x0), (1, .long x1), (3, .int x3), (4, .long x4), (6, .int 0)]) dX10_strip_1 (by decide) [1, 2, 3, 4, 0] rfl ?_
  refine tX10_strip_3 X hcd Qr  ?_ FU _ _ _ _ _ _ h
  · intro x0 x1 x3 x4 F h
    refine wp_iconst X (v := 1) dX10_strip_24 (by decide) ?_
    refine wp_istore X (lv' := [(0, .ref x0), (1, .long x1), (3, .int x3), (4, .long x4), (6, .int 1)]) dX10_strip_25 (by decide) [1, 2, 3, 4, 0] rfl ?_
    refine tX10_strip_27 X hcd Qr   FU _ _ _ _ _ _ h
/-! TableauBenchModel.fillings(II)J -/
def rmX10_fillings : Room := { frames := 2, cells := 0, slots := 0, locals := 55 }
def fX10_fillings_48 (K67 : Nat → Int32 → Int32 → Mem → Option (Int64 × Mem)) : Nat → Nat → Int32 → Int32 → Int32 → Mem → Option (Int64 × Mem)
  | 0, _, _, _, _, _ => none
  | n + 1, x0, x1, x2, x3, F => if 17 ≤ x3 then (K67 x0 x1 x2 F) else ((gfR F x0 9 12).bind fun v55 => (wrI F v55 x3 0).bind fun F60 => (fX10_fillings_48  K67 n) x0 x1 x2 (x3 + 1) F60)
set_option maxRecDepth 100000 in
set_option maxHeartbeats 4000000 in
theorem tX10_fillings_48 {l : Launch} {D : va_G} {cy : Nat → ClassId} {C : Cx} {res : Int64 × Mem} (X : Fx C cX10_fillings RX10 (some .long) rmX10_fillings 7) (hcd : CD C l D cy) (Qr : RJ C 0 0 res) {K67 : Nat → Int32 → Int32 → Mem → Option (Int64 × Mem)} (hK67 : ∀ (x0 : Nat) (x1 : Int32) (x2 : Int32) (F : Mem), K67 x0 x1 x2 F = some res → Wp C 0 0 67 [(0, .ref x0), (1, .int x1), (2, .int x2)] [] F) : ∀ (n : Nat) (x0 : Nat) (x1 : Int32) (x2 : Int32) (x3 : Int32) (F : Mem), fX10_fillings_48 K67 n x0 x1 x2 x3 F = some res → Wp C 0 0 48 [(0, .ref x0), (1, .int x1), (2, .int x2), (3, .int x3)] [] F := by
  intro n
  induction n with
  | zero =>
    intro x0 x1 x2 x3 F h
    rw [fX10_fillings_48.eq_1] at h
    cases h
  | succ n ih =>
    intro x0 x1 x2 x3 F h
    rw [fX10_fillings_48.eq_2] at h
    refine wp_iload_n X dX10_fillings_48 3 rfl ?_
    refine wp_bipush X (v := 17) dX10_fillings_49 (by decide) ?_
    refine wp_icmp_ge X (tgt := 67) dX10_fillings_51 (by decide) h (fun h => ?_) (fun h => ?_)
    · refine wp_sub (lv' := [(0, .ref x0), (1, .int x1), (2, .int x2)]) [0, 1, 2] rfl ?_
      exact hK67 _ _ _ _ h
    · refine wp_aload_n X dX10_fillings_54 0 rfl ?_
      refine wp_getR X (T := TX10) (N := 20) (ci := 9) (k := 12) rfl (by decide) (by decide) inBX10 kw824 dX10_fillings_55 h (fun v55 h => ?_)
      refine wp_iload_n X dX10_fillings_58 3 rfl ?_
      refine wp_iconst X (v := 0) dX10_fillings_59 (by decide) ?_
      refine wp_iastore X dX10_fillings_60 h (fun F60 h => ?_)
      refine wp_iinc X (v := x3 + 1) (lv' := [(0, .ref x0), (1, .int x1), (2, .int x2), (3, .int (x3 + 1))]) dX10_fillings_61 (by decide) 3 rfl rfl [1, 2, 3, 0] rfl ?_
      refine wp_goto X (tgt := 48) dX10_fillings_64 (by decide) ?_
      exact ih _ _ _ _ _ h
def fX10_fillings_69 (K105 : Nat → Int32 → Mem → Option (Int64 × Mem)) : Nat → Nat → Int32 → Int32 → Int32 → Mem → Option (Int64 × Mem)
  | 0, _, _, _, _, _ => none
  | n + 1, x0, x1, x2, x3, F => (gfR F x0 9 3).bind fun v71 => (rdI F 0 v71 x2).bind fun v75 => if v75 ≤ x3 then (K105 x0 x1 F) else ((gfR F x0 9 12).bind fun v80 => (gfR F x0 9 2).bind fun v84 => (rdI F 0 v84 ((16 * x2) + x3)).bind fun v93 => (rdI F 0 v80 v93).bind fun v95 => (wrI F v80 v93 (v95 + 1)).bind fun F98 => (fX10_fillings_69  K105 n) x0 x1 x2 (x3 + 1) F98)
set_option maxRecDepth 100000 in
set_option maxHeartbeats 4000000 in
theorem tX10_fillings_69 {l : Launch} {D : va_G} {cy : Nat → ClassId} {C : Cx} {res : Int64 × Mem} (X : Fx C cX10_fillings RX10 (some .long) rmX10_fillings 7) (hcd : CD C l D cy) (Qr : RJ C 0 0 res) {K105 : Nat → Int32 → Mem → Option (Int64 × Mem)} (hK105 : ∀ (x0 : Nat) (x1 : Int32) (F : Mem), K105 x0 x1 F = some res → Wp C 0 0 105 [(0, .ref x0), (1, .int x1)] [] F) : ∀ (n : Nat) (x0 : Nat) (x1 : Int32) (x2 : Int32) (x3 : Int32) (F : Mem), fX10_fillings_69 K105 n x0 x1 x2 x3 F = some res → Wp C 0 0 69 [(0, .ref x0), (1, .int x1), (2, .int x2), (3, .int x3)] [] F := by
  intro n
  induction n with
  | zero =>
    intro x0 x1 x2 x3 F h
    rw [fX10_fillings_69.eq_1] at h
    cases h
  | succ n ih =>
    intro x0 x1 x2 x3 F h
    rw [fX10_fillings_69.eq_2] at h
    refine wp_iload_n X dX10_fillings_69 3 rfl ?_
    refine wp_aload_n X dX10_fillings_70 0 rfl ?_
    refine wp_getR X (T := TX10) (N := 20) (ci := 9) (k := 3) rfl (by decide) (by decide) inBX10 kw815 dX10_fillings_71 h (fun v71 h => ?_)
    refine wp_iload_n X dX10_fillings_74 2 rfl ?_
    refine wp_iaload X dX10_fillings_75 h (fun v75 h => ?_)
    refine wp_icmp_ge X (tgt := 105) dX10_fillings_76 (by decide) h (fun h => ?_) (fun h => ?_)
    · refine wp_sub (lv' := [(0, .ref x0), (1, .int x1)]) [0, 1] rfl ?_
      exact hK105 _ _ _ h
    · refine wp_aload_n X dX10_fillings_79 0 rfl ?_
      refine wp_getR X (T := TX10) (N := 20) (ci := 9) (k := 12) rfl (by decide) (by decide) inBX10 kw824 dX10_fillings_80 h (fun v80 h => ?_)
      refine wp_aload_n X dX10_fillings_83 0 rfl ?_
      refine wp_getR X (T := TX10) (N := 20) (ci := 9) (k := 2) rfl (by decide) (by decide) inBX10 kw814 dX10_fillings_84 h (fun v84 h => ?_)
      refine wp_bipush X (v := 16) dX10_fillings_87 (by decide) ?_
      refine wp_iload_n X dX10_fillings_89 2 rfl ?_
      refine wp_imul X dX10_fillings_90 ?_
      refine wp_iload_n X dX10_fillings_91 3 rfl ?_
      refine wp_iadd X dX10_fillings_92 ?_
      refine wp_iaload X dX10_fillings_93 h (fun v93 h => ?_)
      refine wp_dup2 X dX10_fillings_94 rfl rfl ?_
      refine wp_iaload X dX10_fillings_95 h (fun v95 h => ?_)
      refine wp_iconst X (v := 1) dX10_fillings_96 (by decide) ?_
      refine wp_iadd X dX10_fillings_97 ?_
      refine wp_iastore X dX10_fillings_98 h (fun F98 h => ?_)
      refine wp_iinc X (v := x3 + 1) (lv' := [(0, .ref x0), (1, .int x1), (2, .int x2), (3, .int (x3 + 1))]) dX10_fillings_99 (by decide) 3 rfl rfl [1, 2, 3, 0] rfl ?_
      refine wp_goto X (tgt := 69) dX10_fillings_102 (by decide) ?_
      exact ih _ _ _ _ _ h
def fX10_fillings_111 (K135 : Nat → Int64 → Mem → Option (Int64 × Mem)) : Nat → Nat → Int32 → Int64 → Int32 → Mem → Option (Int64 × Mem)
  | 0, _, _, _, _, _ => none
  | n + 1, x0, x1, x3, x5, F => if x5 < 0 then (K135 x0 x3 F) else ((obj F x0 9).bind fun _ => (mX10_rowOf F x0 x1 x5).bind fun v123 => (fX10_fillings_111  K135 n) x0 x1 ((x3 <<< (Int32.toInt64 5 &&& 63)) ||| (Int32.toInt64 v123.1)) (x5 + (-1)) v123.2)
set_option maxRecDepth 100000 in
set_option maxHeartbeats 4000000 in
theorem tX10_fillings_111 {l : Launch} {D : va_G} {cy : Nat → ClassId} {C : Cx} {res : Int64 × Mem} (X : Fx C cX10_fillings RX10 (some .long) rmX10_fillings 7) (hcd : CD C l D cy) (Qr : RJ C 0 0 res) {K135 : Nat → Int64 → Mem → Option (Int64 × Mem)} (hK135 : ∀ (x0 : Nat) (x3 : Int64) (F : Mem), K135 x0 x3 F = some res → Wp C 0 0 135 [(0, .ref x0), (3, .long x3)] [] F) : ∀ (n : Nat) (x0 : Nat) (x1 : Int32) (x3 : Int64) (x5 : Int32) (F : Mem), fX10_fillings_111 K135 n x0 x1 x3 x5 F = some res → Wp C 0 0 111 [(0, .ref x0), (1, .int x1), (3, .long x3), (5, .int x5)] [] F := by
  intro n
  induction n with
  | zero =>
    intro x0 x1 x3 x5 F h
    rw [fX10_fillings_111.eq_1] at h
    cases h
  | succ n ih =>
    intro x0 x1 x3 x5 F h
    rw [fX10_fillings_111.eq_2] at h
    refine wp_iload X dX10_fillings_111 3 rfl ?_
    refine wp_if_lt X (tgt := 135) dX10_fillings_113 (by decide) h (fun h => ?_) (fun h => ?_)
    · refine wp_sub (lv' := [(0, .ref x0), (3, .long x3)]) [0, 2] rfl ?_
      exact hK135 _ _ _ h
    · refine wp_lload_n X dX10_fillings_116 2 rfl ?_
      refine wp_iconst X (v := 5) dX10_fillings_117 (by decide) ?_
      refine wp_lshl X dX10_fillings_118 ?_
      refine wp_aload_n X dX10_fillings_119 0 rfl ?_
      refine wp_iload_n X dX10_fillings_120 1 rfl ?_
      refine wp_iload X dX10_fillings_121 3 rfl ?_
      refine wp_callVI X (rm := rmX10_rowOf) (T := TX10) (N := 20) (ci := 9) (n := 2) [.int x1, .int x5] hcd (fun q hq => cX10_rowOf_ok hq) kw889 kw891 ks19 kw10 kw892 (by decide +kernel) (by decide) (by decide) (cs2 := 0) (sl2 := 0) rfl rfl rfl (by decide) rfl rfl (Nat.le_of_ble_eq_true rfl) dX10_fillings_123 h (fun v123 h => ?_)
      refine wp_i2l X dX10_fillings_126 ?_
      refine wp_lor X dX10_fillings_127 ?_
      refine wp_lstore_n X (lv' := [(0, .ref x0), (1, .int x1), (3, .long ((x3 <<< (Int32.toInt64 5 &&& 63)) ||| (Int32.toInt64 v123.1))), (5, .int x5)]) dX10_fillings_128 (by decide) [1, 2, 0, 3] rfl ?_
      refine wp_iinc X (v := x5 + (-1)) (lv' := [(0, .ref x0), (1, .int x1), (3, .long ((x3 <<< (Int32.toInt64 5 &&& 63)) ||| (Int32.toInt64 v123.1))), (5, .int (x5 + (-1)))]) dX10_fillings_129 (by decide) 3 rfl rfl [1, 2, 3, 0] rfl ?_
      refine wp_goto X (tgt := 111) dX10_fillings_132 (by decide) ?_
      exact ih _ _ _ _ _ h
def fX10_fillings_173 (K213 : Nat → Int32 → Mem → Option (Int64 × Mem)) : Nat → Nat → Int32 → Int32 → Mem → Option (Int64 × Mem)
  | 0, _, _, _, _ => none
  | n + 1, x0, x5, x6, F => (gfI F x0 9 16).bind fun v176 => if v176 ≤ x6 then (K213 x0 x5 F) else ((gfR F x0 9 17).bind fun v184 => (rdJ F v184 x6).bind fun v189 => (gfR F x0 9 12).bind fun v191 => (rdI F 0 v191 x5).bind fun v196 => (gfR F x0 9 18).bind fun v198 => (rdJ F v198 x6).bind fun v203 => (obj F x0 9).bind fun _ => (mX10_strip F x0 v189 v196 v203).bind fun v204 => (fX10_fillings_173  K213 n) x0 x5 (x6 + 1) v204)
set_option maxRecDepth 100000 in
set_option maxHeartbeats 4000000 in
theorem tX10_fillings_173 {l : Launch} {D : va_G} {cy : Nat → ClassId} {C : Cx} {res : Int64 × Mem} (X : Fx C cX10_fillings RX10 (some .long) rmX10_fillings 7) (hcd : CD C l D cy) (Qr : RJ C 0 0 res) {K213 : Nat → Int32 → Mem → Option (Int64 × Mem)} (hK213 : ∀ (x0 : Nat) (x5 : Int32) (F : Mem), K213 x0 x5 F = some res → Wp C 0 0 213 [(0, .ref x0), (5, .int x5)] [] F) : ∀ (n : Nat) (x0 : Nat) (x5 : Int32) (x6 : Int32) (F : Mem), fX10_fillings_173 K213 n x0 x5 x6 F = some res → Wp C 0 0 173 [(0, .ref x0), (5, .int x5), (6, .int x6)] [] F := by
  intro n
  induction n with
  | zero =>
    intro x0 x5 x6 F h
    rw [fX10_fillings_173.eq_1] at h
    cases h
  | succ n ih =>
    intro x0 x5 x6 F h
    rw [fX10_fillings_173.eq_2] at h
    refine wp_iload X dX10_fillings_173 2 rfl ?_
    refine wp_aload_n X dX10_fillings_175 0 rfl ?_
    refine wp_getI X (T := TX10) (N := 20) (ci := 9) (k := 16) rfl (by decide) (by decide) inBX10 kw828 dX10_fillings_176 h (fun v176 h => ?_)
    refine wp_icmp_ge X (tgt := 213) dX10_fillings_179 (by decide) h (fun h => ?_) (fun h => ?_)
    · refine wp_sub (lv' := [(0, .ref x0), (5, .int x5)]) [0, 1] rfl ?_
      exact hK213 _ _ _ h
    · refine wp_aload_n X dX10_fillings_182 0 rfl ?_
      refine wp_aload_n X dX10_fillings_183 0 rfl ?_
      refine wp_getR X (T := TX10) (N := 20) (ci := 9) (k := 17) rfl (by decide) (by decide) inBX10 kw829 dX10_fillings_184 h (fun v184 h => ?_)
      refine wp_iload X dX10_fillings_187 2 rfl ?_
      refine wp_laload X dX10_fillings_189 h (fun v189 h => ?_)
      refine wp_aload_n X dX10_fillings_190 0 rfl ?_
      refine wp_getR X (T := TX10) (N := 20) (ci := 9) (k := 12) rfl (by decide) (by decide) inBX10 kw824 dX10_fillings_191 h (fun v191 h => ?_)
      refine wp_iload X dX10_fillings_194 1 rfl ?_
      refine wp_iaload X dX10_fillings_196 h (fun v196 h => ?_)
      refine wp_aload_n X dX10_fillings_197 0 rfl ?_
      refine wp_getR X (T := TX10) (N := 20) (ci := 9) (k := 18) rfl (by decide) (by decide) inBX10 kw830 dX10_fillings_198 h (fun v198 h => ?_)
      refine wp_iload X dX10_fillings_201 2 rfl ?_
      refine wp_laload X dX10_fillings_203 h (fun v203 h => ?_)
      refine wp_callVV X (rm := rmX10_strip) (T := TX10) (N := 20) (ci := 9) (n := 3) [.long v189, .int v196, .long v203] hcd (fun q hq => cX10_strip_ok hq) kw1057 kw1059 ks42 kw10 kw1060 (by decide +kernel) (by decide) (by decide) (cs2 := 0) (sl2 := 0) rfl rfl rfl (by decide) rfl rfl (Nat.le_of_ble_eq_true rfl) dX10_fillings_204 h (fun v204 h => ?_)
      refine wp_iinc X (v := x6 + 1) (lv' := [(0, .ref x0), (5, .int x5), (6, .int (x6 + 1))]) dX10_fillings_207 (by decide) 2 rfl rfl [1, 2, 0] rfl ?_
      refine wp_goto X (tgt := 173) dX10_fillings_210 (by decide) ?_
      exact ih _ _ _ _ h
def fX10_fillings_213 (K149 : Nat → Int32 → Mem → Option (Int64 × Mem)) (K219 : Nat → Mem → Option (Int64 × Mem)) (x0 : Nat) (x5 : Int32) (F : Mem) : Option (Int64 × Mem) := K149 x0 (x5 + 1) F
set_option maxRecDepth 100000 in
set_option maxHeartbeats 4000000 in
theorem tX10_fillings_213 {l : Launch} {D : va_G} {cy : Nat → ClassId} {C : Cx} {res : Int64 × Mem} (X : Fx C cX10_fillings RX10 (some .long) rmX10_fillings 7) (hcd : CD C l D cy) (Qr : RJ C 0 0 res) {K149 : Nat → Int32 → Mem → Option (Int64 × Mem)} {K219 : Nat → Mem → Option (Int64 × Mem)} (hK149 : ∀ (x0 : Nat) (x5 : Int32) (F : Mem), K149 x0 x5 F = some res → Wp C 0 0 149 [(0, .ref x0), (5, .int x5)] [] F) (hK219 : ∀ (x0 : Nat) (F : Mem), K219 x0 F = some res → Wp C 0 0 219 [(0, .ref x0)] [] F) (x0 : Nat) (x5 : Int32) (F : Mem) (h : fX10_fillings_213 K149 K219 x0 x5 F = some res) : Wp C 0 0 213 [(0, .ref x0), (5, .int x5)] [] F := by
  unfold fX10_fillings_213 at h
  refine wp_iinc X (v := x5 + 1) (lv' := [(0, .ref x0), (5, .int (x5 + 1))]) dX10_fillings_213 (by decide) 1 rfl rfl [1, 0] rfl ?_
  refine wp_goto X (tgt := 149) dX10_fillings_216 (by decide) ?_
  exact hK149 _ _ _ h
def fX10_fillings_149 (K219 : Nat → Mem → Option (Int64 × Mem)) : Nat → Nat → Int32 → Mem → Option (Int64 × Mem)
  | 0, _, _, _ => none
  | n + 1, x0, x5, F => if 17 ≤ x5 then (K219 x0 F) else ((gfR F x0 9 12).bind fun v157 => (rdI F 0 v157 x5).bind fun v162 => if v162 ≤ 0 then (fX10_fillings_213  (fX10_fillings_149  K219 n) K219 x0 x5 F) else ((obj F x0 9).bind fun _ => (mX10_turnOver F x0).bind fun v167 => fX10_fillings_173  (fun (x0 : Nat) (x5 : Int32) (F : Mem) => fX10_fillings_213  (fX10_fillings_149  K219 n) K219 x0 x5 F) FU x0 x5 0 v167))
set_option maxRecDepth 100000 in
set_option maxHeartbeats 4000000 in
theorem tX10_fillings_149 {l : Launch} {D : va_G} {cy : Nat → ClassId} {C : Cx} {res : Int64 × Mem} (X : Fx C cX10_fillings RX10 (some .long) rmX10_fillings 7) (hcd : CD C l D cy) (Qr : RJ C 0 0 res) {K219 : Nat → Mem → Option (Int64 × Mem)} (hK219 : ∀ (x0 : Nat) (F : Mem), K219 x0 F = some res → Wp C 0 0 219 [(0, .ref x0)] [] F) : ∀ (n : Nat) (x0 : Nat) (x5 : Int32) (F : Mem), fX10_fillings_149 K219 n x0 x5 F = some res → Wp C 0 0 149 [(0, .ref x0), (5, .int x5)] [] F := by
  intro n
  induction n with
  | zero =>
    intro x0 x5 F h
    rw [fX10_fillings_149.eq_1] at h
    cases h
  | succ n ih =>
    intro x0 x5 F h
    rw [fX10_fillings_149.eq_2] at h
    refine wp_iload X dX10_fillings_149 1 rfl ?_
    refine wp_bipush X (v := 17) dX10_fillings_151 (by decide) ?_
    refine wp_icmp_ge X (tgt := 219) dX10_fillings_153 (by decide) h (fun h => ?_) (fun h => ?_)
    · refine wp_sub (lv' := [(0, .ref x0)]) [0] rfl ?_
      exact hK219 _ _ h
    · refine wp_aload_n X dX10_fillings_156 0 rfl ?_
      refine wp_getR X (T := TX10) (N := 20) (ci := 9) (k := 12) rfl (by decide) (by decide) inBX10 kw824 dX10_fillings_157 h (fun v157 h => ?_)
      refine wp_iload X dX10_fillings_160 1 rfl ?_
      refine wp_iaload X dX10_fillings_162 h (fun v162 h => ?_)
      refine wp_if_le X (tgt := 213) dX10_fillings_163 (by decide) h (fun h => ?_) (fun h => ?_)
      · exact tX10_fillings_213 X hcd Qr  ih hK219 _ _ _ h
      · refine wp_aload_n X dX10_fillings_166 0 rfl ?_
        refine wp_callVV X (rm := rmX10_turnOver) (T := TX10) (N := 20) (ci := 9) (n := 0) [] hcd (fun q hq => cX10_turnOver_ok hq) kw1053 kw1055 ks41 kw10 kw1056 (by decide +kernel) (by decide) (by decide) (cs2 := 0) (sl2 := 0) rfl rfl rfl (by decide) rfl rfl (Nat.le_of_ble_eq_true rfl) dX10_fillings_167 h (fun v167 h => ?_)
        refine wp_iconst X (v := 0) dX10_fillings_170 (by decide) ?_
        refine wp_istore X (lv' := [(0, .ref x0), (5, .int x5), (6, .int 0)]) dX10_fillings_171 (by decide) [1, 2, 0] rfl ?_
        refine tX10_fillings_173 X hcd Qr  ?_ FU _ _ _ _ h
        · intro x0 x5 F h
          exact tX10_fillings_213 X hcd Qr  ih hK219 _ _ _ h
def fX10_fillings_20  (x0 : Nat) (x1 : Int32) (x2 : Int32) (s0 : Nat) (s1 : Int32) (F : Mem) : Option (Int64 × Mem) := (pf F s0 9 0 (.int s1)).bind fun F20 => (gfI F20 x0 9 0).bind fun v24 => if 0 < v24 then (some (0, F20)) else ((gfR F20 x0 9 3).bind fun v31 => (rdI F20 0 v31 x2).bind fun v35 => (obj F20 x0 9).bind fun _ => (mX10_boxesOf F20 x0 x1).bind fun v38 => if v35 = v38.1 then (fX10_fillings_48  (fun (x0 : Nat) (x1 : Int32) (x2 : Int32) (F : Mem) => fX10_fillings_69  (fun (x0 : Nat) (x1 : Int32) (F : Mem) => fX10_fillings_111  (fun (x0 : Nat) (x3 : Int64) (F : Mem) => (pf F x0 9 13 (.int 0)).bind fun F137 => (obj F137 x0 9).bind fun _ => (mX10_note F137 x0 x3 1).bind fun v143 => fX10_fillings_149  (fun (x0 : Nat) (F : Mem) => (gfI F x0 9 13).bind fun v220 => if v220 = 0 then (some (0, F)) else ((gfR F x0 9 15).bind fun v231 => (rdJ F v231 0).bind fun v235 => some (v235, F))) FU x0 1 v143) FU x0 x1 0 7 F) FU x0 x1 x2 0 F) FU x0 x1 x2 0 v38.2) else (some (0, v38.2)))
set_option maxRecDepth 100000 in
set_option maxHeartbeats 4000000 in
theorem tX10_fillings_20 {l : Launch} {D : va_G} {cy : Nat → ClassId} {C : Cx} {res : Int64 × Mem} (X : Fx C cX10_fillings RX10 (some .long) rmX10_fillings 7) (hcd : CD C l D cy) (Qr : RJ C 0 0 res)   (x0 : Nat) (x1 : Int32) (x2 : Int32) (s0 : Nat) (s1 : Int32) (F : Mem) (h : fX10_fillings_20  x0 x1 x2 s0 s1 F = some res) : Wp C 0 0 20 [(0, .ref x0), (1, .int x1), (2, .int x2)] [.int s1, .ref s0] F := by
  unfold fX10_fillings_20 at h
  refine wp_put X (T := TX10) (N := 20) (ci := 9) (k := 0) tyX10 rfl (by decide) (by decide) inBX10 kw812 tyX10_ok nmX10 rfl rfl (vp_nar_int _) rfl dX10_fillings_20 h (fun F20 h => ?_)
  refine wp_aload_n X dX10_fillings_23 0 rfl ?_
  refine wp_getI X (T := TX10) (N := 20) (ci := 9) (k := 0) rfl (by decide) (by decide) inBX10 kw812 dX10_fillings_24 h (fun v24 h => ?_)
  refine wp_if_gt X (tgt := 44) dX10_fillings_27 (by decide) h (fun h => ?_) (fun h => ?_)
  · refine wp_lconst X (v := 0) dX10_fillings_44 (by decide) ?_
    exact wp_lreturn X Qr rfl dX10_fillings_45 h
  · refine wp_aload_n X dX10_fillings_30 0 rfl ?_
    refine wp_getR X (T := TX10) (N := 20) (ci := 9) (k := 3) rfl (by decide) (by decide) inBX10 kw815 dX10_fillings_31 h (fun v31 h => ?_)
    refine wp_iload_n X dX10_fillings_34 2 rfl ?_
    refine wp_iaload X dX10_fillings_35 h (fun v35 h => ?_)
    refine wp_aload_n X dX10_fillings_36 0 rfl ?_
    refine wp_iload_n X dX10_fillings_37 1 rfl ?_
    refine wp_callVI X (rm := rmX10_boxesOf) (T := TX10) (N := 20) (ci := 9) (n := 1) [.int x1] hcd (fun q hq => cX10_boxesOf_ok hq) kw901 kw903 ks20 kw10 kw904 (by decide +kernel) (by decide) (by decide) (cs2 := 0) (sl2 := 0) rfl rfl rfl (by decide) rfl rfl (Nat.le_of_ble_eq_true rfl) dX10_fillings_38 h (fun v38 h => ?_)
    refine wp_icmp_eq X (tgt := 46) dX10_fillings_41 (by decide) h (fun h => ?_) (fun h => ?_)
    · refine wp_iconst X (v := 0) dX10_fillings_46 (by decide) ?_
      refine wp_istore_n X (lv' := [(0, .ref x0), (1, .int x1), (2, .int x2), (3, .int 0)]) dX10_fillings_47 (by decide) [1, 2, 3, 0] rfl ?_
      refine tX10_fillings_48 X hcd Qr  ?_ FU _ _ _ _ _ h
      · intro x0 x1 x2 F h
        refine wp_iconst X (v := 0) dX10_fillings_67 (by decide) ?_
        refine wp_istore_n X (lv' := [(0, .ref x0), (1, .int x1), (2, .int x2), (3, .int 0)]) dX10_fillings_68 (by decide) [1, 2, 3, 0] rfl ?_
        refine tX10_fillings_69 X hcd Qr  ?_ FU _ _ _ _ _ h
        · intro x0 x1 F h
          refine wp_lconst X (v := 0) dX10_fillings_105 (by decide) ?_
          refine wp_lstore_n X (lv' := [(0, .ref x0), (1, .int x1), (3, .long 0)]) dX10_fillings_106 (by decide) [1, 2, 0] rfl ?_
          refine wp_bipush X (v := 7) dX10_fillings_107 (by decide) ?_
          refine wp_istore X (lv' := [(0, .ref x0), (1, .int x1), (3, .long 0), (5, .int 7)]) dX10_fillings_109 (by decide) [1, 2, 3, 0] rfl ?_
          refine tX10_fillings_111 X hcd Qr  ?_ FU _ _ _ _ _ h
          · intro x0 x3 F h
            refine wp_aload_n X dX10_fillings_135 0 rfl ?_
            refine wp_iconst X (v := 0) dX10_fillings_136 (by decide) ?_
            refine wp_put X (T := TX10) (N := 20) (ci := 9) (k := 13) tyX10 rfl (by decide) (by decide) inBX10 kw825 tyX10_ok nmX10 rfl rfl (vp_nar_int _) rfl dX10_fillings_137 h (fun F137 h => ?_)
            refine wp_aload_n X dX10_fillings_140 0 rfl ?_
            refine wp_lload_n X dX10_fillings_141 1 rfl ?_
            refine wp_lconst X (v := 1) dX10_fillings_142 (by decide) ?_
            refine wp_callVV X (rm := rmX10_note) (T := TX10) (N := 20) (ci := 9) (n := 2) [.long x3, .long 1] hcd (fun q hq => cX10_note_ok hq) kw1049 kw1051 ks40 kw10 kw1052 (by decide +kernel) (by decide) (by decide) (cs2 := 0) (sl2 := 0) rfl rfl rfl (by decide) rfl rfl (Nat.le_of_ble_eq_true rfl) dX10_fillings_143 h (fun v143 h => ?_)
            refine wp_iconst X (v := 1) dX10_fillings_146 (by decide) ?_
            refine wp_istore X (lv' := [(0, .ref x0), (5, .int 1)]) dX10_fillings_147 (by decide) [1, 0] rfl ?_
            refine tX10_fillings_149 X hcd Qr  ?_ FU _ _ _ h
            · intro x0 F h
              refine wp_aload_n X dX10_fillings_219 0 rfl ?_
              refine wp_getI X (T := TX10) (N := 20) (ci := 9) (k := 13) rfl (by decide) (by decide) inBX10 kw825 dX10_fillings_220 h (fun v220 h => ?_)
              refine wp_if_ne X (tgt := 230) dX10_fillings_223 (by decide) h (fun h => ?_) (fun h => ?_)
              · refine wp_aload_n X dX10_fillings_230 0 rfl ?_
                refine wp_getR X (T := TX10) (N := 20) (ci := 9) (k := 15) rfl (by decide) (by decide) inBX10 kw827 dX10_fillings_231 h (fun v231 h => ?_)
                refine wp_iconst X (v := 0) dX10_fillings_234 (by decide) ?_
                refine wp_laload X dX10_fillings_235 h (fun v235 h => ?_)
                exact wp_lreturn X Qr rfl dX10_fillings_236 h
              · refine wp_lconst X (v := 0) dX10_fillings_226 (by decide) ?_
                refine wp_goto X (tgt := 236) dX10_fillings_227 (by decide) ?_
                exact wp_lreturn X Qr rfl dX10_fillings_236 h
    · refine wp_lconst X (v := 0) dX10_fillings_44 (by decide) ?_
      exact wp_lreturn X Qr rfl dX10_fillings_45 h
def mX10_fillings (F : Mem) (x0 : Nat) (x1 : Int32) (x2 : Int32) : Option (Int64 × Mem) := (mX10_isSlot F x1).bind fun v2 => if v2.1 = 0 then (fX10_fillings_20   x0 x1 x2 x0 1 v2.2) else ((mX10_isWord v2.2 x2).bind fun v9 => if v9.1 = 0 then (fX10_fillings_20   x0 x1 x2 x0 1 v9.2) else (fX10_fillings_20   x0 x1 x2 x0 0 v9.2))
set_option maxRecDepth 100000 in
set_option maxHeartbeats 4000000 in
theorem cX10_fillings_ok {l : Launch} {D : va_G} {cy : Nat → ClassId} {F : Mem} {x0 : Nat} {x1 : Int32} {x2 : Int32} {res : Int64 × Mem} (h : mX10_fillings F x0 x1 x2 = some res) : ML l yX10_fillings cX10_fillings 7 (some .long) rmX10_fillings D cy F [.ref x0, .int x1, .int x2] res := by
  refine ml_of (by decide) (Nat.le_of_ble_eq_true rfl) [(0, .ref x0), (1, .int x1), (2, .int x2)] rfl (fun C X hcd Qr => ?_)
  unfold mX10_fillings at h
  refine wp_aload_n X dX10_fillings_0 0 rfl ?_
  refine wp_iload_n X dX10_fillings_1 1 rfl ?_
  refine wp_callSI X (rm := rmX10_isSlot) (n := 1) [.int x1] hcd (fun q hq => cX10_isSlot_ok hq) kw881 kw882 kw10 kw883 (by decide +kernel) (by decide) (by decide) (cs2 := 0) (sl2 := 0) rfl rfl rfl rfl (Nat.le_of_ble_eq_true rfl) dX10_fillings_2 h (fun v2 h => ?_)
  refine wp_if_eq X (tgt := 15) dX10_fillings_5 (by decide) h (fun h => ?_) (fun h => ?_)
  · refine wp_iconst X (v := 1) dX10_fillings_15 (by decide) ?_
    refine wp_goto X (tgt := 20) dX10_fillings_16 (by decide) ?_
    exact tX10_fillings_20 X hcd Qr   _ _ _ _ _ _ h
  · refine wp_iload_n X dX10_fillings_8 2 rfl ?_
    refine wp_callSI X (rm := rmX10_isWord) (n := 1) [.int x2] hcd (fun q hq => cX10_isWord_ok hq) kw913 kw914 kw10 kw915 (by decide +kernel) (by decide) (by decide) (cs2 := 0) (sl2 := 0) rfl rfl rfl rfl (Nat.le_of_ble_eq_true rfl) dX10_fillings_9 h (fun v9 h => ?_)
    refine wp_if_ne X (tgt := 19) dX10_fillings_12 (by decide) h (fun h => ?_) (fun h => ?_)
    · refine wp_iconst X (v := 0) dX10_fillings_19 (by decide) ?_
      exact tX10_fillings_20 X hcd Qr   _ _ _ _ _ _ h
    · refine wp_iconst X (v := 1) dX10_fillings_15 (by decide) ?_
      refine wp_goto X (tgt := 20) dX10_fillings_16 (by decide) ?_
      exact tX10_fillings_20 X hcd Qr   _ _ _ _ _ _ h
/-! TableauBenchModel.grows(I)Z -/
def rmX10_grows : Room := { frames := 0, cells := 0, slots := 0, locals := 0 }
def mX10_grows (F : Mem) (x0 : Nat) (x1 : Int32) : Option (Int32 × Mem) := (gfR F x0 9 10).bind fun v1 => (rdI F 0 v1 x1).bind fun v5 => (gfR F x0 9 11).bind fun v7 => (rdI F 0 v7 x1).bind fun v11 => if v11 ≤ v5 then (some (0, F)) else (if x1 = 0 then (some (1, F)) else ((gfR F x0 9 10).bind fun v20 => (rdI F 0 v20 (x1 - 1)).bind fun v26 => (gfR F x0 9 10).bind fun v28 => (rdI F 0 v28 x1).bind fun v32 => if v26 ≤ v32 then (some (0, F)) else (some (1, F))))
set_option maxRecDepth 100000 in
set_option maxHeartbeats 4000000 in
theorem cX10_grows_ok {l : Launch} {D : va_G} {cy : Nat → ClassId} {F : Mem} {x0 : Nat} {x1 : Int32} {res : Int32 × Mem} (h : mX10_grows F x0 x1 = some res) : MI l yX10_grows cX10_grows 2 (some .boolean) rmX10_grows D cy F [.ref x0, .int x1] res := by
  refine mi_of (by decide) (Nat.le_of_ble_eq_true rfl) [(0, .ref x0), (1, .int x1)] rfl (fun C X hcd Qr => ?_)
  unfold mX10_grows at h
  refine wp_aload_n X dX10_grows_0 0 rfl ?_
  refine wp_getR X (T := TX10) (N := 20) (ci := 9) (k := 10) rfl (by decide) (by decide) inBX10 kw822 dX10_grows_1 h (fun v1 h => ?_)
  refine wp_iload_n X dX10_grows_4 1 rfl ?_
  refine wp_iaload X dX10_grows_5 h (fun v5 h => ?_)
  refine wp_aload_n X dX10_grows_6 0 rfl ?_
  refine wp_getR X (T := TX10) (N := 20) (ci := 9) (k := 11) rfl (by decide) (by decide) inBX10 kw823 dX10_grows_7 h (fun v7 h => ?_)
  refine wp_iload_n X dX10_grows_10 1 rfl ?_
  refine wp_iaload X dX10_grows_11 h (fun v11 h => ?_)
  refine wp_icmp_ge X (tgt := 40) dX10_grows_12 (by decide) h (fun h => ?_) (fun h => ?_)
  · refine wp_iconst X (v := 0) dX10_grows_40 (by decide) ?_
    exact wp_ireturn X Qr rfl rfl dX10_grows_41 h
  · refine wp_iload_n X dX10_grows_15 1 rfl ?_
    refine wp_if_eq X (tgt := 36) dX10_grows_16 (by decide) h (fun h => ?_) (fun h => ?_)
    · refine wp_iconst X (v := 1) dX10_grows_36 (by decide) ?_
      refine wp_goto X (tgt := 41) dX10_grows_37 (by decide) ?_
      exact wp_ireturn X Qr rfl rfl dX10_grows_41 h
    · refine wp_aload_n X dX10_grows_19 0 rfl ?_
      refine wp_getR X (T := TX10) (N := 20) (ci := 9) (k := 10) rfl (by decide) (by decide) inBX10 kw822 dX10_grows_20 h (fun v20 h => ?_)
      refine wp_iload_n X dX10_grows_23 1 rfl ?_
      refine wp_iconst X (v := 1) dX10_grows_24 (by decide) ?_
      refine wp_isub X dX10_grows_25 ?_
      refine wp_iaload X dX10_grows_26 h (fun v26 h => ?_)
      refine wp_aload_n X dX10_grows_27 0 rfl ?_
      refine wp_getR X (T := TX10) (N := 20) (ci := 9) (k := 10) rfl (by decide) (by decide) inBX10 kw822 dX10_grows_28 h (fun v28 h => ?_)
      refine wp_iload_n X dX10_grows_31 1 rfl ?_
      refine wp_iaload X dX10_grows_32 h (fun v32 h => ?_)
      refine wp_icmp_le X (tgt := 40) dX10_grows_33 (by decide) h (fun h => ?_) (fun h => ?_)
      · refine wp_iconst X (v := 0) dX10_grows_40 (by decide) ?_
        exact wp_ireturn X Qr rfl rfl dX10_grows_41 h
      · refine wp_iconst X (v := 1) dX10_grows_36 (by decide) ?_
        refine wp_goto X (tgt := 41) dX10_grows_37 (by decide) ?_
        exact wp_ireturn X Qr rfl rfl dX10_grows_41 h
/-! TableauBenchModel.coefficient(III)J -/
def rmX10_coefficient : Room := { frames := 2, cells := 0, slots := 0, locals := 46 }
def fX10_coefficient_70 (K111 : Nat → Int32 → Mem → Option (Int64 × Mem)) : Nat → Nat → Int32 → Int32 → Int32 → Int32 → Mem → Option (Int64 × Mem)
  | 0, _, _, _, _, _, _ => none
  | n + 1, x0, x1, x2, x3, x4, F => if 8 ≤ x4 then (K111 x0 x2 F) else ((gfR F x0 9 10).bind fun v78 => (obj F x0 9).bind fun _ => (mX10_rowOf F x0 x1 x4).bind fun v87 => (wrI v87.2 v78 x4 v87.1).bind fun F90 => (gfR F90 x0 9 11).bind fun v92 => (obj F90 x0 9).bind fun _ => (mX10_rowOf F90 x0 x3 x4).bind fun v101 => (wrI v101.2 v92 x4 v101.1).bind fun F104 => (fX10_coefficient_70  K111 n) x0 x1 x2 x3 (x4 + 1) F104)
set_option maxRecDepth 100000 in
set_option maxHeartbeats 4000000 in
theorem tX10_coefficient_70 {l : Launch} {D : va_G} {cy : Nat → ClassId} {C : Cx} {res : Int64 × Mem} (X : Fx C cX10_coefficient RX10 (some .long) rmX10_coefficient 14) (hcd : CD C l D cy) (Qr : RJ C 0 0 res) {K111 : Nat → Int32 → Mem → Option (Int64 × Mem)} (hK111 : ∀ (x0 : Nat) (x2 : Int32) (F : Mem), K111 x0 x2 F = some res → Wp C 0 0 111 [(0, .ref x0), (2, .int x2)] [] F) : ∀ (n : Nat) (x0 : Nat) (x1 : Int32) (x2 : Int32) (x3 : Int32) (x4 : Int32) (F : Mem), fX10_coefficient_70 K111 n x0 x1 x2 x3 x4 F = some res → Wp C 0 0 70 [(0, .ref x0), (1, .int x1), (2, .int x2), (3, .int x3), (4, .int x4)] [] F := by
  intro n
  induction n with
  | zero =>
    intro x0 x1 x2 x3 x4 F h
    rw [fX10_coefficient_70.eq_1] at h
    cases h
  | succ n ih =>
    intro x0 x1 x2 x3 x4 F h
    rw [fX10_coefficient_70.eq_2] at h
    refine wp_iload X dX10_coefficient_70 4 rfl ?_
    refine wp_bipush X (v := 8) dX10_coefficient_72 (by decide) ?_
    refine wp_icmp_ge X (tgt := 111) dX10_coefficient_74 (by decide) h (fun h => ?_) (fun h => ?_)
    · refine wp_sub (lv' := [(0, .ref x0), (2, .int x2)]) [0, 2] rfl ?_
      exact hK111 _ _ _ h
    · refine wp_aload_n X dX10_coefficient_77 0 rfl ?_
      refine wp_getR X (T := TX10) (N := 20) (ci := 9) (k := 10) rfl (by decide) (by decide) inBX10 kw822 dX10_coefficient_78 h (fun v78 h => ?_)
      refine wp_iload X dX10_coefficient_81 4 rfl ?_
      refine wp_aload_n X dX10_coefficient_83 0 rfl ?_
      refine wp_iload_n X dX10_coefficient_84 1 rfl ?_
      refine wp_iload X dX10_coefficient_85 4 rfl ?_
      refine wp_callVI X (rm := rmX10_rowOf) (T := TX10) (N := 20) (ci := 9) (n := 2) [.int x1, .int x4] hcd (fun q hq => cX10_rowOf_ok hq) kw889 kw891 ks19 kw10 kw892 (by decide +kernel) (by decide) (by decide) (cs2 := 0) (sl2 := 0) rfl rfl rfl (by decide) rfl rfl (Nat.le_of_ble_eq_true rfl) dX10_coefficient_87 h (fun v87 h => ?_)
      refine wp_iastore X dX10_coefficient_90 h (fun F90 h => ?_)
      refine wp_aload_n X dX10_coefficient_91 0 rfl ?_
      refine wp_getR X (T := TX10) (N := 20) (ci := 9) (k := 11) rfl (by decide) (by decide) inBX10 kw823 dX10_coefficient_92 h (fun v92 h => ?_)
      refine wp_iload X dX10_coefficient_95 4 rfl ?_
      refine wp_aload_n X dX10_coefficient_97 0 rfl ?_
      refine wp_iload_n X dX10_coefficient_98 3 rfl ?_
      refine wp_iload X dX10_coefficient_99 4 rfl ?_
      refine wp_callVI X (rm := rmX10_rowOf) (T := TX10) (N := 20) (ci := 9) (n := 2) [.int x3, .int x4] hcd (fun q hq => cX10_rowOf_ok hq) kw889 kw891 ks19 kw10 kw892 (by decide +kernel) (by decide) (by decide) (cs2 := 0) (sl2 := 0) rfl rfl rfl (by decide) rfl rfl (Nat.le_of_ble_eq_true rfl) dX10_coefficient_101 h (fun v101 h => ?_)
      refine wp_iastore X dX10_coefficient_104 h (fun F104 h => ?_)
      refine wp_iinc X (v := x4 + 1) (lv' := [(0, .ref x0), (1, .int x1), (2, .int x2), (3, .int x3), (4, .int (x4 + 1))]) dX10_coefficient_105 (by decide) 4 rfl rfl [1, 2, 3, 4, 0] rfl ?_
      refine wp_goto X (tgt := 70) dX10_coefficient_108 (by decide) ?_
      exact ih _ _ _ _ _ _ h
def fX10_coefficient_167 (K197 : Nat → Int32 → Int32 → Int32 → Int64 → Int32 → Int32 → Int32 → Mem → Option (Int64 × Mem)) : Nat → Nat → Int32 → Int32 → Int32 → Int64 → Int32 → Int32 → Int32 → Mem → Option (Int64 × Mem)
  | 0, _, _, _, _, _, _, _, _, _ => none
  | n + 1, x0, x2, x4, x5, x6, x8, x9, x11, F => (obj F x0 9).bind fun _ => (mX10_rowOf F x0 x2 x8).bind fun v173 => if x9 < v173.1 then (K197 x0 x2 x4 x5 x6 x8 x9 x11 v173.2) else ((obj v173.2 x0 9).bind fun _ => (mX10_rowOf v173.2 x0 x2 x8).bind fun v185 => (fX10_coefficient_167  K197 n) x0 x2 x4 x5 x6 (x8 + 1) (x9 - v185.1) x11 v185.2)
set_option maxRecDepth 100000 in
set_option maxHeartbeats 4000000 in
theorem tX10_coefficient_167 {l : Launch} {D : va_G} {cy : Nat → ClassId} {C : Cx} {res : Int64 × Mem} (X : Fx C cX10_coefficient RX10 (some .long) rmX10_coefficient 14) (hcd : CD C l D cy) (Qr : RJ C 0 0 res) {K197 : Nat → Int32 → Int32 → Int32 → Int64 → Int32 → Int32 → Int32 → Mem → Option (Int64 × Mem)} (hK197 : ∀ (x0 : Nat) (x2 : Int32) (x4 : Int32) (x5 : Int32) (x6 : Int64) (x8 : Int32) (x9 : Int32) (x11 : Int32) (F : Mem), K197 x0 x2 x4 x5 x6 x8 x9 x11 F = some res → Wp C 0 0 197 [(0, .ref x0), (2, .int x2), (4, .int x4), (5, .int x5), (6, .long x6), (8, .int x8), (9, .int x9), (11, .int x11)] [] F) : ∀ (n : Nat) (x0 : Nat) (x2 : Int32) (x4 : Int32) (x5 : Int32) (x6 : Int64) (x8 : Int32) (x9 : Int32) (x11 : Int32) (F : Mem), fX10_coefficient_167 K197 n x0 x2 x4 x5 x6 x8 x9 x11 F = some res → Wp C 0 0 167 [(0, .ref x0), (2, .int x2), (4, .int x4), (5, .int x5), (6, .long x6), (8, .int x8), (9, .int x9), (11, .int x11)] [] F := by
  intro n
  induction n with
  | zero =>
    intro x0 x2 x4 x5 x6 x8 x9 x11 F h
    rw [fX10_coefficient_167.eq_1] at h
    cases h
  | succ n ih =>
    intro x0 x2 x4 x5 x6 x8 x9 x11 F h
    rw [fX10_coefficient_167.eq_2] at h
    refine wp_iload X dX10_coefficient_167 6 rfl ?_
    refine wp_aload_n X dX10_coefficient_169 0 rfl ?_
    refine wp_iload_n X dX10_coefficient_170 1 rfl ?_
    refine wp_iload X dX10_coefficient_171 5 rfl ?_
    refine wp_callVI X (rm := rmX10_rowOf) (T := TX10) (N := 20) (ci := 9) (n := 2) [.int x2, .int x8] hcd (fun q hq => cX10_rowOf_ok hq) kw889 kw891 ks19 kw10 kw892 (by decide +kernel) (by decide) (by decide) (cs2 := 0) (sl2 := 0) rfl rfl rfl (by decide) rfl rfl (Nat.le_of_ble_eq_true rfl) dX10_coefficient_173 h (fun v173 h => ?_)
    refine wp_icmp_lt X (tgt := 197) dX10_coefficient_176 (by decide) h (fun h => ?_) (fun h => ?_)
    · exact hK197 _ _ _ _ _ _ _ _ _ h
    · refine wp_iload X dX10_coefficient_179 6 rfl ?_
      refine wp_aload_n X dX10_coefficient_181 0 rfl ?_
      refine wp_iload_n X dX10_coefficient_182 1 rfl ?_
      refine wp_iload X dX10_coefficient_183 5 rfl ?_
      refine wp_callVI X (rm := rmX10_rowOf) (T := TX10) (N := 20) (ci := 9) (n := 2) [.int x2, .int x8] hcd (fun q hq => cX10_rowOf_ok hq) kw889 kw891 ks19 kw10 kw892 (by decide +kernel) (by decide) (by decide) (cs2 := 0) (sl2 := 0) rfl rfl rfl (by decide) rfl rfl (Nat.le_of_ble_eq_true rfl) dX10_coefficient_185 h (fun v185 h => ?_)
      refine wp_isub X dX10_coefficient_188 ?_
      refine wp_istore X (lv' := [(0, .ref x0), (2, .int x2), (4, .int x4), (5, .int x5), (6, .long x6), (8, .int x8), (9, .int (x9 - v185.1)), (11, .int x11)]) dX10_coefficient_189 (by decide) [1, 2, 3, 4, 5, 6, 0, 7] rfl ?_
      refine wp_iinc X (v := x8 + 1) (lv' := [(0, .ref x0), (2, .int x2), (4, .int x4), (5, .int x5), (6, .long x6), (8, .int (x8 + 1)), (9, .int (x9 - v185.1)), (11, .int x11)]) dX10_coefficient_191 (by decide) 5 rfl rfl [1, 2, 3, 4, 5, 0, 6, 7] rfl ?_
      refine wp_goto X (tgt := 167) dX10_coefficient_194 (by decide) ?_
      exact ih _ _ _ _ _ _ _ _ _ h
def fX10_coefficient_320 (K342 : Nat → Int32 → Int32 → Int32 → Int64 → Int32 → Int32 → Int32 → Mem → Option (Int64 × Mem)) : Nat → Nat → Int32 → Int32 → Int32 → Int64 → Int32 → Int32 → Int32 → Mem → Option (Int64 × Mem)
  | 0, _, _, _, _, _, _, _, _, _ => none
  | n + 1, x0, x2, x4, x5, x6, x10, x12, x13, F => if x13 < x10 then (K342 x0 x2 x4 x5 x6 x10 x12 x13 F) else ((obj F x0 9).bind fun _ => (mX10_grows F x0 x10).bind fun v330 => if v330.1 = 0 then ((fX10_coefficient_320  K342 n) x0 x2 x4 x5 x6 (x10 + 1) x12 x13 v330.2) else (K342 x0 x2 x4 x5 x6 x10 x12 x13 v330.2))
set_option maxRecDepth 100000 in
set_option maxHeartbeats 4000000 in
theorem tX10_coefficient_320 {l : Launch} {D : va_G} {cy : Nat → ClassId} {C : Cx} {res : Int64 × Mem} (X : Fx C cX10_coefficient RX10 (some .long) rmX10_coefficient 14) (hcd : CD C l D cy) (Qr : RJ C 0 0 res) {K342 : Nat → Int32 → Int32 → Int32 → Int64 → Int32 → Int32 → Int32 → Mem → Option (Int64 × Mem)} (hK342 : ∀ (x0 : Nat) (x2 : Int32) (x4 : Int32) (x5 : Int32) (x6 : Int64) (x10 : Int32) (x12 : Int32) (x13 : Int32) (F : Mem), K342 x0 x2 x4 x5 x6 x10 x12 x13 F = some res → Wp C 0 0 342 [(0, .ref x0), (2, .int x2), (4, .int x4), (5, .int x5), (6, .long x6), (10, .int x10), (12, .int x12), (13, .int x13)] [] F) : ∀ (n : Nat) (x0 : Nat) (x2 : Int32) (x4 : Int32) (x5 : Int32) (x6 : Int64) (x10 : Int32) (x12 : Int32) (x13 : Int32) (F : Mem), fX10_coefficient_320 K342 n x0 x2 x4 x5 x6 x10 x12 x13 F = some res → Wp C 0 0 320 [(0, .ref x0), (2, .int x2), (4, .int x4), (5, .int x5), (6, .long x6), (10, .int x10), (12, .int x12), (13, .int x13)] [] F := by
  intro n
  induction n with
  | zero =>
    intro x0 x2 x4 x5 x6 x10 x12 x13 F h
    rw [fX10_coefficient_320.eq_1] at h
    cases h
  | succ n ih =>
    intro x0 x2 x4 x5 x6 x10 x12 x13 F h
    rw [fX10_coefficient_320.eq_2] at h
    refine wp_iload X dX10_coefficient_320 5 rfl ?_
    refine wp_iload X dX10_coefficient_322 7 rfl ?_
    refine wp_icmp_gt X (tgt := 342) dX10_coefficient_324 (by decide) h (fun h => ?_) (fun h => ?_)
    · exact hK342 _ _ _ _ _ _ _ _ _ h
    · refine wp_aload_n X dX10_coefficient_327 0 rfl ?_
      refine wp_iload X dX10_coefficient_328 5 rfl ?_
      refine wp_callVI X (rm := rmX10_grows) (T := TX10) (N := 20) (ci := 9) (n := 1) [.int x10] hcd (fun q hq => cX10_grows_ok hq) kw1069 kw1071 ks43 kw10 kw1072 (by decide +kernel) (by decide) (by decide) (cs2 := 0) (sl2 := 0) rfl rfl rfl (by decide) rfl rfl (Nat.le_of_ble_eq_true rfl) dX10_coefficient_330 h (fun v330 h => ?_)
      refine wp_if_ne X (tgt := 342) dX10_coefficient_333 (by decide) h (fun h => ?_) (fun h => ?_)
      · exact hK342 _ _ _ _ _ _ _ _ _ h
      · refine wp_iinc X (v := x10 + 1) (lv' := [(0, .ref x0), (2, .int x2), (4, .int x4), (5, .int x5), (6, .long x6), (10, .int (x10 + 1)), (12, .int x12), (13, .int x13)]) dX10_coefficient_336 (by decide) 5 rfl rfl [1, 2, 3, 4, 5, 0, 6, 7] rfl ?_
        refine wp_goto X (tgt := 320) dX10_coefficient_339 (by decide) ?_
        exact ih _ _ _ _ _ _ _ _ _ h
def fX10_coefficient_354 (K155 : Nat → Int32 → Int32 → Int32 → Int64 → Int32 → Mem → Option (Int64 × Mem)) (x0 : Nat) (x2 : Int32) (x4 : Int32) (x5 : Int32) (x6 : Int64) (x10 : Int32) (x12 : Int32) (s0 : Int32) (F : Mem) : Option (Int64 × Mem) := if s0 = 0 then ((gfR F x0 9 4).bind fun v368 => (wrI F v368 x12 x10).bind fun F375 => (gfR F375 x0 9 10).bind fun v377 => (rdI F375 0 v377 x10).bind fun v383 => (wrI F375 v377 x10 (v383 + 1)).bind fun F386 => if x5 = (x4 - 1) then (K155 x0 x2 x4 x5 (x6 + 1) 1 F386) else (K155 x0 x2 x4 (x5 + 1) x6 s0 F386)) else (K155 x0 x2 x4 (x5 + (-1)) x6 s0 F)
set_option maxRecDepth 100000 in
set_option maxHeartbeats 4000000 in
theorem tX10_coefficient_354 {l : Launch} {D : va_G} {cy : Nat → ClassId} {C : Cx} {res : Int64 × Mem} (X : Fx C cX10_coefficient RX10 (some .long) rmX10_coefficient 14) (hcd : CD C l D cy) (Qr : RJ C 0 0 res) {K155 : Nat → Int32 → Int32 → Int32 → Int64 → Int32 → Mem → Option (Int64 × Mem)} (hK155 : ∀ (x0 : Nat) (x2 : Int32) (x4 : Int32) (x5 : Int32) (x6 : Int64) (x11 : Int32) (F : Mem), K155 x0 x2 x4 x5 x6 x11 F = some res → Wp C 0 0 155 [(0, .ref x0), (2, .int x2), (4, .int x4), (5, .int x5), (6, .long x6), (11, .int x11)] [] F) (x0 : Nat) (x2 : Int32) (x4 : Int32) (x5 : Int32) (x6 : Int64) (x10 : Int32) (x12 : Int32) (s0 : Int32) (F : Mem) (h : fX10_coefficient_354 K155 x0 x2 x4 x5 x6 x10 x12 s0 F = some res) : Wp C 0 0 354 [(0, .ref x0), (2, .int x2), (4, .int x4), (5, .int x5), (6, .long x6), (10, .int x10), (12, .int x12)] [.int s0] F := by
  unfold fX10_coefficient_354 at h
  refine wp_istore X (lv' := [(0, .ref x0), (2, .int x2), (4, .int x4), (5, .int x5), (6, .long x6), (10, .int x10), (11, .int s0), (12, .int x12)]) dX10_coefficient_354 (by decide) [1, 2, 3, 4, 5, 6, 0, 7] rfl ?_
  refine wp_iload X dX10_coefficient_356 6 rfl ?_
  refine wp_if_eq X (tgt := 367) dX10_coefficient_358 (by decide) h (fun h => ?_) (fun h => ?_)
  · refine wp_aload_n X dX10_coefficient_367 0 rfl ?_
    refine wp_getR X (T := TX10) (N := 20) (ci := 9) (k := 4) rfl (by decide) (by decide) inBX10 kw816 dX10_coefficient_368 h (fun v368 h => ?_)
    refine wp_iload X dX10_coefficient_371 7 rfl ?_
    refine wp_iload X dX10_coefficient_373 5 rfl ?_
    refine wp_iastore X dX10_coefficient_375 h (fun F375 h => ?_)
    refine wp_aload_n X dX10_coefficient_376 0 rfl ?_
    refine wp_getR X (T := TX10) (N := 20) (ci := 9) (k := 10) rfl (by decide) (by decide) inBX10 kw822 dX10_coefficient_377 h (fun v377 h => ?_)
    refine wp_iload X dX10_coefficient_380 5 rfl ?_
    refine wp_dup2 X dX10_coefficient_382 rfl rfl ?_
    refine wp_iaload X dX10_coefficient_383 h (fun v383 h => ?_)
    refine wp_iconst X (v := 1) dX10_coefficient_384 (by decide) ?_
    refine wp_iadd X dX10_coefficient_385 ?_
    refine wp_iastore X dX10_coefficient_386 h (fun F386 h => ?_)
    refine wp_iload X dX10_coefficient_387 3 rfl ?_
    refine wp_iload X dX10_coefficient_389 2 rfl ?_
    refine wp_iconst X (v := 1) dX10_coefficient_391 (by decide) ?_
    refine wp_isub X dX10_coefficient_392 ?_
    refine wp_icmp_ne X (tgt := 408) dX10_coefficient_393 (by decide) h (fun h => ?_) (fun h => ?_)
    · refine wp_iinc X (v := x5 + 1) (lv' := [(0, .ref x0), (2, .int x2), (4, .int x4), (5, .int (x5 + 1)), (6, .long x6), (11, .int s0)]) dX10_coefficient_408 (by decide) 3 rfl rfl [1, 2, 3, 0, 4, 6] rfl ?_
      refine wp_goto X (tgt := 155) dX10_coefficient_411 (by decide) ?_
      exact hK155 _ _ _ _ _ _ _ h
    · refine wp_lload X dX10_coefficient_396 4 rfl ?_
      refine wp_lconst X (v := 1) dX10_coefficient_398 (by decide) ?_
      refine wp_ladd X dX10_coefficient_399 ?_
      refine wp_lstore X (lv' := [(0, .ref x0), (2, .int x2), (4, .int x4), (5, .int x5), (6, .long (x6 + 1))]) dX10_coefficient_400 (by decide) [1, 2, 3, 4, 0] rfl ?_
      refine wp_iconst X (v := 1) dX10_coefficient_402 (by decide) ?_
      refine wp_istore X (lv' := [(0, .ref x0), (2, .int x2), (4, .int x4), (5, .int x5), (6, .long (x6 + 1)), (11, .int 1)]) dX10_coefficient_403 (by decide) [1, 2, 3, 4, 5, 0] rfl ?_
      refine wp_goto X (tgt := 411) dX10_coefficient_405 (by decide) ?_
      refine wp_goto X (tgt := 155) dX10_coefficient_411 (by decide) ?_
      exact hK155 _ _ _ _ _ _ _ h
  · refine wp_iinc X (v := x5 + (-1)) (lv' := [(0, .ref x0), (2, .int x2), (4, .int x4), (5, .int (x5 + (-1))), (6, .long x6), (11, .int s0)]) dX10_coefficient_361 (by decide) 3 rfl rfl [1, 2, 3, 0, 4, 6] rfl ?_
    refine wp_goto X (tgt := 411) dX10_coefficient_364 (by decide) ?_
    refine wp_goto X (tgt := 155) dX10_coefficient_411 (by decide) ?_
    exact hK155 _ _ _ _ _ _ _ h
def fX10_coefficient_342 (K155 : Nat → Int32 → Int32 → Int32 → Int64 → Int32 → Mem → Option (Int64 × Mem)) (x0 : Nat) (x2 : Int32) (x4 : Int32) (x5 : Int32) (x6 : Int64) (x10 : Int32) (x12 : Int32) (x13 : Int32) (F : Mem) : Option (Int64 × Mem) := if x10 ≤ x13 then (fX10_coefficient_354  K155 x0 x2 x4 x5 x6 x10 x12 0 F) else (fX10_coefficient_354  K155 x0 x2 x4 x5 x6 x10 x12 1 F)
set_option maxRecDepth 100000 in
set_option maxHeartbeats 4000000 in
theorem tX10_coefficient_342 {l : Launch} {D : va_G} {cy : Nat → ClassId} {C : Cx} {res : Int64 × Mem} (X : Fx C cX10_coefficient RX10 (some .long) rmX10_coefficient 14) (hcd : CD C l D cy) (Qr : RJ C 0 0 res) {K155 : Nat → Int32 → Int32 → Int32 → Int64 → Int32 → Mem → Option (Int64 × Mem)} (hK155 : ∀ (x0 : Nat) (x2 : Int32) (x4 : Int32) (x5 : Int32) (x6 : Int64) (x11 : Int32) (F : Mem), K155 x0 x2 x4 x5 x6 x11 F = some res → Wp C 0 0 155 [(0, .ref x0), (2, .int x2), (4, .int x4), (5, .int x5), (6, .long x6), (11, .int x11)] [] F) (x0 : Nat) (x2 : Int32) (x4 : Int32) (x5 : Int32) (x6 : Int64) (x10 : Int32) (x12 : Int32) (x13 : Int32) (F : Mem) (h : fX10_coefficient_342 K155 x0 x2 x4 x5 x6 x10 x12 x13 F = some res) : Wp C 0 0 342 [(0, .ref x0), (2, .int x2), (4, .int x4), (5, .int x5), (6, .long x6), (10, .int x10), (12, .int x12), (13, .int x13)] [] F := by
  unfold fX10_coefficient_342 at h
  refine wp_iload X dX10_coefficient_342 5 rfl ?_
  refine wp_iload X dX10_coefficient_344 7 rfl ?_
  refine wp_icmp_le X (tgt := 353) dX10_coefficient_346 (by decide) h (fun h => ?_) (fun h => ?_)
  · refine wp_iconst X (v := 0) dX10_coefficient_353 (by decide) ?_
    refine wp_sub (lv' := [(0, .ref x0), (2, .int x2), (4, .int x4), (5, .int x5), (6, .long x6), (10, .int x10), (12, .int x12)]) [0, 1, 2, 3, 4, 5, 6] rfl ?_
    exact tX10_coefficient_354 X hcd Qr  hK155 _ _ _ _ _ _ _ _ _ h
  · refine wp_iconst X (v := 1) dX10_coefficient_349 (by decide) ?_
    refine wp_goto X (tgt := 354) dX10_coefficient_350 (by decide) ?_
    refine wp_sub (lv' := [(0, .ref x0), (2, .int x2), (4, .int x4), (5, .int x5), (6, .long x6), (10, .int x10), (12, .int x12)]) [0, 1, 2, 3, 4, 5, 6] rfl ?_
    exact tX10_coefficient_354 X hcd Qr  hK155 _ _ _ _ _ _ _ _ _ h
def fX10_coefficient_318 (K155 : Nat → Int32 → Int32 → Int32 → Int64 → Int32 → Mem → Option (Int64 × Mem)) (x0 : Nat) (x2 : Int32) (x4 : Int32) (x5 : Int32) (x6 : Int64) (x10 : Int32) (x12 : Int32) (s0 : Int32) (F : Mem) : Option (Int64 × Mem) := fX10_coefficient_320  (fun (x0 : Nat) (x2 : Int32) (x4 : Int32) (x5 : Int32) (x6 : Int64) (x10 : Int32) (x12 : Int32) (x13 : Int32) (F : Mem) => fX10_coefficient_342  K155 x0 x2 x4 x5 x6 x10 x12 x13 F) FU x0 x2 x4 x5 x6 x10 x12 s0 F
set_option maxRecDepth 100000 in
set_option maxHeartbeats 4000000 in
theorem tX10_coefficient_318 {l : Launch} {D : va_G} {cy : Nat → ClassId} {C : Cx} {res : Int64 × Mem} (X : Fx C cX10_coefficient RX10 (some .long) rmX10_coefficient 14) (hcd : CD C l D cy) (Qr : RJ C 0 0 res) {K155 : Nat → Int32 → Int32 → Int32 → Int64 → Int32 → Mem → Option (Int64 × Mem)} (hK155 : ∀ (x0 : Nat) (x2 : Int32) (x4 : Int32) (x5 : Int32) (x6 : Int64) (x11 : Int32) (F : Mem), K155 x0 x2 x4 x5 x6 x11 F = some res → Wp C 0 0 155 [(0, .ref x0), (2, .int x2), (4, .int x4), (5, .int x5), (6, .long x6), (11, .int x11)] [] F) (x0 : Nat) (x2 : Int32) (x4 : Int32) (x5 : Int32) (x6 : Int64) (x10 : Int32) (x12 : Int32) (s0 : Int32) (F : Mem) (h : fX10_coefficient_318 K155 x0 x2 x4 x5 x6 x10 x12 s0 F = some res) : Wp C 0 0 318 [(0, .ref x0), (2, .int x2), (4, .int x4), (5, .int x5), (6, .long x6), (10, .int x10), (12, .int x12)] [.int s0] F := by
  unfold fX10_coefficient_318 at h
  refine wp_istore X (lv' := [(0, .ref x0), (2, .int x2), (4, .int x4), (5, .int x5), (6, .long x6), (10, .int x10), (12, .int x12), (13, .int s0)]) dX10_coefficient_318 (by decide) [1, 2, 3, 4, 5, 6, 7, 0] rfl ?_
  refine tX10_coefficient_320 X hcd Qr  ?_ FU _ _ _ _ _ _ _ _ _ h
  · intro x0 x2 x4 x5 x6 x10 x12 x13 F h
    exact tX10_coefficient_342 X hcd Qr  hK155 _ _ _ _ _ _ _ _ _ h
def fX10_coefficient_284 (K155 : Nat → Int32 → Int32 → Int32 → Int64 → Int32 → Mem → Option (Int64 × Mem)) (x0 : Nat) (x2 : Int32) (x4 : Int32) (x5 : Int32) (x6 : Int64) (x8 : Int32) (x9 : Int32) (x10 : Int32) (x12 : Int32) (F : Mem) : Option (Int64 × Mem) := (obj F x0 9).bind fun _ => (mX10_rowOf F x0 x2 x8).bind fun v290 => if x9 = (v290.1 - 1) then (fX10_coefficient_318  K155 x0 x2 x4 x5 x6 x10 x12 7 v290.2) else ((gfR v290.2 x0 9 4).bind fun v304 => (mX10_box v290.2 1 x8 (x9 + 1)).bind fun v314 => (rdI v314.2 0 v304 v314.1).bind fun v317 => fX10_coefficient_318  K155 x0 x2 x4 x5 x6 x10 x12 v317 v314.2)
set_option maxRecDepth 100000 in
set_option maxHeartbeats 4000000 in
theorem tX10_coefficient_284 {l : Launch} {D : va_G} {cy : Nat → ClassId} {C : Cx} {res : Int64 × Mem} (X : Fx C cX10_coefficient RX10 (some .long) rmX10_coefficient 14) (hcd : CD C l D cy) (Qr : RJ C 0 0 res) {K155 : Nat → Int32 → Int32 → Int32 → Int64 → Int32 → Mem → Option (Int64 × Mem)} (hK155 : ∀ (x0 : Nat) (x2 : Int32) (x4 : Int32) (x5 : Int32) (x6 : Int64) (x11 : Int32) (F : Mem), K155 x0 x2 x4 x5 x6 x11 F = some res → Wp C 0 0 155 [(0, .ref x0), (2, .int x2), (4, .int x4), (5, .int x5), (6, .long x6), (11, .int x11)] [] F) (x0 : Nat) (x2 : Int32) (x4 : Int32) (x5 : Int32) (x6 : Int64) (x8 : Int32) (x9 : Int32) (x10 : Int32) (x12 : Int32) (F : Mem) (h : fX10_coefficient_284 K155 x0 x2 x4 x5 x6 x8 x9 x10 x12 F = some res) : Wp C 0 0 284 [(0, .ref x0), (2, .int x2), (4, .int x4), (5, .int x5), (6, .long x6), (8, .int x8), (9, .int x9), (10, .int x10), (12, .int x12)] [] F := by
  unfold fX10_coefficient_284 at h
  refine wp_iload X dX10_coefficient_284 6 rfl ?_
  refine wp_aload_n X dX10_coefficient_286 0 rfl ?_
  refine wp_iload_n X dX10_coefficient_287 1 rfl ?_
  refine wp_iload X dX10_coefficient_288 5 rfl ?_
  refine wp_callVI X (rm := rmX10_rowOf) (T := TX10) (N := 20) (ci := 9) (n := 2) [.int x2, .int x8] hcd (fun q hq => cX10_rowOf_ok hq) kw889 kw891 ks19 kw10 kw892 (by decide +kernel) (by decide) (by decide) (cs2 := 0) (sl2 := 0) rfl rfl rfl (by decide) rfl rfl (Nat.le_of_ble_eq_true rfl) dX10_coefficient_290 h (fun v290 h => ?_)
  refine wp_iconst X (v := 1) dX10_coefficient_293 (by decide) ?_
  refine wp_isub X dX10_coefficient_294 ?_
  refine wp_icmp_ne X (tgt := 303) dX10_coefficient_295 (by decide) h (fun h => ?_) (fun h => ?_)
  · refine wp_aload_n X dX10_coefficient_303 0 rfl ?_
    refine wp_getR X (T := TX10) (N := 20) (ci := 9) (k := 4) rfl (by decide) (by decide) inBX10 kw816 dX10_coefficient_304 h (fun v304 h => ?_)
    refine wp_iconst X (v := 1) dX10_coefficient_307 (by decide) ?_
    refine wp_iload X dX10_coefficient_308 5 rfl ?_
    refine wp_iload X dX10_coefficient_310 6 rfl ?_
    refine wp_iconst X (v := 1) dX10_coefficient_312 (by decide) ?_
    refine wp_iadd X dX10_coefficient_313 ?_
    refine wp_callSI X (rm := rmX10_box) (n := 3) [.int 1, .int x8, .int (x9 + 1)] hcd (fun q hq => cX10_box_ok hq) kw940 kw941 kw10 kw942 (by decide +kernel) (by decide) (by decide) (cs2 := 0) (sl2 := 0) rfl rfl rfl rfl (Nat.le_of_ble_eq_true rfl) dX10_coefficient_314 h (fun v314 h => ?_)
    refine wp_iaload X dX10_coefficient_317 h (fun v317 h => ?_)
    refine wp_sub (lv' := [(0, .ref x0), (2, .int x2), (4, .int x4), (5, .int x5), (6, .long x6), (10, .int x10), (12, .int x12)]) [0, 1, 2, 3, 4, 7, 8] rfl ?_
    exact tX10_coefficient_318 X hcd Qr  hK155 _ _ _ _ _ _ _ _ _ h
  · refine wp_bipush X (v := 7) dX10_coefficient_298 (by decide) ?_
    refine wp_goto X (tgt := 318) dX10_coefficient_300 (by decide) ?_
    refine wp_sub (lv' := [(0, .ref x0), (2, .int x2), (4, .int x4), (5, .int x5), (6, .long x6), (10, .int x10), (12, .int x12)]) [0, 1, 2, 3, 4, 7, 8] rfl ?_
    exact tX10_coefficient_318 X hcd Qr  hK155 _ _ _ _ _ _ _ _ _ h
def fX10_coefficient_282 (K155 : Nat → Int32 → Int32 → Int32 → Int64 → Int32 → Mem → Option (Int64 × Mem)) (x0 : Nat) (x2 : Int32) (x4 : Int32) (x5 : Int32) (x6 : Int64) (x8 : Int32) (x9 : Int32) (x12 : Int32) (s0 : Int32) (F : Mem) : Option (Int64 × Mem) := fX10_coefficient_284  K155 x0 x2 x4 x5 x6 x8 x9 s0 x12 F
set_option maxRecDepth 100000 in
set_option maxHeartbeats 4000000 in
theorem tX10_coefficient_282 {l : Launch} {D : va_G} {cy : Nat → ClassId} {C : Cx} {res : Int64 × Mem} (X : Fx C cX10_coefficient RX10 (some .long) rmX10_coefficient 14) (hcd : CD C l D cy) (Qr : RJ C 0 0 res) {K155 : Nat → Int32 → Int32 → Int32 → Int64 → Int32 → Mem → Option (Int64 × Mem)} (hK155 : ∀ (x0 : Nat) (x2 : Int32) (x4 : Int32) (x5 : Int32) (x6 : Int64) (x11 : Int32) (F : Mem), K155 x0 x2 x4 x5 x6 x11 F = some res → Wp C 0 0 155 [(0, .ref x0), (2, .int x2), (4, .int x4), (5, .int x5), (6, .long x6), (11, .int x11)] [] F) (x0 : Nat) (x2 : Int32) (x4 : Int32) (x5 : Int32) (x6 : Int64) (x8 : Int32) (x9 : Int32) (x12 : Int32) (s0 : Int32) (F : Mem) (h : fX10_coefficient_282 K155 x0 x2 x4 x5 x6 x8 x9 x12 s0 F = some res) : Wp C 0 0 282 [(0, .ref x0), (2, .int x2), (4, .int x4), (5, .int x5), (6, .long x6), (8, .int x8), (9, .int x9), (12, .int x12)] [.int s0] F := by
  unfold fX10_coefficient_282 at h
  refine wp_istore X (lv' := [(0, .ref x0), (2, .int x2), (4, .int x4), (5, .int x5), (6, .long x6), (8, .int x8), (9, .int x9), (10, .int s0), (12, .int x12)]) dX10_coefficient_282 (by decide) [1, 2, 3, 4, 5, 6, 7, 0, 8] rfl ?_
  exact tX10_coefficient_284 X hcd Qr  hK155 _ _ _ _ _ _ _ _ _ _ h
def fX10_coefficient_155  : Nat → Nat → Int32 → Int32 → Int32 → Int64 → Int32 → Mem → Option (Int64 × Mem)
  | 0, _, _, _, _, _, _, _ => none
  | n + 1, x0, x2, x4, x5, x6, x11, F => if x5 < 0 then (some (x6, F)) else (fX10_coefficient_167  (fun (x0 : Nat) (x2 : Int32) (x4 : Int32) (x5 : Int32) (x6 : Int64) (x8 : Int32) (x9 : Int32) (x11 : Int32) (F : Mem) => (obj F x0 9).bind fun _ => (mX10_rowOf F x0 x2 x8).bind fun v201 => (mX10_box v201.2 1 x8 ((v201.1 - 1) - x9)).bind fun v216 => if x11 = 0 then (if x8 = 0 then (fX10_coefficient_282  (fX10_coefficient_155   n) x0 x2 x4 x5 x6 x8 ((v201.1 - 1) - x9) v216.1 0 v216.2) else ((gfR v216.2 x0 9 4).bind fun v266 => (mX10_box v216.2 1 (x8 - 1) ((v201.1 - 1) - x9)).bind fun v276 => (rdI v276.2 0 v266 v276.1).bind fun v279 => fX10_coefficient_282  (fX10_coefficient_155   n) x0 x2 x4 x5 x6 x8 ((v201.1 - 1) - x9) v216.1 (v279 + 1) v276.2)) else ((gfR v216.2 x0 9 4).bind fun v227 => (rdI v216.2 0 v227 v216.1).bind fun v232 => (gfR v216.2 x0 9 10).bind fun v238 => (gfR v216.2 x0 9 4).bind fun v242 => (rdI v216.2 0 v242 v216.1).bind fun v247 => (rdI v216.2 0 v238 v247).bind fun v249 => (wrI v216.2 v238 v247 (v249 - 1)).bind fun F252 => fX10_coefficient_284  (fX10_coefficient_155   n) x0 x2 x4 x5 x6 x8 ((v201.1 - 1) - x9) (v232 + 1) v216.1 F252)) FU x0 x2 x4 x5 x6 0 x5 x11 F)
set_option maxRecDepth 100000 in
set_option maxHeartbeats 4000000 in
theorem tX10_coefficient_155 {l : Launch} {D : va_G} {cy : Nat → ClassId} {C : Cx} {res : Int64 × Mem} (X : Fx C cX10_coefficient RX10 (some .long) rmX10_coefficient 14) (hcd : CD C l D cy) (Qr : RJ C 0 0 res)   : ∀ (n : Nat) (x0 : Nat) (x2 : Int32) (x4 : Int32) (x5 : Int32) (x6 : Int64) (x11 : Int32) (F : Mem), fX10_coefficient_155  n x0 x2 x4 x5 x6 x11 F = some res → Wp C 0 0 155 [(0, .ref x0), (2, .int x2), (4, .int x4), (5, .int x5), (6, .long x6), (11, .int x11)] [] F := by
  intro n
  induction n with
  | zero =>
    intro x0 x2 x4 x5 x6 x11 F h
    rw [fX10_coefficient_155.eq_1] at h
    cases h
  | succ n ih =>
    intro x0 x2 x4 x5 x6 x11 F h
    rw [fX10_coefficient_155.eq_2] at h
    refine wp_iload X dX10_coefficient_155 3 rfl ?_
    refine wp_if_lt X (tgt := 414) dX10_coefficient_157 (by decide) h (fun h => ?_) (fun h => ?_)
    · refine wp_lload X dX10_coefficient_414 4 rfl ?_
      exact wp_lreturn X Qr rfl dX10_coefficient_416 h
    · refine wp_iconst X (v := 0) dX10_coefficient_160 (by decide) ?_
      refine wp_istore X (lv' := [(0, .ref x0), (2, .int x2), (4, .int x4), (5, .int x5), (6, .long x6), (8, .int 0), (11, .int x11)]) dX10_coefficient_161 (by decide) [1, 2, 3, 4, 5, 0, 6] rfl ?_
      refine wp_iload X dX10_coefficient_163 3 rfl ?_
      refine wp_istore X (lv' := [(0, .ref x0), (2, .int x2), (4, .int x4), (5, .int x5), (6, .long x6), (8, .int 0), (9, .int x5), (11, .int x11)]) dX10_coefficient_165 (by decide) [1, 2, 3, 4, 5, 6, 0, 7] rfl ?_
      refine tX10_coefficient_167 X hcd Qr  ?_ FU _ _ _ _ _ _ _ _ _ h
      · intro x0 x2 x4 x5 x6 x8 x9 x11 F h
        refine wp_aload_n X dX10_coefficient_197 0 rfl ?_
        refine wp_iload_n X dX10_coefficient_198 1 rfl ?_
        refine wp_iload X dX10_coefficient_199 5 rfl ?_
        refine wp_callVI X (rm := rmX10_rowOf) (T := TX10) (N := 20) (ci := 9) (n := 2) [.int x2, .int x8] hcd (fun q hq => cX10_rowOf_ok hq) kw889 kw891 ks19 kw10 kw892 (by decide +kernel) (by decide) (by decide) (cs2 := 0) (sl2 := 0) rfl rfl rfl (by decide) rfl rfl (Nat.le_of_ble_eq_true rfl) dX10_coefficient_201 h (fun v201 h => ?_)
        refine wp_iconst X (v := 1) dX10_coefficient_204 (by decide) ?_
        refine wp_isub X dX10_coefficient_205 ?_
        refine wp_iload X dX10_coefficient_206 6 rfl ?_
        refine wp_isub X dX10_coefficient_208 ?_
        refine wp_istore X (lv' := [(0, .ref x0), (2, .int x2), (4, .int x4), (5, .int x5), (6, .long x6), (8, .int x8), (9, .int ((v201.1 - 1) - x9)), (11, .int x11)]) dX10_coefficient_209 (by decide) [1, 2, 3, 4, 5, 6, 0, 7] rfl ?_
        refine wp_iconst X (v := 1) dX10_coefficient_211 (by decide) ?_
        refine wp_iload X dX10_coefficient_212 5 rfl ?_
        refine wp_iload X dX10_coefficient_214 6 rfl ?_
        refine wp_callSI X (rm := rmX10_box) (n := 3) [.int 1, .int x8, .int ((v201.1 - 1) - x9)] hcd (fun q hq => cX10_box_ok hq) kw940 kw941 kw10 kw942 (by decide +kernel) (by decide) (by decide) (cs2 := 0) (sl2 := 0) rfl rfl rfl rfl (Nat.le_of_ble_eq_true rfl) dX10_coefficient_216 h (fun v216 h => ?_)
        refine wp_istore X (lv' := [(0, .ref x0), (2, .int x2), (4, .int x4), (5, .int x5), (6, .long x6), (8, .int x8), (9, .int ((v201.1 - 1) - x9)), (11, .int x11), (12, .int v216.1)]) dX10_coefficient_219 (by decide) [1, 2, 3, 4, 5, 6, 7, 8, 0] rfl ?_
        refine wp_iload X dX10_coefficient_221 7 rfl ?_
        refine wp_if_eq X (tgt := 256) dX10_coefficient_223 (by decide) h (fun h => ?_) (fun h => ?_)
        · refine wp_iload X dX10_coefficient_256 5 rfl ?_
          refine wp_if_ne X (tgt := 265) dX10_coefficient_258 (by decide) h (fun h => ?_) (fun h => ?_)
          · refine wp_aload_n X dX10_coefficient_265 0 rfl ?_
            refine wp_getR X (T := TX10) (N := 20) (ci := 9) (k := 4) rfl (by decide) (by decide) inBX10 kw816 dX10_coefficient_266 h (fun v266 h => ?_)
            refine wp_iconst X (v := 1) dX10_coefficient_269 (by decide) ?_
            refine wp_iload X dX10_coefficient_270 5 rfl ?_
            refine wp_iconst X (v := 1) dX10_coefficient_272 (by decide) ?_
            refine wp_isub X dX10_coefficient_273 ?_
            refine wp_iload X dX10_coefficient_274 6 rfl ?_
            refine wp_callSI X (rm := rmX10_box) (n := 3) [.int 1, .int (x8 - 1), .int ((v201.1 - 1) - x9)] hcd (fun q hq => cX10_box_ok hq) kw940 kw941 kw10 kw942 (by decide +kernel) (by decide) (by decide) (cs2 := 0) (sl2 := 0) rfl rfl rfl rfl (Nat.le_of_ble_eq_true rfl) dX10_coefficient_276 h (fun v276 h => ?_)
            refine wp_iaload X dX10_coefficient_279 h (fun v279 h => ?_)
            refine wp_iconst X (v := 1) dX10_coefficient_280 (by decide) ?_
            refine wp_iadd X dX10_coefficient_281 ?_
            refine wp_sub (lv' := [(0, .ref x0), (2, .int x2), (4, .int x4), (5, .int x5), (6, .long x6), (8, .int x8), (9, .int ((v201.1 - 1) - x9)), (12, .int v216.1)]) [0, 1, 2, 3, 4, 5, 6, 8] rfl ?_
            exact tX10_coefficient_282 X hcd Qr  ih _ _ _ _ _ _ _ _ _ _ h
          · refine wp_iconst X (v := 0) dX10_coefficient_261 (by decide) ?_
            refine wp_goto X (tgt := 282) dX10_coefficient_262 (by decide) ?_
            refine wp_sub (lv' := [(0, .ref x0), (2, .int x2), (4, .int x4), (5, .int x5), (6, .long x6), (8, .int x8), (9, .int ((v201.1 - 1) - x9)), (12, .int v216.1)]) [0, 1, 2, 3, 4, 5, 6, 8] rfl ?_
            exact tX10_coefficient_282 X hcd Qr  ih _ _ _ _ _ _ _ _ _ _ h
        · refine wp_aload_n X dX10_coefficient_226 0 rfl ?_
          refine wp_getR X (T := TX10) (N := 20) (ci := 9) (k := 4) rfl (by decide) (by decide) inBX10 kw816 dX10_coefficient_227 h (fun v227 h => ?_)
          refine wp_iload X dX10_coefficient_230 8 rfl ?_
          refine wp_iaload X dX10_coefficient_232 h (fun v232 h => ?_)
          refine wp_iconst X (v := 1) dX10_coefficient_233 (by decide) ?_
          refine wp_iadd X dX10_coefficient_234 ?_
          refine wp_istore X (lv' := [(0, .ref x0), (2, .int x2), (4, .int x4), (5, .int x5), (6, .long x6), (8, .int x8), (9, .int ((v201.1 - 1) - x9)), (10, .int (v232 + 1)), (12, .int v216.1)]) dX10_coefficient_235 (by decide) [1, 2, 3, 4, 5, 6, 7, 0, 9] rfl ?_
          refine wp_aload_n X dX10_coefficient_237 0 rfl ?_
          refine wp_getR X (T := TX10) (N := 20) (ci := 9) (k := 10) rfl (by decide) (by decide) inBX10 kw822 dX10_coefficient_238 h (fun v238 h => ?_)
          refine wp_aload_n X dX10_coefficient_241 0 rfl ?_
          refine wp_getR X (T := TX10) (N := 20) (ci := 9) (k := 4) rfl (by decide) (by decide) inBX10 kw816 dX10_coefficient_242 h (fun v242 h => ?_)
          refine wp_iload X dX10_coefficient_245 8 rfl ?_
          refine wp_iaload X dX10_coefficient_247 h (fun v247 h => ?_)
          refine wp_dup2 X dX10_coefficient_248 rfl rfl ?_
          refine wp_iaload X dX10_coefficient_249 h (fun v249 h => ?_)
          refine wp_iconst X (v := 1) dX10_coefficient_250 (by decide) ?_
          refine wp_isub X dX10_coefficient_251 ?_
          refine wp_iastore X dX10_coefficient_252 h (fun F252 h => ?_)
          refine wp_goto X (tgt := 284) dX10_coefficient_253 (by decide) ?_
          exact tX10_coefficient_284 X hcd Qr  ih _ _ _ _ _ _ _ _ _ _ h
def fX10_coefficient_27  (x0 : Nat) (x1 : Int32) (x2 : Int32) (x3 : Int32) (s0 : Nat) (s1 : Int32) (F : Mem) : Option (Int64 × Mem) := (pf F s0 9 0 (.int s1)).bind fun F27 => (gfI F27 x0 9 0).bind fun v31 => if 0 < v31 then (some (0, F27)) else ((obj F27 x0 9).bind fun _ => (mX10_isWithin F27 x0 x1 x3).bind fun v40 => if v40.1 = 0 then (some (0, v40.2)) else ((obj v40.2 x0 9).bind fun _ => (mX10_boxesOf v40.2 x0 x1).bind fun v48 => (obj v48.2 x0 9).bind fun _ => (mX10_boxesOf v48.2 x0 x2).bind fun v53 => (obj v53.2 x0 9).bind fun _ => (mX10_boxesOf v53.2 x0 x3).bind fun v59 => if (v48.1 + v53.1) = v59.1 then (fX10_coefficient_70  (fun (x0 : Nat) (x2 : Int32) (F : Mem) => (obj F x0 9).bind fun _ => (mX10_boxesOf F x0 x2).bind fun v113 => (obj v113.2 x0 9).bind fun _ => (mX10_clear v113.2 x0 1).bind fun v120 => (obj v120 x0 9).bind fun _ => (mX10_rowOf v120 x0 x2 0).bind fun v135 => if v113.1 = 0 then (some (1, v135.2)) else (fX10_coefficient_155   FU x0 x2 v113.1 0 0 0 v135.2)) FU x0 x1 x2 x3 0 v59.2) else (some (0, v59.2))))
set_option maxRecDepth 100000 in
set_option maxHeartbeats 4000000 in
theorem tX10_coefficient_27 {l : Launch} {D : va_G} {cy : Nat → ClassId} {C : Cx} {res : Int64 × Mem} (X : Fx C cX10_coefficient RX10 (some .long) rmX10_coefficient 14) (hcd : CD C l D cy) (Qr : RJ C 0 0 res)   (x0 : Nat) (x1 : Int32) (x2 : Int32) (x3 : Int32) (s0 : Nat) (s1 : Int32) (F : Mem) (h : fX10_coefficient_27  x0 x1 x2 x3 s0 s1 F = some res) : Wp C 0 0 27 [(0, .ref x0), (1, .int x1), (2, .int x2), (3, .int x3)] [.int s1, .ref s0] F := by
  unfold fX10_coefficient_27 at h
  refine wp_put X (T := TX10) (N := 20) (ci := 9) (k := 0) tyX10 rfl (by decide) (by decide) inBX10 kw812 tyX10_ok nmX10 rfl rfl (vp_nar_int _) rfl dX10_coefficient_27 h (fun F27 h => ?_)
  refine wp_aload_n X dX10_coefficient_30 0 rfl ?_
  refine wp_getI X (T := TX10) (N := 20) (ci := 9) (k := 0) rfl (by decide) (by decide) inBX10 kw812 dX10_coefficient_31 h (fun v31 h => ?_)
  refine wp_if_gt X (tgt := 65) dX10_coefficient_34 (by decide) h (fun h => ?_) (fun h => ?_)
  · refine wp_lconst X (v := 0) dX10_coefficient_65 (by decide) ?_
    exact wp_lreturn X Qr rfl dX10_coefficient_66 h
  · refine wp_aload_n X dX10_coefficient_37 0 rfl ?_
    refine wp_iload_n X dX10_coefficient_38 1 rfl ?_
    refine wp_iload_n X dX10_coefficient_39 3 rfl ?_
    refine wp_callVI X (rm := rmX10_isWithin) (T := TX10) (N := 20) (ci := 9) (n := 2) [.int x1, .int x3] hcd (fun q hq => cX10_isWithin_ok hq) kw999 kw1001 ks32 kw10 kw1002 (by decide +kernel) (by decide) (by decide) (cs2 := 0) (sl2 := 0) rfl rfl rfl (by decide) rfl rfl (Nat.le_of_ble_eq_true rfl) dX10_coefficient_40 h (fun v40 h => ?_)
    refine wp_if_eq X (tgt := 65) dX10_coefficient_43 (by decide) h (fun h => ?_) (fun h => ?_)
    · refine wp_lconst X (v := 0) dX10_coefficient_65 (by decide) ?_
      exact wp_lreturn X Qr rfl dX10_coefficient_66 h
    · refine wp_aload_n X dX10_coefficient_46 0 rfl ?_
      refine wp_iload_n X dX10_coefficient_47 1 rfl ?_
      refine wp_callVI X (rm := rmX10_boxesOf) (T := TX10) (N := 20) (ci := 9) (n := 1) [.int x1] hcd (fun q hq => cX10_boxesOf_ok hq) kw901 kw903 ks20 kw10 kw904 (by decide +kernel) (by decide) (by decide) (cs2 := 0) (sl2 := 0) rfl rfl rfl (by decide) rfl rfl (Nat.le_of_ble_eq_true rfl) dX10_coefficient_48 h (fun v48 h => ?_)
      refine wp_aload_n X dX10_coefficient_51 0 rfl ?_
      refine wp_iload_n X dX10_coefficient_52 2 rfl ?_
      refine wp_callVI X (rm := rmX10_boxesOf) (T := TX10) (N := 20) (ci := 9) (n := 1) [.int x2] hcd (fun q hq => cX10_boxesOf_ok hq) kw901 kw903 ks20 kw10 kw904 (by decide +kernel) (by decide) (by decide) (cs2 := 0) (sl2 := 0) rfl rfl rfl (by decide) rfl rfl (Nat.le_of_ble_eq_true rfl) dX10_coefficient_53 h (fun v53 h => ?_)
      refine wp_iadd X dX10_coefficient_56 ?_
      refine wp_aload_n X dX10_coefficient_57 0 rfl ?_
      refine wp_iload_n X dX10_coefficient_58 3 rfl ?_
      refine wp_callVI X (rm := rmX10_boxesOf) (T := TX10) (N := 20) (ci := 9) (n := 1) [.int x3] hcd (fun q hq => cX10_boxesOf_ok hq) kw901 kw903 ks20 kw10 kw904 (by decide +kernel) (by decide) (by decide) (cs2 := 0) (sl2 := 0) rfl rfl rfl (by decide) rfl rfl (Nat.le_of_ble_eq_true rfl) dX10_coefficient_59 h (fun v59 h => ?_)
      refine wp_icmp_eq X (tgt := 67) dX10_coefficient_62 (by decide) h (fun h => ?_) (fun h => ?_)
      · refine wp_iconst X (v := 0) dX10_coefficient_67 (by decide) ?_
        refine wp_istore X (lv' := [(0, .ref x0), (1, .int x1), (2, .int x2), (3, .int x3), (4, .int 0)]) dX10_coefficient_68 (by decide) [1, 2, 3, 4, 0] rfl ?_
        refine tX10_coefficient_70 X hcd Qr  ?_ FU _ _ _ _ _ _ h
        · intro x0 x2 F h
          refine wp_aload_n X dX10_coefficient_111 0 rfl ?_
          refine wp_iload_n X dX10_coefficient_112 1 rfl ?_
          refine wp_callVI X (rm := rmX10_boxesOf) (T := TX10) (N := 20) (ci := 9) (n := 1) [.int x2] hcd (fun q hq => cX10_boxesOf_ok hq) kw901 kw903 ks20 kw10 kw904 (by decide +kernel) (by decide) (by decide) (cs2 := 0) (sl2 := 0) rfl rfl rfl (by decide) rfl rfl (Nat.le_of_ble_eq_true rfl) dX10_coefficient_113 h (fun v113 h => ?_)
          refine wp_istore X (lv' := [(0, .ref x0), (2, .int x2), (4, .int v113.1)]) dX10_coefficient_116 (by decide) [1, 2, 0] rfl ?_
          refine wp_aload_n X dX10_coefficient_118 0 rfl ?_
          refine wp_iconst X (v := 1) dX10_coefficient_119 (by decide) ?_
          refine wp_callVV X (rm := rmX10_clear) (T := TX10) (N := 20) (ci := 9) (n := 1) [.int 1] hcd (fun q hq => cX10_clear_ok hq) kw932 kw934 ks21 kw10 kw935 (by decide +kernel) (by decide) (by decide) (cs2 := 0) (sl2 := 0) rfl rfl rfl (by decide) rfl rfl (Nat.le_of_ble_eq_true rfl) dX10_coefficient_120 h (fun v120 h => ?_)
          refine wp_iconst X (v := 0) dX10_coefficient_123 (by decide) ?_
          refine wp_istore X (lv' := [(0, .ref x0), (2, .int x2), (4, .int v113.1), (5, .int 0)]) dX10_coefficient_124 (by decide) [1, 2, 3, 0] rfl ?_
          refine wp_lconst X (v := 0) dX10_coefficient_126 (by decide) ?_
          refine wp_lstore X (lv' := [(0, .ref x0), (2, .int x2), (4, .int v113.1), (5, .int 0), (6, .long 0)]) dX10_coefficient_127 (by decide) [1, 2, 3, 4, 0] rfl ?_
          refine wp_iconst X (v := 0) dX10_coefficient_129 (by decide) ?_
          refine wp_istore X (lv' := [(0, .ref x0), (2, .int x2), (4, .int v113.1), (5, .int 0), (6, .long 0)]) dX10_coefficient_130 (by decide) [1, 2, 3, 4, 5] rfl ?_
          refine wp_aload_n X dX10_coefficient_132 0 rfl ?_
          refine wp_iload_n X dX10_coefficient_133 1 rfl ?_
          refine wp_iconst X (v := 0) dX10_coefficient_134 (by decide) ?_
          refine wp_callVI X (rm := rmX10_rowOf) (T := TX10) (N := 20) (ci := 9) (n := 2) [.int x2, .int 0] hcd (fun q hq => cX10_rowOf_ok hq) kw889 kw891 ks19 kw10 kw892 (by decide +kernel) (by decide) (by decide) (cs2 := 0) (sl2 := 0) rfl rfl rfl (by decide) rfl rfl (Nat.le_of_ble_eq_true rfl) dX10_coefficient_135 h (fun v135 h => ?_)
          refine wp_iconst X (v := 1) dX10_coefficient_138 (by decide) ?_
          refine wp_isub X dX10_coefficient_139 ?_
          refine wp_istore X (lv' := [(0, .ref x0), (2, .int x2), (4, .int v113.1), (5, .int 0), (6, .long 0)]) dX10_coefficient_140 (by decide) [1, 2, 3, 4, 5] rfl ?_
          refine wp_iconst X (v := 0) dX10_coefficient_142 (by decide) ?_
          refine wp_istore X (lv' := [(0, .ref x0), (2, .int x2), (4, .int v113.1), (5, .int 0), (6, .long 0)]) dX10_coefficient_143 (by decide) [1, 2, 3, 4, 5] rfl ?_
          refine wp_iconst X (v := 0) dX10_coefficient_145 (by decide) ?_
          refine wp_istore X (lv' := [(0, .ref x0), (2, .int x2), (4, .int v113.1), (5, .int 0), (6, .long 0), (11, .int 0)]) dX10_coefficient_146 (by decide) [1, 2, 3, 4, 5, 0] rfl ?_
          refine wp_iload X dX10_coefficient_148 2 rfl ?_
          refine wp_if_ne X (tgt := 155) dX10_coefficient_150 (by decide) h (fun h => ?_) (fun h => ?_)
          · refine tX10_coefficient_155 X hcd Qr   FU _ _ _ _ _ _ _ h
          · refine wp_lconst X (v := 1) dX10_coefficient_153 (by decide) ?_
            exact wp_lreturn X Qr rfl dX10_coefficient_154 h
      · refine wp_lconst X (v := 0) dX10_coefficient_65 (by decide) ?_
        exact wp_lreturn X Qr rfl dX10_coefficient_66 h
def mX10_coefficient (F : Mem) (x0 : Nat) (x1 : Int32) (x2 : Int32) (x3 : Int32) : Option (Int64 × Mem) := (mX10_isSlot F x1).bind fun v2 => if v2.1 = 0 then (fX10_coefficient_27   x0 x1 x2 x3 x0 1 v2.2) else ((mX10_isSlot v2.2 x2).bind fun v9 => if v9.1 = 0 then (fX10_coefficient_27   x0 x1 x2 x3 x0 1 v9.2) else ((mX10_isSlot v9.2 x3).bind fun v16 => if v16.1 = 0 then (fX10_coefficient_27   x0 x1 x2 x3 x0 1 v16.2) else (fX10_coefficient_27   x0 x1 x2 x3 x0 0 v16.2)))
set_option maxRecDepth 100000 in
set_option maxHeartbeats 4000000 in
theorem cX10_coefficient_ok {l : Launch} {D : va_G} {cy : Nat → ClassId} {F : Mem} {x0 : Nat} {x1 : Int32} {x2 : Int32} {x3 : Int32} {res : Int64 × Mem} (h : mX10_coefficient F x0 x1 x2 x3 = some res) : ML l yX10_coefficient cX10_coefficient 14 (some .long) rmX10_coefficient D cy F [.ref x0, .int x1, .int x2, .int x3] res := by
  refine ml_of (by decide) (Nat.le_of_ble_eq_true rfl) [(0, .ref x0), (1, .int x1), (2, .int x2), (3, .int x3)] rfl (fun C X hcd Qr => ?_)
  unfold mX10_coefficient at h
  refine wp_aload_n X dX10_coefficient_0 0 rfl ?_
  refine wp_iload_n X dX10_coefficient_1 1 rfl ?_
  refine wp_callSI X (rm := rmX10_isSlot) (n := 1) [.int x1] hcd (fun q hq => cX10_isSlot_ok hq) kw881 kw882 kw10 kw883 (by decide +kernel) (by decide) (by decide) (cs2 := 0) (sl2 := 0) rfl rfl rfl rfl (Nat.le_of_ble_eq_true rfl) dX10_coefficient_2 h (fun v2 h => ?_)
  refine wp_if_eq X (tgt := 22) dX10_coefficient_5 (by decide) h (fun h => ?_) (fun h => ?_)
  · refine wp_iconst X (v := 1) dX10_coefficient_22 (by decide) ?_
    refine wp_goto X (tgt := 27) dX10_coefficient_23 (by decide) ?_
    exact tX10_coefficient_27 X hcd Qr   _ _ _ _ _ _ _ h
  · refine wp_iload_n X dX10_coefficient_8 2 rfl ?_
    refine wp_callSI X (rm := rmX10_isSlot) (n := 1) [.int x2] hcd (fun q hq => cX10_isSlot_ok hq) kw881 kw882 kw10 kw883 (by decide +kernel) (by decide) (by decide) (cs2 := 0) (sl2 := 0) rfl rfl rfl rfl (Nat.le_of_ble_eq_true rfl) dX10_coefficient_9 h (fun v9 h => ?_)
    refine wp_if_eq X (tgt := 22) dX10_coefficient_12 (by decide) h (fun h => ?_) (fun h => ?_)
    · refine wp_iconst X (v := 1) dX10_coefficient_22 (by decide) ?_
      refine wp_goto X (tgt := 27) dX10_coefficient_23 (by decide) ?_
      exact tX10_coefficient_27 X hcd Qr   _ _ _ _ _ _ _ h
    · refine wp_iload_n X dX10_coefficient_15 3 rfl ?_
      refine wp_callSI X (rm := rmX10_isSlot) (n := 1) [.int x3] hcd (fun q hq => cX10_isSlot_ok hq) kw881 kw882 kw10 kw883 (by decide +kernel) (by decide) (by decide) (cs2 := 0) (sl2 := 0) rfl rfl rfl rfl (Nat.le_of_ble_eq_true rfl) dX10_coefficient_16 h (fun v16 h => ?_)
      refine wp_if_ne X (tgt := 26) dX10_coefficient_19 (by decide) h (fun h => ?_) (fun h => ?_)
      · refine wp_iconst X (v := 0) dX10_coefficient_26 (by decide) ?_
        exact tX10_coefficient_27 X hcd Qr   _ _ _ _ _ _ _ h
      · refine wp_iconst X (v := 1) dX10_coefficient_22 (by decide) ?_
        refine wp_goto X (tgt := 27) dX10_coefficient_23 (by decide) ?_
        exact tX10_coefficient_27 X hcd Qr   _ _ _ _ _ _ _ h
/-! TableauBenchModel.character(II)J -/
def rmX10_character : Room := { frames := 2, cells := 0, slots := 0, locals := 45 }
def fX10_character_68 (K99 : Nat → Int32 → Int64 → Mem → Option (Int64 × Mem)) : Nat → Nat → Int32 → Int32 → Int64 → Int32 → Mem → Option (Int64 × Mem)
  | 0, _, _, _, _, _, _ => none
  | n + 1, x0, x1, x2, x3, x5, F => if 8 ≤ x5 then (K99 x0 x2 x3 F) else ((obj F x0 9).bind fun _ => (mX10_rowOf F x0 x1 x5).bind fun v81 => (fX10_character_68  K99 n) x0 x1 x2 (x3 ||| (1 <<< (Int32.toInt64 ((v81.1 + 7) - x5) &&& 63))) (x5 + 1) v81.2)
set_option maxRecDepth 100000 in
set_option maxHeartbeats 4000000 in
theorem tX10_character_68 {l : Launch} {D : va_G} {cy : Nat → ClassId} {C : Cx} {res : Int64 × Mem} (X : Fx C cX10_character RX10 (some .long) rmX10_character 12) (hcd : CD C l D cy) (Qr : RJ C 0 0 res) {K99 : Nat → Int32 → Int64 → Mem → Option (Int64 × Mem)} (hK99 : ∀ (x0 : Nat) (x2 : Int32) (x3 : Int64) (F : Mem), K99 x0 x2 x3 F = some res → Wp C 0 0 99 [(0, .ref x0), (2, .int x2), (3, .long x3)] [] F) : ∀ (n : Nat) (x0 : Nat) (x1 : Int32) (x2 : Int32) (x3 : Int64) (x5 : Int32) (F : Mem), fX10_character_68 K99 n x0 x1 x2 x3 x5 F = some res → Wp C 0 0 68 [(0, .ref x0), (1, .int x1), (2, .int x2), (3, .long x3), (5, .int x5)] [] F := by
  intro n
  induction n with
  | zero =>
    intro x0 x1 x2 x3 x5 F h
    rw [fX10_character_68.eq_1] at h
    cases h
  | succ n ih =>
    intro x0 x1 x2 x3 x5 F h
    rw [fX10_character_68.eq_2] at h
    refine wp_iload X dX10_character_68 4 rfl ?_
    refine wp_bipush X (v := 8) dX10_character_70 (by decide) ?_
    refine wp_icmp_ge X (tgt := 99) dX10_character_72 (by decide) h (fun h => ?_) (fun h => ?_)
    · refine wp_sub (lv' := [(0, .ref x0), (2, .int x2), (3, .long x3)]) [0, 2, 3] rfl ?_
      exact hK99 _ _ _ _ h
    · refine wp_lload_n X dX10_character_75 3 rfl ?_
      refine wp_lconst X (v := 1) dX10_character_76 (by decide) ?_
      refine wp_aload_n X dX10_character_77 0 rfl ?_
      refine wp_iload_n X dX10_character_78 1 rfl ?_
      refine wp_iload X dX10_character_79 4 rfl ?_
      refine wp_callVI X (rm := rmX10_rowOf) (T := TX10) (N := 20) (ci := 9) (n := 2) [.int x1, .int x5] hcd (fun q hq => cX10_rowOf_ok hq) kw889 kw891 ks19 kw10 kw892 (by decide +kernel) (by decide) (by decide) (cs2 := 0) (sl2 := 0) rfl rfl rfl (by decide) rfl rfl (Nat.le_of_ble_eq_true rfl) dX10_character_81 h (fun v81 h => ?_)
      refine wp_bipush X (v := 7) dX10_character_84 (by decide) ?_
      refine wp_iadd X dX10_character_86 ?_
      refine wp_iload X dX10_character_87 4 rfl ?_
      refine wp_isub X dX10_character_89 ?_
      refine wp_lshl X dX10_character_90 ?_
      refine wp_lor X dX10_character_91 ?_
      refine wp_lstore_n X (lv' := [(0, .ref x0), (1, .int x1), (2, .int x2), (3, .long (x3 ||| (1 <<< (Int32.toInt64 ((v81.1 + 7) - x5) &&& 63)))), (5, .int x5)]) dX10_character_92 (by decide) [1, 2, 3, 0, 4] rfl ?_
      refine wp_iinc X (v := x5 + 1) (lv' := [(0, .ref x0), (1, .int x1), (2, .int x2), (3, .long (x3 ||| (1 <<< (Int32.toInt64 ((v81.1 + 7) - x5) &&& 63)))), (5, .int (x5 + 1))]) dX10_character_93 (by decide) 4 rfl rfl [1, 2, 3, 4, 0] rfl ?_
      refine wp_goto X (tgt := 68) dX10_character_96 (by decide) ?_
      exact ih _ _ _ _ _ _ h
def fX10_character_225 (K259 : Nat → Int32 → Int64 → Int32 → Int32 → Int32 → Int32 → Int32 → Mem → Option (Int64 × Mem)) : Nat → Nat → Int32 → Int64 → Int32 → Int32 → Int32 → Int32 → Int32 → Int32 → Mem → Option (Int64 × Mem)
  | 0, _, _, _, _, _, _, _, _, _, _ => none
  | n + 1, x0, x2, x3, x5, x6, x7, x8, x10, x11, F => if (x8 + x6) ≤ x11 then (K259 x0 x2 x3 x5 x6 x7 x8 x10 F) else ((gfR F x0 9 17).bind fun v238 => (rdJ F v238 x7).bind fun v243 => (fX10_character_225  K259 n) x0 x2 x3 x5 x6 x7 x8 (x10 + (Int64.toInt32 ((v243 >>> (Int32.toInt64 x11 &&& 63)) &&& 1))) (x11 + 1) F)
set_option maxRecDepth 100000 in
set_option maxHeartbeats 4000000 in
theorem tX10_character_225 {l : Launch} {D : va_G} {cy : Nat → ClassId} {C : Cx} {res : Int64 × Mem} (X : Fx C cX10_character RX10 (some .long) rmX10_character 12) (hcd : CD C l D cy) (Qr : RJ C 0 0 res) {K259 : Nat → Int32 → Int64 → Int32 → Int32 → Int32 → Int32 → Int32 → Mem → Option (Int64 × Mem)} (hK259 : ∀ (x0 : Nat) (x2 : Int32) (x3 : Int64) (x5 : Int32) (x6 : Int32) (x7 : Int32) (x8 : Int32) (x10 : Int32) (F : Mem), K259 x0 x2 x3 x5 x6 x7 x8 x10 F = some res → Wp C 0 0 259 [(0, .ref x0), (2, .int x2), (3, .long x3), (5, .int x5), (6, .int x6), (7, .int x7), (8, .int x8), (10, .int x10)] [] F) : ∀ (n : Nat) (x0 : Nat) (x2 : Int32) (x3 : Int64) (x5 : Int32) (x6 : Int32) (x7 : Int32) (x8 : Int32) (x10 : Int32) (x11 : Int32) (F : Mem), fX10_character_225 K259 n x0 x2 x3 x5 x6 x7 x8 x10 x11 F = some res → Wp C 0 0 225 [(0, .ref x0), (2, .int x2), (3, .long x3), (5, .int x5), (6, .int x6), (7, .int x7), (8, .int x8), (10, .int x10), (11, .int x11)] [] F := by
  intro n
  induction n with
  | zero =>
    intro x0 x2 x3 x5 x6 x7 x8 x10 x11 F h
    rw [fX10_character_225.eq_1] at h
    cases h
  | succ n ih =>
    intro x0 x2 x3 x5 x6 x7 x8 x10 x11 F h
    rw [fX10_character_225.eq_2] at h
    refine wp_iload X dX10_character_225 8 rfl ?_
    refine wp_iload X dX10_character_227 6 rfl ?_
    refine wp_iload X dX10_character_229 4 rfl ?_
    refine wp_iadd X dX10_character_231 ?_
    refine wp_icmp_ge X (tgt := 259) dX10_character_232 (by decide) h (fun h => ?_) (fun h => ?_)
    · refine wp_sub (lv' := [(0, .ref x0), (2, .int x2), (3, .long x3), (5, .int x5), (6, .int x6), (7, .int x7), (8, .int x8), (10, .int x10)]) [0, 1, 2, 3, 4, 5, 6, 7] rfl ?_
      exact hK259 _ _ _ _ _ _ _ _ _ h
    · refine wp_iload X dX10_character_235 7 rfl ?_
      refine wp_aload_n X dX10_character_237 0 rfl ?_
      refine wp_getR X (T := TX10) (N := 20) (ci := 9) (k := 17) rfl (by decide) (by decide) inBX10 kw829 dX10_character_238 h (fun v238 h => ?_)
      refine wp_iload X dX10_character_241 5 rfl ?_
      refine wp_laload X dX10_character_243 h (fun v243 h => ?_)
      refine wp_iload X dX10_character_244 8 rfl ?_
      refine wp_lshr X dX10_character_246 ?_
      refine wp_lconst X (v := 1) dX10_character_247 (by decide) ?_
      refine wp_land X dX10_character_248 ?_
      refine wp_l2i X dX10_character_249 ?_
      refine wp_iadd X dX10_character_250 ?_
      refine wp_istore X (lv' := [(0, .ref x0), (2, .int x2), (3, .long x3), (5, .int x5), (6, .int x6), (7, .int x7), (8, .int x8), (10, .int (x10 + (Int64.toInt32 ((v243 >>> (Int32.toInt64 x11 &&& 63)) &&& 1)))), (11, .int x11)]) dX10_character_251 (by decide) [1, 2, 3, 4, 5, 6, 7, 0, 8] rfl ?_
      refine wp_iinc X (v := x11 + 1) (lv' := [(0, .ref x0), (2, .int x2), (3, .long x3), (5, .int x5), (6, .int x6), (7, .int x7), (8, .int x8), (10, .int (x10 + (Int64.toInt32 ((v243 >>> (Int32.toInt64 x11 &&& 63)) &&& 1)))), (11, .int (x11 + 1))]) dX10_character_253 (by decide) 8 rfl rfl [1, 2, 3, 4, 5, 6, 7, 8, 0] rfl ?_
      refine wp_goto X (tgt := 225) dX10_character_256 (by decide) ?_
      exact ih _ _ _ _ _ _ _ _ _ _ h
def fX10_character_308 (K160 : Nat → Int32 → Int64 → Int32 → Int32 → Int32 → Int32 → Mem → Option (Int64 × Mem)) (K314 : Nat → Int32 → Int64 → Int32 → Int32 → Int32 → Mem → Option (Int64 × Mem)) (x0 : Nat) (x2 : Int32) (x3 : Int64) (x5 : Int32) (x6 : Int32) (x7 : Int32) (x8 : Int32) (F : Mem) : Option (Int64 × Mem) := K160 x0 x2 x3 x5 x6 x7 (x8 + 1) F
set_option maxRecDepth 100000 in
set_option maxHeartbeats 4000000 in
theorem tX10_character_308 {l : Launch} {D : va_G} {cy : Nat → ClassId} {C : Cx} {res : Int64 × Mem} (X : Fx C cX10_character RX10 (some .long) rmX10_character 12) (hcd : CD C l D cy) (Qr : RJ C 0 0 res) {K160 : Nat → Int32 → Int64 → Int32 → Int32 → Int32 → Int32 → Mem → Option (Int64 × Mem)} {K314 : Nat → Int32 → Int64 → Int32 → Int32 → Int32 → Mem → Option (Int64 × Mem)} (hK160 : ∀ (x0 : Nat) (x2 : Int32) (x3 : Int64) (x5 : Int32) (x6 : Int32) (x7 : Int32) (x8 : Int32) (F : Mem), K160 x0 x2 x3 x5 x6 x7 x8 F = some res → Wp C 0 0 160 [(0, .ref x0), (2, .int x2), (3, .long x3), (5, .int x5), (6, .int x6), (7, .int x7), (8, .int x8)] [] F) (hK314 : ∀ (x0 : Nat) (x2 : Int32) (x3 : Int64) (x5 : Int32) (x6 : Int32) (x7 : Int32) (F : Mem), K314 x0 x2 x3 x5 x6 x7 F = some res → Wp C 0 0 314 [(0, .ref x0), (2, .int x2), (3, .long x3), (5, .int x5), (6, .int x6), (7, .int x7)] [] F) (x0 : Nat) (x2 : Int32) (x3 : Int64) (x5 : Int32) (x6 : Int32) (x7 : Int32) (x8 : Int32) (F : Mem) (h : fX10_character_308 K160 K314 x0 x2 x3 x5 x6 x7 x8 F = some res) : Wp C 0 0 308 [(0, .ref x0), (2, .int x2), (3, .long x3), (5, .int x5), (6, .int x6), (7, .int x7), (8, .int x8)] [] F := by
  unfold fX10_character_308 at h
  refine wp_iinc X (v := x8 + 1) (lv' := [(0, .ref x0), (2, .int x2), (3, .long x3), (5, .int x5), (6, .int x6), (7, .int x7), (8, .int (x8 + 1))]) dX10_character_308 (by decide) 6 rfl rfl [1, 2, 3, 4, 5, 6, 0] rfl ?_
  refine wp_goto X (tgt := 160) dX10_character_311 (by decide) ?_
  exact hK160 _ _ _ _ _ _ _ _ h
def fX10_character_305 (K160 : Nat → Int32 → Int64 → Int32 → Int32 → Int32 → Int32 → Mem → Option (Int64 × Mem)) (K314 : Nat → Int32 → Int64 → Int32 → Int32 → Int32 → Mem → Option (Int64 × Mem)) (x0 : Nat) (x2 : Int32) (x3 : Int64) (x5 : Int32) (x6 : Int32) (x7 : Int32) (x8 : Int32) (s0 : Nat) (s1 : Int64) (s2 : Int64) (F : Mem) : Option (Int64 × Mem) := (obj F s0 9).bind fun _ => (mX10_note F s0 s1 s2).bind fun v305 => fX10_character_308  K160 K314 x0 x2 x3 x5 x6 x7 x8 v305
set_option maxRecDepth 100000 in
set_option maxHeartbeats 4000000 in
theorem tX10_character_305 {l : Launch} {D : va_G} {cy : Nat → ClassId} {C : Cx} {res : Int64 × Mem} (X : Fx C cX10_character RX10 (some .long) rmX10_character 12) (hcd : CD C l D cy) (Qr : RJ C 0 0 res) {K160 : Nat → Int32 → Int64 → Int32 → Int32 → Int32 → Int32 → Mem → Option (Int64 × Mem)} {K314 : Nat → Int32 → Int64 → Int32 → Int32 → Int32 → Mem → Option (Int64 × Mem)} (hK160 : ∀ (x0 : Nat) (x2 : Int32) (x3 : Int64) (x5 : Int32) (x6 : Int32) (x7 : Int32) (x8 : Int32) (F : Mem), K160 x0 x2 x3 x5 x6 x7 x8 F = some res → Wp C 0 0 160 [(0, .ref x0), (2, .int x2), (3, .long x3), (5, .int x5), (6, .int x6), (7, .int x7), (8, .int x8)] [] F) (hK314 : ∀ (x0 : Nat) (x2 : Int32) (x3 : Int64) (x5 : Int32) (x6 : Int32) (x7 : Int32) (F : Mem), K314 x0 x2 x3 x5 x6 x7 F = some res → Wp C 0 0 314 [(0, .ref x0), (2, .int x2), (3, .long x3), (5, .int x5), (6, .int x6), (7, .int x7)] [] F) (x0 : Nat) (x2 : Int32) (x3 : Int64) (x5 : Int32) (x6 : Int32) (x7 : Int32) (x8 : Int32) (s0 : Nat) (s1 : Int64) (s2 : Int64) (F : Mem) (h : fX10_character_305 K160 K314 x0 x2 x3 x5 x6 x7 x8 s0 s1 s2 F = some res) : Wp C 0 0 305 [(0, .ref x0), (2, .int x2), (3, .long x3), (5, .int x5), (6, .int x6), (7, .int x7), (8, .int x8)] [.long s2, .long s1, .ref s0] F := by
  unfold fX10_character_305 at h
  refine wp_callVV X (rm := rmX10_note) (T := TX10) (N := 20) (ci := 9) (n := 2) [.long s1, .long s2] hcd (fun q hq => cX10_note_ok hq) kw1049 kw1051 ks40 kw10 kw1052 (by decide +kernel) (by decide) (by decide) (cs2 := 0) (sl2 := 0) rfl rfl rfl (by decide) rfl rfl (Nat.le_of_ble_eq_true rfl) dX10_character_305 h (fun v305 h => ?_)
  exact tX10_character_308 X hcd Qr  hK160 hK314 _ _ _ _ _ _ _ _ h
def fX10_character_209 (K160 : Nat → Int32 → Int64 → Int32 → Int32 → Int32 → Int32 → Mem → Option (Int64 × Mem)) (K314 : Nat → Int32 → Int64 → Int32 → Int32 → Int32 → Mem → Option (Int64 × Mem)) (x0 : Nat) (x2 : Int32) (x3 : Int64) (x5 : Int32) (x6 : Int32) (x7 : Int32) (x8 : Int32) (s0 : Int32) (F : Mem) : Option (Int64 × Mem) := if s0 = 0 then (fX10_character_308  K160 K314 x0 x2 x3 x5 x6 x7 x8 F) else (fX10_character_225  (fun (x0 : Nat) (x2 : Int32) (x3 : Int64) (x5 : Int32) (x6 : Int32) (x7 : Int32) (x8 : Int32) (x10 : Int32) (F : Mem) => (gfR F x0 9 17).bind fun v261 => (rdJ F v261 x7).bind fun v266 => (irem0 x10 2).bind fun v283 => if v283 = 0 then ((gfR F x0 9 18).bind fun v288 => (rdJ F v288 x7).bind fun v293 => fX10_character_305  K160 K314 x0 x2 x3 x5 x6 x7 x8 x0 ((v266 ^^^ (1 <<< (Int32.toInt64 x8 &&& 63))) ^^^ (1 <<< (Int32.toInt64 (x8 + x6) &&& 63))) v293 F) else ((gfR F x0 9 18).bind fun v298 => (rdJ F v298 x7).bind fun v303 => fX10_character_305  K160 K314 x0 x2 x3 x5 x6 x7 x8 x0 ((v266 ^^^ (1 <<< (Int32.toInt64 x8 &&& 63))) ^^^ (1 <<< (Int32.toInt64 (x8 + x6) &&& 63))) (-v303) F)) FU x0 x2 x3 x5 x6 x7 x8 0 (x8 + 1) F)
set_option maxRecDepth 100000 in
set_option maxHeartbeats 4000000 in
theorem tX10_character_209 {l : Launch} {D : va_G} {cy : Nat → ClassId} {C : Cx} {res : Int64 × Mem} (X : Fx C cX10_character RX10 (some .long) rmX10_character 12) (hcd : CD C l D cy) (Qr : RJ C 0 0 res) {K160 : Nat → Int32 → Int64 → Int32 → Int32 → Int32 → Int32 → Mem → Option (Int64 × Mem)} {K314 : Nat → Int32 → Int64 → Int32 → Int32 → Int32 → Mem → Option (Int64 × Mem)} (hK160 : ∀ (x0 : Nat) (x2 : Int32) (x3 : Int64) (x5 : Int32) (x6 : Int32) (x7 : Int32) (x8 : Int32) (F : Mem), K160 x0 x2 x3 x5 x6 x7 x8 F = some res → Wp C 0 0 160 [(0, .ref x0), (2, .int x2), (3, .long x3), (5, .int x5), (6, .int x6), (7, .int x7), (8, .int x8)] [] F) (hK314 : ∀ (x0 : Nat) (x2 : Int32) (x3 : Int64) (x5 : Int32) (x6 : Int32) (x7 : Int32) (F : Mem), K314 x0 x2 x3 x5 x6 x7 F = some res → Wp C 0 0 314 [(0, .ref x0), (2, .int x2), (3, .long x3), (5, .int x5), (6, .int x6), (7, .int x7)] [] F) (x0 : Nat) (x2 : Int32) (x3 : Int64) (x5 : Int32) (x6 : Int32) (x7 : Int32) (x8 : Int32) (s0 : Int32) (F : Mem) (h : fX10_character_209 K160 K314 x0 x2 x3 x5 x6 x7 x8 s0 F = some res) : Wp C 0 0 209 [(0, .ref x0), (2, .int x2), (3, .long x3), (5, .int x5), (6, .int x6), (7, .int x7), (8, .int x8)] [.int s0] F := by
  unfold fX10_character_209 at h
  refine wp_istore X (lv' := [(0, .ref x0), (2, .int x2), (3, .long x3), (5, .int x5), (6, .int x6), (7, .int x7), (8, .int x8), (9, .int s0)]) dX10_character_209 (by decide) [1, 2, 3, 4, 5, 6, 7, 0] rfl ?_
  refine wp_iload X dX10_character_211 7 rfl ?_
  refine wp_if_eq X (tgt := 308) dX10_character_213 (by decide) h (fun h => ?_) (fun h => ?_)
  · refine wp_sub (lv' := [(0, .ref x0), (2, .int x2), (3, .long x3), (5, .int x5), (6, .int x6), (7, .int x7), (8, .int x8)]) [0, 1, 2, 3, 4, 5, 6] rfl ?_
    exact tX10_character_308 X hcd Qr  hK160 hK314 _ _ _ _ _ _ _ _ h
  · refine wp_iconst X (v := 0) dX10_character_216 (by decide) ?_
    refine wp_istore X (lv' := [(0, .ref x0), (2, .int x2), (3, .long x3), (5, .int x5), (6, .int x6), (7, .int x7), (8, .int x8), (10, .int 0)]) dX10_character_217 (by decide) [1, 2, 3, 4, 5, 6, 7, 0] rfl ?_
    refine wp_iload X dX10_character_219 6 rfl ?_
    refine wp_iconst X (v := 1) dX10_character_221 (by decide) ?_
    refine wp_iadd X dX10_character_222 ?_
    refine wp_istore X (lv' := [(0, .ref x0), (2, .int x2), (3, .long x3), (5, .int x5), (6, .int x6), (7, .int x7), (8, .int x8), (10, .int 0), (11, .int (x8 + 1))]) dX10_character_223 (by decide) [1, 2, 3, 4, 5, 6, 7, 8, 0] rfl ?_
    refine tX10_character_225 X hcd Qr  ?_ FU _ _ _ _ _ _ _ _ _ _ h
    · intro x0 x2 x3 x5 x6 x7 x8 x10 F h
      refine wp_aload_n X dX10_character_259 0 rfl ?_
      refine wp_aload_n X dX10_character_260 0 rfl ?_
      refine wp_getR X (T := TX10) (N := 20) (ci := 9) (k := 17) rfl (by decide) (by decide) inBX10 kw829 dX10_character_261 h (fun v261 h => ?_)
      refine wp_iload X dX10_character_264 5 rfl ?_
      refine wp_laload X dX10_character_266 h (fun v266 h => ?_)
      refine wp_lconst X (v := 1) dX10_character_267 (by decide) ?_
      refine wp_iload X dX10_character_268 6 rfl ?_
      refine wp_lshl X dX10_character_270 ?_
      refine wp_lxor X dX10_character_271 ?_
      refine wp_lconst X (v := 1) dX10_character_272 (by decide) ?_
      refine wp_iload X dX10_character_273 6 rfl ?_
      refine wp_iload X dX10_character_275 4 rfl ?_
      refine wp_iadd X dX10_character_277 ?_
      refine wp_lshl X dX10_character_278 ?_
      refine wp_lxor X dX10_character_279 ?_
      refine wp_iload X dX10_character_280 7 rfl ?_
      refine wp_iconst X (v := 2) dX10_character_282 (by decide) ?_
      refine wp_irem X dX10_character_283 h (fun v283 h => ?_)
      refine wp_if_ne X (tgt := 297) dX10_character_284 (by decide) h (fun h => ?_) (fun h => ?_)
      · refine wp_aload_n X dX10_character_297 0 rfl ?_
        refine wp_getR X (T := TX10) (N := 20) (ci := 9) (k := 18) rfl (by decide) (by decide) inBX10 kw830 dX10_character_298 h (fun v298 h => ?_)
        refine wp_iload X dX10_character_301 5 rfl ?_
        refine wp_laload X dX10_character_303 h (fun v303 h => ?_)
        refine wp_lneg X dX10_character_304 ?_
        refine wp_sub (lv' := [(0, .ref x0), (2, .int x2), (3, .long x3), (5, .int x5), (6, .int x6), (7, .int x7), (8, .int x8)]) [0, 1, 2, 3, 4, 5, 6] rfl ?_
        exact tX10_character_305 X hcd Qr  hK160 hK314 _ _ _ _ _ _ _ _ _ _ _ h
      · refine wp_aload_n X dX10_character_287 0 rfl ?_
        refine wp_getR X (T := TX10) (N := 20) (ci := 9) (k := 18) rfl (by decide) (by decide) inBX10 kw830 dX10_character_288 h (fun v288 h => ?_)
        refine wp_iload X dX10_character_291 5 rfl ?_
        refine wp_laload X dX10_character_293 h (fun v293 h => ?_)
        refine wp_goto X (tgt := 305) dX10_character_294 (by decide) ?_
        refine wp_sub (lv' := [(0, .ref x0), (2, .int x2), (3, .long x3), (5, .int x5), (6, .int x6), (7, .int x7), (8, .int x8)]) [0, 1, 2, 3, 4, 5, 6] rfl ?_
        exact tX10_character_305 X hcd Qr  hK160 hK314 _ _ _ _ _ _ _ _ _ _ _ h
def fX10_character_160 (K314 : Nat → Int32 → Int64 → Int32 → Int32 → Int32 → Mem → Option (Int64 × Mem)) : Nat → Nat → Int32 → Int64 → Int32 → Int32 → Int32 → Int32 → Mem → Option (Int64 × Mem)
  | 0, _, _, _, _, _, _, _, _ => none
  | n + 1, x0, x2, x3, x5, x6, x7, x8, F => if 22 ≤ x8 then (K314 x0 x2 x3 x5 x6 x7 F) else ((gfR F x0 9 17).bind fun v168 => (rdJ F v168 x7).bind fun v173 => if (lg_cmp ((v173 >>> (Int32.toInt64 x8 &&& 63)) &&& 1) 1) = 0 then ((gfR F x0 9 17).bind fun v185 => (rdJ F v185 x7).bind fun v190 => if (lg_cmp ((v190 >>> (Int32.toInt64 (x8 + x6) &&& 63)) &&& 1) 0) = 0 then (fX10_character_209  (fX10_character_160  K314 n) K314 x0 x2 x3 x5 x6 x7 x8 1 F) else (fX10_character_209  (fX10_character_160  K314 n) K314 x0 x2 x3 x5 x6 x7 x8 0 F)) else (fX10_character_209  (fX10_character_160  K314 n) K314 x0 x2 x3 x5 x6 x7 x8 0 F))
set_option maxRecDepth 100000 in
set_option maxHeartbeats 4000000 in
theorem tX10_character_160 {l : Launch} {D : va_G} {cy : Nat → ClassId} {C : Cx} {res : Int64 × Mem} (X : Fx C cX10_character RX10 (some .long) rmX10_character 12) (hcd : CD C l D cy) (Qr : RJ C 0 0 res) {K314 : Nat → Int32 → Int64 → Int32 → Int32 → Int32 → Mem → Option (Int64 × Mem)} (hK314 : ∀ (x0 : Nat) (x2 : Int32) (x3 : Int64) (x5 : Int32) (x6 : Int32) (x7 : Int32) (F : Mem), K314 x0 x2 x3 x5 x6 x7 F = some res → Wp C 0 0 314 [(0, .ref x0), (2, .int x2), (3, .long x3), (5, .int x5), (6, .int x6), (7, .int x7)] [] F) : ∀ (n : Nat) (x0 : Nat) (x2 : Int32) (x3 : Int64) (x5 : Int32) (x6 : Int32) (x7 : Int32) (x8 : Int32) (F : Mem), fX10_character_160 K314 n x0 x2 x3 x5 x6 x7 x8 F = some res → Wp C 0 0 160 [(0, .ref x0), (2, .int x2), (3, .long x3), (5, .int x5), (6, .int x6), (7, .int x7), (8, .int x8)] [] F := by
  intro n
  induction n with
  | zero =>
    intro x0 x2 x3 x5 x6 x7 x8 F h
    rw [fX10_character_160.eq_1] at h
    cases h
  | succ n ih =>
    intro x0 x2 x3 x5 x6 x7 x8 F h
    rw [fX10_character_160.eq_2] at h
    refine wp_iload X dX10_character_160 6 rfl ?_
    refine wp_bipush X (v := 22) dX10_character_162 (by decide) ?_
    refine wp_icmp_ge X (tgt := 314) dX10_character_164 (by decide) h (fun h => ?_) (fun h => ?_)
    · refine wp_sub (lv' := [(0, .ref x0), (2, .int x2), (3, .long x3), (5, .int x5), (6, .int x6), (7, .int x7)]) [0, 1, 2, 3, 4, 5] rfl ?_
      exact hK314 _ _ _ _ _ _ _ h
    · refine wp_aload_n X dX10_character_167 0 rfl ?_
      refine wp_getR X (T := TX10) (N := 20) (ci := 9) (k := 17) rfl (by decide) (by decide) inBX10 kw829 dX10_character_168 h (fun v168 h => ?_)
      refine wp_iload X dX10_character_171 5 rfl ?_
      refine wp_laload X dX10_character_173 h (fun v173 h => ?_)
      refine wp_iload X dX10_character_174 6 rfl ?_
      refine wp_lshr X dX10_character_176 ?_
      refine wp_lconst X (v := 1) dX10_character_177 (by decide) ?_
      refine wp_land X dX10_character_178 ?_
      refine wp_lconst X (v := 1) dX10_character_179 (by decide) ?_
      refine wp_lcmp X dX10_character_180 ?_
      refine wp_if_ne X (tgt := 208) dX10_character_181 (by decide) h (fun h => ?_) (fun h => ?_)
      · refine wp_iconst X (v := 0) dX10_character_208 (by decide) ?_
        exact tX10_character_209 X hcd Qr  ih hK314 _ _ _ _ _ _ _ _ _ h
      · refine wp_aload_n X dX10_character_184 0 rfl ?_
        refine wp_getR X (T := TX10) (N := 20) (ci := 9) (k := 17) rfl (by decide) (by decide) inBX10 kw829 dX10_character_185 h (fun v185 h => ?_)
        refine wp_iload X dX10_character_188 5 rfl ?_
        refine wp_laload X dX10_character_190 h (fun v190 h => ?_)
        refine wp_iload X dX10_character_191 6 rfl ?_
        refine wp_iload X dX10_character_193 4 rfl ?_
        refine wp_iadd X dX10_character_195 ?_
        refine wp_lshr X dX10_character_196 ?_
        refine wp_lconst X (v := 1) dX10_character_197 (by decide) ?_
        refine wp_land X dX10_character_198 ?_
        refine wp_lconst X (v := 0) dX10_character_199 (by decide) ?_
        refine wp_lcmp X dX10_character_200 ?_
        refine wp_if_ne X (tgt := 208) dX10_character_201 (by decide) h (fun h => ?_) (fun h => ?_)
        · refine wp_iconst X (v := 0) dX10_character_208 (by decide) ?_
          exact tX10_character_209 X hcd Qr  ih hK314 _ _ _ _ _ _ _ _ _ h
        · refine wp_iconst X (v := 1) dX10_character_204 (by decide) ?_
          refine wp_goto X (tgt := 209) dX10_character_205 (by decide) ?_
          exact tX10_character_209 X hcd Qr  ih hK314 _ _ _ _ _ _ _ _ _ h
def fX10_character_148 (K320 : Nat → Int32 → Int64 → Int32 → Mem → Option (Int64 × Mem)) : Nat → Nat → Int32 → Int64 → Int32 → Int32 → Int32 → Mem → Option (Int64 × Mem)
  | 0, _, _, _, _, _, _, _ => none
  | n + 1, x0, x2, x3, x5, x6, x7, F => (gfI F x0 9 16).bind fun v151 => if v151 ≤ x7 then (K320 x0 x2 x3 x5 F) else (fX10_character_160  (fun (x0 : Nat) (x2 : Int32) (x3 : Int64) (x5 : Int32) (x6 : Int32) (x7 : Int32) (F : Mem) => (fX10_character_148  K320 n) x0 x2 x3 x5 x6 (x7 + 1) F) FU x0 x2 x3 x5 x6 x7 0 F)
set_option maxRecDepth 100000 in
set_option maxHeartbeats 4000000 in
theorem tX10_character_148 {l : Launch} {D : va_G} {cy : Nat → ClassId} {C : Cx} {res : Int64 × Mem} (X : Fx C cX10_character RX10 (some .long) rmX10_character 12) (hcd : CD C l D cy) (Qr : RJ C 0 0 res) {K320 : Nat → Int32 → Int64 → Int32 → Mem → Option (Int64 × Mem)} (hK320 : ∀ (x0 : Nat) (x2 : Int32) (x3 : Int64) (x5 : Int32) (F : Mem), K320 x0 x2 x3 x5 F = some res → Wp C 0 0 320 [(0, .ref x0), (2, .int x2), (3, .long x3), (5, .int x5)] [] F) : ∀ (n : Nat) (x0 : Nat) (x2 : Int32) (x3 : Int64) (x5 : Int32) (x6 : Int32) (x7 : Int32) (F : Mem), fX10_character_148 K320 n x0 x2 x3 x5 x6 x7 F = some res → Wp C 0 0 148 [(0, .ref x0), (2, .int x2), (3, .long x3), (5, .int x5), (6, .int x6), (7, .int x7)] [] F := by
  intro n
  induction n with
  | zero =>
    intro x0 x2 x3 x5 x6 x7 F h
    rw [fX10_character_148.eq_1] at h
    cases h
  | succ n ih =>
    intro x0 x2 x3 x5 x6 x7 F h
    rw [fX10_character_148.eq_2] at h
    refine wp_iload X dX10_character_148 5 rfl ?_
    refine wp_aload_n X dX10_character_150 0 rfl ?_
    refine wp_getI X (T := TX10) (N := 20) (ci := 9) (k := 16) rfl (by decide) (by decide) inBX10 kw828 dX10_character_151 h (fun v151 h => ?_)
    refine wp_icmp_ge X (tgt := 320) dX10_character_154 (by decide) h (fun h => ?_) (fun h => ?_)
    · refine wp_sub (lv' := [(0, .ref x0), (2, .int x2), (3, .long x3), (5, .int x5)]) [0, 1, 2, 3] rfl ?_
      exact hK320 _ _ _ _ _ h
    · refine wp_iconst X (v := 0) dX10_character_157 (by decide) ?_
      refine wp_istore X (lv' := [(0, .ref x0), (2, .int x2), (3, .long x3), (5, .int x5), (6, .int x6), (7, .int x7), (8, .int 0)]) dX10_character_158 (by decide) [1, 2, 3, 4, 5, 6, 0] rfl ?_
      refine tX10_character_160 X hcd Qr  ?_ FU _ _ _ _ _ _ _ _ h
      · intro x0 x2 x3 x5 x6 x7 F h
        refine wp_iinc X (v := x7 + 1) (lv' := [(0, .ref x0), (2, .int x2), (3, .long x3), (5, .int x5), (6, .int x6), (7, .int (x7 + 1))]) dX10_character_314 (by decide) 5 rfl rfl [1, 2, 3, 4, 5, 0] rfl ?_
        refine wp_goto X (tgt := 148) dX10_character_317 (by decide) ?_
        exact ih _ _ _ _ _ _ _ h
def fX10_character_115 (K326 : Nat → Int64 → Mem → Option (Int64 × Mem)) : Nat → Nat → Int32 → Int64 → Int32 → Mem → Option (Int64 × Mem)
  | 0, _, _, _, _, _ => none
  | n + 1, x0, x2, x3, x5, F => if 8 ≤ x5 then (K326 x0 x3 F) else ((obj F x0 9).bind fun _ => (mX10_rowOf F x0 x2 x5).bind fun v126 => if v126.1 ≤ 0 then (K326 x0 x3 v126.2) else ((obj v126.2 x0 9).bind fun _ => (mX10_rowOf v126.2 x0 x2 x5).bind fun v136 => (obj v136.2 x0 9).bind fun _ => (mX10_turnOver v136.2 x0).bind fun v142 => fX10_character_148  (fun (x0 : Nat) (x2 : Int32) (x3 : Int64) (x5 : Int32) (F : Mem) => (fX10_character_115  K326 n) x0 x2 x3 (x5 + 1) F) FU x0 x2 x3 x5 v136.1 0 v142))
set_option maxRecDepth 100000 in
set_option maxHeartbeats 4000000 in
theorem tX10_character_115 {l : Launch} {D : va_G} {cy : Nat → ClassId} {C : Cx} {res : Int64 × Mem} (X : Fx C cX10_character RX10 (some .long) rmX10_character 12) (hcd : CD C l D cy) (Qr : RJ C 0 0 res) {K326 : Nat → Int64 → Mem → Option (Int64 × Mem)} (hK326 : ∀ (x0 : Nat) (x3 : Int64) (F : Mem), K326 x0 x3 F = some res → Wp C 0 0 326 [(0, .ref x0), (3, .long x3)] [] F) : ∀ (n : Nat) (x0 : Nat) (x2 : Int32) (x3 : Int64) (x5 : Int32) (F : Mem), fX10_character_115 K326 n x0 x2 x3 x5 F = some res → Wp C 0 0 115 [(0, .ref x0), (2, .int x2), (3, .long x3), (5, .int x5)] [] F := by
  intro n
  induction n with
  | zero =>
    intro x0 x2 x3 x5 F h
    rw [fX10_character_115.eq_1] at h
    cases h
  | succ n ih =>
    intro x0 x2 x3 x5 F h
    rw [fX10_character_115.eq_2] at h
    refine wp_iload X dX10_character_115 3 rfl ?_
    refine wp_bipush X (v := 8) dX10_character_117 (by decide) ?_
    refine wp_icmp_ge X (tgt := 326) dX10_character_119 (by decide) h (fun h => ?_) (fun h => ?_)
    · refine wp_sub (lv' := [(0, .ref x0), (3, .long x3)]) [0, 2] rfl ?_
      exact hK326 _ _ _ h
    · refine wp_aload_n X dX10_character_122 0 rfl ?_
      refine wp_iload_n X dX10_character_123 1 rfl ?_
      refine wp_iload X dX10_character_124 3 rfl ?_
      refine wp_callVI X (rm := rmX10_rowOf) (T := TX10) (N := 20) (ci := 9) (n := 2) [.int x2, .int x5] hcd (fun q hq => cX10_rowOf_ok hq) kw889 kw891 ks19 kw10 kw892 (by decide +kernel) (by decide) (by decide) (cs2 := 0) (sl2 := 0) rfl rfl rfl (by decide) rfl rfl (Nat.le_of_ble_eq_true rfl) dX10_character_126 h (fun v126 h => ?_)
      refine wp_if_le X (tgt := 326) dX10_character_129 (by decide) h (fun h => ?_) (fun h => ?_)
      · refine wp_sub (lv' := [(0, .ref x0), (3, .long x3)]) [0, 2] rfl ?_
        exact hK326 _ _ _ h
      · refine wp_aload_n X dX10_character_132 0 rfl ?_
        refine wp_iload_n X dX10_character_133 1 rfl ?_
        refine wp_iload X dX10_character_134 3 rfl ?_
        refine wp_callVI X (rm := rmX10_rowOf) (T := TX10) (N := 20) (ci := 9) (n := 2) [.int x2, .int x5] hcd (fun q hq => cX10_rowOf_ok hq) kw889 kw891 ks19 kw10 kw892 (by decide +kernel) (by decide) (by decide) (cs2 := 0) (sl2 := 0) rfl rfl rfl (by decide) rfl rfl (Nat.le_of_ble_eq_true rfl) dX10_character_136 h (fun v136 h => ?_)
        refine wp_istore X (lv' := [(0, .ref x0), (2, .int x2), (3, .long x3), (5, .int x5), (6, .int v136.1)]) dX10_character_139 (by decide) [1, 2, 3, 4, 0] rfl ?_
        refine wp_aload_n X dX10_character_141 0 rfl ?_
        refine wp_callVV X (rm := rmX10_turnOver) (T := TX10) (N := 20) (ci := 9) (n := 0) [] hcd (fun q hq => cX10_turnOver_ok hq) kw1053 kw1055 ks41 kw10 kw1056 (by decide +kernel) (by decide) (by decide) (cs2 := 0) (sl2 := 0) rfl rfl rfl (by decide) rfl rfl (Nat.le_of_ble_eq_true rfl) dX10_character_142 h (fun v142 h => ?_)
        refine wp_iconst X (v := 0) dX10_character_145 (by decide) ?_
        refine wp_istore X (lv' := [(0, .ref x0), (2, .int x2), (3, .long x3), (5, .int x5), (6, .int v136.1), (7, .int 0)]) dX10_character_146 (by decide) [1, 2, 3, 4, 5, 0] rfl ?_
        refine tX10_character_148 X hcd Qr  ?_ FU _ _ _ _ _ _ _ h
        · intro x0 x2 x3 x5 F h
          refine wp_iinc X (v := x5 + 1) (lv' := [(0, .ref x0), (2, .int x2), (3, .long x3), (5, .int (x5 + 1))]) dX10_character_320 (by decide) 3 rfl rfl [1, 2, 3, 0] rfl ?_
          refine wp_goto X (tgt := 115) dX10_character_323 (by decide) ?_
          exact ih _ _ _ _ _ h
def fX10_character_329 (K350 : Nat → Int32 → Mem → Option (Int64 × Mem)) : Nat → Nat → Int64 → Int32 → Mem → Option (Int64 × Mem)
  | 0, _, _, _, _ => none
  | n + 1, x0, x3, x5, F => (gfI F x0 9 13).bind fun v332 => if v332 ≤ x5 then (some (0, F)) else ((gfR F x0 9 14).bind fun v339 => (rdJ F v339 x5).bind fun v344 => if (lg_cmp v344 x3) = 0 then (K350 x0 x5 F) else ((fX10_character_329  K350 n) x0 x3 (x5 + 1) F))
set_option maxRecDepth 100000 in
set_option maxHeartbeats 4000000 in
theorem tX10_character_329 {l : Launch} {D : va_G} {cy : Nat → ClassId} {C : Cx} {res : Int64 × Mem} (X : Fx C cX10_character RX10 (some .long) rmX10_character 12) (hcd : CD C l D cy) (Qr : RJ C 0 0 res) {K350 : Nat → Int32 → Mem → Option (Int64 × Mem)} (hK350 : ∀ (x0 : Nat) (x5 : Int32) (F : Mem), K350 x0 x5 F = some res → Wp C 0 0 350 [(0, .ref x0), (5, .int x5)] [] F) : ∀ (n : Nat) (x0 : Nat) (x3 : Int64) (x5 : Int32) (F : Mem), fX10_character_329 K350 n x0 x3 x5 F = some res → Wp C 0 0 329 [(0, .ref x0), (3, .long x3), (5, .int x5)] [] F := by
  intro n
  induction n with
  | zero =>
    intro x0 x3 x5 F h
    rw [fX10_character_329.eq_1] at h
    cases h
  | succ n ih =>
    intro x0 x3 x5 F h
    rw [fX10_character_329.eq_2] at h
    refine wp_iload X dX10_character_329 2 rfl ?_
    refine wp_aload_n X dX10_character_331 0 rfl ?_
    refine wp_getI X (T := TX10) (N := 20) (ci := 9) (k := 13) rfl (by decide) (by decide) inBX10 kw825 dX10_character_332 h (fun v332 h => ?_)
    refine wp_icmp_ge X (tgt := 364) dX10_character_335 (by decide) h (fun h => ?_) (fun h => ?_)
    · refine wp_lconst X (v := 0) dX10_character_364 (by decide) ?_
      exact wp_lreturn X Qr rfl dX10_character_365 h
    · refine wp_aload_n X dX10_character_338 0 rfl ?_
      refine wp_getR X (T := TX10) (N := 20) (ci := 9) (k := 14) rfl (by decide) (by decide) inBX10 kw826 dX10_character_339 h (fun v339 h => ?_)
      refine wp_iload X dX10_character_342 2 rfl ?_
      refine wp_laload X dX10_character_344 h (fun v344 h => ?_)
      refine wp_lload_n X dX10_character_345 1 rfl ?_
      refine wp_lcmp X dX10_character_346 ?_
      refine wp_if_ne X (tgt := 358) dX10_character_347 (by decide) h (fun h => ?_) (fun h => ?_)
      · refine wp_iinc X (v := x5 + 1) (lv' := [(0, .ref x0), (3, .long x3), (5, .int (x5 + 1))]) dX10_character_358 (by decide) 2 rfl rfl [1, 2, 0] rfl ?_
        refine wp_goto X (tgt := 329) dX10_character_361 (by decide) ?_
        exact ih _ _ _ _ h
      · refine wp_sub (lv' := [(0, .ref x0), (5, .int x5)]) [0, 2] rfl ?_
        exact hK350 _ _ _ h
def fX10_character_326  (x0 : Nat) (x3 : Int64) (F : Mem) : Option (Int64 × Mem) := fX10_character_329  (fun (x0 : Nat) (x5 : Int32) (F : Mem) => (gfR F x0 9 15).bind fun v351 => (rdJ F v351 x5).bind fun v356 => some (v356, F)) FU x0 x3 0 F
set_option maxRecDepth 100000 in
set_option maxHeartbeats 4000000 in
theorem tX10_character_326 {l : Launch} {D : va_G} {cy : Nat → ClassId} {C : Cx} {res : Int64 × Mem} (X : Fx C cX10_character RX10 (some .long) rmX10_character 12) (hcd : CD C l D cy) (Qr : RJ C 0 0 res)   (x0 : Nat) (x3 : Int64) (F : Mem) (h : fX10_character_326  x0 x3 F = some res) : Wp C 0 0 326 [(0, .ref x0), (3, .long x3)] [] F := by
  unfold fX10_character_326 at h
  refine wp_iconst X (v := 0) dX10_character_326 (by decide) ?_
  refine wp_istore X (lv' := [(0, .ref x0), (3, .long x3), (5, .int 0)]) dX10_character_327 (by decide) [1, 2, 0] rfl ?_
  refine tX10_character_329 X hcd Qr  ?_ FU _ _ _ _ h
  · intro x0 x5 F h
    refine wp_aload_n X dX10_character_350 0 rfl ?_
    refine wp_getR X (T := TX10) (N := 20) (ci := 9) (k := 15) rfl (by decide) (by decide) inBX10 kw827 dX10_character_351 h (fun v351 h => ?_)
    refine wp_iload X dX10_character_354 1 rfl ?_
    refine wp_laload X dX10_character_356 h (fun v356 h => ?_)
    exact wp_lreturn X Qr rfl dX10_character_357 h
def fX10_character_51  (x0 : Nat) (x1 : Int32) (x2 : Int32) (s0 : Nat) (s1 : Int32) (F : Mem) : Option (Int64 × Mem) := (pf F s0 9 0 (.int s1)).bind fun F51 => (gfI F51 x0 9 0).bind fun v55 => if v55 ≤ 0 then (fX10_character_68  (fun (x0 : Nat) (x2 : Int32) (x3 : Int64) (F : Mem) => (pf F x0 9 13 (.int 0)).bind fun F101 => (obj F101 x0 9).bind fun _ => (mX10_note F101 x0 255 1).bind fun v109 => fX10_character_115  (fun (x0 : Nat) (x3 : Int64) (F : Mem) => fX10_character_326   x0 x3 F) FU x0 x2 x3 0 v109) FU x0 x1 x2 0 0 F51) else (some (0, F51))
set_option maxRecDepth 100000 in
set_option maxHeartbeats 4000000 in
theorem tX10_character_51 {l : Launch} {D : va_G} {cy : Nat → ClassId} {C : Cx} {res : Int64 × Mem} (X : Fx C cX10_character RX10 (some .long) rmX10_character 12) (hcd : CD C l D cy) (Qr : RJ C 0 0 res)   (x0 : Nat) (x1 : Int32) (x2 : Int32) (s0 : Nat) (s1 : Int32) (F : Mem) (h : fX10_character_51  x0 x1 x2 s0 s1 F = some res) : Wp C 0 0 51 [(0, .ref x0), (1, .int x1), (2, .int x2)] [.int s1, .ref s0] F := by
  unfold fX10_character_51 at h
  refine wp_put X (T := TX10) (N := 20) (ci := 9) (k := 0) tyX10 rfl (by decide) (by decide) inBX10 kw812 tyX10_ok nmX10 rfl rfl (vp_nar_int _) rfl dX10_character_51 h (fun F51 h => ?_)
  refine wp_aload_n X dX10_character_54 0 rfl ?_
  refine wp_getI X (T := TX10) (N := 20) (ci := 9) (k := 0) rfl (by decide) (by decide) inBX10 kw812 dX10_character_55 h (fun v55 h => ?_)
  refine wp_if_le X (tgt := 63) dX10_character_58 (by decide) h (fun h => ?_) (fun h => ?_)
  · refine wp_lconst X (v := 0) dX10_character_63 (by decide) ?_
    refine wp_lstore_n X (lv' := [(0, .ref x0), (1, .int x1), (2, .int x2), (3, .long 0)]) dX10_character_64 (by decide) [1, 2, 3, 0] rfl ?_
    refine wp_iconst X (v := 0) dX10_character_65 (by decide) ?_
    refine wp_istore X (lv' := [(0, .ref x0), (1, .int x1), (2, .int x2), (3, .long 0), (5, .int 0)]) dX10_character_66 (by decide) [1, 2, 3, 4, 0] rfl ?_
    refine tX10_character_68 X hcd Qr  ?_ FU _ _ _ _ _ _ h
    · intro x0 x2 x3 F h
      refine wp_aload_n X dX10_character_99 0 rfl ?_
      refine wp_iconst X (v := 0) dX10_character_100 (by decide) ?_
      refine wp_put X (T := TX10) (N := 20) (ci := 9) (k := 13) tyX10 rfl (by decide) (by decide) inBX10 kw825 tyX10_ok nmX10 rfl rfl (vp_nar_int _) rfl dX10_character_101 h (fun F101 h => ?_)
      refine wp_aload_n X dX10_character_104 0 rfl ?_
      refine wp_ldc2 X dX10_character_105 (v := 255) kw884 ?_
      refine wp_lconst X (v := 1) dX10_character_108 (by decide) ?_
      refine wp_callVV X (rm := rmX10_note) (T := TX10) (N := 20) (ci := 9) (n := 2) [.long 255, .long 1] hcd (fun q hq => cX10_note_ok hq) kw1049 kw1051 ks40 kw10 kw1052 (by decide +kernel) (by decide) (by decide) (cs2 := 0) (sl2 := 0) rfl rfl rfl (by decide) rfl rfl (Nat.le_of_ble_eq_true rfl) dX10_character_109 h (fun v109 h => ?_)
      refine wp_iconst X (v := 0) dX10_character_112 (by decide) ?_
      refine wp_istore X (lv' := [(0, .ref x0), (2, .int x2), (3, .long x3), (5, .int 0)]) dX10_character_113 (by decide) [1, 2, 3, 0] rfl ?_
      refine tX10_character_115 X hcd Qr  ?_ FU _ _ _ _ _ h
      · intro x0 x3 F h
        exact tX10_character_326 X hcd Qr   _ _ _ h
  · refine wp_lconst X (v := 0) dX10_character_61 (by decide) ?_
    exact wp_lreturn X Qr rfl dX10_character_62 h
def mX10_character (F : Mem) (x0 : Nat) (x1 : Int32) (x2 : Int32) : Option (Int64 × Mem) := (mX10_isSlot F x1).bind fun v2 => if v2.1 = 0 then (fX10_character_51   x0 x1 x2 x0 1 v2.2) else ((mX10_isSlot v2.2 x2).bind fun v9 => if v9.1 = 0 then (fX10_character_51   x0 x1 x2 x0 1 v9.2) else ((obj v9.2 x0 9).bind fun _ => (mX10_boxesOf v9.2 x0 x1).bind fun v21 => (obj v21.2 x0 9).bind fun _ => (mX10_boxesOf v21.2 x0 x2).bind fun v26 => if v21.1 = v26.1 then ((obj v26.2 x0 9).bind fun _ => (mX10_boxesOf v26.2 x0 x1).bind fun v38 => if v38.1 ≤ 14 then (fX10_character_51   x0 x1 x2 x0 0 v38.2) else (fX10_character_51   x0 x1 x2 x0 3 v38.2)) else (fX10_character_51   x0 x1 x2 x0 2 v26.2)))
set_option maxRecDepth 100000 in
set_option maxHeartbeats 4000000 in
theorem cX10_character_ok {l : Launch} {D : va_G} {cy : Nat → ClassId} {F : Mem} {x0 : Nat} {x1 : Int32} {x2 : Int32} {res : Int64 × Mem} (h : mX10_character F x0 x1 x2 = some res) : ML l yX10_character cX10_character 12 (some .long) rmX10_character D cy F [.ref x0, .int x1, .int x2] res := by
  refine ml_of (by decide) (Nat.le_of_ble_eq_true rfl) [(0, .ref x0), (1, .int x1), (2, .int x2)] rfl (fun C X hcd Qr => ?_)
  unfold mX10_character at h
  refine wp_aload_n X dX10_character_0 0 rfl ?_
  refine wp_iload_n X dX10_character_1 1 rfl ?_
  refine wp_callSI X (rm := rmX10_isSlot) (n := 1) [.int x1] hcd (fun q hq => cX10_isSlot_ok hq) kw881 kw882 kw10 kw883 (by decide +kernel) (by decide) (by decide) (cs2 := 0) (sl2 := 0) rfl rfl rfl rfl (Nat.le_of_ble_eq_true rfl) dX10_character_2 h (fun v2 h => ?_)
  refine wp_if_eq X (tgt := 15) dX10_character_5 (by decide) h (fun h => ?_) (fun h => ?_)
  · refine wp_iconst X (v := 1) dX10_character_15 (by decide) ?_
    refine wp_goto X (tgt := 51) dX10_character_16 (by decide) ?_
    exact tX10_character_51 X hcd Qr   _ _ _ _ _ _ h
  · refine wp_iload_n X dX10_character_8 2 rfl ?_
    refine wp_callSI X (rm := rmX10_isSlot) (n := 1) [.int x2] hcd (fun q hq => cX10_isSlot_ok hq) kw881 kw882 kw10 kw883 (by decide +kernel) (by decide) (by decide) (cs2 := 0) (sl2 := 0) rfl rfl rfl rfl (Nat.le_of_ble_eq_true rfl) dX10_character_9 h (fun v9 h => ?_)
    refine wp_if_ne X (tgt := 19) dX10_character_12 (by decide) h (fun h => ?_) (fun h => ?_)
    · refine wp_aload_n X dX10_character_19 0 rfl ?_
      refine wp_iload_n X dX10_character_20 1 rfl ?_
      refine wp_callVI X (rm := rmX10_boxesOf) (T := TX10) (N := 20) (ci := 9) (n := 1) [.int x1] hcd (fun q hq => cX10_boxesOf_ok hq) kw901 kw903 ks20 kw10 kw904 (by decide +kernel) (by decide) (by decide) (cs2 := 0) (sl2 := 0) rfl rfl rfl (by decide) rfl rfl (Nat.le_of_ble_eq_true rfl) dX10_character_21 h (fun v21 h => ?_)
      refine wp_aload_n X dX10_character_24 0 rfl ?_
      refine wp_iload_n X dX10_character_25 2 rfl ?_
      refine wp_callVI X (rm := rmX10_boxesOf) (T := TX10) (N := 20) (ci := 9) (n := 1) [.int x2] hcd (fun q hq => cX10_boxesOf_ok hq) kw901 kw903 ks20 kw10 kw904 (by decide +kernel) (by decide) (by decide) (cs2 := 0) (sl2 := 0) rfl rfl rfl (by decide) rfl rfl (Nat.le_of_ble_eq_true rfl) dX10_character_26 h (fun v26 h => ?_)
      refine wp_icmp_eq X (tgt := 36) dX10_character_29 (by decide) h (fun h => ?_) (fun h => ?_)
      · refine wp_aload_n X dX10_character_36 0 rfl ?_
        refine wp_iload_n X dX10_character_37 1 rfl ?_
        refine wp_callVI X (rm := rmX10_boxesOf) (T := TX10) (N := 20) (ci := 9) (n := 1) [.int x1] hcd (fun q hq => cX10_boxesOf_ok hq) kw901 kw903 ks20 kw10 kw904 (by decide +kernel) (by decide) (by decide) (cs2 := 0) (sl2 := 0) rfl rfl rfl (by decide) rfl rfl (Nat.le_of_ble_eq_true rfl) dX10_character_38 h (fun v38 h => ?_)
        refine wp_bipush X (v := 14) dX10_character_41 (by decide) ?_
        refine wp_icmp_le X (tgt := 50) dX10_character_43 (by decide) h (fun h => ?_) (fun h => ?_)
        · refine wp_iconst X (v := 0) dX10_character_50 (by decide) ?_
          exact tX10_character_51 X hcd Qr   _ _ _ _ _ _ h
        · refine wp_iconst X (v := 3) dX10_character_46 (by decide) ?_
          refine wp_goto X (tgt := 51) dX10_character_47 (by decide) ?_
          exact tX10_character_51 X hcd Qr   _ _ _ _ _ _ h
      · refine wp_iconst X (v := 2) dX10_character_32 (by decide) ?_
        refine wp_goto X (tgt := 51) dX10_character_33 (by decide) ?_
        exact tX10_character_51 X hcd Qr   _ _ _ _ _ _ h
    · refine wp_iconst X (v := 1) dX10_character_15 (by decide) ?_
      refine wp_goto X (tgt := 51) dX10_character_16 (by decide) ?_
      exact tX10_character_51 X hcd Qr   _ _ _ _ _ _ h
