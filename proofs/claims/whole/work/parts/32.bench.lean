/-! TableauBench.slotNumbered(I)LTableauBench$Shape; -/
def rmX9_slotNumbered : Room := { frames := 6, cells := 1, slots := 6, locals := 96 }
def fX9_slotNumbered_9  (F : Mem) : Option ((String ⊕ Nat) × Mem) := some (Sum.inl "java/lang/IndexOutOfBoundsException", F)
set_option maxRecDepth 100000 in
set_option maxHeartbeats 4000000 in
theorem tX9_slotNumbered_9 {l : Launch} {D : va_G} {cy : Nat → ClassId} (hst0 : l.stackTraces = false) {C : Cx} {res : (String ⊕ Nat) × Mem} (X : Fx C cX9_slotNumbered RX9 (some (.object "TableauBench$Shape")) rmX9_slotNumbered 2) (hcd : CD C l D cy) (Tt : TT C) (Qr : TQR C 1 6 res)   (F : Mem) (h : fX9_slotNumbered_9  F = some res) : Wp C 0 0 9 [] [] F := by
  unfold fX9_slotNumbered_9 at h
  exact wp_throwSW X Tt Qr.x (text := "no such slot") rfl (by decide) kw287 kw14 (by decide) xg291 xn291 xo291 dX9_slotNumbered_9 dX9_slotNumbered_12 dX9_slotNumbered_13 dX9_slotNumbered_16 dX9_slotNumbered_19 (by decide) (by decide) (by decide) (by decide) (by decide) (by decide) (Option.some.inj h)
def mX9_slotNumbered (F : Mem) (x0 : Nat) (x1 : Int32) : Option ((String ⊕ Nat) × Mem) := if x1 < 0 then (fX9_slotNumbered_9   F) else (if x1 < 4 then ((gfR F x0 8 0).bind fun v21 => (rdQ F 3 v21 x1).bind fun v25 => some (Sum.inr v25, F)) else (fX9_slotNumbered_9   F))
set_option maxRecDepth 100000 in
set_option maxHeartbeats 4000000 in
theorem cX9_slotNumbered_ok {l : Launch} {D : va_G} {cy : Nat → ClassId} (hst0 : l.stackTraces = false) {F : Mem} {x0 : Nat} {x1 : Int32} {res : (String ⊕ Nat) × Mem} (h : mX9_slotNumbered F x0 x1 = some res) : TR l yX9_slotNumbered cX9_slotNumbered 2 (some (.object "TableauBench$Shape")) rmX9_slotNumbered D cy F [.ref x0, .int x1] res := by
  refine tr_of hst0 (by decide) (Nat.le_of_ble_eq_true rfl) [(0, .ref x0), (1, .int x1)] rfl (fun C X hcd Tt Qr => ?_)
  unfold mX9_slotNumbered at h
  refine wp_iload_n X dX9_slotNumbered_0 1 rfl ?_
  refine wp_if_lt X (tgt := 9) dX9_slotNumbered_1 (by decide) h (fun h => ?_) (fun h => ?_)
  · refine wp_sub (lv' := []) [] rfl ?_
    exact tX9_slotNumbered_9 hst0 X hcd Tt Qr   _ h
  · refine wp_iload_n X dX9_slotNumbered_4 1 rfl ?_
    refine wp_iconst X (v := 4) dX9_slotNumbered_5 (by decide) ?_
    refine wp_icmp_lt X (tgt := 20) dX9_slotNumbered_6 (by decide) h (fun h => ?_) (fun h => ?_)
    · refine wp_aload_n X dX9_slotNumbered_20 0 rfl ?_
      refine wp_getR X (T := TX9) (N := 13) (ci := 8) (k := 0) rfl (by decide) (by decide) inBX9 kw179 dX9_slotNumbered_21 h (fun v21 h => ?_)
      refine wp_iload_n X dX9_slotNumbered_24 1 rfl ?_
      refine wp_aaload X 3 (fun _ => rfl) dX9_slotNumbered_25 h (fun v25 h => ?_)
      exact wp_areturnT X Qr (by decide) (by decide) rfl dX9_slotNumbered_26 h
    · refine wp_sub (lv' := []) [] rfl ?_
      exact tX9_slotNumbered_9 hst0 X hcd Tt Qr   _ h
/-! TableauBench.shape(IJ)Z -/
def rmX9_shape : Room := { frames := 7, cells := 1, slots := 6, locals := 117 }
def mX9_shape (F : Mem) (x0 : Nat) (x1 : Int32) (x2 : Int64) : Option ((String ⊕ Int32) × Mem) := (obj F x0 8).bind fun _ => thn (mX9_slotNumbered F x0 x1) fun v2 F2 => (gfR F2 x0 8 7).bind fun v8 => (obj F2 v8 3).bind fun _ => (mX4_unpack F2 v8 x2).bind fun v12 => (gfR v12 x0 8 7).bind fun v16 => (obj v12 v16 3).bind fun _ => (mX4_isAllowed v12 v16).bind fun v19 => if v19.1 = 0 then (some (Sum.inr 0, v19.2)) else ((gfR v19.2 x0 8 7).bind fun v30 => (obj v19.2 v2 3).bind fun _ => (mX4_copyFrom v19.2 v2 v30).bind fun v33 => some (Sum.inr 1, v33))
set_option maxRecDepth 100000 in
set_option maxHeartbeats 4000000 in
theorem cX9_shape_ok {l : Launch} {D : va_G} {cy : Nat → ClassId} (hst0 : l.stackTraces = false) {F : Mem} {x0 : Nat} {x1 : Int32} {x2 : Int64} {res : (String ⊕ Int32) × Mem} (h : mX9_shape F x0 x1 x2 = some res) : TI l yX9_shape cX9_shape 5 (some .boolean) rmX9_shape D cy F [.ref x0, .int x1, .long x2] res := by
  refine ti_of hst0 (by decide) (Nat.le_of_ble_eq_true rfl) [(0, .ref x0), (1, .int x1), (2, .long x2)] rfl (fun C X hcd Tt Qr => ?_)
  unfold mX9_shape at h
  refine wp_aload_n X dX9_shape_0 0 rfl ?_
  refine wp_iload_n X dX9_shape_1 1 rfl ?_
  refine wp_callTR X Tt (rm := rmX9_slotNumbered) (T := TX9) (N := 13) (ci := 8) (n := 1) [.int x1] Qr.x hcd (fun q hq => cX9_slotNumbered_ok hst0 hq) kw283 kw285 ks1 kw1 kw286 (by decide +kernel) (by decide) (by decide) (cs2 := 1) (sl2 := 6) rfl rfl (by decide) (by decide) rfl (by decide) rfl rfl (Nat.le_of_ble_eq_true rfl) dX9_shape_2 h (fun v2 F2 h => ?_)
  refine wp_astore X (lv' := [(0, .ref x0), (2, .long x2), (4, .ref v2)]) dX9_shape_5 (by decide) [1, 3, 0] rfl ?_
  refine wp_aload_n X dX9_shape_7 0 rfl ?_
  refine wp_getR X (T := TX9) (N := 13) (ci := 8) (k := 7) rfl (by decide) (by decide) inBX9 kw186 dX9_shape_8 h (fun v8 h => ?_)
  refine wp_lload_n X dX9_shape_11 1 rfl ?_
  refine wp_callVV X (rm := rmX4_unpack) (T := TX4) (N := 1) (ci := 3) (n := 1) [.long x2] hcd (fun q hq => cX4_unpack_ok hq) kw357 kw358 kw359 kw3 kw360 (by decide +kernel) (by decide) (by decide) (cs2 := 1) (sl2 := 6) rfl rfl rfl (by decide) rfl rfl (Nat.le_of_ble_eq_true rfl) dX9_shape_12 h (fun v12 h => ?_)
  refine wp_aload_n X dX9_shape_15 0 rfl ?_
  refine wp_getR X (T := TX9) (N := 13) (ci := 8) (k := 7) rfl (by decide) (by decide) inBX9 kw186 dX9_shape_16 h (fun v16 h => ?_)
  refine wp_callVI X (rm := rmX4_isAllowed) (T := TX4) (N := 1) (ci := 3) (n := 0) [] hcd (fun q hq => cX4_isAllowed_ok hq) kw361 kw362 kw363 kw3 kw364 (by decide +kernel) (by decide) (by decide) (cs2 := 1) (sl2 := 6) rfl rfl rfl (by decide) rfl rfl (Nat.le_of_ble_eq_true rfl) dX9_shape_19 h (fun v19 h => ?_)
  refine wp_if_ne X (tgt := 27) dX9_shape_22 (by decide) h (fun h => ?_) (fun h => ?_)
  · refine wp_aload X dX9_shape_27 2 rfl ?_
    refine wp_aload_n X dX9_shape_29 0 rfl ?_
    refine wp_getR X (T := TX9) (N := 13) (ci := 8) (k := 7) rfl (by decide) (by decide) inBX9 kw186 dX9_shape_30 h (fun v30 h => ?_)
    refine wp_callVV X (rm := rmX4_copyFrom) (T := TX4) (N := 1) (ci := 3) (n := 1) [.ref v30] hcd (fun q hq => cX4_copyFrom_ok hq) kw369 kw370 kw371 kw3 kw372 (by decide +kernel) (by decide) (by decide) (cs2 := 1) (sl2 := 6) rfl rfl rfl (by decide) rfl rfl (Nat.le_of_ble_eq_true rfl) dX9_shape_33 h (fun v33 h => ?_)
    refine wp_iconst X (v := 1) dX9_shape_36 (by decide) ?_
    exact wp_ireturnT X Qr (by decide) (by decide) rfl rfl dX9_shape_37 h
  · refine wp_iconst X (v := 0) dX9_shape_25 (by decide) ?_
    exact wp_ireturnT X Qr (by decide) (by decide) rfl rfl dX9_shape_26 h
/-! TableauBench.row(II)I -/
def rmX9_row : Room := { frames := 7, cells := 1, slots := 6, locals := 117 }
def mX9_row (F : Mem) (x0 : Nat) (x1 : Int32) (x2 : Int32) : Option ((String ⊕ Int32) × Mem) := (obj F x0 8).bind fun _ => thn (mX9_slotNumbered F x0 x1) fun v2 F2 => (obj F2 v2 3).bind fun _ => (mX4_rowLength F2 v2 x2).bind fun v6 => some (Sum.inr v6.1, v6.2)
set_option maxRecDepth 100000 in
set_option maxHeartbeats 4000000 in
theorem cX9_row_ok {l : Launch} {D : va_G} {cy : Nat → ClassId} (hst0 : l.stackTraces = false) {F : Mem} {x0 : Nat} {x1 : Int32} {x2 : Int32} {res : (String ⊕ Int32) × Mem} (h : mX9_row F x0 x1 x2 = some res) : TI l yX9_row cX9_row 3 (some .int) rmX9_row D cy F [.ref x0, .int x1, .int x2] res := by
  refine ti_of hst0 (by decide) (Nat.le_of_ble_eq_true rfl) [(0, .ref x0), (1, .int x1), (2, .int x2)] rfl (fun C X hcd Tt Qr => ?_)
  unfold mX9_row at h
  refine wp_aload_n X dX9_row_0 0 rfl ?_
  refine wp_iload_n X dX9_row_1 1 rfl ?_
  refine wp_callTR X Tt (rm := rmX9_slotNumbered) (T := TX9) (N := 13) (ci := 8) (n := 1) [.int x1] Qr.x hcd (fun q hq => cX9_slotNumbered_ok hst0 hq) kw283 kw285 ks1 kw1 kw286 (by decide +kernel) (by decide) (by decide) (cs2 := 1) (sl2 := 6) rfl rfl (by decide) (by decide) rfl (by decide) rfl rfl (Nat.le_of_ble_eq_true rfl) dX9_row_2 h (fun v2 F2 h => ?_)
  refine wp_iload_n X dX9_row_5 2 rfl ?_
  refine wp_callVI X (rm := rmX4_rowLength) (T := TX4) (N := 1) (ci := 3) (n := 1) [.int x2] hcd (fun q hq => cX4_rowLength_ok hq) kw383 kw384 kw385 kw3 kw386 (by decide +kernel) (by decide) (by decide) (cs2 := 1) (sl2 := 6) rfl rfl rfl (by decide) rfl rfl (Nat.le_of_ble_eq_true rfl) dX9_row_6 h (fun v6 h => ?_)
  exact wp_ireturnT X Qr (by decide) (by decide) rfl (vp_nar_int _) dX9_row_9 h
/-! TableauBench.conjugate(I)Z -/
def rmX9_conjugate : Room := { frames := 7, cells := 1, slots := 6, locals := 117 }
def fX9_conjugate_28  : Nat → Nat → Nat → Int32 → Mem → Option ((String ⊕ Int32) × Mem)
  | 0, _, _, _, _ => none
  | n + 1, x0, x2, x3, F => if 8 ≤ x3 then (some (Sum.inr 1, F)) else ((gfR F x2 3 0).bind fun v35 => (gfR F x0 8 7).bind fun v40 => (obj F v40 3).bind fun _ => (mX4_columnLength F v40 x3).bind fun v44 => (wrI v44.2 v35 x3 v44.1).bind fun F47 => (fX9_conjugate_28   n) x0 x2 (x3 + 1) F47)
set_option maxRecDepth 100000 in
set_option maxHeartbeats 4000000 in
theorem tX9_conjugate_28 {l : Launch} {D : va_G} {cy : Nat → ClassId} (hst0 : l.stackTraces = false) {C : Cx} {res : (String ⊕ Int32) × Mem} (X : Fx C cX9_conjugate RX9 (some .boolean) rmX9_conjugate 4) (hcd : CD C l D cy) (Tt : TT C) (Qr : TQI C 1 6 res)   : ∀ (n : Nat) (x0 : Nat) (x2 : Nat) (x3 : Int32) (F : Mem), fX9_conjugate_28  n x0 x2 x3 F = some res → Wp C 1 6 28 [(0, .ref x0), (2, .ref x2), (3, .int x3)] [] F := by
  intro n
  induction n with
  | zero =>
    intro x0 x2 x3 F h
    rw [fX9_conjugate_28.eq_1] at h
    cases h
  | succ n ih =>
    intro x0 x2 x3 F h
    rw [fX9_conjugate_28.eq_2] at h
    refine wp_iload_n X dX9_conjugate_28 2 rfl ?_
    refine wp_bipush X (v := 8) dX9_conjugate_29 (by decide) ?_
    refine wp_icmp_ge X (tgt := 54) dX9_conjugate_31 (by decide) h (fun h => ?_) (fun h => ?_)
    · refine wp_iconst X (v := 1) dX9_conjugate_54 (by decide) ?_
      exact wp_ireturnT X Qr (by decide) (by decide) rfl rfl dX9_conjugate_55 h
    · refine wp_aload_n X dX9_conjugate_34 1 rfl ?_
      refine wp_getR X (T := TX4) (N := 1) (ci := 3) (k := 0) rfl (by decide) (by decide) inBX4 kw64 dX9_conjugate_35 h (fun v35 h => ?_)
      refine wp_iload_n X dX9_conjugate_38 2 rfl ?_
      refine wp_aload_n X dX9_conjugate_39 0 rfl ?_
      refine wp_getR X (T := TX9) (N := 13) (ci := 8) (k := 7) rfl (by decide) (by decide) inBX9 kw186 dX9_conjugate_40 h (fun v40 h => ?_)
      refine wp_iload_n X dX9_conjugate_43 2 rfl ?_
      refine wp_callVI X (rm := rmX4_columnLength) (T := TX4) (N := 1) (ci := 3) (n := 1) [.int x3] hcd (fun q hq => cX4_columnLength_ok hq) kw394 kw395 kw396 kw3 kw397 (by decide +kernel) (by decide) (by decide) (cs2 := 1) (sl2 := 6) rfl rfl rfl (by decide) rfl rfl (Nat.le_of_ble_eq_true rfl) dX9_conjugate_44 h (fun v44 h => ?_)
      refine wp_iastore X dX9_conjugate_47 h (fun F47 h => ?_)
      refine wp_iinc X (v := x3 + 1) (lv' := [(0, .ref x0), (2, .ref x2), (3, .int (x3 + 1))]) dX9_conjugate_48 (by decide) 2 rfl rfl [1, 2, 0] rfl ?_
      refine wp_goto X (tgt := 28) dX9_conjugate_51 (by decide) ?_
      exact ih _ _ _ _ h
def mX9_conjugate (F : Mem) (x0 : Nat) (x1 : Int32) : Option ((String ⊕ Int32) × Mem) := (obj F x0 8).bind fun _ => thn (mX9_slotNumbered F x0 x1) fun v2 F2 => (obj F2 v2 3).bind fun _ => (mX4_rowLength F2 v2 0).bind fun v8 => if v8.1 ≤ 8 then ((gfR v8.2 x0 8 7).bind fun v19 => (obj v8.2 v19 3).bind fun _ => (mX4_copyFrom v8.2 v19 v2).bind fun v23 => fX9_conjugate_28   FU x0 v2 0 v23) else (some (Sum.inr 0, v8.2))
set_option maxRecDepth 100000 in
set_option maxHeartbeats 4000000 in
theorem cX9_conjugate_ok {l : Launch} {D : va_G} {cy : Nat → ClassId} (hst0 : l.stackTraces = false) {F : Mem} {x0 : Nat} {x1 : Int32} {res : (String ⊕ Int32) × Mem} (h : mX9_conjugate F x0 x1 = some res) : TI l yX9_conjugate cX9_conjugate 4 (some .boolean) rmX9_conjugate D cy F [.ref x0, .int x1] res := by
  refine ti_of hst0 (by decide) (Nat.le_of_ble_eq_true rfl) [(0, .ref x0), (1, .int x1)] rfl (fun C X hcd Tt Qr => ?_)
  unfold mX9_conjugate at h
  refine wp_aload_n X dX9_conjugate_0 0 rfl ?_
  refine wp_iload_n X dX9_conjugate_1 1 rfl ?_
  refine wp_callTR X Tt (rm := rmX9_slotNumbered) (T := TX9) (N := 13) (ci := 8) (n := 1) [.int x1] Qr.x hcd (fun q hq => cX9_slotNumbered_ok hst0 hq) kw283 kw285 ks1 kw1 kw286 (by decide +kernel) (by decide) (by decide) (cs2 := 1) (sl2 := 6) rfl rfl (by decide) (by decide) rfl (by decide) rfl rfl (Nat.le_of_ble_eq_true rfl) dX9_conjugate_2 h (fun v2 F2 h => ?_)
  refine wp_astore_n X (lv' := [(0, .ref x0), (2, .ref v2)]) dX9_conjugate_5 (by decide) [1, 0] rfl ?_
  refine wp_aload_n X dX9_conjugate_6 1 rfl ?_
  refine wp_iconst X (v := 0) dX9_conjugate_7 (by decide) ?_
  refine wp_callVI X (rm := rmX4_rowLength) (T := TX4) (N := 1) (ci := 3) (n := 1) [.int 0] hcd (fun q hq => cX4_rowLength_ok hq) kw383 kw384 kw385 kw3 kw386 (by decide +kernel) (by decide) (by decide) (cs2 := 1) (sl2 := 6) rfl rfl rfl (by decide) rfl rfl (Nat.le_of_ble_eq_true rfl) dX9_conjugate_8 h (fun v8 h => ?_)
  refine wp_bipush X (v := 8) dX9_conjugate_11 (by decide) ?_
  refine wp_icmp_le X (tgt := 18) dX9_conjugate_13 (by decide) h (fun h => ?_) (fun h => ?_)
  · refine wp_aload_n X dX9_conjugate_18 0 rfl ?_
    refine wp_getR X (T := TX9) (N := 13) (ci := 8) (k := 7) rfl (by decide) (by decide) inBX9 kw186 dX9_conjugate_19 h (fun v19 h => ?_)
    refine wp_aload_n X dX9_conjugate_22 1 rfl ?_
    refine wp_callVV X (rm := rmX4_copyFrom) (T := TX4) (N := 1) (ci := 3) (n := 1) [.ref v2] hcd (fun q hq => cX4_copyFrom_ok hq) kw369 kw370 kw371 kw3 kw372 (by decide +kernel) (by decide) (by decide) (cs2 := 1) (sl2 := 6) rfl rfl rfl (by decide) rfl rfl (Nat.le_of_ble_eq_true rfl) dX9_conjugate_23 h (fun v23 h => ?_)
    refine wp_iconst X (v := 0) dX9_conjugate_26 (by decide) ?_
    refine wp_istore_n X (lv' := [(0, .ref x0), (2, .ref v2), (3, .int 0)]) dX9_conjugate_27 (by decide) [1, 2, 0] rfl ?_
    refine tX9_conjugate_28 hst0 X hcd Tt Qr   FU _ _ _ _ h
  · refine wp_iconst X (v := 0) dX9_conjugate_16 (by decide) ?_
    exact wp_ireturnT X Qr (by decide) (by decide) rfl rfl dX9_conjugate_17 h
/-! TableauBench.rank(I)I -/
def rmX9_rank : Room := { frames := 7, cells := 1, slots := 6, locals := 117 }
def mX9_rank (F : Mem) (x0 : Nat) (x1 : Int32) : Option ((String ⊕ Int32) × Mem) := (gfR F x0 8 9).bind fun v1 => (obj F x0 8).bind fun _ => thn (mX9_slotNumbered F x0 x1) fun v6 F6 => (obj F6 v1 4).bind fun _ => (mX5_countBefore F6 v1 v6).bind fun v9 => some (Sum.inr v9.1, v9.2)
set_option maxRecDepth 100000 in
set_option maxHeartbeats 4000000 in
theorem cX9_rank_ok {l : Launch} {D : va_G} {cy : Nat → ClassId} (hst0 : l.stackTraces = false) {F : Mem} {x0 : Nat} {x1 : Int32} {res : (String ⊕ Int32) × Mem} (h : mX9_rank F x0 x1 = some res) : TI l yX9_rank cX9_rank 2 (some .int) rmX9_rank D cy F [.ref x0, .int x1] res := by
  refine ti_of hst0 (by decide) (Nat.le_of_ble_eq_true rfl) [(0, .ref x0), (1, .int x1)] rfl (fun C X hcd Tt Qr => ?_)
  unfold mX9_rank at h
  refine wp_aload_n X dX9_rank_0 0 rfl ?_
  refine wp_getR X (T := TX9) (N := 13) (ci := 8) (k := 9) rfl (by decide) (by decide) inBX9 kw188 dX9_rank_1 h (fun v1 h => ?_)
  refine wp_aload_n X dX9_rank_4 0 rfl ?_
  refine wp_iload_n X dX9_rank_5 1 rfl ?_
  refine wp_callTR X Tt (rm := rmX9_slotNumbered) (T := TX9) (N := 13) (ci := 8) (n := 1) [.int x1] Qr.x hcd (fun q hq => cX9_slotNumbered_ok hst0 hq) kw283 kw285 ks1 kw1 kw286 (by decide +kernel) (by decide) (by decide) (cs2 := 1) (sl2 := 6) rfl rfl (by decide) (by decide) rfl (by decide) rfl rfl (Nat.le_of_ble_eq_true rfl) dX9_rank_6 h (fun v6 F6 h => ?_)
  refine wp_callVI X (rm := rmX5_countBefore) (T := TX5) (N := 1) (ci := 4) (n := 1) [.ref v6] hcd (fun q hq => cX5_countBefore_ok hq) kw405 kw406 kw407 kw5 kw408 (by decide +kernel) (by decide) (by decide) (cs2 := 1) (sl2 := 6) rfl rfl rfl (by decide) rfl rfl (Nat.le_of_ble_eq_true rfl) dX9_rank_9 h (fun v9 h => ?_)
  exact wp_ireturnT X Qr (by decide) (by decide) rfl (vp_nar_int _) dX9_rank_12 h
/-! TableauBench.unrank(III)V -/
def rmX9_unrank : Room := { frames := 7, cells := 2, slots := 12, locals := 117 }
def fX9_unrank_17  (F : Mem) : Option ((String ⊕ Unit) × Mem) := some (Sum.inl "java/lang/IllegalArgumentException", F)
set_option maxRecDepth 100000 in
set_option maxHeartbeats 4000000 in
theorem tX9_unrank_17 {l : Launch} {D : va_G} {cy : Nat → ClassId} (hst0 : l.stackTraces = false) {C : Cx} {res : (String ⊕ Unit) × Mem} (X : Fx C cX9_unrank RX9 none rmX9_unrank 5) (hcd : CD C l D cy) (Tt : TT C) (Qr : TQV C 2 12 res)   (F : Mem) (h : fX9_unrank_17  F = some res) : Wp C 1 6 17 [] [] F := by
  unfold fX9_unrank_17 at h
  exact wp_throwS X Tt Qr.x (text := "no shape here has so many boxes") rfl (by decide) kw424 kw16 (by decide) xg117 xn117 xo117 dX9_unrank_17 dX9_unrank_20 dX9_unrank_21 dX9_unrank_23 dX9_unrank_26 (by decide) (by decide) (by decide) (by decide) (by decide) (by decide) (Option.some.inj h)
def fX9_unrank_44  (F : Mem) : Option ((String ⊕ Unit) × Mem) := some (Sum.inl "java/util/NoSuchElementException", F)
set_option maxRecDepth 100000 in
set_option maxHeartbeats 4000000 in
theorem tX9_unrank_44 {l : Launch} {D : va_G} {cy : Nat → ClassId} (hst0 : l.stackTraces = false) {C : Cx} {res : (String ⊕ Unit) × Mem} (X : Fx C cX9_unrank RX9 none rmX9_unrank 5) (hcd : CD C l D cy) (Tt : TT C) (Qr : TQV C 2 12 res)   (F : Mem) (h : fX9_unrank_44  F = some res) : Wp C 1 6 44 [] [] F := by
  unfold fX9_unrank_44 at h
  exact wp_throwN X Tt Qr.x (text := "no shape has this rank") rfl kw441 kw17 (by decide) dX9_unrank_44 dX9_unrank_47 dX9_unrank_48 dX9_unrank_50 dX9_unrank_53 (by decide) (by decide) (by decide) (by decide) (by decide) (by decide) (Option.some.inj h)
def mX9_unrank (F : Mem) (x0 : Nat) (x1 : Int32) (x2 : Int32) (x3 : Int32) : Option ((String ⊕ Unit) × Mem) := (obj F x0 8).bind fun _ => thn (mX9_slotNumbered F x0 x1) fun v2 F2 => if x2 < 0 then (fX9_unrank_17   F2) else (if x2 ≤ 24 then (if x3 < 0 then (fX9_unrank_44   F2) else ((gfR F2 x0 8 9).bind fun v33 => (obj F2 v33 4).bind fun _ => (mX5_countOf F2 v33 x2 x2).bind fun v38 => if x3 < v38.1 then ((gfR v38.2 x0 8 9).bind fun v55 => (gfR v38.2 x0 8 7).bind fun v61 => (obj v38.2 v55 4).bind fun _ => (mX5_find v38.2 v55 x2 x3 v61).bind fun v64 => if v64.1 = 0 then (some (Sum.inl "java/lang/UnsupportedOperationException", v64.2)) else ((gfR v64.2 x0 8 7).bind fun v83 => (obj v64.2 v2 3).bind fun _ => (mX4_copyFrom v64.2 v2 v83).bind fun v86 => some (Sum.inr (), v86))) else (fX9_unrank_44   v38.2))) else (fX9_unrank_17   F2))
set_option maxRecDepth 100000 in
set_option maxHeartbeats 4000000 in
theorem cX9_unrank_ok {l : Launch} {D : va_G} {cy : Nat → ClassId} (hst0 : l.stackTraces = false) {F : Mem} {x0 : Nat} {x1 : Int32} {x2 : Int32} {x3 : Int32} {res : (String ⊕ Unit) × Mem} (h : mX9_unrank F x0 x1 x2 x3 = some res) : TV l yX9_unrank cX9_unrank 5 none rmX9_unrank D cy F [.ref x0, .int x1, .int x2, .int x3] res := by
  refine tv_of hst0 (by decide) (Nat.le_of_ble_eq_true rfl) [(0, .ref x0), (1, .int x1), (2, .int x2), (3, .int x3)] rfl (fun C X hcd Tt Qr => ?_)
  unfold mX9_unrank at h
  refine wp_aload_n X dX9_unrank_0 0 rfl ?_
  refine wp_iload_n X dX9_unrank_1 1 rfl ?_
  refine wp_callTR X Tt (rm := rmX9_slotNumbered) (T := TX9) (N := 13) (ci := 8) (n := 1) [.int x1] Qr.x hcd (fun q hq => cX9_slotNumbered_ok hst0 hq) kw283 kw285 ks1 kw1 kw286 (by decide +kernel) (by decide) (by decide) (cs2 := 1) (sl2 := 6) rfl rfl (by decide) (by decide) rfl (by decide) rfl rfl (Nat.le_of_ble_eq_true rfl) dX9_unrank_2 h (fun v2 F2 h => ?_)
  refine wp_astore X (lv' := [(0, .ref x0), (2, .int x2), (3, .int x3), (4, .ref v2)]) dX9_unrank_5 (by decide) [1, 3, 4, 0] rfl ?_
  refine wp_iload_n X dX9_unrank_7 1 rfl ?_
  refine wp_if_lt X (tgt := 17) dX9_unrank_8 (by decide) h (fun h => ?_) (fun h => ?_)
  · refine wp_sub (lv' := []) [] rfl ?_
    exact tX9_unrank_17 hst0 X hcd Tt Qr   _ h
  · refine wp_iload_n X dX9_unrank_11 1 rfl ?_
    refine wp_bipush X (v := 24) dX9_unrank_12 (by decide) ?_
    refine wp_icmp_le X (tgt := 27) dX9_unrank_14 (by decide) h (fun h => ?_) (fun h => ?_)
    · refine wp_iload_n X dX9_unrank_27 2 rfl ?_
      refine wp_if_lt X (tgt := 44) dX9_unrank_28 (by decide) h (fun h => ?_) (fun h => ?_)
      · refine wp_sub (lv' := []) [] rfl ?_
        exact tX9_unrank_44 hst0 X hcd Tt Qr   _ h
      · refine wp_iload_n X dX9_unrank_31 2 rfl ?_
        refine wp_aload_n X dX9_unrank_32 0 rfl ?_
        refine wp_getR X (T := TX9) (N := 13) (ci := 8) (k := 9) rfl (by decide) (by decide) inBX9 kw188 dX9_unrank_33 h (fun v33 h => ?_)
        refine wp_iload_n X dX9_unrank_36 1 rfl ?_
        refine wp_iload_n X dX9_unrank_37 1 rfl ?_
        refine wp_callVI X (rm := rmX5_countOf) (T := TX5) (N := 1) (ci := 4) (n := 2) [.int x2, .int x2] hcd (fun q hq => cX5_countOf_ok hq) kw440 kw411 kw412 kw5 kw413 (by decide +kernel) (by decide) (by decide) (cs2 := 1) (sl2 := 6) rfl rfl rfl (by decide) rfl rfl (Nat.le_of_ble_eq_true rfl) dX9_unrank_38 h (fun v38 h => ?_)
        refine wp_icmp_lt X (tgt := 54) dX9_unrank_41 (by decide) h (fun h => ?_) (fun h => ?_)
        · refine wp_aload_n X dX9_unrank_54 0 rfl ?_
          refine wp_getR X (T := TX9) (N := 13) (ci := 8) (k := 9) rfl (by decide) (by decide) inBX9 kw188 dX9_unrank_55 h (fun v55 h => ?_)
          refine wp_iload_n X dX9_unrank_58 1 rfl ?_
          refine wp_iload_n X dX9_unrank_59 2 rfl ?_
          refine wp_aload_n X dX9_unrank_60 0 rfl ?_
          refine wp_getR X (T := TX9) (N := 13) (ci := 8) (k := 7) rfl (by decide) (by decide) inBX9 kw186 dX9_unrank_61 h (fun v61 h => ?_)
          refine wp_callVI X (rm := rmX5_find) (T := TX5) (N := 1) (ci := 4) (n := 3) [.int x2, .int x3, .ref v61] hcd (fun q hq => cX5_find_ok hq) kw457 kw458 kw459 kw5 kw460 (by decide +kernel) (by decide) (by decide) (cs2 := 1) (sl2 := 6) rfl rfl rfl (by decide) rfl rfl (Nat.le_of_ble_eq_true rfl) dX9_unrank_64 h (fun v64 h => ?_)
          refine wp_if_ne X (tgt := 80) dX9_unrank_67 (by decide) h (fun h => ?_) (fun h => ?_)
          · refine wp_aload X dX9_unrank_80 3 rfl ?_
            refine wp_aload_n X dX9_unrank_82 0 rfl ?_
            refine wp_getR X (T := TX9) (N := 13) (ci := 8) (k := 7) rfl (by decide) (by decide) inBX9 kw186 dX9_unrank_83 h (fun v83 h => ?_)
            refine wp_callVV X (rm := rmX4_copyFrom) (T := TX4) (N := 1) (ci := 3) (n := 1) [.ref v83] hcd (fun q hq => cX4_copyFrom_ok hq) kw369 kw370 kw371 kw3 kw372 (by decide +kernel) (by decide) (by decide) (cs2 := 1) (sl2 := 6) rfl rfl rfl (by decide) rfl rfl (Nat.le_of_ble_eq_true rfl) dX9_unrank_86 h (fun v86 h => ?_)
            exact wp_returnT X Qr (by decide) (by decide) rfl dX9_unrank_89 h
          · exact wp_throwS X Tt Qr.x (text := "the shape has too many rows") rfl (by decide) kw464 kw19 (by decide) xg137 xn137 xo137 dX9_unrank_70 dX9_unrank_73 dX9_unrank_74 dX9_unrank_76 dX9_unrank_79 (by decide) (by decide) (by decide) (by decide) (by decide) (by decide) (Option.some.inj h)
        · refine wp_sub (lv' := []) [] rfl ?_
          exact tX9_unrank_44 hst0 X hcd Tt Qr   _ h
    · refine wp_sub (lv' := []) [] rfl ?_
      exact tX9_unrank_17 hst0 X hcd Tt Qr   _ h
/-! TableauBench.wordNumbered(I)LTableauBench$Word; -/
def rmX9_wordNumbered : Room := { frames := 6, cells := 1, slots := 6, locals := 96 }
def fX9_wordNumbered_9  (F : Mem) : Option ((String ⊕ Nat) × Mem) := some (Sum.inl "java/lang/IndexOutOfBoundsException", F)
set_option maxRecDepth 100000 in
set_option maxHeartbeats 4000000 in
theorem tX9_wordNumbered_9 {l : Launch} {D : va_G} {cy : Nat → ClassId} (hst0 : l.stackTraces = false) {C : Cx} {res : (String ⊕ Nat) × Mem} (X : Fx C cX9_wordNumbered RX9 (some (.object "TableauBench$Word")) rmX9_wordNumbered 2) (hcd : CD C l D cy) (Tt : TT C) (Qr : TQR C 1 6 res)   (F : Mem) (h : fX9_wordNumbered_9  F = some res) : Wp C 0 0 9 [] [] F := by
  unfold fX9_wordNumbered_9 at h
  exact wp_throwSW X Tt Qr.x (text := "no such word") rfl (by decide) kw287 kw14 (by decide) xg291 xn291 xo291 dX9_wordNumbered_9 dX9_wordNumbered_12 dX9_wordNumbered_13 dX9_wordNumbered_16 dX9_wordNumbered_19 (by decide) (by decide) (by decide) (by decide) (by decide) (by decide) (Option.some.inj h)
def mX9_wordNumbered (F : Mem) (x0 : Nat) (x1 : Int32) : Option ((String ⊕ Nat) × Mem) := if x1 < 0 then (fX9_wordNumbered_9   F) else (if x1 < 2 then ((gfR F x0 8 1).bind fun v21 => (rdQ F 4 v21 x1).bind fun v25 => some (Sum.inr v25, F)) else (fX9_wordNumbered_9   F))
set_option maxRecDepth 100000 in
set_option maxHeartbeats 4000000 in
theorem cX9_wordNumbered_ok {l : Launch} {D : va_G} {cy : Nat → ClassId} (hst0 : l.stackTraces = false) {F : Mem} {x0 : Nat} {x1 : Int32} {res : (String ⊕ Nat) × Mem} (h : mX9_wordNumbered F x0 x1 = some res) : TR l yX9_wordNumbered cX9_wordNumbered 2 (some (.object "TableauBench$Word")) rmX9_wordNumbered D cy F [.ref x0, .int x1] res := by
  refine tr_of hst0 (by decide) (Nat.le_of_ble_eq_true rfl) [(0, .ref x0), (1, .int x1)] rfl (fun C X hcd Tt Qr => ?_)
  unfold mX9_wordNumbered at h
  refine wp_iload_n X dX9_wordNumbered_0 1 rfl ?_
  refine wp_if_lt X (tgt := 9) dX9_wordNumbered_1 (by decide) h (fun h => ?_) (fun h => ?_)
  · refine wp_sub (lv' := []) [] rfl ?_
    exact tX9_wordNumbered_9 hst0 X hcd Tt Qr   _ h
  · refine wp_iload_n X dX9_wordNumbered_4 1 rfl ?_
    refine wp_iconst X (v := 2) dX9_wordNumbered_5 (by decide) ?_
    refine wp_icmp_lt X (tgt := 20) dX9_wordNumbered_6 (by decide) h (fun h => ?_) (fun h => ?_)
    · refine wp_aload_n X dX9_wordNumbered_20 0 rfl ?_
      refine wp_getR X (T := TX9) (N := 13) (ci := 8) (k := 1) rfl (by decide) (by decide) inBX9 kw180 dX9_wordNumbered_21 h (fun v21 h => ?_)
      refine wp_iload_n X dX9_wordNumbered_24 1 rfl ?_
      refine wp_aaload X 4 (fun _ => rfl) dX9_wordNumbered_25 h (fun v25 h => ?_)
      exact wp_areturnT X Qr (by decide) (by decide) rfl dX9_wordNumbered_26 h
    · refine wp_sub (lv' := []) [] rfl ?_
      exact tX9_wordNumbered_9 hst0 X hcd Tt Qr   _ h
/-! TableauBench.letter(II)Z -/
def rmX9_letter : Room := { frames := 7, cells := 1, slots := 6, locals := 117 }
def mX9_letter (F : Mem) (x0 : Nat) (x1 : Int32) (x2 : Int32) : Option ((String ⊕ Int32) × Mem) := (obj F x0 8).bind fun _ => thn (mX9_wordNumbered F x0 x1) fun v2 F2 => if x2 < 1 then (some (Sum.inr 0, F2)) else (if 16 < x2 then (some (Sum.inr 0, F2)) else ((gfI F2 v2 7 1).bind fun v18 => if v18 < 16 then ((obj F2 v2 7).bind fun _ => (mX8_add F2 v2 x2).bind fun v30 => some (Sum.inr 1, v30)) else (some (Sum.inr 0, F2))))
set_option maxRecDepth 100000 in
set_option maxHeartbeats 4000000 in
theorem cX9_letter_ok {l : Launch} {D : va_G} {cy : Nat → ClassId} (hst0 : l.stackTraces = false) {F : Mem} {x0 : Nat} {x1 : Int32} {x2 : Int32} {res : (String ⊕ Int32) × Mem} (h : mX9_letter F x0 x1 x2 = some res) : TI l yX9_letter cX9_letter 4 (some .boolean) rmX9_letter D cy F [.ref x0, .int x1, .int x2] res := by
  refine ti_of hst0 (by decide) (Nat.le_of_ble_eq_true rfl) [(0, .ref x0), (1, .int x1), (2, .int x2)] rfl (fun C X hcd Tt Qr => ?_)
  unfold mX9_letter at h
  refine wp_aload_n X dX9_letter_0 0 rfl ?_
  refine wp_iload_n X dX9_letter_1 1 rfl ?_
  refine wp_callTR X Tt (rm := rmX9_wordNumbered) (T := TX9) (N := 13) (ci := 8) (n := 1) [.int x1] Qr.x hcd (fun q hq => cX9_wordNumbered_ok hst0 hq) kw487 kw489 ks3 kw1 kw490 (by decide +kernel) (by decide) (by decide) (cs2 := 1) (sl2 := 6) rfl rfl (by decide) (by decide) rfl (by decide) rfl rfl (Nat.le_of_ble_eq_true rfl) dX9_letter_2 h (fun v2 F2 h => ?_)
  refine wp_astore_n X (lv' := [(2, .int x2), (3, .ref v2)]) dX9_letter_5 (by decide) [3, 0] rfl ?_
  refine wp_iload_n X dX9_letter_6 0 rfl ?_
  refine wp_iconst X (v := 1) dX9_letter_7 (by decide) ?_
  refine wp_icmp_lt X (tgt := 26) dX9_letter_8 (by decide) h (fun h => ?_) (fun h => ?_)
  · refine wp_iconst X (v := 0) dX9_letter_26 (by decide) ?_
    exact wp_ireturnT X Qr (by decide) (by decide) rfl rfl dX9_letter_27 h
  · refine wp_iload_n X dX9_letter_11 0 rfl ?_
    refine wp_bipush X (v := 16) dX9_letter_12 (by decide) ?_
    refine wp_icmp_gt X (tgt := 26) dX9_letter_14 (by decide) h (fun h => ?_) (fun h => ?_)
    · refine wp_iconst X (v := 0) dX9_letter_26 (by decide) ?_
      exact wp_ireturnT X Qr (by decide) (by decide) rfl rfl dX9_letter_27 h
    · refine wp_aload_n X dX9_letter_17 1 rfl ?_
      refine wp_getI X (T := TX8) (N := 2) (ci := 7) (k := 1) rfl (by decide) (by decide) inBX8 kw172 dX9_letter_18 h (fun v18 h => ?_)
      refine wp_bipush X (v := 16) dX9_letter_21 (by decide) ?_
      refine wp_icmp_lt X (tgt := 28) dX9_letter_23 (by decide) h (fun h => ?_) (fun h => ?_)
      · refine wp_aload_n X dX9_letter_28 1 rfl ?_
        refine wp_iload_n X dX9_letter_29 0 rfl ?_
        refine wp_callVV X (rm := rmX8_add) (T := TX8) (N := 2) (ci := 7) (n := 1) [.int x2] hcd (fun q hq => cX8_add_ok hq) kw492 kw493 kw494 kw9 kw495 (by decide +kernel) (by decide) (by decide) (cs2 := 1) (sl2 := 6) rfl rfl rfl (by decide) rfl rfl (Nat.le_of_ble_eq_true rfl) dX9_letter_30 h (fun v30 h => ?_)
        refine wp_iconst X (v := 1) dX9_letter_33 (by decide) ?_
        exact wp_ireturnT X Qr (by decide) (by decide) rfl rfl dX9_letter_34 h
      · refine wp_iconst X (v := 0) dX9_letter_26 (by decide) ?_
        exact wp_ireturnT X Qr (by decide) (by decide) rfl rfl dX9_letter_27 h
/-! TableauBench.cut(II)Z -/
def rmX9_cut : Room := { frames := 7, cells := 1, slots := 6, locals := 117 }
def mX9_cut (F : Mem) (x0 : Nat) (x1 : Int32) (x2 : Int32) : Option ((String ⊕ Int32) × Mem) := (obj F x0 8).bind fun _ => thn (mX9_wordNumbered F x0 x1) fun v2 F2 => if x2 < 0 then (some (Sum.inr 0, F2)) else ((gfI F2 v2 7 1).bind fun v12 => if x2 ≤ v12 then ((pf F2 v2 7 1 (.int x2)).bind fun F22 => some (Sum.inr 1, F22)) else (some (Sum.inr 0, F2)))
set_option maxRecDepth 100000 in
set_option maxHeartbeats 4000000 in
theorem cX9_cut_ok {l : Launch} {D : va_G} {cy : Nat → ClassId} (hst0 : l.stackTraces = false) {F : Mem} {x0 : Nat} {x1 : Int32} {x2 : Int32} {res : (String ⊕ Int32) × Mem} (h : mX9_cut F x0 x1 x2 = some res) : TI l yX9_cut cX9_cut 4 (some .boolean) rmX9_cut D cy F [.ref x0, .int x1, .int x2] res := by
  refine ti_of hst0 (by decide) (Nat.le_of_ble_eq_true rfl) [(0, .ref x0), (1, .int x1), (2, .int x2)] rfl (fun C X hcd Tt Qr => ?_)
  unfold mX9_cut at h
  refine wp_aload_n X dX9_cut_0 0 rfl ?_
  refine wp_iload_n X dX9_cut_1 1 rfl ?_
  refine wp_callTR X Tt (rm := rmX9_wordNumbered) (T := TX9) (N := 13) (ci := 8) (n := 1) [.int x1] Qr.x hcd (fun q hq => cX9_wordNumbered_ok hst0 hq) kw487 kw489 ks3 kw1 kw490 (by decide +kernel) (by decide) (by decide) (cs2 := 1) (sl2 := 6) rfl rfl (by decide) (by decide) rfl (by decide) rfl rfl (Nat.le_of_ble_eq_true rfl) dX9_cut_2 h (fun v2 F2 h => ?_)
  refine wp_astore_n X (lv' := [(2, .int x2), (3, .ref v2)]) dX9_cut_5 (by decide) [3, 0] rfl ?_
  refine wp_iload_n X dX9_cut_6 0 rfl ?_
  refine wp_if_lt X (tgt := 18) dX9_cut_7 (by decide) h (fun h => ?_) (fun h => ?_)
  · refine wp_iconst X (v := 0) dX9_cut_18 (by decide) ?_
    exact wp_ireturnT X Qr (by decide) (by decide) rfl rfl dX9_cut_19 h
  · refine wp_iload_n X dX9_cut_10 0 rfl ?_
    refine wp_aload_n X dX9_cut_11 1 rfl ?_
    refine wp_getI X (T := TX8) (N := 2) (ci := 7) (k := 1) rfl (by decide) (by decide) inBX8 kw172 dX9_cut_12 h (fun v12 h => ?_)
    refine wp_icmp_le X (tgt := 20) dX9_cut_15 (by decide) h (fun h => ?_) (fun h => ?_)
    · refine wp_aload_n X dX9_cut_20 1 rfl ?_
      refine wp_iload_n X dX9_cut_21 0 rfl ?_
      refine wp_put X (T := TX8) (N := 2) (ci := 7) (k := 1) tyX8 rfl (by decide) (by decide) inBX8 kw172 tyX8_ok nmX8 rfl rfl (vp_nar_int _) rfl dX9_cut_22 h (fun F22 h => ?_)
      refine wp_iconst X (v := 1) dX9_cut_25 (by decide) ?_
      exact wp_ireturnT X Qr (by decide) (by decide) rfl rfl dX9_cut_26 h
    · refine wp_iconst X (v := 0) dX9_cut_18 (by decide) ?_
      exact wp_ireturnT X Qr (by decide) (by decide) rfl rfl dX9_cut_19 h
/-! TableauBench.length(I)I -/
def rmX9_length : Room := { frames := 7, cells := 1, slots := 6, locals := 117 }
def mX9_length (F : Mem) (x0 : Nat) (x1 : Int32) : Option ((String ⊕ Int32) × Mem) := (obj F x0 8).bind fun _ => thn (mX9_wordNumbered F x0 x1) fun v2 F2 => (gfI F2 v2 7 1).bind fun v5 => some (Sum.inr v5, F2)
set_option maxRecDepth 100000 in
set_option maxHeartbeats 4000000 in
theorem cX9_length_ok {l : Launch} {D : va_G} {cy : Nat → ClassId} (hst0 : l.stackTraces = false) {F : Mem} {x0 : Nat} {x1 : Int32} {res : (String ⊕ Int32) × Mem} (h : mX9_length F x0 x1 = some res) : TI l yX9_length cX9_length 2 (some .int) rmX9_length D cy F [.ref x0, .int x1] res := by
  refine ti_of hst0 (by decide) (Nat.le_of_ble_eq_true rfl) [(0, .ref x0), (1, .int x1)] rfl (fun C X hcd Tt Qr => ?_)
  unfold mX9_length at h
  refine wp_aload_n X dX9_length_0 0 rfl ?_
  refine wp_iload_n X dX9_length_1 1 rfl ?_
  refine wp_callTR X Tt (rm := rmX9_wordNumbered) (T := TX9) (N := 13) (ci := 8) (n := 1) [.int x1] Qr.x hcd (fun q hq => cX9_wordNumbered_ok hst0 hq) kw487 kw489 ks3 kw1 kw490 (by decide +kernel) (by decide) (by decide) (cs2 := 1) (sl2 := 6) rfl rfl (by decide) (by decide) rfl (by decide) rfl rfl (Nat.le_of_ble_eq_true rfl) dX9_length_2 h (fun v2 F2 h => ?_)
  refine wp_getI X (T := TX8) (N := 2) (ci := 7) (k := 1) rfl (by decide) (by decide) inBX8 kw172 dX9_length_5 h (fun v5 h => ?_)
  exact wp_ireturnT X Qr (by decide) (by decide) rfl (vp_nar_int _) dX9_length_8 h
/-! TableauBench.at(II)I -/
def rmX9_at : Room := { frames := 7, cells := 1, slots := 6, locals := 117 }
def mX9_at (F : Mem) (x0 : Nat) (x1 : Int32) (x2 : Int32) : Option ((String ⊕ Int32) × Mem) := (obj F x0 8).bind fun _ => thn (mX9_wordNumbered F x0 x1) fun v2 F2 => (obj F2 v2 7).bind fun _ => (mX8_letterAt F2 v2 x2).bind fun v6 => some (Sum.inr v6.1, v6.2)
set_option maxRecDepth 100000 in
set_option maxHeartbeats 4000000 in
theorem cX9_at_ok {l : Launch} {D : va_G} {cy : Nat → ClassId} (hst0 : l.stackTraces = false) {F : Mem} {x0 : Nat} {x1 : Int32} {x2 : Int32} {res : (String ⊕ Int32) × Mem} (h : mX9_at F x0 x1 x2 = some res) : TI l yX9_at cX9_at 3 (some .int) rmX9_at D cy F [.ref x0, .int x1, .int x2] res := by
  refine ti_of hst0 (by decide) (Nat.le_of_ble_eq_true rfl) [(0, .ref x0), (1, .int x1), (2, .int x2)] rfl (fun C X hcd Tt Qr => ?_)
  unfold mX9_at at h
  refine wp_aload_n X dX9_at_0 0 rfl ?_
  refine wp_iload_n X dX9_at_1 1 rfl ?_
  refine wp_callTR X Tt (rm := rmX9_wordNumbered) (T := TX9) (N := 13) (ci := 8) (n := 1) [.int x1] Qr.x hcd (fun q hq => cX9_wordNumbered_ok hst0 hq) kw487 kw489 ks3 kw1 kw490 (by decide +kernel) (by decide) (by decide) (cs2 := 1) (sl2 := 6) rfl rfl (by decide) (by decide) rfl (by decide) rfl rfl (Nat.le_of_ble_eq_true rfl) dX9_at_2 h (fun v2 F2 h => ?_)
  refine wp_iload_n X dX9_at_5 2 rfl ?_
  refine wp_callVI X (rm := rmX8_letterAt) (T := TX8) (N := 2) (ci := 7) (n := 1) [.int x2] hcd (fun q hq => cX8_letterAt_ok hq) kw517 kw247 kw248 kw9 kw249 (by decide +kernel) (by decide) (by decide) (cs2 := 1) (sl2 := 6) rfl rfl rfl (by decide) rfl rfl (Nat.le_of_ble_eq_true rfl) dX9_at_6 h (fun v6 h => ?_)
  exact wp_ireturnT X Qr (by decide) (by decide) rfl (vp_nar_int _) dX9_at_9 h
/-! TableauBench.insert(IZ)I -/
def rmX9_insert : Room := { frames := 7, cells := 1, slots := 6, locals := 117 }
def fX9_insert_65 (K23 : Nat → Int32 → Nat → Int32 → Mem → Option ((String ⊕ Int32) × Mem)) (K86 : Nat → Mem → Option ((String ⊕ Int32) × Mem)) (x0 : Nat) (x2 : Int32) (x3 : Nat) (x4 : Int32) (s0 : Int32) (F : Mem) : Option ((String ⊕ Int32) × Mem) := (gfR F x0 8 3).bind fun v68 => (obj F v68 6).bind fun _ => (mX7_append F v68 s0 (x4 + 1)).bind fun v77 => K23 x0 x2 x3 (x4 + 1) v77
set_option maxRecDepth 100000 in
set_option maxHeartbeats 4000000 in
theorem tX9_insert_65 {l : Launch} {D : va_G} {cy : Nat → ClassId} (hst0 : l.stackTraces = false) {C : Cx} {res : (String ⊕ Int32) × Mem} (X : Fx C cX9_insert RX9 (some .int) rmX9_insert 7) (hcd : CD C l D cy) (Tt : TT C) (Qr : TQI C 1 6 res) {K23 : Nat → Int32 → Nat → Int32 → Mem → Option ((String ⊕ Int32) × Mem)} {K86 : Nat → Mem → Option ((String ⊕ Int32) × Mem)} (hK23 : ∀ (x0 : Nat) (x2 : Int32) (x3 : Nat) (x4 : Int32) (F : Mem), K23 x0 x2 x3 x4 F = some res → Wp C 1 6 23 [(0, .ref x0), (2, .int x2), (3, .ref x3), (4, .int x4)] [] F) (hK86 : ∀ (x0 : Nat) (F : Mem), K86 x0 F = some res → Wp C 1 6 86 [(0, .ref x0)] [] F) (x0 : Nat) (x2 : Int32) (x3 : Nat) (x4 : Int32) (s0 : Int32) (F : Mem) (h : fX9_insert_65 K23 K86 x0 x2 x3 x4 s0 F = some res) : Wp C 1 6 65 [(0, .ref x0), (2, .int x2), (3, .ref x3), (4, .int x4)] [.int s0] F := by
  unfold fX9_insert_65 at h
  refine wp_istore X (lv' := [(0, .ref x0), (2, .int x2), (3, .ref x3), (4, .int x4), (6, .int s0)]) dX9_insert_65 (by decide) [1, 2, 3, 4, 0] rfl ?_
  refine wp_aload_n X dX9_insert_67 0 rfl ?_
  refine wp_getR X (T := TX9) (N := 13) (ci := 8) (k := 3) rfl (by decide) (by decide) inBX9 kw182 dX9_insert_68 h (fun v68 h => ?_)
  refine wp_iload X dX9_insert_71 4 rfl ?_
  refine wp_iload X dX9_insert_73 3 rfl ?_
  refine wp_iconst X (v := 1) dX9_insert_75 (by decide) ?_
  refine wp_iadd X dX9_insert_76 ?_
  refine wp_callVV X (rm := rmX7_append) (T := TX7) (N := 2) (ci := 6) (n := 2) [.int s0, .int (x4 + 1)] hcd (fun q hq => cX7_append_ok hq) kw535 kw268 kw269 kw2 kw270 (by decide +kernel) (by decide) (by decide) (cs2 := 1) (sl2 := 6) rfl rfl rfl (by decide) rfl rfl (Nat.le_of_ble_eq_true rfl) dX9_insert_77 h (fun v77 h => ?_)
  refine wp_iinc X (v := x4 + 1) (lv' := [(0, .ref x0), (2, .int x2), (3, .ref x3), (4, .int (x4 + 1))]) dX9_insert_80 (by decide) 3 rfl rfl [1, 2, 3, 0] rfl ?_
  refine wp_goto X (tgt := 23) dX9_insert_83 (by decide) ?_
  exact hK23 _ _ _ _ _ h
def fX9_insert_23 (K86 : Nat → Mem → Option ((String ⊕ Int32) × Mem)) : Nat → Nat → Int32 → Nat → Int32 → Mem → Option ((String ⊕ Int32) × Mem)
  | 0, _, _, _, _, _ => none
  | n + 1, x0, x2, x3, x4, F => (gfI F x3 7 1).bind fun v26 => if v26 ≤ x4 then (K86 x0 F) else ((obj F x3 7).bind fun _ => (mX8_letterAt F x3 x4).bind fun v35 => if x2 = 0 then ((gfR v35.2 x0 8 2).bind fun v57 => (obj v35.2 v57 6).bind fun _ => (mX7_addByRows v35.2 v57 v35.1).bind fun v62 => fX9_insert_65  (fX9_insert_23  K86 n) K86 x0 x2 x3 x4 v62.1 v62.2) else ((gfR v35.2 x0 8 2).bind fun v45 => (obj v35.2 v45 6).bind fun _ => (mX7_addByColumns v35.2 v45 v35.1).bind fun v50 => fX9_insert_65  (fX9_insert_23  K86 n) K86 x0 x2 x3 x4 v50.1 v50.2))
set_option maxRecDepth 100000 in
set_option maxHeartbeats 4000000 in
theorem tX9_insert_23 {l : Launch} {D : va_G} {cy : Nat → ClassId} (hst0 : l.stackTraces = false) {C : Cx} {res : (String ⊕ Int32) × Mem} (X : Fx C cX9_insert RX9 (some .int) rmX9_insert 7) (hcd : CD C l D cy) (Tt : TT C) (Qr : TQI C 1 6 res) {K86 : Nat → Mem → Option ((String ⊕ Int32) × Mem)} (hK86 : ∀ (x0 : Nat) (F : Mem), K86 x0 F = some res → Wp C 1 6 86 [(0, .ref x0)] [] F) : ∀ (n : Nat) (x0 : Nat) (x2 : Int32) (x3 : Nat) (x4 : Int32) (F : Mem), fX9_insert_23 K86 n x0 x2 x3 x4 F = some res → Wp C 1 6 23 [(0, .ref x0), (2, .int x2), (3, .ref x3), (4, .int x4)] [] F := by
  intro n
  induction n with
  | zero =>
    intro x0 x2 x3 x4 F h
    rw [fX9_insert_23.eq_1] at h
    cases h
  | succ n ih =>
    intro x0 x2 x3 x4 F h
    rw [fX9_insert_23.eq_2] at h
    refine wp_iload X dX9_insert_23 3 rfl ?_
    refine wp_aload_n X dX9_insert_25 2 rfl ?_
    refine wp_getI X (T := TX8) (N := 2) (ci := 7) (k := 1) rfl (by decide) (by decide) inBX8 kw172 dX9_insert_26 h (fun v26 h => ?_)
    refine wp_icmp_ge X (tgt := 86) dX9_insert_29 (by decide) h (fun h => ?_) (fun h => ?_)
    · refine wp_sub (lv' := [(0, .ref x0)]) [0] rfl ?_
      exact hK86 _ _ h
    · refine wp_aload_n X dX9_insert_32 2 rfl ?_
      refine wp_iload X dX9_insert_33 3 rfl ?_
      refine wp_callVI X (rm := rmX8_letterAt) (T := TX8) (N := 2) (ci := 7) (n := 1) [.int x4] hcd (fun q hq => cX8_letterAt_ok hq) kw517 kw247 kw248 kw9 kw249 (by decide +kernel) (by decide) (by decide) (cs2 := 1) (sl2 := 6) rfl rfl rfl (by decide) rfl rfl (Nat.le_of_ble_eq_true rfl) dX9_insert_35 h (fun v35 h => ?_)
      refine wp_istore X (lv' := [(0, .ref x0), (2, .int x2), (3, .ref x3), (4, .int x4), (5, .int v35.1)]) dX9_insert_38 (by decide) [1, 2, 3, 4, 0] rfl ?_
      refine wp_iload_n X dX9_insert_40 1 rfl ?_
      refine wp_if_eq X (tgt := 56) dX9_insert_41 (by decide) h (fun h => ?_) (fun h => ?_)
      · refine wp_aload_n X dX9_insert_56 0 rfl ?_
        refine wp_getR X (T := TX9) (N := 13) (ci := 8) (k := 2) rfl (by decide) (by decide) inBX9 kw181 dX9_insert_57 h (fun v57 h => ?_)
        refine wp_iload X dX9_insert_60 4 rfl ?_
        refine wp_callVI X (rm := rmX7_addByRows) (T := TX7) (N := 2) (ci := 6) (n := 1) [.int v35.1] hcd (fun q hq => cX7_addByRows_ok hq) kw534 kw251 kw252 kw2 kw253 (by decide +kernel) (by decide) (by decide) (cs2 := 1) (sl2 := 6) rfl rfl rfl (by decide) rfl rfl (Nat.le_of_ble_eq_true rfl) dX9_insert_62 h (fun v62 h => ?_)
        refine wp_sub (lv' := [(0, .ref x0), (2, .int x2), (3, .ref x3), (4, .int x4)]) [0, 1, 2, 3] rfl ?_
        exact tX9_insert_65 hst0 X hcd Tt Qr  ih hK86 _ _ _ _ _ _ h
      · refine wp_aload_n X dX9_insert_44 0 rfl ?_
        refine wp_getR X (T := TX9) (N := 13) (ci := 8) (k := 2) rfl (by decide) (by decide) inBX9 kw181 dX9_insert_45 h (fun v45 h => ?_)
        refine wp_iload X dX9_insert_48 4 rfl ?_
        refine wp_callVI X (rm := rmX7_addByColumns) (T := TX7) (N := 2) (ci := 6) (n := 1) [.int v35.1] hcd (fun q hq => cX7_addByColumns_ok hq) kw526 kw527 kw528 kw2 kw529 (by decide +kernel) (by decide) (by decide) (cs2 := 1) (sl2 := 6) rfl rfl rfl (by decide) rfl rfl (Nat.le_of_ble_eq_true rfl) dX9_insert_50 h (fun v50 h => ?_)
        refine wp_goto X (tgt := 65) dX9_insert_53 (by decide) ?_
        refine wp_sub (lv' := [(0, .ref x0), (2, .int x2), (3, .ref x3), (4, .int x4)]) [0, 1, 2, 3] rfl ?_
        exact tX9_insert_65 hst0 X hcd Tt Qr  ih hK86 _ _ _ _ _ _ h
def mX9_insert (F : Mem) (x0 : Nat) (x1 : Int32) (x2 : Int32) : Option ((String ⊕ Int32) × Mem) := (obj F x0 8).bind fun _ => thn (mX9_wordNumbered F x0 x1) fun v2 F2 => (gfR F2 x0 8 2).bind fun v7 => (obj F2 v7 6).bind fun _ => (mX7_clear F2 v7).bind fun v10 => (gfR v10 x0 8 3).bind fun v14 => (obj v10 v14 6).bind fun _ => (mX7_clear v10 v14).bind fun v17 => fX9_insert_23  (fun (x0 : Nat) (F : Mem) => (pf F x0 8 4 (.int 0)).bind fun F88 => (gfR F88 x0 8 2).bind fun v92 => (obj F88 v92 6).bind fun _ => (mX7_countRows F88 v92).bind fun v95 => some (Sum.inr v95.1, v95.2)) FU x0 x2 v2 0 v17
set_option maxRecDepth 100000 in
set_option maxHeartbeats 4000000 in
theorem cX9_insert_ok {l : Launch} {D : va_G} {cy : Nat → ClassId} (hst0 : l.stackTraces = false) {F : Mem} {x0 : Nat} {x1 : Int32} {x2 : Int32} {res : (String ⊕ Int32) × Mem} (h : mX9_insert F x0 x1 x2 = some res) : TI l yX9_insert cX9_insert 7 (some .int) rmX9_insert D cy F [.ref x0, .int x1, .int x2] res := by
  refine ti_of hst0 (by decide) (Nat.le_of_ble_eq_true rfl) [(0, .ref x0), (1, .int x1), (2, .int x2)] rfl (fun C X hcd Tt Qr => ?_)
  unfold mX9_insert at h
  refine wp_aload_n X dX9_insert_0 0 rfl ?_
  refine wp_iload_n X dX9_insert_1 1 rfl ?_
  refine wp_callTR X Tt (rm := rmX9_wordNumbered) (T := TX9) (N := 13) (ci := 8) (n := 1) [.int x1] Qr.x hcd (fun q hq => cX9_wordNumbered_ok hst0 hq) kw487 kw489 ks3 kw1 kw490 (by decide +kernel) (by decide) (by decide) (cs2 := 1) (sl2 := 6) rfl rfl (by decide) (by decide) rfl (by decide) rfl rfl (Nat.le_of_ble_eq_true rfl) dX9_insert_2 h (fun v2 F2 h => ?_)
  refine wp_astore_n X (lv' := [(0, .ref x0), (2, .int x2), (3, .ref v2)]) dX9_insert_5 (by decide) [1, 3, 0] rfl ?_
  refine wp_aload_n X dX9_insert_6 0 rfl ?_
  refine wp_getR X (T := TX9) (N := 13) (ci := 8) (k := 2) rfl (by decide) (by decide) inBX9 kw181 dX9_insert_7 h (fun v7 h => ?_)
  refine wp_callVV X (rm := rmX7_clear) (T := TX7) (N := 2) (ci := 6) (n := 0) [] hcd (fun q hq => cX7_clear_ok hq) kw525 kw240 kw241 kw2 kw242 (by decide +kernel) (by decide) (by decide) (cs2 := 1) (sl2 := 6) rfl rfl rfl (by decide) rfl rfl (Nat.le_of_ble_eq_true rfl) dX9_insert_10 h (fun v10 h => ?_)
  refine wp_aload_n X dX9_insert_13 0 rfl ?_
  refine wp_getR X (T := TX9) (N := 13) (ci := 8) (k := 3) rfl (by decide) (by decide) inBX9 kw182 dX9_insert_14 h (fun v14 h => ?_)
  refine wp_callVV X (rm := rmX7_clear) (T := TX7) (N := 2) (ci := 6) (n := 0) [] hcd (fun q hq => cX7_clear_ok hq) kw525 kw240 kw241 kw2 kw242 (by decide +kernel) (by decide) (by decide) (cs2 := 1) (sl2 := 6) rfl rfl rfl (by decide) rfl rfl (Nat.le_of_ble_eq_true rfl) dX9_insert_17 h (fun v17 h => ?_)
  refine wp_iconst X (v := 0) dX9_insert_20 (by decide) ?_
  refine wp_istore X (lv' := [(0, .ref x0), (2, .int x2), (3, .ref v2), (4, .int 0)]) dX9_insert_21 (by decide) [1, 2, 3, 0] rfl ?_
  refine tX9_insert_23 hst0 X hcd Tt Qr  ?_ FU _ _ _ _ _ h
  · intro x0 F h
    refine wp_aload_n X dX9_insert_86 0 rfl ?_
    refine wp_iconst X (v := 0) dX9_insert_87 (by decide) ?_
    refine wp_put X (T := TX9) (N := 13) (ci := 8) (k := 4) tyX9 rfl (by decide) (by decide) inBX9 kw183 tyX9_ok nmX9 rfl rfl rfl rfl dX9_insert_88 h (fun F88 h => ?_)
    refine wp_aload_n X dX9_insert_91 0 rfl ?_
    refine wp_getR X (T := TX9) (N := 13) (ci := 8) (k := 2) rfl (by decide) (by decide) inBX9 kw181 dX9_insert_92 h (fun v92 h => ?_)
    refine wp_callVI X (rm := rmX7_countRows) (T := TX7) (N := 2) (ci := 6) (n := 0) [] hcd (fun q hq => cX7_countRows_ok hq) kw536 kw537 kw538 kw2 kw539 (by decide +kernel) (by decide) (by decide) (cs2 := 1) (sl2 := 6) rfl rfl rfl (by decide) rfl rfl (Nat.le_of_ble_eq_true rfl) dX9_insert_95 h (fun v95 h => ?_)
    exact wp_ireturnT X Qr (by decide) (by decide) rfl (vp_nar_int _) dX9_insert_98 h
/-! TableauBench.entry(ZII)I -/
def rmX9_entry : Room := { frames := 2, cells := 0, slots := 0, locals := 44 }
def mX9_entry (F : Mem) (x0 : Nat) (x1 : Int32) (x2 : Int32) (x3 : Int32) : Option (Int32 × Mem) := if x1 = 0 then ((gfR F x0 8 2).bind fun v5 => (obj F v5 6).bind fun _ => (mX7_letterAt F v5 x2 x3).bind fun v10 => some (v10.1, v10.2)) else ((gfI F x0 8 4).bind fun v15 => if v15 = 0 then ((gfR F x0 8 3).bind fun v26 => (obj F v26 6).bind fun _ => (mX7_letterAt F v26 x2 x3).bind fun v31 => some (v31.1, v31.2)) else (some (0, F)))
set_option maxRecDepth 100000 in
set_option maxHeartbeats 4000000 in
theorem cX9_entry_ok {l : Launch} {D : va_G} {cy : Nat → ClassId} {F : Mem} {x0 : Nat} {x1 : Int32} {x2 : Int32} {x3 : Int32} {res : Int32 × Mem} (h : mX9_entry F x0 x1 x2 x3 = some res) : MI l yX9_entry cX9_entry 4 (some .int) rmX9_entry D cy F [.ref x0, .int x1, .int x2, .int x3] res := by
  refine mi_of (by decide) (Nat.le_of_ble_eq_true rfl) [(0, .ref x0), (1, .int x1), (2, .int x2), (3, .int x3)] rfl (fun C X hcd Qr => ?_)
  unfold mX9_entry at h
  refine wp_iload_n X dX9_entry_0 1 rfl ?_
  refine wp_if_ne X (tgt := 14) dX9_entry_1 (by decide) h (fun h => ?_) (fun h => ?_)
  · refine wp_aload_n X dX9_entry_14 0 rfl ?_
    refine wp_getI X (T := TX9) (N := 13) (ci := 8) (k := 4) rfl (by decide) (by decide) inBX9 kw183 dX9_entry_15 h (fun v15 h => ?_)
    refine wp_if_eq X (tgt := 25) dX9_entry_18 (by decide) h (fun h => ?_) (fun h => ?_)
    · refine wp_aload_n X dX9_entry_25 0 rfl ?_
      refine wp_getR X (T := TX9) (N := 13) (ci := 8) (k := 3) rfl (by decide) (by decide) inBX9 kw182 dX9_entry_26 h (fun v26 h => ?_)
      refine wp_iload_n X dX9_entry_29 2 rfl ?_
      refine wp_iload_n X dX9_entry_30 3 rfl ?_
      refine wp_callVI X (rm := rmX7_letterAt) (T := TX7) (N := 2) (ci := 6) (n := 2) [.int x2, .int x3] hcd (fun q hq => cX7_letterAt_ok hq) kw223 kw224 kw225 kw2 kw226 (by decide +kernel) (by decide) (by decide) (cs2 := 0) (sl2 := 0) rfl rfl rfl (by decide) rfl rfl (Nat.le_of_ble_eq_true rfl) dX9_entry_31 h (fun v31 h => ?_)
      exact wp_ireturn X Qr rfl (vp_nar_int _) dX9_entry_34 h
    · refine wp_iconst X (v := 0) dX9_entry_21 (by decide) ?_
      refine wp_goto X (tgt := 34) dX9_entry_22 (by decide) ?_
      exact wp_ireturn X Qr rfl (vp_nar_int _) dX9_entry_34 h
  · refine wp_aload_n X dX9_entry_4 0 rfl ?_
    refine wp_getR X (T := TX9) (N := 13) (ci := 8) (k := 2) rfl (by decide) (by decide) inBX9 kw181 dX9_entry_5 h (fun v5 h => ?_)
    refine wp_iload_n X dX9_entry_8 2 rfl ?_
    refine wp_iload_n X dX9_entry_9 3 rfl ?_
    refine wp_callVI X (rm := rmX7_letterAt) (T := TX7) (N := 2) (ci := 6) (n := 2) [.int x2, .int x3] hcd (fun q hq => cX7_letterAt_ok hq) kw223 kw224 kw225 kw2 kw226 (by decide +kernel) (by decide) (by decide) (cs2 := 0) (sl2 := 0) rfl rfl rfl (by decide) rfl rfl (Nat.le_of_ble_eq_true rfl) dX9_entry_10 h (fun v10 h => ?_)
    exact wp_ireturn X Qr rfl (vp_nar_int _) dX9_entry_13 h
/-! TableauBench.rowThatEndsWith(I)I -/
def rmX9_rowThatEndsWith : Room := { frames := 2, cells := 0, slots := 0, locals := 44 }
def fX9_rowThatEndsWith_2  : Nat → Nat → Int32 → Int32 → Mem → Option (Int32 × Mem)
  | 0, _, _, _, _ => none
  | n + 1, x0, x1, x2, F => if 15 ≤ x2 then (some (15, F)) else ((gfR F x0 8 3).bind fun v9 => (gfR F x0 8 5).bind fun v14 => (gfR F v14 6 0).bind fun v17 => (rdI F 0 v17 x2).bind fun v21 => (obj F v9 6).bind fun _ => (mX7_letterAt F v9 x2 (v21 - 1)).bind fun v24 => if v24.1 = x1 then (some (x2, v24.2)) else ((fX9_rowThatEndsWith_2   n) x0 x1 (x2 + 1) v24.2))
set_option maxRecDepth 100000 in
set_option maxHeartbeats 4000000 in
theorem tX9_rowThatEndsWith_2 {l : Launch} {D : va_G} {cy : Nat → ClassId} {C : Cx} {res : Int32 × Mem} (X : Fx C cX9_rowThatEndsWith RX9 (some .int) rmX9_rowThatEndsWith 3) (hcd : CD C l D cy) (Qr : RI C 0 0 res)   : ∀ (n : Nat) (x0 : Nat) (x1 : Int32) (x2 : Int32) (F : Mem), fX9_rowThatEndsWith_2  n x0 x1 x2 F = some res → Wp C 0 0 2 [(0, .ref x0), (1, .int x1), (2, .int x2)] [] F := by
  intro n
  induction n with
  | zero =>
    intro x0 x1 x2 F h
    rw [fX9_rowThatEndsWith_2.eq_1] at h
    cases h
  | succ n ih =>
    intro x0 x1 x2 F h
    rw [fX9_rowThatEndsWith_2.eq_2] at h
    refine wp_iload_n X dX9_rowThatEndsWith_2 2 rfl ?_
    refine wp_bipush X (v := 15) dX9_rowThatEndsWith_3 (by decide) ?_
    refine wp_icmp_ge X (tgt := 39) dX9_rowThatEndsWith_5 (by decide) h (fun h => ?_) (fun h => ?_)
    · refine wp_bipush X (v := 15) dX9_rowThatEndsWith_39 (by decide) ?_
      exact wp_ireturn X Qr rfl (vp_nar_int _) dX9_rowThatEndsWith_41 h
    · refine wp_aload_n X dX9_rowThatEndsWith_8 0 rfl ?_
      refine wp_getR X (T := TX9) (N := 13) (ci := 8) (k := 3) rfl (by decide) (by decide) inBX9 kw182 dX9_rowThatEndsWith_9 h (fun v9 h => ?_)
      refine wp_iload_n X dX9_rowThatEndsWith_12 2 rfl ?_
      refine wp_aload_n X dX9_rowThatEndsWith_13 0 rfl ?_
      refine wp_getR X (T := TX9) (N := 13) (ci := 8) (k := 5) rfl (by decide) (by decide) inBX9 kw184 dX9_rowThatEndsWith_14 h (fun v14 h => ?_)
      refine wp_getR X (T := TX7) (N := 2) (ci := 6) (k := 0) rfl (by decide) (by decide) inBX7 kw43 dX9_rowThatEndsWith_17 h (fun v17 h => ?_)
      refine wp_iload_n X dX9_rowThatEndsWith_20 2 rfl ?_
      refine wp_iaload X dX9_rowThatEndsWith_21 h (fun v21 h => ?_)
      refine wp_iconst X (v := 1) dX9_rowThatEndsWith_22 (by decide) ?_
      refine wp_isub X dX9_rowThatEndsWith_23 ?_
      refine wp_callVI X (rm := rmX7_letterAt) (T := TX7) (N := 2) (ci := 6) (n := 2) [.int x2, .int (v21 - 1)] hcd (fun q hq => cX7_letterAt_ok hq) kw223 kw224 kw225 kw2 kw226 (by decide +kernel) (by decide) (by decide) (cs2 := 0) (sl2 := 0) rfl rfl rfl (by decide) rfl rfl (Nat.le_of_ble_eq_true rfl) dX9_rowThatEndsWith_24 h (fun v24 h => ?_)
      refine wp_iload_n X dX9_rowThatEndsWith_27 1 rfl ?_
      refine wp_icmp_ne X (tgt := 33) dX9_rowThatEndsWith_28 (by decide) h (fun h => ?_) (fun h => ?_)
      · refine wp_iinc X (v := x2 + 1) (lv' := [(0, .ref x0), (1, .int x1), (2, .int (x2 + 1))]) dX9_rowThatEndsWith_33 (by decide) 2 rfl rfl [1, 2, 0] rfl ?_
        refine wp_goto X (tgt := 2) dX9_rowThatEndsWith_36 (by decide) ?_
        exact ih _ _ _ _ h
      · refine wp_iload_n X dX9_rowThatEndsWith_31 2 rfl ?_
        exact wp_ireturn X Qr rfl (vp_nar_int _) dX9_rowThatEndsWith_32 h
def mX9_rowThatEndsWith (F : Mem) (x0 : Nat) (x1 : Int32) : Option (Int32 × Mem) := fX9_rowThatEndsWith_2   FU x0 x1 0 F
set_option maxRecDepth 100000 in
set_option maxHeartbeats 4000000 in
theorem cX9_rowThatEndsWith_ok {l : Launch} {D : va_G} {cy : Nat → ClassId} {F : Mem} {x0 : Nat} {x1 : Int32} {res : Int32 × Mem} (h : mX9_rowThatEndsWith F x0 x1 = some res) : MI l yX9_rowThatEndsWith cX9_rowThatEndsWith 3 (some .int) rmX9_rowThatEndsWith D cy F [.ref x0, .int x1] res := by
  refine mi_of (by decide) (Nat.le_of_ble_eq_true rfl) [(0, .ref x0), (1, .int x1)] rfl (fun C X hcd Qr => ?_)
  unfold mX9_rowThatEndsWith at h
  refine wp_iconst X (v := 0) dX9_rowThatEndsWith_0 (by decide) ?_
  refine wp_istore_n X (lv' := [(0, .ref x0), (1, .int x1), (2, .int 0)]) dX9_rowThatEndsWith_1 (by decide) [1, 2, 0] rfl ?_
  refine tX9_rowThatEndsWith_2 X hcd Qr   FU _ _ _ _ h
/-! TableauBench.recover(I)V -/
def rmX9_recover : Room := { frames := 7, cells := 2, slots := 12, locals := 117 }
def fX9_recover_55  : Nat → Nat → Nat → Int32 → Mem → Option ((String ⊕ Unit) × Mem)
  | 0, _, _, _, _ => none
  | n + 1, x0, x2, x3, F => if x3 < 1 then (some (Sum.inr (), F)) else ((gfR F x2 7 0).bind fun v61 => (gfR F x0 8 5).bind fun v68 => (obj F x0 8).bind fun _ => (mX9_rowThatEndsWith F x0 x3).bind fun v73 => (obj v73.2 v68 6).bind fun _ => (mX7_takeByRows v73.2 v68 v73.1).bind fun v76 => (wrI v76.2 v61 (x3 - 1) v76.1).bind fun F79 => (fX9_recover_55   n) x0 x2 (x3 + (-1)) F79)
set_option maxRecDepth 100000 in
set_option maxHeartbeats 4000000 in
theorem tX9_recover_55 {l : Launch} {D : va_G} {cy : Nat → ClassId} (hst0 : l.stackTraces = false) {C : Cx} {res : (String ⊕ Unit) × Mem} (X : Fx C cX9_recover RX9 none rmX9_recover 4) (hcd : CD C l D cy) (Tt : TT C) (Qr : TQV C 2 12 res)   : ∀ (n : Nat) (x0 : Nat) (x2 : Nat) (x3 : Int32) (F : Mem), fX9_recover_55  n x0 x2 x3 F = some res → Wp C 1 6 55 [(0, .ref x0), (2, .ref x2), (3, .int x3)] [] F := by
  intro n
  induction n with
  | zero =>
    intro x0 x2 x3 F h
    rw [fX9_recover_55.eq_1] at h
    cases h
  | succ n ih =>
    intro x0 x2 x3 F h
    rw [fX9_recover_55.eq_2] at h
    refine wp_iload_n X dX9_recover_55 2 rfl ?_
    refine wp_iconst X (v := 1) dX9_recover_56 (by decide) ?_
    refine wp_icmp_lt X (tgt := 86) dX9_recover_57 (by decide) h (fun h => ?_) (fun h => ?_)
    · exact wp_returnT X Qr (by decide) (by decide) rfl dX9_recover_86 h
    · refine wp_aload_n X dX9_recover_60 1 rfl ?_
      refine wp_getR X (T := TX8) (N := 2) (ci := 7) (k := 0) rfl (by decide) (by decide) inBX8 kw169 dX9_recover_61 h (fun v61 h => ?_)
      refine wp_iload_n X dX9_recover_64 2 rfl ?_
      refine wp_iconst X (v := 1) dX9_recover_65 (by decide) ?_
      refine wp_isub X dX9_recover_66 ?_
      refine wp_aload_n X dX9_recover_67 0 rfl ?_
      refine wp_getR X (T := TX9) (N := 13) (ci := 8) (k := 5) rfl (by decide) (by decide) inBX9 kw184 dX9_recover_68 h (fun v68 h => ?_)
      refine wp_aload_n X dX9_recover_71 0 rfl ?_
      refine wp_iload_n X dX9_recover_72 2 rfl ?_
      refine wp_callVI X (rm := rmX9_rowThatEndsWith) (T := TX9) (N := 13) (ci := 8) (n := 1) [.int x3] hcd (fun q hq => cX9_rowThatEndsWith_ok hq) kw574 kw576 ks5 kw1 kw577 (by decide +kernel) (by decide) (by decide) (cs2 := 1) (sl2 := 6) rfl rfl rfl (by decide) rfl rfl (Nat.le_of_ble_eq_true rfl) dX9_recover_73 h (fun v73 h => ?_)
      refine wp_callVI X (rm := rmX7_takeByRows) (T := TX7) (N := 2) (ci := 6) (n := 1) [.int v73.1] hcd (fun q hq => cX7_takeByRows_ok hq) kw578 kw579 kw580 kw2 kw581 (by decide +kernel) (by decide) (by decide) (cs2 := 1) (sl2 := 6) rfl rfl rfl (by decide) rfl rfl (Nat.le_of_ble_eq_true rfl) dX9_recover_76 h (fun v76 h => ?_)
      refine wp_iastore X dX9_recover_79 h (fun F79 h => ?_)
      refine wp_iinc X (v := x3 + (-1)) (lv' := [(0, .ref x0), (2, .ref x2), (3, .int (x3 + (-1)))]) dX9_recover_80 (by decide) 2 rfl rfl [1, 2, 0] rfl ?_
      refine wp_goto X (tgt := 55) dX9_recover_83 (by decide) ?_
      exact ih _ _ _ _ h
def mX9_recover (F : Mem) (x0 : Nat) (x1 : Int32) : Option ((String ⊕ Unit) × Mem) := (obj F x0 8).bind fun _ => thn (mX9_wordNumbered F x0 x1) fun v2 F2 => (gfI F2 x0 8 4).bind fun v7 => if v7 = 0 then ((gfR F2 x0 8 5).bind fun v24 => (gfR F2 x0 8 2).bind fun v28 => (obj F2 v24 6).bind fun _ => (mX7_copyFrom F2 v24 v28).bind fun v31 => (gfR v31 x0 8 2).bind fun v36 => (obj v31 v36 6).bind fun _ => (mX7_countBoxes v31 v36).bind fun v39 => (pf v39.2 v2 7 1 (.int (if 16 < v39.1 then 16 else v39.1))).bind fun F47 => (gfI F47 v2 7 1).bind fun v51 => fX9_recover_55   FU x0 v2 v51 F47) else (some (Sum.inl "java/lang/IllegalStateException", F2))
set_option maxRecDepth 100000 in
set_option maxHeartbeats 4000000 in
theorem cX9_recover_ok {l : Launch} {D : va_G} {cy : Nat → ClassId} (hst0 : l.stackTraces = false) {F : Mem} {x0 : Nat} {x1 : Int32} {res : (String ⊕ Unit) × Mem} (h : mX9_recover F x0 x1 = some res) : TV l yX9_recover cX9_recover 4 none rmX9_recover D cy F [.ref x0, .int x1] res := by
  refine tv_of hst0 (by decide) (Nat.le_of_ble_eq_true rfl) [(0, .ref x0), (1, .int x1)] rfl (fun C X hcd Tt Qr => ?_)
  unfold mX9_recover at h
  refine wp_aload_n X dX9_recover_0 0 rfl ?_
  refine wp_iload_n X dX9_recover_1 1 rfl ?_
  refine wp_callTR X Tt (rm := rmX9_wordNumbered) (T := TX9) (N := 13) (ci := 8) (n := 1) [.int x1] Qr.x hcd (fun q hq => cX9_wordNumbered_ok hst0 hq) kw487 kw489 ks3 kw1 kw490 (by decide +kernel) (by decide) (by decide) (cs2 := 1) (sl2 := 6) rfl rfl (by decide) (by decide) rfl (by decide) rfl rfl (Nat.le_of_ble_eq_true rfl) dX9_recover_2 h (fun v2 F2 h => ?_)
  refine wp_astore_n X (lv' := [(0, .ref x0), (2, .ref v2)]) dX9_recover_5 (by decide) [1, 0] rfl ?_
  refine wp_aload_n X dX9_recover_6 0 rfl ?_
  refine wp_getI X (T := TX9) (N := 13) (ci := 8) (k := 4) rfl (by decide) (by decide) inBX9 kw183 dX9_recover_7 h (fun v7 h => ?_)
  refine wp_if_eq X (tgt := 23) dX9_recover_10 (by decide) h (fun h => ?_) (fun h => ?_)
  · refine wp_aload_n X dX9_recover_23 0 rfl ?_
    refine wp_getR X (T := TX9) (N := 13) (ci := 8) (k := 5) rfl (by decide) (by decide) inBX9 kw184 dX9_recover_24 h (fun v24 h => ?_)
    refine wp_aload_n X dX9_recover_27 0 rfl ?_
    refine wp_getR X (T := TX9) (N := 13) (ci := 8) (k := 2) rfl (by decide) (by decide) inBX9 kw181 dX9_recover_28 h (fun v28 h => ?_)
    refine wp_callVV X (rm := rmX7_copyFrom) (T := TX7) (N := 2) (ci := 6) (n := 1) [.ref v28] hcd (fun q hq => cX7_copyFrom_ok hq) kw564 kw565 kw566 kw2 kw567 (by decide +kernel) (by decide) (by decide) (cs2 := 1) (sl2 := 6) rfl rfl rfl (by decide) rfl rfl (Nat.le_of_ble_eq_true rfl) dX9_recover_31 h (fun v31 h => ?_)
    refine wp_aload_n X dX9_recover_34 1 rfl ?_
    refine wp_aload_n X dX9_recover_35 0 rfl ?_
    refine wp_getR X (T := TX9) (N := 13) (ci := 8) (k := 2) rfl (by decide) (by decide) inBX9 kw181 dX9_recover_36 h (fun v36 h => ?_)
    refine wp_callVI X (rm := rmX7_countBoxes) (T := TX7) (N := 2) (ci := 6) (n := 0) [] hcd (fun q hq => cX7_countBoxes_ok hq) kw569 kw570 kw571 kw2 kw572 (by decide +kernel) (by decide) (by decide) (cs2 := 1) (sl2 := 6) rfl rfl rfl (by decide) rfl rfl (Nat.le_of_ble_eq_true rfl) dX9_recover_39 h (fun v39 h => ?_)
    refine wp_bipush X (v := 16) dX9_recover_42 (by decide) ?_
    refine wp_mmin X kw573 kw462 kw18 kw463 (by decide) (Nat.le_of_ble_eq_true rfl) (by decide) (by decide) dX9_recover_44 ?_
    refine wp_put X (T := TX8) (N := 2) (ci := 7) (k := 1) tyX8 rfl (by decide) (by decide) inBX8 kw172 tyX8_ok nmX8 rfl rfl (vp_nar_int _) rfl dX9_recover_47 h (fun F47 h => ?_)
    refine wp_aload_n X dX9_recover_50 1 rfl ?_
    refine wp_getI X (T := TX8) (N := 2) (ci := 7) (k := 1) rfl (by decide) (by decide) inBX8 kw172 dX9_recover_51 h (fun v51 h => ?_)
    refine wp_istore_n X (lv' := [(0, .ref x0), (2, .ref v2), (3, .int v51)]) dX9_recover_54 (by decide) [1, 2, 0] rfl ?_
    refine tX9_recover_55 hst0 X hcd Tt Qr   FU _ _ _ _ h
  · exact wp_throwS X Tt Qr.x (text := "Q is away") rfl (by decide) kw548 kw21 (by decide) xg176 xn176 xo176 dX9_recover_13 dX9_recover_16 dX9_recover_17 dX9_recover_19 dX9_recover_22 (by decide) (by decide) (by decide) (by decide) (by decide) (by decide) (Option.some.inj h)
/-! TableauBench.read(I)V -/
def rmX9_read : Room := { frames := 7, cells := 2, slots := 12, locals := 117 }
def fX9_read_30  (F : Mem) : Option ((String ⊕ Unit) × Mem) := some (Sum.inl "java/lang/IllegalStateException", F)
set_option maxRecDepth 100000 in
set_option maxHeartbeats 4000000 in
theorem tX9_read_30 {l : Launch} {D : va_G} {cy : Nat → ClassId} (hst0 : l.stackTraces = false) {C : Cx} {res : (String ⊕ Unit) × Mem} (X : Fx C cX9_read RX9 none rmX9_read 5) (hcd : CD C l D cy) (Tt : TT C) (Qr : TQV C 2 12 res)   (F : Mem) (h : fX9_read_30  F = some res) : Wp C 1 6 30 [] [] F := by
  unfold fX9_read_30 at h
  exact wp_throwS X Tt Qr.x (text := "the reading of P is no word") rfl (by decide) kw548 kw21 (by decide) xg176 xn176 xo176 dX9_read_30 dX9_read_33 dX9_read_34 dX9_read_36 dX9_read_39 (by decide) (by decide) (by decide) (by decide) (by decide) (by decide) (Option.some.inj h)
def fX9_read_55 (K89 : Nat → Nat → Int32 → Mem → Option ((String ⊕ Unit) × Mem)) : Nat → Nat → Nat → Int32 → Int32 → Mem → Option ((String ⊕ Unit) × Mem)
  | 0, _, _, _, _, _ => none
  | n + 1, x0, x2, x3, x4, F => (gfR F x0 8 2).bind fun v58 => (gfR F v58 6 0).bind fun v61 => (rdI F 0 v61 x3).bind fun v65 => if v65 ≤ x4 then (K89 x0 x2 x3 F) else ((gfR F x0 8 2).bind fun v71 => (obj F v71 6).bind fun _ => (mX7_letterAt F v71 x3 x4).bind fun v77 => (obj v77.2 x2 7).bind fun _ => (mX8_add v77.2 x2 v77.1).bind fun v80 => (fX9_read_55  K89 n) x0 x2 x3 (x4 + 1) v80)
set_option maxRecDepth 100000 in
set_option maxHeartbeats 4000000 in
theorem tX9_read_55 {l : Launch} {D : va_G} {cy : Nat → ClassId} (hst0 : l.stackTraces = false) {C : Cx} {res : (String ⊕ Unit) × Mem} (X : Fx C cX9_read RX9 none rmX9_read 5) (hcd : CD C l D cy) (Tt : TT C) (Qr : TQV C 2 12 res) {K89 : Nat → Nat → Int32 → Mem → Option ((String ⊕ Unit) × Mem)} (hK89 : ∀ (x0 : Nat) (x2 : Nat) (x3 : Int32) (F : Mem), K89 x0 x2 x3 F = some res → Wp C 1 6 89 [(0, .ref x0), (2, .ref x2), (3, .int x3)] [] F) : ∀ (n : Nat) (x0 : Nat) (x2 : Nat) (x3 : Int32) (x4 : Int32) (F : Mem), fX9_read_55 K89 n x0 x2 x3 x4 F = some res → Wp C 1 6 55 [(0, .ref x0), (2, .ref x2), (3, .int x3), (4, .int x4)] [] F := by
  intro n
  induction n with
  | zero =>
    intro x0 x2 x3 x4 F h
    rw [fX9_read_55.eq_1] at h
    cases h
  | succ n ih =>
    intro x0 x2 x3 x4 F h
    rw [fX9_read_55.eq_2] at h
    refine wp_iload X dX9_read_55 3 rfl ?_
    refine wp_aload_n X dX9_read_57 0 rfl ?_
    refine wp_getR X (T := TX9) (N := 13) (ci := 8) (k := 2) rfl (by decide) (by decide) inBX9 kw181 dX9_read_58 h (fun v58 h => ?_)
    refine wp_getR X (T := TX7) (N := 2) (ci := 6) (k := 0) rfl (by decide) (by decide) inBX7 kw43 dX9_read_61 h (fun v61 h => ?_)
    refine wp_iload_n X dX9_read_64 2 rfl ?_
    refine wp_iaload X dX9_read_65 h (fun v65 h => ?_)
    refine wp_icmp_ge X (tgt := 89) dX9_read_66 (by decide) h (fun h => ?_) (fun h => ?_)
    · refine wp_sub (lv' := [(0, .ref x0), (2, .ref x2), (3, .int x3)]) [0, 1, 2] rfl ?_
      exact hK89 _ _ _ _ h
    · refine wp_aload_n X dX9_read_69 1 rfl ?_
      refine wp_aload_n X dX9_read_70 0 rfl ?_
      refine wp_getR X (T := TX9) (N := 13) (ci := 8) (k := 2) rfl (by decide) (by decide) inBX9 kw181 dX9_read_71 h (fun v71 h => ?_)
      refine wp_iload_n X dX9_read_74 2 rfl ?_
      refine wp_iload X dX9_read_75 3 rfl ?_
      refine wp_callVI X (rm := rmX7_letterAt) (T := TX7) (N := 2) (ci := 6) (n := 2) [.int x3, .int x4] hcd (fun q hq => cX7_letterAt_ok hq) kw223 kw224 kw225 kw2 kw226 (by decide +kernel) (by decide) (by decide) (cs2 := 1) (sl2 := 6) rfl rfl rfl (by decide) rfl rfl (Nat.le_of_ble_eq_true rfl) dX9_read_77 h (fun v77 h => ?_)
      refine wp_callVV X (rm := rmX8_add) (T := TX8) (N := 2) (ci := 7) (n := 1) [.int v77.1] hcd (fun q hq => cX8_add_ok hq) kw492 kw493 kw494 kw9 kw495 (by decide +kernel) (by decide) (by decide) (cs2 := 1) (sl2 := 6) rfl rfl rfl (by decide) rfl rfl (Nat.le_of_ble_eq_true rfl) dX9_read_80 h (fun v80 h => ?_)
      refine wp_iinc X (v := x4 + 1) (lv' := [(0, .ref x0), (2, .ref x2), (3, .int x3), (4, .int (x4 + 1))]) dX9_read_83 (by decide) 3 rfl rfl [1, 2, 3, 0] rfl ?_
      refine wp_goto X (tgt := 55) dX9_read_86 (by decide) ?_
      exact ih _ _ _ _ _ h
def fX9_read_48  : Nat → Nat → Nat → Int32 → Mem → Option ((String ⊕ Unit) × Mem)
  | 0, _, _, _, _ => none
  | n + 1, x0, x2, x3, F => if x3 < 0 then (some (Sum.inr (), F)) else (fX9_read_55  (fun (x0 : Nat) (x2 : Nat) (x3 : Int32) (F : Mem) => (fX9_read_48   n) x0 x2 (x3 + (-1)) F) FU x0 x2 x3 0 F)
set_option maxRecDepth 100000 in
set_option maxHeartbeats 4000000 in
theorem tX9_read_48 {l : Launch} {D : va_G} {cy : Nat → ClassId} (hst0 : l.stackTraces = false) {C : Cx} {res : (String ⊕ Unit) × Mem} (X : Fx C cX9_read RX9 none rmX9_read 5) (hcd : CD C l D cy) (Tt : TT C) (Qr : TQV C 2 12 res)   : ∀ (n : Nat) (x0 : Nat) (x2 : Nat) (x3 : Int32) (F : Mem), fX9_read_48  n x0 x2 x3 F = some res → Wp C 1 6 48 [(0, .ref x0), (2, .ref x2), (3, .int x3)] [] F := by
  intro n
  induction n with
  | zero =>
    intro x0 x2 x3 F h
    rw [fX9_read_48.eq_1] at h
    cases h
  | succ n ih =>
    intro x0 x2 x3 F h
    rw [fX9_read_48.eq_2] at h
    refine wp_iload_n X dX9_read_48 2 rfl ?_
    refine wp_if_lt X (tgt := 95) dX9_read_49 (by decide) h (fun h => ?_) (fun h => ?_)
    · exact wp_returnT X Qr (by decide) (by decide) rfl dX9_read_95 h
    · refine wp_iconst X (v := 0) dX9_read_52 (by decide) ?_
      refine wp_istore X (lv' := [(0, .ref x0), (2, .ref x2), (3, .int x3), (4, .int 0)]) dX9_read_53 (by decide) [1, 2, 3, 0] rfl ?_
      refine tX9_read_55 hst0 X hcd Tt Qr  ?_ FU _ _ _ _ _ h
      · intro x0 x2 x3 F h
        refine wp_iinc X (v := x3 + (-1)) (lv' := [(0, .ref x0), (2, .ref x2), (3, .int (x3 + (-1)))]) dX9_read_89 (by decide) 2 rfl rfl [1, 2, 0] rfl ?_
        refine wp_goto X (tgt := 48) dX9_read_92 (by decide) ?_
        exact ih _ _ _ _ h
def mX9_read (F : Mem) (x0 : Nat) (x1 : Int32) : Option ((String ⊕ Unit) × Mem) := (obj F x0 8).bind fun _ => thn (mX9_wordNumbered F x0 x1) fun v2 F2 => (gfR F2 x0 8 2).bind fun v7 => (obj F2 v7 6).bind fun _ => (mX7_countBoxes F2 v7).bind fun v10 => if 16 < v10.1 then (fX9_read_30   v10.2) else ((gfR v10.2 x0 8 2).bind fun v19 => (obj v10.2 v19 6).bind fun _ => (mX7_greatestLetter v10.2 v19).bind fun v22 => if v22.1 ≤ 16 then ((pf v22.2 v2 7 1 (.int 0)).bind fun F42 => fX9_read_48   FU x0 v2 15 F42) else (fX9_read_30   v22.2))
set_option maxRecDepth 100000 in
set_option maxHeartbeats 4000000 in
theorem cX9_read_ok {l : Launch} {D : va_G} {cy : Nat → ClassId} (hst0 : l.stackTraces = false) {F : Mem} {x0 : Nat} {x1 : Int32} {res : (String ⊕ Unit) × Mem} (h : mX9_read F x0 x1 = some res) : TV l yX9_read cX9_read 5 none rmX9_read D cy F [.ref x0, .int x1] res := by
  refine tv_of hst0 (by decide) (Nat.le_of_ble_eq_true rfl) [(0, .ref x0), (1, .int x1)] rfl (fun C X hcd Tt Qr => ?_)
  unfold mX9_read at h
  refine wp_aload_n X dX9_read_0 0 rfl ?_
  refine wp_iload_n X dX9_read_1 1 rfl ?_
  refine wp_callTR X Tt (rm := rmX9_wordNumbered) (T := TX9) (N := 13) (ci := 8) (n := 1) [.int x1] Qr.x hcd (fun q hq => cX9_wordNumbered_ok hst0 hq) kw487 kw489 ks3 kw1 kw490 (by decide +kernel) (by decide) (by decide) (cs2 := 1) (sl2 := 6) rfl rfl (by decide) (by decide) rfl (by decide) rfl rfl (Nat.le_of_ble_eq_true rfl) dX9_read_2 h (fun v2 F2 h => ?_)
  refine wp_astore_n X (lv' := [(0, .ref x0), (2, .ref v2)]) dX9_read_5 (by decide) [1, 0] rfl ?_
  refine wp_aload_n X dX9_read_6 0 rfl ?_
  refine wp_getR X (T := TX9) (N := 13) (ci := 8) (k := 2) rfl (by decide) (by decide) inBX9 kw181 dX9_read_7 h (fun v7 h => ?_)
  refine wp_callVI X (rm := rmX7_countBoxes) (T := TX7) (N := 2) (ci := 6) (n := 0) [] hcd (fun q hq => cX7_countBoxes_ok hq) kw569 kw570 kw571 kw2 kw572 (by decide +kernel) (by decide) (by decide) (cs2 := 1) (sl2 := 6) rfl rfl rfl (by decide) rfl rfl (Nat.le_of_ble_eq_true rfl) dX9_read_10 h (fun v10 h => ?_)
  refine wp_bipush X (v := 16) dX9_read_13 (by decide) ?_
  refine wp_icmp_gt X (tgt := 30) dX9_read_15 (by decide) h (fun h => ?_) (fun h => ?_)
  · refine wp_sub (lv' := []) [] rfl ?_
    exact tX9_read_30 hst0 X hcd Tt Qr   _ h
  · refine wp_aload_n X dX9_read_18 0 rfl ?_
    refine wp_getR X (T := TX9) (N := 13) (ci := 8) (k := 2) rfl (by decide) (by decide) inBX9 kw181 dX9_read_19 h (fun v19 h => ?_)
    refine wp_callVI X (rm := rmX7_greatestLetter) (T := TX7) (N := 2) (ci := 6) (n := 0) [] hcd (fun q hq => cX7_greatestLetter_ok hq) kw596 kw597 kw598 kw2 kw599 (by decide +kernel) (by decide) (by decide) (cs2 := 1) (sl2 := 6) rfl rfl rfl (by decide) rfl rfl (Nat.le_of_ble_eq_true rfl) dX9_read_22 h (fun v22 h => ?_)
    refine wp_bipush X (v := 16) dX9_read_25 (by decide) ?_
    refine wp_icmp_le X (tgt := 40) dX9_read_27 (by decide) h (fun h => ?_) (fun h => ?_)
    · refine wp_aload_n X dX9_read_40 1 rfl ?_
      refine wp_iconst X (v := 0) dX9_read_41 (by decide) ?_
      refine wp_put X (T := TX8) (N := 2) (ci := 7) (k := 1) tyX8 rfl (by decide) (by decide) inBX8 kw172 tyX8_ok nmX8 rfl rfl (vp_nar_int _) rfl dX9_read_42 h (fun F42 h => ?_)
      refine wp_bipush X (v := 15) dX9_read_45 (by decide) ?_
      refine wp_istore_n X (lv' := [(0, .ref x0), (2, .ref v2), (3, .int 15)]) dX9_read_47 (by decide) [1, 2, 0] rfl ?_
      refine tX9_read_48 hst0 X hcd Tt Qr   FU _ _ _ _ h
    · refine wp_sub (lv' := []) [] rfl ?_
      exact tX9_read_30 hst0 X hcd Tt Qr   _ h
/-! TableauBench.equivalent()Z -/
def rmX9_equivalent : Room := { frames := 5, cells := 0, slots := 0, locals := 114 }
def mX9_equivalent (F : Mem) (x0 : Nat) : Option (Int32 × Mem) := (gfR F x0 8 5).bind fun v1 => (gfR F x0 8 1).bind fun v5 => (rdQ F 4 v5 0).bind fun v9 => (obj F v1 6).bind fun _ => (mX7_insertAll F v1 v9).bind fun v10 => (gfR v10 x0 8 6).bind fun v14 => (gfR v10 x0 8 1).bind fun v18 => (rdQ v10 4 v18 1).bind fun v22 => (obj v10 v14 6).bind fun _ => (mX7_insertAll v10 v14 v22).bind fun v23 => (gfR v23 x0 8 5).bind fun v27 => (gfR v23 x0 8 6).bind fun v31 => (obj v23 v27 6).bind fun _ => (mX7_isSameAs v23 v27 v31).bind fun v34 => (bz v34.1).bind fun u9 => some (u9, v34.2)
set_option maxRecDepth 100000 in
set_option maxHeartbeats 4000000 in
theorem cX9_equivalent_ok {l : Launch} {D : va_G} {cy : Nat → ClassId} {F : Mem} {x0 : Nat} {res : Int32 × Mem} (h : mX9_equivalent F x0 = some res) : MI l yX9_equivalent cX9_equivalent 1 (some .boolean) rmX9_equivalent D cy F [.ref x0] res := by
  refine mi_of (by decide) (Nat.le_of_ble_eq_true rfl) [(0, .ref x0)] rfl (fun C X hcd Qr => ?_)
  unfold mX9_equivalent at h
  refine wp_aload_n X dX9_equivalent_0 0 rfl ?_
  refine wp_getR X (T := TX9) (N := 13) (ci := 8) (k := 5) rfl (by decide) (by decide) inBX9 kw184 dX9_equivalent_1 h (fun v1 h => ?_)
  refine wp_aload_n X dX9_equivalent_4 0 rfl ?_
  refine wp_getR X (T := TX9) (N := 13) (ci := 8) (k := 1) rfl (by decide) (by decide) inBX9 kw180 dX9_equivalent_5 h (fun v5 h => ?_)
  refine wp_iconst X (v := 0) dX9_equivalent_8 (by decide) ?_
  refine wp_aaload X 4 (fun _ => rfl) dX9_equivalent_9 h (fun v9 h => ?_)
  refine wp_callVV X (rm := rmX7_insertAll) (T := TX7) (N := 2) (ci := 6) (n := 1) [.ref v9] hcd (fun q hq => cX7_insertAll_ok hq) kw235 kw236 kw237 kw2 kw238 (by decide +kernel) (by decide) (by decide) (cs2 := 0) (sl2 := 0) rfl rfl rfl (by decide) rfl rfl (Nat.le_of_ble_eq_true rfl) dX9_equivalent_10 h (fun v10 h => ?_)
  refine wp_aload_n X dX9_equivalent_13 0 rfl ?_
  refine wp_getR X (T := TX9) (N := 13) (ci := 8) (k := 6) rfl (by decide) (by decide) inBX9 kw185 dX9_equivalent_14 h (fun v14 h => ?_)
  refine wp_aload_n X dX9_equivalent_17 0 rfl ?_
  refine wp_getR X (T := TX9) (N := 13) (ci := 8) (k := 1) rfl (by decide) (by decide) inBX9 kw180 dX9_equivalent_18 h (fun v18 h => ?_)
  refine wp_iconst X (v := 1) dX9_equivalent_21 (by decide) ?_
  refine wp_aaload X 4 (fun _ => rfl) dX9_equivalent_22 h (fun v22 h => ?_)
  refine wp_callVV X (rm := rmX7_insertAll) (T := TX7) (N := 2) (ci := 6) (n := 1) [.ref v22] hcd (fun q hq => cX7_insertAll_ok hq) kw235 kw236 kw237 kw2 kw238 (by decide +kernel) (by decide) (by decide) (cs2 := 0) (sl2 := 0) rfl rfl rfl (by decide) rfl rfl (Nat.le_of_ble_eq_true rfl) dX9_equivalent_23 h (fun v23 h => ?_)
  refine wp_aload_n X dX9_equivalent_26 0 rfl ?_
  refine wp_getR X (T := TX9) (N := 13) (ci := 8) (k := 5) rfl (by decide) (by decide) inBX9 kw184 dX9_equivalent_27 h (fun v27 h => ?_)
  refine wp_aload_n X dX9_equivalent_30 0 rfl ?_
  refine wp_getR X (T := TX9) (N := 13) (ci := 8) (k := 6) rfl (by decide) (by decide) inBX9 kw185 dX9_equivalent_31 h (fun v31 h => ?_)
  refine wp_callVI X (rm := rmX7_isSameAs) (T := TX7) (N := 2) (ci := 6) (n := 1) [.ref v31] hcd (fun q hq => cX7_isSameAs_ok hq) kw271 kw272 kw273 kw2 kw274 (by decide +kernel) (by decide) (by decide) (cs2 := 0) (sl2 := 0) rfl rfl rfl (by decide) rfl rfl (Nat.le_of_ble_eq_true rfl) dX9_equivalent_34 h (fun v34 h => ?_)
  obtain ⟨u9, hu9, h9⟩ := bnd h
  obtain ⟨e9, hz9⟩ := bz_eq hu9
  rw [e9] at h9
  exact wp_ireturn X Qr rfl hz9 dX9_equivalent_37 h9
/-! TableauBench.slideUntilStraight(I)I -/
def rmX9_slideUntilStraight : Room := { frames := 3, cells := 0, slots := 0, locals := 71 }
def fX9_slideUntilStraight_67 (K10 : Nat → Int32 → Int32 → Int32 → Mem → Option (Int32 × Mem)) (x0 : Nat) (x1 : Int32) (x2 : Int32) (x3 : Int32) (s0 : Int32) (F : Mem) : Option (Int32 × Mem) := (gfR F x0 8 7).bind fun v70 => (gfR F v70 3 0).bind fun v73 => (rdI F 0 v73 s0).bind fun v79 => (wrI F v73 s0 (v79 - 1)).bind fun F82 => (gfR F82 x0 8 5).bind fun v84 => (gfR F82 x0 8 7).bind fun v90 => (gfR F82 v90 3 0).bind fun v93 => (rdI F82 0 v93 s0).bind fun v98 => (obj F82 v84 6).bind fun _ => (mX7_slideInto F82 v84 s0 v98).bind fun v99 => K10 x0 x1 x2 (x3 + 1) v99.2
set_option maxRecDepth 100000 in
set_option maxHeartbeats 4000000 in
theorem tX9_slideUntilStraight_67 {l : Launch} {D : va_G} {cy : Nat → ClassId} {C : Cx} {res : Int32 × Mem} (X : Fx C cX9_slideUntilStraight RX9 (some .int) rmX9_slideUntilStraight 6) (hcd : CD C l D cy) (Qr : RI C 0 0 res) {K10 : Nat → Int32 → Int32 → Int32 → Mem → Option (Int32 × Mem)} (hK10 : ∀ (x0 : Nat) (x1 : Int32) (x2 : Int32) (x3 : Int32) (F : Mem), K10 x0 x1 x2 x3 F = some res → Wp C 0 0 10 [(0, .ref x0), (1, .int x1), (2, .int x2), (3, .int x3)] [] F) (x0 : Nat) (x1 : Int32) (x2 : Int32) (x3 : Int32) (s0 : Int32) (F : Mem) (h : fX9_slideUntilStraight_67 K10 x0 x1 x2 x3 s0 F = some res) : Wp C 0 0 67 [(0, .ref x0), (1, .int x1), (2, .int x2), (3, .int x3)] [.int s0] F := by
  unfold fX9_slideUntilStraight_67 at h
  refine wp_istore X (lv' := [(0, .ref x0), (1, .int x1), (2, .int x2), (3, .int x3), (5, .int s0)]) dX9_slideUntilStraight_67 (by decide) [1, 2, 3, 4, 0] rfl ?_
  refine wp_aload_n X dX9_slideUntilStraight_69 0 rfl ?_
  refine wp_getR X (T := TX9) (N := 13) (ci := 8) (k := 7) rfl (by decide) (by decide) inBX9 kw186 dX9_slideUntilStraight_70 h (fun v70 h => ?_)
  refine wp_getR X (T := TX4) (N := 1) (ci := 3) (k := 0) rfl (by decide) (by decide) inBX4 kw64 dX9_slideUntilStraight_73 h (fun v73 h => ?_)
  refine wp_iload X dX9_slideUntilStraight_76 4 rfl ?_
  refine wp_dup2 X dX9_slideUntilStraight_78 rfl rfl ?_
  refine wp_iaload X dX9_slideUntilStraight_79 h (fun v79 h => ?_)
  refine wp_iconst X (v := 1) dX9_slideUntilStraight_80 (by decide) ?_
  refine wp_isub X dX9_slideUntilStraight_81 ?_
  refine wp_iastore X dX9_slideUntilStraight_82 h (fun F82 h => ?_)
  refine wp_aload_n X dX9_slideUntilStraight_83 0 rfl ?_
  refine wp_getR X (T := TX9) (N := 13) (ci := 8) (k := 5) rfl (by decide) (by decide) inBX9 kw184 dX9_slideUntilStraight_84 h (fun v84 h => ?_)
  refine wp_iload X dX9_slideUntilStraight_87 4 rfl ?_
  refine wp_aload_n X dX9_slideUntilStraight_89 0 rfl ?_
  refine wp_getR X (T := TX9) (N := 13) (ci := 8) (k := 7) rfl (by decide) (by decide) inBX9 kw186 dX9_slideUntilStraight_90 h (fun v90 h => ?_)
  refine wp_getR X (T := TX4) (N := 1) (ci := 3) (k := 0) rfl (by decide) (by decide) inBX4 kw64 dX9_slideUntilStraight_93 h (fun v93 h => ?_)
  refine wp_iload X dX9_slideUntilStraight_96 4 rfl ?_
  refine wp_iaload X dX9_slideUntilStraight_98 h (fun v98 h => ?_)
  refine wp_callVI X (rm := rmX7_slideInto) (T := TX7) (N := 2) (ci := 6) (n := 2) [.int s0, .int v98] hcd (fun q hq => cX7_slideInto_ok hq) kw645 kw646 kw647 kw2 kw648 (by decide +kernel) (by decide) (by decide) (cs2 := 0) (sl2 := 0) rfl rfl rfl (by decide) rfl rfl (Nat.le_of_ble_eq_true rfl) dX9_slideUntilStraight_99 h (fun v99 h => ?_)
  refine wp_pop X dX9_slideUntilStraight_102 rfl ?_
  refine wp_iinc X (v := x3 + 1) (lv' := [(0, .ref x0), (1, .int x1), (2, .int x2), (3, .int (x3 + 1))]) dX9_slideUntilStraight_103 (by decide) 3 rfl rfl [1, 2, 3, 0] rfl ?_
  refine wp_goto X (tgt := 10) dX9_slideUntilStraight_106 (by decide) ?_
  exact hK10 _ _ _ _ _ h
def fX9_slideUntilStraight_43 (K10 : Nat → Int32 → Int32 → Int32 → Mem → Option (Int32 × Mem)) (x0 : Nat) (x1 : Int32) (x2 : Int32) (x3 : Int32) (s0 : Int32) (F : Mem) : Option (Int32 × Mem) := if s0 = 0 then ((gfR F x0 8 7).bind fun v61 => (obj F v61 3).bind fun _ => (mX4_highestCorner F v61).bind fun v64 => fX9_slideUntilStraight_67  K10 x0 x1 x2 x3 v64.1 v64.2) else ((gfR F x0 8 7).bind fun v51 => (obj F v51 3).bind fun _ => (mX4_lowestCorner F v51).bind fun v54 => fX9_slideUntilStraight_67  K10 x0 x1 x2 x3 v54.1 v54.2)
set_option maxRecDepth 100000 in
set_option maxHeartbeats 4000000 in
theorem tX9_slideUntilStraight_43 {l : Launch} {D : va_G} {cy : Nat → ClassId} {C : Cx} {res : Int32 × Mem} (X : Fx C cX9_slideUntilStraight RX9 (some .int) rmX9_slideUntilStraight 6) (hcd : CD C l D cy) (Qr : RI C 0 0 res) {K10 : Nat → Int32 → Int32 → Int32 → Mem → Option (Int32 × Mem)} (hK10 : ∀ (x0 : Nat) (x1 : Int32) (x2 : Int32) (x3 : Int32) (F : Mem), K10 x0 x1 x2 x3 F = some res → Wp C 0 0 10 [(0, .ref x0), (1, .int x1), (2, .int x2), (3, .int x3)] [] F) (x0 : Nat) (x1 : Int32) (x2 : Int32) (x3 : Int32) (s0 : Int32) (F : Mem) (h : fX9_slideUntilStraight_43 K10 x0 x1 x2 x3 s0 F = some res) : Wp C 0 0 43 [(0, .ref x0), (1, .int x1), (2, .int x2), (3, .int x3)] [.int s0] F := by
  unfold fX9_slideUntilStraight_43 at h
  refine wp_istore X (lv' := [(0, .ref x0), (1, .int x1), (2, .int x2), (3, .int x3), (4, .int s0)]) dX9_slideUntilStraight_43 (by decide) [1, 2, 3, 4, 0] rfl ?_
  refine wp_iload X dX9_slideUntilStraight_45 4 rfl ?_
  refine wp_if_eq X (tgt := 60) dX9_slideUntilStraight_47 (by decide) h (fun h => ?_) (fun h => ?_)
  · refine wp_aload_n X dX9_slideUntilStraight_60 0 rfl ?_
    refine wp_getR X (T := TX9) (N := 13) (ci := 8) (k := 7) rfl (by decide) (by decide) inBX9 kw186 dX9_slideUntilStraight_61 h (fun v61 h => ?_)
    refine wp_callVI X (rm := rmX4_highestCorner) (T := TX4) (N := 1) (ci := 3) (n := 0) [] hcd (fun q hq => cX4_highestCorner_ok hq) kw636 kw637 kw638 kw3 kw639 (by decide +kernel) (by decide) (by decide) (cs2 := 0) (sl2 := 0) rfl rfl rfl (by decide) rfl rfl (Nat.le_of_ble_eq_true rfl) dX9_slideUntilStraight_64 h (fun v64 h => ?_)
    refine wp_sub (lv' := [(0, .ref x0), (1, .int x1), (2, .int x2), (3, .int x3)]) [0, 1, 2, 3] rfl ?_
    exact tX9_slideUntilStraight_67 X hcd Qr  hK10 _ _ _ _ _ _ h
  · refine wp_aload_n X dX9_slideUntilStraight_50 0 rfl ?_
    refine wp_getR X (T := TX9) (N := 13) (ci := 8) (k := 7) rfl (by decide) (by decide) inBX9 kw186 dX9_slideUntilStraight_51 h (fun v51 h => ?_)
    refine wp_callVI X (rm := rmX4_lowestCorner) (T := TX4) (N := 1) (ci := 3) (n := 0) [] hcd (fun q hq => cX4_lowestCorner_ok hq) kw632 kw633 kw634 kw3 kw635 (by decide +kernel) (by decide) (by decide) (cs2 := 0) (sl2 := 0) rfl rfl rfl (by decide) rfl rfl (Nat.le_of_ble_eq_true rfl) dX9_slideUntilStraight_54 h (fun v54 h => ?_)
    refine wp_goto X (tgt := 67) dX9_slideUntilStraight_57 (by decide) ?_
    refine wp_sub (lv' := [(0, .ref x0), (1, .int x1), (2, .int x2), (3, .int x3)]) [0, 1, 2, 3] rfl ?_
    exact tX9_slideUntilStraight_67 X hcd Qr  hK10 _ _ _ _ _ _ h
def fX9_slideUntilStraight_10  : Nat → Nat → Int32 → Int32 → Int32 → Mem → Option (Int32 × Mem)
  | 0, _, _, _, _, _ => none
  | n + 1, x0, x1, x2, x3, F => if x2 ≤ x3 then (some (x2, F)) else (if x1 = 2 then ((irem0 x3 2).bind fun v22 => if v22 = 0 then (fX9_slideUntilStraight_43  (fX9_slideUntilStraight_10   n) x0 x1 x2 x3 1 F) else (fX9_slideUntilStraight_43  (fX9_slideUntilStraight_10   n) x0 x1 x2 x3 0 F)) else (if x1 = 0 then (fX9_slideUntilStraight_43  (fX9_slideUntilStraight_10   n) x0 x1 x2 x3 1 F) else (fX9_slideUntilStraight_43  (fX9_slideUntilStraight_10   n) x0 x1 x2 x3 0 F)))
set_option maxRecDepth 100000 in
set_option maxHeartbeats 4000000 in
theorem tX9_slideUntilStraight_10 {l : Launch} {D : va_G} {cy : Nat → ClassId} {C : Cx} {res : Int32 × Mem} (X : Fx C cX9_slideUntilStraight RX9 (some .int) rmX9_slideUntilStraight 6) (hcd : CD C l D cy) (Qr : RI C 0 0 res)   : ∀ (n : Nat) (x0 : Nat) (x1 : Int32) (x2 : Int32) (x3 : Int32) (F : Mem), fX9_slideUntilStraight_10  n x0 x1 x2 x3 F = some res → Wp C 0 0 10 [(0, .ref x0), (1, .int x1), (2, .int x2), (3, .int x3)] [] F := by
  intro n
  induction n with
  | zero =>
    intro x0 x1 x2 x3 F h
    rw [fX9_slideUntilStraight_10.eq_1] at h
    cases h
  | succ n ih =>
    intro x0 x1 x2 x3 F h
    rw [fX9_slideUntilStraight_10.eq_2] at h
    refine wp_iload_n X dX9_slideUntilStraight_10 3 rfl ?_
    refine wp_iload_n X dX9_slideUntilStraight_11 2 rfl ?_
    refine wp_icmp_ge X (tgt := 109) dX9_slideUntilStraight_12 (by decide) h (fun h => ?_) (fun h => ?_)
    · refine wp_iload_n X dX9_slideUntilStraight_109 2 rfl ?_
      exact wp_ireturn X Qr rfl (vp_nar_int _) dX9_slideUntilStraight_110 h
    · refine wp_iload_n X dX9_slideUntilStraight_15 1 rfl ?_
      refine wp_iconst X (v := 2) dX9_slideUntilStraight_16 (by decide) ?_
      refine wp_icmp_ne X (tgt := 34) dX9_slideUntilStraight_17 (by decide) h (fun h => ?_) (fun h => ?_)
      · refine wp_iload_n X dX9_slideUntilStraight_34 1 rfl ?_
        refine wp_if_ne X (tgt := 42) dX9_slideUntilStraight_35 (by decide) h (fun h => ?_) (fun h => ?_)
        · refine wp_iconst X (v := 0) dX9_slideUntilStraight_42 (by decide) ?_
          exact tX9_slideUntilStraight_43 X hcd Qr  ih _ _ _ _ _ _ h
        · refine wp_iconst X (v := 1) dX9_slideUntilStraight_38 (by decide) ?_
          refine wp_goto X (tgt := 43) dX9_slideUntilStraight_39 (by decide) ?_
          exact tX9_slideUntilStraight_43 X hcd Qr  ih _ _ _ _ _ _ h
      · refine wp_iload_n X dX9_slideUntilStraight_20 3 rfl ?_
        refine wp_iconst X (v := 2) dX9_slideUntilStraight_21 (by decide) ?_
        refine wp_irem X dX9_slideUntilStraight_22 h (fun v22 h => ?_)
        refine wp_if_ne X (tgt := 30) dX9_slideUntilStraight_23 (by decide) h (fun h => ?_) (fun h => ?_)
        · refine wp_iconst X (v := 0) dX9_slideUntilStraight_30 (by decide) ?_
          refine wp_goto X (tgt := 43) dX9_slideUntilStraight_31 (by decide) ?_
          exact tX9_slideUntilStraight_43 X hcd Qr  ih _ _ _ _ _ _ h
        · refine wp_iconst X (v := 1) dX9_slideUntilStraight_26 (by decide) ?_
          refine wp_goto X (tgt := 43) dX9_slideUntilStraight_27 (by decide) ?_
          exact tX9_slideUntilStraight_43 X hcd Qr  ih _ _ _ _ _ _ h
def mX9_slideUntilStraight (F : Mem) (x0 : Nat) (x1 : Int32) : Option (Int32 × Mem) := (gfR F x0 8 7).bind fun v1 => (obj F v1 3).bind fun _ => (mX4_countBoxes F v1).bind fun v4 => fX9_slideUntilStraight_10   FU x0 x1 v4.1 0 v4.2
set_option maxRecDepth 100000 in
set_option maxHeartbeats 4000000 in
theorem cX9_slideUntilStraight_ok {l : Launch} {D : va_G} {cy : Nat → ClassId} {F : Mem} {x0 : Nat} {x1 : Int32} {res : Int32 × Mem} (h : mX9_slideUntilStraight F x0 x1 = some res) : MI l yX9_slideUntilStraight cX9_slideUntilStraight 6 (some .int) rmX9_slideUntilStraight D cy F [.ref x0, .int x1] res := by
  refine mi_of (by decide) (Nat.le_of_ble_eq_true rfl) [(0, .ref x0), (1, .int x1)] rfl (fun C X hcd Qr => ?_)
  unfold mX9_slideUntilStraight at h
  refine wp_aload_n X dX9_slideUntilStraight_0 0 rfl ?_
  refine wp_getR X (T := TX9) (N := 13) (ci := 8) (k := 7) rfl (by decide) (by decide) inBX9 kw186 dX9_slideUntilStraight_1 h (fun v1 h => ?_)
  refine wp_callVI X (rm := rmX4_countBoxes) (T := TX4) (N := 1) (ci := 3) (n := 0) [] hcd (fun q hq => cX4_countBoxes_ok hq) kw613 kw366 kw367 kw3 kw368 (by decide +kernel) (by decide) (by decide) (cs2 := 0) (sl2 := 0) rfl rfl rfl (by decide) rfl rfl (Nat.le_of_ble_eq_true rfl) dX9_slideUntilStraight_4 h (fun v4 h => ?_)
  refine wp_istore_n X (lv' := [(0, .ref x0), (1, .int x1), (2, .int v4.1)]) dX9_slideUntilStraight_7 (by decide) [1, 2, 0] rfl ?_
  refine wp_iconst X (v := 0) dX9_slideUntilStraight_8 (by decide) ?_
  refine wp_istore_n X (lv' := [(0, .ref x0), (1, .int x1), (2, .int v4.1), (3, .int 0)]) dX9_slideUntilStraight_9 (by decide) [1, 2, 3, 0] rfl ?_
  refine tX9_slideUntilStraight_10 X hcd Qr   FU _ _ _ _ _ h
/-! TableauBench.rectify(IIII)I -/
def rmX9_rectify : Room := { frames := 7, cells := 4, slots := 24, locals := 117 }
def fX9_rectify_42  (F : Mem) : Option ((String ⊕ Int32) × Mem) := some (Sum.inl "java/lang/IllegalArgumentException", F)
set_option maxRecDepth 100000 in
set_option maxHeartbeats 4000000 in
theorem tX9_rectify_42 {l : Launch} {D : va_G} {cy : Nat → ClassId} (hst0 : l.stackTraces = false) {C : Cx} {res : (String ⊕ Int32) × Mem} (X : Fx C cX9_rectify RX9 (some .int) rmX9_rectify 9) (hcd : CD C l D cy) (Tt : TT C) (Qr : TQI C 4 24 res)   (F : Mem) (h : fX9_rectify_42  F = some res) : Wp C 3 18 42 [] [] F := by
  unfold fX9_rectify_42 at h
  exact wp_throwS X Tt Qr.x (text := "no such order, or no skew shape") rfl (by decide) kw424 kw16 (by decide) xg117 xn117 xo117 dX9_rectify_42 dX9_rectify_45 dX9_rectify_46 dX9_rectify_48 dX9_rectify_51 (by decide) (by decide) (by decide) (by decide) (by decide) (by decide) (Option.some.inj h)
def mX9_rectify (F : Mem) (x0 : Nat) (x1 : Int32) (x2 : Int32) (x3 : Int32) (x4 : Int32) : Option ((String ⊕ Int32) × Mem) := (obj F x0 8).bind fun _ => thn (mX9_slotNumbered F x0 x1) fun v2 F2 => (obj F2 x0 8).bind fun _ => thn (mX9_slotNumbered F2 x0 x2) fun v9 F9 => (obj F9 x0 8).bind fun _ => thn (mX9_wordNumbered F9 x0 x3) fun v16 F16 => if x4 < 0 then (fX9_rectify_42   F16) else (if 3 ≤ x4 then (fX9_rectify_42   F16) else ((obj F16 v9 3).bind fun _ => (mX4_contains F16 v9 v2).bind fun v36 => if v36.1 = 0 then (fX9_rectify_42   v36.2) else ((gfI v36.2 v16 7 1).bind fun v54 => (obj v36.2 v9 3).bind fun _ => (mX4_countBoxes v36.2 v9).bind fun v59 => (obj v59.2 v2 3).bind fun _ => (mX4_countBoxes v59.2 v2).bind fun v64 => if v54 = (v59.1 - v64.1) then ((gfR v64.2 x0 8 5).bind fun v82 => (obj v64.2 v82 6).bind fun _ => (mX7_fillSkew v64.2 v82 v2 v9 v16).bind fun v91 => (gfR v91 x0 8 5).bind fun v95 => (obj v91 v95 6).bind fun _ => (mX7_isColumnStrictOutside v91 v95 v2).bind fun v100 => if v100.1 = 0 then (some (Sum.inl "java/lang/UnsupportedOperationException", v100.2)) else ((gfR v100.2 x0 8 7).bind fun v117 => (obj v100.2 v117 3).bind fun _ => (mX4_copyFrom v100.2 v117 v2).bind fun v122 => (obj v122 x0 8).bind fun _ => (mX9_slideUntilStraight v122 x0 x4).bind fun v128 => (gfR v128.2 x0 8 2).bind fun v134 => (gfR v128.2 x0 8 5).bind fun v138 => (obj v128.2 v134 6).bind fun _ => (mX7_copyFrom v128.2 v134 v138).bind fun v141 => (pf v141 x0 8 4 (.int 1)).bind fun F146 => some (Sum.inr v128.1, F146))) else (some (Sum.inl "java/lang/IllegalStateException", v64.2)))))
set_option maxRecDepth 100000 in
set_option maxHeartbeats 4000000 in
theorem cX9_rectify_ok {l : Launch} {D : va_G} {cy : Nat → ClassId} (hst0 : l.stackTraces = false) {F : Mem} {x0 : Nat} {x1 : Int32} {x2 : Int32} {x3 : Int32} {x4 : Int32} {res : (String ⊕ Int32) × Mem} (h : mX9_rectify F x0 x1 x2 x3 x4 = some res) : TI l yX9_rectify cX9_rectify 9 (some .int) rmX9_rectify D cy F [.ref x0, .int x1, .int x2, .int x3, .int x4] res := by
  refine ti_of hst0 (by decide) (Nat.le_of_ble_eq_true rfl) [(0, .ref x0), (1, .int x1), (2, .int x2), (3, .int x3), (4, .int x4)] rfl (fun C X hcd Tt Qr => ?_)
  unfold mX9_rectify at h
  refine wp_aload_n X dX9_rectify_0 0 rfl ?_
  refine wp_iload_n X dX9_rectify_1 1 rfl ?_
  refine wp_callTR X Tt (rm := rmX9_slotNumbered) (T := TX9) (N := 13) (ci := 8) (n := 1) [.int x1] Qr.x hcd (fun q hq => cX9_slotNumbered_ok hst0 hq) kw283 kw285 ks1 kw1 kw286 (by decide +kernel) (by decide) (by decide) (cs2 := 1) (sl2 := 6) rfl rfl (by decide) (by decide) rfl (by decide) rfl rfl (Nat.le_of_ble_eq_true rfl) dX9_rectify_2 h (fun v2 F2 h => ?_)
  refine wp_astore X (lv' := [(0, .ref x0), (2, .int x2), (3, .int x3), (4, .int x4), (5, .ref v2)]) dX9_rectify_5 (by decide) [1, 3, 4, 5, 0] rfl ?_
  refine wp_aload_n X dX9_rectify_7 0 rfl ?_
  refine wp_iload_n X dX9_rectify_8 1 rfl ?_
  refine wp_callTR X Tt (rm := rmX9_slotNumbered) (T := TX9) (N := 13) (ci := 8) (n := 1) [.int x2] Qr.x hcd (fun q hq => cX9_slotNumbered_ok hst0 hq) kw283 kw285 ks1 kw1 kw286 (by decide +kernel) (by decide) (by decide) (cs2 := 2) (sl2 := 12) rfl rfl (by decide) (by decide) rfl (by decide) rfl rfl (Nat.le_of_ble_eq_true rfl) dX9_rectify_9 h (fun v9 F9 h => ?_)
  refine wp_astore X (lv' := [(0, .ref x0), (3, .int x3), (4, .int x4), (5, .ref v2), (6, .ref v9)]) dX9_rectify_12 (by decide) [1, 3, 4, 5, 0] rfl ?_
  refine wp_aload_n X dX9_rectify_14 0 rfl ?_
  refine wp_iload_n X dX9_rectify_15 1 rfl ?_
  refine wp_callTR X Tt (rm := rmX9_wordNumbered) (T := TX9) (N := 13) (ci := 8) (n := 1) [.int x3] Qr.x hcd (fun q hq => cX9_wordNumbered_ok hst0 hq) kw487 kw489 ks3 kw1 kw490 (by decide +kernel) (by decide) (by decide) (cs2 := 3) (sl2 := 18) rfl rfl (by decide) (by decide) rfl (by decide) rfl rfl (Nat.le_of_ble_eq_true rfl) dX9_rectify_16 h (fun v16 F16 h => ?_)
  refine wp_astore X (lv' := [(0, .ref x0), (4, .int x4), (5, .ref v2), (6, .ref v9), (7, .ref v16)]) dX9_rectify_19 (by decide) [1, 3, 4, 5, 0] rfl ?_
  refine wp_iload X dX9_rectify_21 1 rfl ?_
  refine wp_if_lt X (tgt := 42) dX9_rectify_23 (by decide) h (fun h => ?_) (fun h => ?_)
  · refine wp_sub (lv' := []) [] rfl ?_
    exact tX9_rectify_42 hst0 X hcd Tt Qr   _ h
  · refine wp_iload X dX9_rectify_26 1 rfl ?_
    refine wp_iconst X (v := 3) dX9_rectify_28 (by decide) ?_
    refine wp_icmp_ge X (tgt := 42) dX9_rectify_29 (by decide) h (fun h => ?_) (fun h => ?_)
    · refine wp_sub (lv' := []) [] rfl ?_
      exact tX9_rectify_42 hst0 X hcd Tt Qr   _ h
    · refine wp_aload X dX9_rectify_32 3 rfl ?_
      refine wp_aload X dX9_rectify_34 2 rfl ?_
      refine wp_callVI X (rm := rmX4_contains) (T := TX4) (N := 1) (ci := 3) (n := 1) [.ref v2] hcd (fun q hq => cX4_contains_ok hq) kw608 kw609 kw610 kw3 kw611 (by decide +kernel) (by decide) (by decide) (cs2 := 3) (sl2 := 18) rfl rfl rfl (by decide) rfl rfl (Nat.le_of_ble_eq_true rfl) dX9_rectify_36 h (fun v36 h => ?_)
      refine wp_if_ne X (tgt := 52) dX9_rectify_39 (by decide) h (fun h => ?_) (fun h => ?_)
      · refine wp_aload X dX9_rectify_52 4 rfl ?_
        refine wp_getI X (T := TX8) (N := 2) (ci := 7) (k := 1) rfl (by decide) (by decide) inBX8 kw172 dX9_rectify_54 h (fun v54 h => ?_)
        refine wp_aload X dX9_rectify_57 3 rfl ?_
        refine wp_callVI X (rm := rmX4_countBoxes) (T := TX4) (N := 1) (ci := 3) (n := 0) [] hcd (fun q hq => cX4_countBoxes_ok hq) kw613 kw366 kw367 kw3 kw368 (by decide +kernel) (by decide) (by decide) (cs2 := 3) (sl2 := 18) rfl rfl rfl (by decide) rfl rfl (Nat.le_of_ble_eq_true rfl) dX9_rectify_59 h (fun v59 h => ?_)
        refine wp_aload X dX9_rectify_62 2 rfl ?_
        refine wp_callVI X (rm := rmX4_countBoxes) (T := TX4) (N := 1) (ci := 3) (n := 0) [] hcd (fun q hq => cX4_countBoxes_ok hq) kw613 kw366 kw367 kw3 kw368 (by decide +kernel) (by decide) (by decide) (cs2 := 3) (sl2 := 18) rfl rfl rfl (by decide) rfl rfl (Nat.le_of_ble_eq_true rfl) dX9_rectify_64 h (fun v64 h => ?_)
        refine wp_isub X dX9_rectify_67 ?_
        refine wp_icmp_eq X (tgt := 81) dX9_rectify_68 (by decide) h (fun h => ?_) (fun h => ?_)
        · refine wp_aload_n X dX9_rectify_81 0 rfl ?_
          refine wp_getR X (T := TX9) (N := 13) (ci := 8) (k := 5) rfl (by decide) (by decide) inBX9 kw184 dX9_rectify_82 h (fun v82 h => ?_)
          refine wp_aload X dX9_rectify_85 2 rfl ?_
          refine wp_aload X dX9_rectify_87 3 rfl ?_
          refine wp_aload X dX9_rectify_89 4 rfl ?_
          refine wp_callVV X (rm := rmX7_fillSkew) (T := TX7) (N := 2) (ci := 6) (n := 3) [.ref v2, .ref v9, .ref v16] hcd (fun q hq => cX7_fillSkew_ok hq) kw615 kw616 kw617 kw2 kw618 (by decide +kernel) (by decide) (by decide) (cs2 := 3) (sl2 := 18) rfl rfl rfl (by decide) rfl rfl (Nat.le_of_ble_eq_true rfl) dX9_rectify_91 h (fun v91 h => ?_)
          refine wp_aload_n X dX9_rectify_94 0 rfl ?_
          refine wp_getR X (T := TX9) (N := 13) (ci := 8) (k := 5) rfl (by decide) (by decide) inBX9 kw184 dX9_rectify_95 h (fun v95 h => ?_)
          refine wp_aload X dX9_rectify_98 2 rfl ?_
          refine wp_callVI X (rm := rmX7_isColumnStrictOutside) (T := TX7) (N := 2) (ci := 6) (n := 1) [.ref v2] hcd (fun q hq => cX7_isColumnStrictOutside_ok hq) kw623 kw624 kw625 kw2 kw626 (by decide +kernel) (by decide) (by decide) (cs2 := 3) (sl2 := 18) rfl rfl rfl (by decide) rfl rfl (Nat.le_of_ble_eq_true rfl) dX9_rectify_100 h (fun v100 h => ?_)
          refine wp_if_ne X (tgt := 116) dX9_rectify_103 (by decide) h (fun h => ?_) (fun h => ?_)
          · refine wp_aload_n X dX9_rectify_116 0 rfl ?_
            refine wp_getR X (T := TX9) (N := 13) (ci := 8) (k := 7) rfl (by decide) (by decide) inBX9 kw186 dX9_rectify_117 h (fun v117 h => ?_)
            refine wp_aload X dX9_rectify_120 2 rfl ?_
            refine wp_callVV X (rm := rmX4_copyFrom) (T := TX4) (N := 1) (ci := 3) (n := 1) [.ref v2] hcd (fun q hq => cX4_copyFrom_ok hq) kw369 kw370 kw371 kw3 kw372 (by decide +kernel) (by decide) (by decide) (cs2 := 3) (sl2 := 18) rfl rfl rfl (by decide) rfl rfl (Nat.le_of_ble_eq_true rfl) dX9_rectify_122 h (fun v122 h => ?_)
            refine wp_aload_n X dX9_rectify_125 0 rfl ?_
            refine wp_iload X dX9_rectify_126 1 rfl ?_
            refine wp_callVI X (rm := rmX9_slideUntilStraight) (T := TX9) (N := 13) (ci := 8) (n := 1) [.int x4] hcd (fun q hq => cX9_slideUntilStraight_ok hq) kw628 kw630 ks7 kw1 kw631 (by decide +kernel) (by decide) (by decide) (cs2 := 3) (sl2 := 18) rfl rfl rfl (by decide) rfl rfl (Nat.le_of_ble_eq_true rfl) dX9_rectify_128 h (fun v128 h => ?_)
            refine wp_istore X (lv' := [(0, .ref x0), (8, .int v128.1)]) dX9_rectify_131 (by decide) [1, 0] rfl ?_
            refine wp_aload_n X dX9_rectify_133 0 rfl ?_
            refine wp_getR X (T := TX9) (N := 13) (ci := 8) (k := 2) rfl (by decide) (by decide) inBX9 kw181 dX9_rectify_134 h (fun v134 h => ?_)
            refine wp_aload_n X dX9_rectify_137 0 rfl ?_
            refine wp_getR X (T := TX9) (N := 13) (ci := 8) (k := 5) rfl (by decide) (by decide) inBX9 kw184 dX9_rectify_138 h (fun v138 h => ?_)
            refine wp_callVV X (rm := rmX7_copyFrom) (T := TX7) (N := 2) (ci := 6) (n := 1) [.ref v138] hcd (fun q hq => cX7_copyFrom_ok hq) kw564 kw565 kw566 kw2 kw567 (by decide +kernel) (by decide) (by decide) (cs2 := 3) (sl2 := 18) rfl rfl rfl (by decide) rfl rfl (Nat.le_of_ble_eq_true rfl) dX9_rectify_141 h (fun v141 h => ?_)
            refine wp_aload_n X dX9_rectify_144 0 rfl ?_
            refine wp_iconst X (v := 1) dX9_rectify_145 (by decide) ?_
            refine wp_put X (T := TX9) (N := 13) (ci := 8) (k := 4) tyX9 rfl (by decide) (by decide) inBX9 kw183 tyX9_ok nmX9 rfl rfl rfl rfl dX9_rectify_146 h (fun F146 h => ?_)
            refine wp_iload X dX9_rectify_149 1 rfl ?_
            exact wp_ireturnT X Qr (by decide) (by decide) rfl (vp_nar_int _) dX9_rectify_151 h
          · exact wp_throwS X Tt Qr.x (text := "the filling is not column-strict") rfl (by decide) kw464 kw19 (by decide) xg137 xn137 xo137 dX9_rectify_106 dX9_rectify_109 dX9_rectify_110 dX9_rectify_112 dX9_rectify_115 (by decide) (by decide) (by decide) (by decide) (by decide) (by decide) (Option.some.inj h)
        · exact wp_throwS X Tt Qr.x (text := "the word has not as many letters as the filling boxes") rfl (by decide) kw548 kw21 (by decide) xg176 xn176 xo176 dX9_rectify_71 dX9_rectify_74 dX9_rectify_75 dX9_rectify_77 dX9_rectify_80 (by decide) (by decide) (by decide) (by decide) (by decide) (by decide) (Option.some.inj h)
      · refine wp_sub (lv' := []) [] rfl ?_
        exact tX9_rectify_42 hst0 X hcd Tt Qr   _ h
/-! TableauBench.turn()V -/
def rmX9_turn : Room := { frames := 6, cells := 1, slots := 6, locals := 96 }
def fX9_turn_39 (K78 : Nat → Mem → Option ((String ⊕ Unit) × Mem)) : Nat → Nat → Int32 → Mem → Option ((String ⊕ Unit) × Mem)
  | 0, _, _, _ => none
  | n + 1, x0, x1, F => if x1 < 1 then (K78 x0 F) else ((gfR F x0 8 5).bind fun v45 => (obj F v45 6).bind fun _ => (mX7_slideInto F v45 0 0).bind fun v50 => (gfR v50.2 x0 8 2).bind fun v55 => (gfR v50.2 x0 8 5).bind fun v60 => (gfR v50.2 v60 6 0).bind fun v63 => (rdI v50.2 0 v63 v50.1).bind fun v67 => (obj v50.2 v55 6).bind fun _ => (mX7_put v50.2 v55 v50.1 v67 x1).bind fun v69 => (fX9_turn_39  K78 n) x0 (x1 + (-1)) v69)
set_option maxRecDepth 100000 in
set_option maxHeartbeats 4000000 in
theorem tX9_turn_39 {l : Launch} {D : va_G} {cy : Nat → ClassId} (hst0 : l.stackTraces = false) {C : Cx} {res : (String ⊕ Unit) × Mem} (X : Fx C cX9_turn RX9 none rmX9_turn 3) (hcd : CD C l D cy) (Tt : TT C) (Qr : TQV C 1 6 res) {K78 : Nat → Mem → Option ((String ⊕ Unit) × Mem)} (hK78 : ∀ (x0 : Nat) (F : Mem), K78 x0 F = some res → Wp C 0 0 78 [(0, .ref x0)] [] F) : ∀ (n : Nat) (x0 : Nat) (x1 : Int32) (F : Mem), fX9_turn_39 K78 n x0 x1 F = some res → Wp C 0 0 39 [(0, .ref x0), (1, .int x1)] [] F := by
  intro n
  induction n with
  | zero =>
    intro x0 x1 F h
    rw [fX9_turn_39.eq_1] at h
    cases h
  | succ n ih =>
    intro x0 x1 F h
    rw [fX9_turn_39.eq_2] at h
    refine wp_iload_n X dX9_turn_39 1 rfl ?_
    refine wp_iconst X (v := 1) dX9_turn_40 (by decide) ?_
    refine wp_icmp_lt X (tgt := 78) dX9_turn_41 (by decide) h (fun h => ?_) (fun h => ?_)
    · refine wp_sub (lv' := [(0, .ref x0)]) [0] rfl ?_
      exact hK78 _ _ h
    · refine wp_aload_n X dX9_turn_44 0 rfl ?_
      refine wp_getR X (T := TX9) (N := 13) (ci := 8) (k := 5) rfl (by decide) (by decide) inBX9 kw184 dX9_turn_45 h (fun v45 h => ?_)
      refine wp_iconst X (v := 0) dX9_turn_48 (by decide) ?_
      refine wp_iconst X (v := 0) dX9_turn_49 (by decide) ?_
      refine wp_callVI X (rm := rmX7_slideInto) (T := TX7) (N := 2) (ci := 6) (n := 2) [.int 0, .int 0] hcd (fun q hq => cX7_slideInto_ok hq) kw645 kw646 kw647 kw2 kw648 (by decide +kernel) (by decide) (by decide) (cs2 := 0) (sl2 := 0) rfl rfl rfl (by decide) rfl rfl (Nat.le_of_ble_eq_true rfl) dX9_turn_50 h (fun v50 h => ?_)
      refine wp_istore_n X (lv' := [(0, .ref x0), (1, .int x1), (2, .int v50.1)]) dX9_turn_53 (by decide) [1, 2, 0] rfl ?_
      refine wp_aload_n X dX9_turn_54 0 rfl ?_
      refine wp_getR X (T := TX9) (N := 13) (ci := 8) (k := 2) rfl (by decide) (by decide) inBX9 kw181 dX9_turn_55 h (fun v55 h => ?_)
      refine wp_iload_n X dX9_turn_58 2 rfl ?_
      refine wp_aload_n X dX9_turn_59 0 rfl ?_
      refine wp_getR X (T := TX9) (N := 13) (ci := 8) (k := 5) rfl (by decide) (by decide) inBX9 kw184 dX9_turn_60 h (fun v60 h => ?_)
      refine wp_getR X (T := TX7) (N := 2) (ci := 6) (k := 0) rfl (by decide) (by decide) inBX7 kw43 dX9_turn_63 h (fun v63 h => ?_)
      refine wp_iload_n X dX9_turn_66 2 rfl ?_
      refine wp_iaload X dX9_turn_67 h (fun v67 h => ?_)
      refine wp_iload_n X dX9_turn_68 1 rfl ?_
      refine wp_callVV X (rm := rmX7_put) (T := TX7) (N := 2) (ci := 6) (n := 3) [.int v50.1, .int v67, .int x1] hcd (fun q hq => cX7_put_ok hq) kw662 kw264 kw265 kw2 kw266 (by decide +kernel) (by decide) (by decide) (cs2 := 0) (sl2 := 0) rfl rfl rfl (by decide) rfl rfl (Nat.le_of_ble_eq_true rfl) dX9_turn_69 h (fun v69 h => ?_)
      refine wp_iinc X (v := x1 + (-1)) (lv' := [(0, .ref x0), (1, .int (x1 + (-1)))]) dX9_turn_72 (by decide) 1 rfl rfl [1, 0] rfl ?_
      refine wp_goto X (tgt := 39) dX9_turn_75 (by decide) ?_
      exact ih _ _ _ h
def mX9_turn (F : Mem) (x0 : Nat) : Option ((String ⊕ Unit) × Mem) := (gfR F x0 8 2).bind fun v1 => (obj F v1 6).bind fun _ => (mX7_isStandard F v1).bind fun v4 => if v4.1 = 0 then (some (Sum.inl "java/lang/IllegalStateException", v4.2)) else ((gfR v4.2 x0 8 5).bind fun v21 => (gfR v4.2 x0 8 2).bind fun v25 => (obj v4.2 v21 6).bind fun _ => (mX7_copyFrom v4.2 v21 v25).bind fun v28 => (gfR v28 x0 8 2).bind fun v32 => (obj v28 v32 6).bind fun _ => (mX7_countBoxes v28 v32).bind fun v35 => fX9_turn_39  (fun (x0 : Nat) (F : Mem) => (pf F x0 8 4 (.int 1)).bind fun F80 => some (Sum.inr (), F80)) FU x0 v35.1 v35.2)
set_option maxRecDepth 100000 in
set_option maxHeartbeats 4000000 in
theorem cX9_turn_ok {l : Launch} {D : va_G} {cy : Nat → ClassId} (hst0 : l.stackTraces = false) {F : Mem} {x0 : Nat} {res : (String ⊕ Unit) × Mem} (h : mX9_turn F x0 = some res) : TV l yX9_turn cX9_turn 3 none rmX9_turn D cy F [.ref x0] res := by
  refine tv_of hst0 (by decide) (Nat.le_of_ble_eq_true rfl) [(0, .ref x0)] rfl (fun C X hcd Tt Qr => ?_)
  unfold mX9_turn at h
  refine wp_aload_n X dX9_turn_0 0 rfl ?_
  refine wp_getR X (T := TX9) (N := 13) (ci := 8) (k := 2) rfl (by decide) (by decide) inBX9 kw181 dX9_turn_1 h (fun v1 h => ?_)
  refine wp_callVI X (rm := rmX7_isStandard) (T := TX7) (N := 2) (ci := 6) (n := 0) [] hcd (fun q hq => cX7_isStandard_ok hq) kw656 kw657 kw658 kw2 kw659 (by decide +kernel) (by decide) (by decide) (cs2 := 0) (sl2 := 0) rfl rfl rfl (by decide) rfl rfl (Nat.le_of_ble_eq_true rfl) dX9_turn_4 h (fun v4 h => ?_)
  refine wp_if_ne X (tgt := 20) dX9_turn_7 (by decide) h (fun h => ?_) (fun h => ?_)
  · refine wp_aload_n X dX9_turn_20 0 rfl ?_
    refine wp_getR X (T := TX9) (N := 13) (ci := 8) (k := 5) rfl (by decide) (by decide) inBX9 kw184 dX9_turn_21 h (fun v21 h => ?_)
    refine wp_aload_n X dX9_turn_24 0 rfl ?_
    refine wp_getR X (T := TX9) (N := 13) (ci := 8) (k := 2) rfl (by decide) (by decide) inBX9 kw181 dX9_turn_25 h (fun v25 h => ?_)
    refine wp_callVV X (rm := rmX7_copyFrom) (T := TX7) (N := 2) (ci := 6) (n := 1) [.ref v25] hcd (fun q hq => cX7_copyFrom_ok hq) kw564 kw565 kw566 kw2 kw567 (by decide +kernel) (by decide) (by decide) (cs2 := 0) (sl2 := 0) rfl rfl rfl (by decide) rfl rfl (Nat.le_of_ble_eq_true rfl) dX9_turn_28 h (fun v28 h => ?_)
    refine wp_aload_n X dX9_turn_31 0 rfl ?_
    refine wp_getR X (T := TX9) (N := 13) (ci := 8) (k := 2) rfl (by decide) (by decide) inBX9 kw181 dX9_turn_32 h (fun v32 h => ?_)
    refine wp_callVI X (rm := rmX7_countBoxes) (T := TX7) (N := 2) (ci := 6) (n := 0) [] hcd (fun q hq => cX7_countBoxes_ok hq) kw569 kw570 kw571 kw2 kw572 (by decide +kernel) (by decide) (by decide) (cs2 := 0) (sl2 := 0) rfl rfl rfl (by decide) rfl rfl (Nat.le_of_ble_eq_true rfl) dX9_turn_35 h (fun v35 h => ?_)
    refine wp_istore_n X (lv' := [(0, .ref x0), (1, .int v35.1)]) dX9_turn_38 (by decide) [1, 0] rfl ?_
    refine tX9_turn_39 hst0 X hcd Tt Qr  ?_ FU _ _ _ h
    · intro x0 F h
      refine wp_aload_n X dX9_turn_78 0 rfl ?_
      refine wp_iconst X (v := 1) dX9_turn_79 (by decide) ?_
      refine wp_put X (T := TX9) (N := 13) (ci := 8) (k := 4) tyX9 rfl (by decide) (by decide) inBX9 kw183 tyX9_ok nmX9 rfl rfl rfl rfl dX9_turn_80 h (fun F80 h => ?_)
      exact wp_returnT X Qr (by decide) (by decide) rfl dX9_turn_83 h
  · exact wp_throwS X Tt Qr.x (text := "P is not standard") rfl (by decide) kw548 kw21 (by decide) xg176 xn176 xo176 dX9_turn_10 dX9_turn_13 dX9_turn_14 dX9_turn_16 dX9_turn_19 (by decide) (by decide) (by decide) (by decide) (by decide) (by decide) (Option.some.inj h)
/-! TableauBench.draw(IJ)J -/
def rmX9_draw : Room := { frames := 7, cells := 1, slots := 6, locals := 117 }
def fX9_draw_33 (K84 : Nat → Mem → Option ((String ⊕ Int64) × Mem)) : Nat → Nat → Int32 → Mem → Option ((String ⊕ Int64) × Mem)
  | 0, _, _, _ => none
  | n + 1, x0, x5, F => if x5 < 1 then (K84 x0 F) else ((gfR F x0 8 8).bind fun v40 => (obj F v40 1).bind fun _ => (mX1_goToCorner F v40 x5).bind fun v45 => (gfR v45 x0 8 2).bind fun v49 => (gfR v45 x0 8 8).bind fun v53 => (gfI v45 v53 1 2).bind fun v56 => (gfR v45 x0 8 8).bind fun v60 => (gfI v45 v60 1 3).bind fun v63 => (obj v45 v49 6).bind fun _ => (mX7_put v45 v49 v56 v63 x5).bind fun v68 => (gfR v68 x0 8 8).bind fun v72 => (obj v68 v72 1).bind fun _ => (mX1_dropCorner v68 v72).bind fun v75 => (fX9_draw_33  K84 n) x0 (x5 + (-1)) v75)
set_option maxRecDepth 100000 in
set_option maxHeartbeats 4000000 in
theorem tX9_draw_33 {l : Launch} {D : va_G} {cy : Nat → ClassId} (hst0 : l.stackTraces = false) {C : Cx} {res : (String ⊕ Int64) × Mem} (X : Fx C cX9_draw RX9 (some .long) rmX9_draw 6) (hcd : CD C l D cy) (Tt : TT C) (Qr : TQL C 1 6 res) {K84 : Nat → Mem → Option ((String ⊕ Int64) × Mem)} (hK84 : ∀ (x0 : Nat) (F : Mem), K84 x0 F = some res → Wp C 1 6 84 [(0, .ref x0)] [] F) : ∀ (n : Nat) (x0 : Nat) (x5 : Int32) (F : Mem), fX9_draw_33 K84 n x0 x5 F = some res → Wp C 1 6 33 [(0, .ref x0), (5, .int x5)] [] F := by
  intro n
  induction n with
  | zero =>
    intro x0 x5 F h
    rw [fX9_draw_33.eq_1] at h
    cases h
  | succ n ih =>
    intro x0 x5 F h
    rw [fX9_draw_33.eq_2] at h
    refine wp_iload X dX9_draw_33 1 rfl ?_
    refine wp_iconst X (v := 1) dX9_draw_35 (by decide) ?_
    refine wp_icmp_lt X (tgt := 84) dX9_draw_36 (by decide) h (fun h => ?_) (fun h => ?_)
    · refine wp_sub (lv' := [(0, .ref x0)]) [0] rfl ?_
      exact hK84 _ _ h
    · refine wp_aload_n X dX9_draw_39 0 rfl ?_
      refine wp_getR X (T := TX9) (N := 13) (ci := 8) (k := 8) rfl (by decide) (by decide) inBX9 kw187 dX9_draw_40 h (fun v40 h => ?_)
      refine wp_iload X dX9_draw_43 1 rfl ?_
      refine wp_callVV X (rm := rmX1_goToCorner) (T := TX1) (N := 4) (ci := 1) (n := 1) [.int x5] hcd (fun q hq => cX1_goToCorner_ok hq) kw676 kw677 kw678 kw4 kw679 (by decide +kernel) (by decide) (by decide) (cs2 := 1) (sl2 := 6) rfl rfl rfl (by decide) rfl rfl (Nat.le_of_ble_eq_true rfl) dX9_draw_45 h (fun v45 h => ?_)
      refine wp_aload_n X dX9_draw_48 0 rfl ?_
      refine wp_getR X (T := TX9) (N := 13) (ci := 8) (k := 2) rfl (by decide) (by decide) inBX9 kw181 dX9_draw_49 h (fun v49 h => ?_)
      refine wp_aload_n X dX9_draw_52 0 rfl ?_
      refine wp_getR X (T := TX9) (N := 13) (ci := 8) (k := 8) rfl (by decide) (by decide) inBX9 kw187 dX9_draw_53 h (fun v53 h => ?_)
      refine wp_getI X (T := TX1) (N := 4) (ci := 1) (k := 2) rfl (by decide) (by decide) inBX1 kw80 dX9_draw_56 h (fun v56 h => ?_)
      refine wp_aload_n X dX9_draw_59 0 rfl ?_
      refine wp_getR X (T := TX9) (N := 13) (ci := 8) (k := 8) rfl (by decide) (by decide) inBX9 kw187 dX9_draw_60 h (fun v60 h => ?_)
      refine wp_getI X (T := TX1) (N := 4) (ci := 1) (k := 3) rfl (by decide) (by decide) inBX1 kw82 dX9_draw_63 h (fun v63 h => ?_)
      refine wp_iload X dX9_draw_66 1 rfl ?_
      refine wp_callVV X (rm := rmX7_put) (T := TX7) (N := 2) (ci := 6) (n := 3) [.int v56, .int v63, .int x5] hcd (fun q hq => cX7_put_ok hq) kw662 kw264 kw265 kw2 kw266 (by decide +kernel) (by decide) (by decide) (cs2 := 1) (sl2 := 6) rfl rfl rfl (by decide) rfl rfl (Nat.le_of_ble_eq_true rfl) dX9_draw_68 h (fun v68 h => ?_)
      refine wp_aload_n X dX9_draw_71 0 rfl ?_
      refine wp_getR X (T := TX9) (N := 13) (ci := 8) (k := 8) rfl (by decide) (by decide) inBX9 kw187 dX9_draw_72 h (fun v72 h => ?_)
      refine wp_callVV X (rm := rmX1_dropCorner) (T := TX1) (N := 4) (ci := 1) (n := 0) [] hcd (fun q hq => cX1_dropCorner_ok hq) kw708 kw709 kw710 kw4 kw711 (by decide +kernel) (by decide) (by decide) (cs2 := 1) (sl2 := 6) rfl rfl rfl (by decide) rfl rfl (Nat.le_of_ble_eq_true rfl) dX9_draw_75 h (fun v75 h => ?_)
      refine wp_iinc X (v := x5 + (-1)) (lv' := [(0, .ref x0), (5, .int (x5 + (-1)))]) dX9_draw_78 (by decide) 1 rfl rfl [1, 0] rfl ?_
      refine wp_goto X (tgt := 33) dX9_draw_81 (by decide) ?_
      exact ih _ _ _ h
def mX9_draw (F : Mem) (x0 : Nat) (x1 : Int32) (x2 : Int64) : Option ((String ⊕ Int64) × Mem) := (obj F x0 8).bind fun _ => thn (mX9_slotNumbered F x0 x1) fun v2 F2 => (gfR F2 x0 8 2).bind fun v8 => (obj F2 v8 6).bind fun _ => (mX7_takeShape F2 v8 v2).bind fun v13 => (gfR v13 x0 8 8).bind fun v17 => (obj v13 v17 1).bind fun _ => (mX1_start v13 v17 v2 x2).bind fun v23 => (obj v23 v2 3).bind fun _ => (mX4_countBoxes v23 v2).bind fun v28 => fX9_draw_33  (fun (x0 : Nat) (F : Mem) => (pf F x0 8 4 (.int 1)).bind fun F86 => (gfR F86 x0 8 8).bind fun v90 => (gfJ F86 v90 1 1).bind fun v93 => some (Sum.inr v93, F86)) FU x0 v28.1 v28.2
set_option maxRecDepth 100000 in
set_option maxHeartbeats 4000000 in
theorem cX9_draw_ok {l : Launch} {D : va_G} {cy : Nat → ClassId} (hst0 : l.stackTraces = false) {F : Mem} {x0 : Nat} {x1 : Int32} {x2 : Int64} {res : (String ⊕ Int64) × Mem} (h : mX9_draw F x0 x1 x2 = some res) : TL l yX9_draw cX9_draw 6 (some .long) rmX9_draw D cy F [.ref x0, .int x1, .long x2] res := by
  refine tl_of hst0 (by decide) (Nat.le_of_ble_eq_true rfl) [(0, .ref x0), (1, .int x1), (2, .long x2)] rfl (fun C X hcd Tt Qr => ?_)
  unfold mX9_draw at h
  refine wp_aload_n X dX9_draw_0 0 rfl ?_
  refine wp_iload_n X dX9_draw_1 1 rfl ?_
  refine wp_callTR X Tt (rm := rmX9_slotNumbered) (T := TX9) (N := 13) (ci := 8) (n := 1) [.int x1] Qr.x hcd (fun q hq => cX9_slotNumbered_ok hst0 hq) kw283 kw285 ks1 kw1 kw286 (by decide +kernel) (by decide) (by decide) (cs2 := 1) (sl2 := 6) rfl rfl (by decide) (by decide) rfl (by decide) rfl rfl (Nat.le_of_ble_eq_true rfl) dX9_draw_2 h (fun v2 F2 h => ?_)
  refine wp_astore X (lv' := [(0, .ref x0), (2, .long x2), (4, .ref v2)]) dX9_draw_5 (by decide) [1, 3, 0] rfl ?_
  refine wp_aload_n X dX9_draw_7 0 rfl ?_
  refine wp_getR X (T := TX9) (N := 13) (ci := 8) (k := 2) rfl (by decide) (by decide) inBX9 kw181 dX9_draw_8 h (fun v8 h => ?_)
  refine wp_aload X dX9_draw_11 2 rfl ?_
  refine wp_callVV X (rm := rmX7_takeShape) (T := TX7) (N := 2) (ci := 6) (n := 1) [.ref v2] hcd (fun q hq => cX7_takeShape_ok hq) kw670 kw620 kw621 kw2 kw622 (by decide +kernel) (by decide) (by decide) (cs2 := 1) (sl2 := 6) rfl rfl rfl (by decide) rfl rfl (Nat.le_of_ble_eq_true rfl) dX9_draw_13 h (fun v13 h => ?_)
  refine wp_aload_n X dX9_draw_16 0 rfl ?_
  refine wp_getR X (T := TX9) (N := 13) (ci := 8) (k := 8) rfl (by decide) (by decide) inBX9 kw187 dX9_draw_17 h (fun v17 h => ?_)
  refine wp_aload X dX9_draw_20 2 rfl ?_
  refine wp_lload_n X dX9_draw_22 1 rfl ?_
  refine wp_callVV X (rm := rmX1_start) (T := TX1) (N := 4) (ci := 1) (n := 2) [.ref v2, .long x2] hcd (fun q hq => cX1_start_ok hq) kw671 kw672 kw673 kw4 kw674 (by decide +kernel) (by decide) (by decide) (cs2 := 1) (sl2 := 6) rfl rfl rfl (by decide) rfl rfl (Nat.le_of_ble_eq_true rfl) dX9_draw_23 h (fun v23 h => ?_)
  refine wp_aload X dX9_draw_26 2 rfl ?_
  refine wp_callVI X (rm := rmX4_countBoxes) (T := TX4) (N := 1) (ci := 3) (n := 0) [] hcd (fun q hq => cX4_countBoxes_ok hq) kw613 kw366 kw367 kw3 kw368 (by decide +kernel) (by decide) (by decide) (cs2 := 1) (sl2 := 6) rfl rfl rfl (by decide) rfl rfl (Nat.le_of_ble_eq_true rfl) dX9_draw_28 h (fun v28 h => ?_)
  refine wp_istore X (lv' := [(0, .ref x0), (5, .int v28.1)]) dX9_draw_31 (by decide) [1, 0] rfl ?_
  refine tX9_draw_33 hst0 X hcd Tt Qr  ?_ FU _ _ _ h
  · intro x0 F h
    refine wp_aload_n X dX9_draw_84 0 rfl ?_
    refine wp_iconst X (v := 1) dX9_draw_85 (by decide) ?_
    refine wp_put X (T := TX9) (N := 13) (ci := 8) (k := 4) tyX9 rfl (by decide) (by decide) inBX9 kw183 tyX9_ok nmX9 rfl rfl rfl rfl dX9_draw_86 h (fun F86 h => ?_)
    refine wp_aload_n X dX9_draw_89 0 rfl ?_
    refine wp_getR X (T := TX9) (N := 13) (ci := 8) (k := 8) rfl (by decide) (by decide) inBX9 kw187 dX9_draw_90 h (fun v90 h => ?_)
    refine wp_getJ X (T := TX1) (N := 4) (ci := 1) (k := 1) rfl (by decide) (by decide) inBX1 kw78 dX9_draw_93 h (fun v93 h => ?_)
    exact wp_lreturnT X Qr (by decide) (by decide) rfl dX9_draw_96 h
/-! TableauBench.standard(I)J -/
def rmX9_standard : Room := { frames := 7, cells := 1, slots := 6, locals := 117 }
def mX9_standard (F : Mem) (x0 : Nat) (x1 : Int32) : Option ((String ⊕ Int64) × Mem) := (gfR F x0 8 10).bind fun v1 => (obj F x0 8).bind fun _ => thn (mX9_slotNumbered F x0 x1) fun v6 F6 => (obj F6 v1 5).bind fun _ => (mX6_count F6 v1 v6).bind fun v9 => some (Sum.inr v9.1, v9.2)
set_option maxRecDepth 100000 in
set_option maxHeartbeats 4000000 in
theorem cX9_standard_ok {l : Launch} {D : va_G} {cy : Nat → ClassId} (hst0 : l.stackTraces = false) {F : Mem} {x0 : Nat} {x1 : Int32} {res : (String ⊕ Int64) × Mem} (h : mX9_standard F x0 x1 = some res) : TL l yX9_standard cX9_standard 2 (some .long) rmX9_standard D cy F [.ref x0, .int x1] res := by
  refine tl_of hst0 (by decide) (Nat.le_of_ble_eq_true rfl) [(0, .ref x0), (1, .int x1)] rfl (fun C X hcd Tt Qr => ?_)
  unfold mX9_standard at h
  refine wp_aload_n X dX9_standard_0 0 rfl ?_
  refine wp_getR X (T := TX9) (N := 13) (ci := 8) (k := 10) rfl (by decide) (by decide) inBX9 kw189 dX9_standard_1 h (fun v1 h => ?_)
  refine wp_aload_n X dX9_standard_4 0 rfl ?_
  refine wp_iload_n X dX9_standard_5 1 rfl ?_
  refine wp_callTR X Tt (rm := rmX9_slotNumbered) (T := TX9) (N := 13) (ci := 8) (n := 1) [.int x1] Qr.x hcd (fun q hq => cX9_slotNumbered_ok hst0 hq) kw283 kw285 ks1 kw1 kw286 (by decide +kernel) (by decide) (by decide) (cs2 := 1) (sl2 := 6) rfl rfl (by decide) (by decide) rfl (by decide) rfl rfl (Nat.le_of_ble_eq_true rfl) dX9_standard_6 h (fun v6 F6 h => ?_)
  refine wp_callVL X (rm := rmX6_count) (T := TX6) (N := 1) (ci := 5) (n := 1) [.ref v6] hcd (fun q hq => cX6_count_ok hq) kw719 kw720 kw721 kw6 kw722 (by decide +kernel) (by decide) (by decide) (cs2 := 1) (sl2 := 6) rfl rfl rfl (by decide) rfl rfl (Nat.le_of_ble_eq_true rfl) dX9_standard_9 h (fun v9 h => ?_)
  exact wp_lreturnT X Qr (by decide) (by decide) rfl dX9_standard_12 h
/-! TableauBench.fillings(II)J -/
def rmX9_fillings : Room := { frames := 7, cells := 2, slots := 12, locals := 117 }
def mX9_fillings (F : Mem) (x0 : Nat) (x1 : Int32) (x2 : Int32) : Option ((String ⊕ Int64) × Mem) := (obj F x0 8).bind fun _ => thn (mX9_slotNumbered F x0 x1) fun v2 F2 => (obj F2 x0 8).bind fun _ => thn (mX9_wordNumbered F2 x0 x2) fun v8 F8 => (gfI F8 v8 7 1).bind fun v15 => (obj F8 v2 3).bind fun _ => (mX4_countBoxes F8 v2).bind fun v19 => if v15 = v19.1 then ((gfR v19.2 x0 8 11).bind fun v28 => (obj v19.2 v28 0).bind fun _ => (mX0_count v19.2 v28 v2 v8).bind fun v34 => some (Sum.inr v34.1, v34.2)) else (some (Sum.inr 0, v19.2))
set_option maxRecDepth 100000 in
set_option maxHeartbeats 4000000 in
theorem cX9_fillings_ok {l : Launch} {D : va_G} {cy : Nat → ClassId} (hst0 : l.stackTraces = false) {F : Mem} {x0 : Nat} {x1 : Int32} {x2 : Int32} {res : (String ⊕ Int64) × Mem} (h : mX9_fillings F x0 x1 x2 = some res) : TL l yX9_fillings cX9_fillings 5 (some .long) rmX9_fillings D cy F [.ref x0, .int x1, .int x2] res := by
  refine tl_of hst0 (by decide) (Nat.le_of_ble_eq_true rfl) [(0, .ref x0), (1, .int x1), (2, .int x2)] rfl (fun C X hcd Tt Qr => ?_)
  unfold mX9_fillings at h
  refine wp_aload_n X dX9_fillings_0 0 rfl ?_
  refine wp_iload_n X dX9_fillings_1 1 rfl ?_
  refine wp_callTR X Tt (rm := rmX9_slotNumbered) (T := TX9) (N := 13) (ci := 8) (n := 1) [.int x1] Qr.x hcd (fun q hq => cX9_slotNumbered_ok hst0 hq) kw283 kw285 ks1 kw1 kw286 (by decide +kernel) (by decide) (by decide) (cs2 := 1) (sl2 := 6) rfl rfl (by decide) (by decide) rfl (by decide) rfl rfl (Nat.le_of_ble_eq_true rfl) dX9_fillings_2 h (fun v2 F2 h => ?_)
  refine wp_astore_n X (lv' := [(0, .ref x0), (2, .int x2), (3, .ref v2)]) dX9_fillings_5 (by decide) [1, 3, 0] rfl ?_
  refine wp_aload_n X dX9_fillings_6 0 rfl ?_
  refine wp_iload_n X dX9_fillings_7 1 rfl ?_
  refine wp_callTR X Tt (rm := rmX9_wordNumbered) (T := TX9) (N := 13) (ci := 8) (n := 1) [.int x2] Qr.x hcd (fun q hq => cX9_wordNumbered_ok hst0 hq) kw487 kw489 ks3 kw1 kw490 (by decide +kernel) (by decide) (by decide) (cs2 := 2) (sl2 := 12) rfl rfl (by decide) (by decide) rfl (by decide) rfl rfl (Nat.le_of_ble_eq_true rfl) dX9_fillings_8 h (fun v8 F8 h => ?_)
  refine wp_astore X (lv' := [(0, .ref x0), (3, .ref v2), (4, .ref v8)]) dX9_fillings_11 (by decide) [1, 3, 0] rfl ?_
  refine wp_aload X dX9_fillings_13 2 rfl ?_
  refine wp_getI X (T := TX8) (N := 2) (ci := 7) (k := 1) rfl (by decide) (by decide) inBX8 kw172 dX9_fillings_15 h (fun v15 h => ?_)
  refine wp_aload_n X dX9_fillings_18 1 rfl ?_
  refine wp_callVI X (rm := rmX4_countBoxes) (T := TX4) (N := 1) (ci := 3) (n := 0) [] hcd (fun q hq => cX4_countBoxes_ok hq) kw613 kw366 kw367 kw3 kw368 (by decide +kernel) (by decide) (by decide) (cs2 := 2) (sl2 := 12) rfl rfl rfl (by decide) rfl rfl (Nat.le_of_ble_eq_true rfl) dX9_fillings_19 h (fun v19 h => ?_)
  refine wp_icmp_eq X (tgt := 27) dX9_fillings_22 (by decide) h (fun h => ?_) (fun h => ?_)
  · refine wp_aload_n X dX9_fillings_27 0 rfl ?_
    refine wp_getR X (T := TX9) (N := 13) (ci := 8) (k := 11) rfl (by decide) (by decide) inBX9 kw190 dX9_fillings_28 h (fun v28 h => ?_)
    refine wp_aload_n X dX9_fillings_31 1 rfl ?_
    refine wp_aload X dX9_fillings_32 2 rfl ?_
    refine wp_callVL X (rm := rmX0_count) (T := TX0) (N := 4) (ci := 0) (n := 2) [.ref v2, .ref v8] hcd (fun q hq => cX0_count_ok hq) kw741 kw742 kw743 kw7 kw744 (by decide +kernel) (by decide) (by decide) (cs2 := 2) (sl2 := 12) rfl rfl rfl (by decide) rfl rfl (Nat.le_of_ble_eq_true rfl) dX9_fillings_34 h (fun v34 h => ?_)
    exact wp_lreturnT X Qr (by decide) (by decide) rfl dX9_fillings_37 h
  · refine wp_lconst X (v := 0) dX9_fillings_25 (by decide) ?_
    exact wp_lreturnT X Qr (by decide) (by decide) rfl dX9_fillings_26 h
/-! TableauBench.coefficient(III)J -/
def rmX9_coefficient : Room := { frames := 32, cells := 3, slots := 18, locals := 834 }
def mX9_coefficient (F : Mem) (x0 : Nat) (x1 : Int32) (x2 : Int32) (x3 : Int32) : Option ((String ⊕ Int64) × Mem) := (obj F x0 8).bind fun _ => thn (mX9_slotNumbered F x0 x1) fun v2 F2 => (obj F2 x0 8).bind fun _ => thn (mX9_slotNumbered F2 x0 x2) fun v9 F9 => (obj F9 x0 8).bind fun _ => thn (mX9_slotNumbered F9 x0 x3) fun v16 F16 => (obj F16 v16 3).bind fun _ => (mX4_contains F16 v16 v2).bind fun v25 => if v25.1 = 0 then (some (Sum.inr 0, v25.2)) else ((obj v25.2 v16 3).bind fun _ => (mX4_countBoxes v25.2 v16).bind fun v33 => (obj v33.2 v2 3).bind fun _ => (mX4_countBoxes v33.2 v2).bind fun v38 => (obj v38.2 v9 3).bind fun _ => (mX4_countBoxes v38.2 v9).bind fun v43 => if v33.1 = (v38.1 + v43.1) then ((gfR v43.2 x0 8 12).bind fun v53 => (obj v43.2 v53 2).bind fun _ => (mX2_count v43.2 v53 v2 v9 v16).bind fun v62 => some (Sum.inr v62.1, v62.2)) else (some (Sum.inr 0, v43.2)))
set_option maxRecDepth 100000 in
set_option maxHeartbeats 4000000 in
theorem cX9_coefficient_ok {l : Launch} {D : va_G} {cy : Nat → ClassId} (hst0 : l.stackTraces = false) {F : Mem} {x0 : Nat} {x1 : Int32} {x2 : Int32} {x3 : Int32} {res : (String ⊕ Int64) × Mem} (h : mX9_coefficient F x0 x1 x2 x3 = some res) : TL l yX9_coefficient cX9_coefficient 7 (some .long) rmX9_coefficient D cy F [.ref x0, .int x1, .int x2, .int x3] res := by
  refine tl_of hst0 (by decide) (Nat.le_of_ble_eq_true rfl) [(0, .ref x0), (1, .int x1), (2, .int x2), (3, .int x3)] rfl (fun C X hcd Tt Qr => ?_)
  unfold mX9_coefficient at h
  refine wp_aload_n X dX9_coefficient_0 0 rfl ?_
  refine wp_iload_n X dX9_coefficient_1 1 rfl ?_
  refine wp_callTR X Tt (rm := rmX9_slotNumbered) (T := TX9) (N := 13) (ci := 8) (n := 1) [.int x1] Qr.x hcd (fun q hq => cX9_slotNumbered_ok hst0 hq) kw283 kw285 ks1 kw1 kw286 (by decide +kernel) (by decide) (by decide) (cs2 := 1) (sl2 := 6) rfl rfl (by decide) (by decide) rfl (by decide) rfl rfl (Nat.le_of_ble_eq_true rfl) dX9_coefficient_2 h (fun v2 F2 h => ?_)
  refine wp_astore X (lv' := [(0, .ref x0), (2, .int x2), (3, .int x3), (4, .ref v2)]) dX9_coefficient_5 (by decide) [1, 3, 4, 0] rfl ?_
  refine wp_aload_n X dX9_coefficient_7 0 rfl ?_
  refine wp_iload_n X dX9_coefficient_8 1 rfl ?_
  refine wp_callTR X Tt (rm := rmX9_slotNumbered) (T := TX9) (N := 13) (ci := 8) (n := 1) [.int x2] Qr.x hcd (fun q hq => cX9_slotNumbered_ok hst0 hq) kw283 kw285 ks1 kw1 kw286 (by decide +kernel) (by decide) (by decide) (cs2 := 2) (sl2 := 12) rfl rfl (by decide) (by decide) rfl (by decide) rfl rfl (Nat.le_of_ble_eq_true rfl) dX9_coefficient_9 h (fun v9 F9 h => ?_)
  refine wp_astore X (lv' := [(0, .ref x0), (3, .int x3), (4, .ref v2), (5, .ref v9)]) dX9_coefficient_12 (by decide) [1, 3, 4, 0] rfl ?_
  refine wp_aload_n X dX9_coefficient_14 0 rfl ?_
  refine wp_iload_n X dX9_coefficient_15 1 rfl ?_
  refine wp_callTR X Tt (rm := rmX9_slotNumbered) (T := TX9) (N := 13) (ci := 8) (n := 1) [.int x3] Qr.x hcd (fun q hq => cX9_slotNumbered_ok hst0 hq) kw283 kw285 ks1 kw1 kw286 (by decide +kernel) (by decide) (by decide) (cs2 := 3) (sl2 := 18) rfl rfl (by decide) (by decide) rfl (by decide) rfl rfl (Nat.le_of_ble_eq_true rfl) dX9_coefficient_16 h (fun v16 F16 h => ?_)
  refine wp_astore X (lv' := [(0, .ref x0), (4, .ref v2), (5, .ref v9), (6, .ref v16)]) dX9_coefficient_19 (by decide) [1, 3, 4, 0] rfl ?_
  refine wp_aload X dX9_coefficient_21 3 rfl ?_
  refine wp_aload X dX9_coefficient_23 1 rfl ?_
  refine wp_callVI X (rm := rmX4_contains) (T := TX4) (N := 1) (ci := 3) (n := 1) [.ref v2] hcd (fun q hq => cX4_contains_ok hq) kw608 kw609 kw610 kw3 kw611 (by decide +kernel) (by decide) (by decide) (cs2 := 3) (sl2 := 18) rfl rfl rfl (by decide) rfl rfl (Nat.le_of_ble_eq_true rfl) dX9_coefficient_25 h (fun v25 h => ?_)
  refine wp_if_eq X (tgt := 50) dX9_coefficient_28 (by decide) h (fun h => ?_) (fun h => ?_)
  · refine wp_lconst X (v := 0) dX9_coefficient_50 (by decide) ?_
    exact wp_lreturnT X Qr (by decide) (by decide) rfl dX9_coefficient_51 h
  · refine wp_aload X dX9_coefficient_31 3 rfl ?_
    refine wp_callVI X (rm := rmX4_countBoxes) (T := TX4) (N := 1) (ci := 3) (n := 0) [] hcd (fun q hq => cX4_countBoxes_ok hq) kw613 kw366 kw367 kw3 kw368 (by decide +kernel) (by decide) (by decide) (cs2 := 3) (sl2 := 18) rfl rfl rfl (by decide) rfl rfl (Nat.le_of_ble_eq_true rfl) dX9_coefficient_33 h (fun v33 h => ?_)
    refine wp_aload X dX9_coefficient_36 1 rfl ?_
    refine wp_callVI X (rm := rmX4_countBoxes) (T := TX4) (N := 1) (ci := 3) (n := 0) [] hcd (fun q hq => cX4_countBoxes_ok hq) kw613 kw366 kw367 kw3 kw368 (by decide +kernel) (by decide) (by decide) (cs2 := 3) (sl2 := 18) rfl rfl rfl (by decide) rfl rfl (Nat.le_of_ble_eq_true rfl) dX9_coefficient_38 h (fun v38 h => ?_)
    refine wp_aload X dX9_coefficient_41 2 rfl ?_
    refine wp_callVI X (rm := rmX4_countBoxes) (T := TX4) (N := 1) (ci := 3) (n := 0) [] hcd (fun q hq => cX4_countBoxes_ok hq) kw613 kw366 kw367 kw3 kw368 (by decide +kernel) (by decide) (by decide) (cs2 := 3) (sl2 := 18) rfl rfl rfl (by decide) rfl rfl (Nat.le_of_ble_eq_true rfl) dX9_coefficient_43 h (fun v43 h => ?_)
    refine wp_iadd X dX9_coefficient_46 ?_
    refine wp_icmp_eq X (tgt := 52) dX9_coefficient_47 (by decide) h (fun h => ?_) (fun h => ?_)
    · refine wp_aload_n X dX9_coefficient_52 0 rfl ?_
      refine wp_getR X (T := TX9) (N := 13) (ci := 8) (k := 12) rfl (by decide) (by decide) inBX9 kw191 dX9_coefficient_53 h (fun v53 h => ?_)
      refine wp_aload X dX9_coefficient_56 1 rfl ?_
      refine wp_aload X dX9_coefficient_58 2 rfl ?_
      refine wp_aload X dX9_coefficient_60 3 rfl ?_
      refine wp_callVL X (rm := rmX2_count) (T := TX2) (N := 6) (ci := 2) (n := 3) [.ref v2, .ref v9, .ref v16] hcd (fun q hq => cX2_count_ok hq) kw771 kw772 kw773 kw8 kw774 (by decide +kernel) (by decide) (by decide) (cs2 := 3) (sl2 := 18) rfl rfl rfl (by decide) rfl rfl (Nat.le_of_ble_eq_true rfl) dX9_coefficient_62 h (fun v62 h => ?_)
      exact wp_lreturnT X Qr (by decide) (by decide) rfl dX9_coefficient_65 h
    · refine wp_lconst X (v := 0) dX9_coefficient_50 (by decide) ?_
      exact wp_lreturnT X Qr (by decide) (by decide) rfl dX9_coefficient_51 h
/-! TableauBench.character(II)J -/
def rmX9_character : Room := { frames := 33, cells := 3, slots := 18, locals := 1003 }
def mX9_character (F : Mem) (x0 : Nat) (x1 : Int32) (x2 : Int32) : Option ((String ⊕ Int64) × Mem) := (obj F x0 8).bind fun _ => thn (mX9_slotNumbered F x0 x1) fun v2 F2 => (obj F2 x0 8).bind fun _ => thn (mX9_slotNumbered F2 x0 x2) fun v8 F8 => (obj F8 v2 3).bind fun _ => (mX4_countBoxes F8 v2).bind fun v14 => (obj v14.2 v8 3).bind fun _ => (mX4_countBoxes v14.2 v8).bind fun v19 => if v14.1 = v19.1 then ((obj v19.2 v2 3).bind fun _ => (mX4_countBoxes v19.2 v2).bind fun v37 => if v37.1 ≤ 14 then ((mX3_characterOf v37.2 v2 v8).bind fun v59 => some (Sum.inr v59.1, v59.2)) else (some (Sum.inl "java/lang/UnsupportedOperationException", v37.2))) else (some (Sum.inl "java/lang/IllegalStateException", v19.2))
set_option maxRecDepth 100000 in
set_option maxHeartbeats 4000000 in
theorem cX9_character_ok {l : Launch} {D : va_G} {cy : Nat → ClassId} (hst0 : l.stackTraces = false) {F : Mem} {x0 : Nat} {x1 : Int32} {x2 : Int32} {res : (String ⊕ Int64) × Mem} (h : mX9_character F x0 x1 x2 = some res) : TL l yX9_character cX9_character 5 (some .long) rmX9_character D cy F [.ref x0, .int x1, .int x2] res := by
  refine tl_of hst0 (by decide) (Nat.le_of_ble_eq_true rfl) [(0, .ref x0), (1, .int x1), (2, .int x2)] rfl (fun C X hcd Tt Qr => ?_)
  unfold mX9_character at h
  refine wp_aload_n X dX9_character_0 0 rfl ?_
  refine wp_iload_n X dX9_character_1 1 rfl ?_
  refine wp_callTR X Tt (rm := rmX9_slotNumbered) (T := TX9) (N := 13) (ci := 8) (n := 1) [.int x1] Qr.x hcd (fun q hq => cX9_slotNumbered_ok hst0 hq) kw283 kw285 ks1 kw1 kw286 (by decide +kernel) (by decide) (by decide) (cs2 := 1) (sl2 := 6) rfl rfl (by decide) (by decide) rfl (by decide) rfl rfl (Nat.le_of_ble_eq_true rfl) dX9_character_2 h (fun v2 F2 h => ?_)
  refine wp_astore_n X (lv' := [(0, .ref x0), (2, .int x2), (3, .ref v2)]) dX9_character_5 (by decide) [1, 3, 0] rfl ?_
  refine wp_aload_n X dX9_character_6 0 rfl ?_
  refine wp_iload_n X dX9_character_7 1 rfl ?_
  refine wp_callTR X Tt (rm := rmX9_slotNumbered) (T := TX9) (N := 13) (ci := 8) (n := 1) [.int x2] Qr.x hcd (fun q hq => cX9_slotNumbered_ok hst0 hq) kw283 kw285 ks1 kw1 kw286 (by decide +kernel) (by decide) (by decide) (cs2 := 2) (sl2 := 12) rfl rfl (by decide) (by decide) rfl (by decide) rfl rfl (Nat.le_of_ble_eq_true rfl) dX9_character_8 h (fun v8 F8 h => ?_)
  refine wp_astore X (lv' := [(3, .ref v2), (4, .ref v8)]) dX9_character_11 (by decide) [3, 0] rfl ?_
  refine wp_aload_n X dX9_character_13 0 rfl ?_
  refine wp_callVI X (rm := rmX4_countBoxes) (T := TX4) (N := 1) (ci := 3) (n := 0) [] hcd (fun q hq => cX4_countBoxes_ok hq) kw613 kw366 kw367 kw3 kw368 (by decide +kernel) (by decide) (by decide) (cs2 := 2) (sl2 := 12) rfl rfl rfl (by decide) rfl rfl (Nat.le_of_ble_eq_true rfl) dX9_character_14 h (fun v14 h => ?_)
  refine wp_aload X dX9_character_17 1 rfl ?_
  refine wp_callVI X (rm := rmX4_countBoxes) (T := TX4) (N := 1) (ci := 3) (n := 0) [] hcd (fun q hq => cX4_countBoxes_ok hq) kw613 kw366 kw367 kw3 kw368 (by decide +kernel) (by decide) (by decide) (cs2 := 2) (sl2 := 12) rfl rfl rfl (by decide) rfl rfl (Nat.le_of_ble_eq_true rfl) dX9_character_19 h (fun v19 h => ?_)
  refine wp_icmp_eq X (tgt := 36) dX9_character_22 (by decide) h (fun h => ?_) (fun h => ?_)
  · refine wp_aload_n X dX9_character_36 0 rfl ?_
    refine wp_callVI X (rm := rmX4_countBoxes) (T := TX4) (N := 1) (ci := 3) (n := 0) [] hcd (fun q hq => cX4_countBoxes_ok hq) kw613 kw366 kw367 kw3 kw368 (by decide +kernel) (by decide) (by decide) (cs2 := 2) (sl2 := 12) rfl rfl rfl (by decide) rfl rfl (Nat.le_of_ble_eq_true rfl) dX9_character_37 h (fun v37 h => ?_)
    refine wp_bipush X (v := 14) dX9_character_40 (by decide) ?_
    refine wp_icmp_le X (tgt := 56) dX9_character_42 (by decide) h (fun h => ?_) (fun h => ?_)
    · refine wp_aload_n X dX9_character_56 0 rfl ?_
      refine wp_aload X dX9_character_57 1 rfl ?_
      refine wp_callSL X (rm := rmX3_characterOf) (n := 2) [.ref v2, .ref v8] hcd (fun q hq => cX3_characterOf_ok hq) kw790 kw791 kw22 kw792 (by decide +kernel) (by decide) (by decide) (cs2 := 2) (sl2 := 12) rfl rfl rfl rfl (Nat.le_of_ble_eq_true rfl) dX9_character_59 h (fun v59 h => ?_)
      exact wp_lreturnT X Qr (by decide) (by decide) rfl dX9_character_62 h
    · exact wp_throwSW X Tt Qr.x (text := "the shapes have too many boxes") rfl (by decide) kw464 kw19 (by decide) xg137 xn137 xo137 dX9_character_45 dX9_character_48 dX9_character_49 dX9_character_52 dX9_character_55 (by decide) (by decide) (by decide) (by decide) (by decide) (by decide) (Option.some.inj h)
  · exact wp_throwSW X Tt Qr.x (text := "the shapes have not as many boxes") rfl (by decide) kw548 kw21 (by decide) xg176 xn176 xo176 dX9_character_25 dX9_character_28 dX9_character_29 dX9_character_32 dX9_character_35 (by decide) (by decide) (by decide) (by decide) (by decide) (by decide) (Option.some.inj h)
