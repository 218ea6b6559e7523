/-! TableauBench$Tableau.clear()V -/
def rmX7_clear : Room := { frames := 1, cells := 0, slots := 0, locals := 23 }
def mX7_clear (F : Mem) (x0 : Nat) : Option (Mem) := (gfR F x0 6 0).bind fun v1 => (mJ7_fill_53178 F v1 0).bind fun v5 => some v5
set_option maxRecDepth 100000 in
set_option maxHeartbeats 4000000 in
theorem cX7_clear_ok {l : Launch} {D : va_G} {cy : Nat → ClassId} {F : Mem} {x0 : Nat} {res : Mem} (h : mX7_clear F x0 = some res) : MV l yX7_clear cX7_clear 1 none rmX7_clear D cy F [.ref x0] res := by
  refine mv_of (by decide) (Nat.le_of_ble_eq_true rfl) [(0, .ref x0)] rfl (fun C X hcd Qr => ?_)
  unfold mX7_clear at h
  refine wp_aload_n X dX7_clear_0 0 rfl ?_
  refine wp_getR X (T := TX7) (N := 2) (ci := 6) (k := 0) rfl (by decide) (by decide) inBX7 kw42 dX7_clear_1 h (fun v1 h => ?_)
  refine wp_iconst X (v := 0) dX7_clear_4 (by decide) ?_
  refine wp_callSV X (rm := rmJ7_fill_53178) (n := 2) [.ref v1, .int 0] hcd (fun q hq => cJ7_fill_53178_ok hq) kw243 kw244 kw20 kw245 (by decide +kernel) (by decide) (by decide) (cs2 := 0) (sl2 := 0) rfl rfl rfl rfl (Nat.le_of_ble_eq_true rfl) dX7_clear_5 h (fun v5 h => ?_)
  exact wp_return X Qr rfl dX7_clear_8 h
/-! TableauBench$Tableau.copyFrom(LTableauBench$Tableau;)V -/
def rmX7_copyFrom : Room := { frames := 1, cells := 0, slots := 0, locals := 64 }
def mX7_copyFrom (F : Mem) (x0 : Nat) (x1 : Nat) : Option (Mem) := (gfR F x1 6 0).bind fun v1 => (gfR F x0 6 0).bind fun v6 => (cpI F v1 0 v6 0 16).bind fun F12 => (gfR F12 x1 6 1).bind fun v16 => (gfR F12 x0 6 1).bind fun v21 => (cpI F12 v16 0 v21 0 384).bind fun F28 => some F28
set_option maxRecDepth 100000 in
set_option maxHeartbeats 4000000 in
theorem cX7_copyFrom_ok {l : Launch} {D : va_G} {cy : Nat → ClassId} {F : Mem} {x0 : Nat} {x1 : Nat} {res : Mem} (h : mX7_copyFrom F x0 x1 = some res) : MV l yX7_copyFrom cX7_copyFrom 2 none rmX7_copyFrom D cy F [.ref x0, .ref x1] res := by
  refine mv_of (by decide) (Nat.le_of_ble_eq_true rfl) [(0, .ref x0), (1, .ref x1)] rfl (fun C X hcd Qr => ?_)
  unfold mX7_copyFrom at h
  refine wp_aload_n X dX7_copyFrom_0 1 rfl ?_
  refine wp_getR X (T := TX7) (N := 2) (ci := 6) (k := 0) rfl (by decide) (by decide) inBX7 kw42 dX7_copyFrom_1 h (fun v1 h => ?_)
  refine wp_iconst X (v := 0) dX7_copyFrom_4 (by decide) ?_
  refine wp_aload_n X dX7_copyFrom_5 0 rfl ?_
  refine wp_getR X (T := TX7) (N := 2) (ci := 6) (k := 0) rfl (by decide) (by decide) inBX7 kw42 dX7_copyFrom_6 h (fun v6 h => ?_)
  refine wp_iconst X (v := 0) dX7_copyFrom_9 (by decide) ?_
  refine wp_bipush X (v := 16) dX7_copyFrom_10 (by decide) ?_
  refine wp_copyi X kw568 kw375 kw374 kw15 (by decide) (by decide) dX7_copyFrom_12 h (fun F12 h => ?_)
  refine wp_aload_n X dX7_copyFrom_15 1 rfl ?_
  refine wp_getR X (T := TX7) (N := 2) (ci := 6) (k := 1) rfl (by decide) (by decide) inBX7 kw44 dX7_copyFrom_16 h (fun v16 h => ?_)
  refine wp_iconst X (v := 0) dX7_copyFrom_19 (by decide) ?_
  refine wp_aload_n X dX7_copyFrom_20 0 rfl ?_
  refine wp_getR X (T := TX7) (N := 2) (ci := 6) (k := 1) rfl (by decide) (by decide) inBX7 kw44 dX7_copyFrom_21 h (fun v21 h => ?_)
  refine wp_iconst X (v := 0) dX7_copyFrom_24 (by decide) ?_
  refine wp_sipush X (v := 384) dX7_copyFrom_25 (by decide) ?_
  refine wp_copyi X kw568 kw375 kw374 kw15 (by decide) (by decide) dX7_copyFrom_28 h (fun F28 h => ?_)
  exact wp_return X Qr rfl dX7_copyFrom_31 h
/-! TableauBench$Tableau.takeShape(LTableauBench$Shape;)V -/
def rmX7_takeShape : Room := { frames := 2, cells := 0, slots := 0, locals := 64 }
def mX7_takeShape (F : Mem) (x0 : Nat) (x1 : Nat) : Option (Mem) := (obj F x0 6).bind fun _ => (mX7_clear F x0).bind fun v1 => (gfR v1 x1 3 0).bind fun v5 => (gfR v1 x0 6 0).bind fun v10 => (cpI v1 v5 0 v10 0 8).bind fun F16 => some F16
set_option maxRecDepth 100000 in
set_option maxHeartbeats 4000000 in
theorem cX7_takeShape_ok {l : Launch} {D : va_G} {cy : Nat → ClassId} {F : Mem} {x0 : Nat} {x1 : Nat} {res : Mem} (h : mX7_takeShape F x0 x1 = some res) : MV l yX7_takeShape cX7_takeShape 2 none rmX7_takeShape D cy F [.ref x0, .ref x1] res := by
  refine mv_of (by decide) (Nat.le_of_ble_eq_true rfl) [(0, .ref x0), (1, .ref x1)] rfl (fun C X hcd Qr => ?_)
  unfold mX7_takeShape at h
  refine wp_aload_n X dX7_takeShape_0 0 rfl ?_
  refine wp_callVV X (rm := rmX7_clear) (T := TX7) (N := 2) (ci := 6) (n := 0) [] hcd (fun q hq => cX7_clear_ok hq) kw239 kw240 kw241 kw2 kw242 (by decide +kernel) (by decide) (by decide) (cs2 := 0) (sl2 := 0) rfl rfl rfl (by decide) rfl rfl (Nat.le_of_ble_eq_true rfl) dX7_takeShape_1 h (fun v1 h => ?_)
  refine wp_aload_n X dX7_takeShape_4 1 rfl ?_
  refine wp_getR X (T := TX4) (N := 1) (ci := 3) (k := 0) rfl (by decide) (by decide) inBX4 kw63 dX7_takeShape_5 h (fun v5 h => ?_)
  refine wp_iconst X (v := 0) dX7_takeShape_8 (by decide) ?_
  refine wp_aload_n X dX7_takeShape_9 0 rfl ?_
  refine wp_getR X (T := TX7) (N := 2) (ci := 6) (k := 0) rfl (by decide) (by decide) inBX7 kw42 dX7_takeShape_10 h (fun v10 h => ?_)
  refine wp_iconst X (v := 0) dX7_takeShape_13 (by decide) ?_
  refine wp_bipush X (v := 8) dX7_takeShape_14 (by decide) ?_
  refine wp_copyi X kw568 kw375 kw374 kw15 (by decide) (by decide) dX7_takeShape_16 h (fun F16 h => ?_)
  exact wp_return X Qr rfl dX7_takeShape_19 h
/-! TableauBench$Tableau.has(II)Z -/
def rmX7_has : Room := { frames := 0, cells := 0, slots := 0, locals := 0 }
def mX7_has (F : Mem) (x0 : Nat) (x1 : Int32) (x2 : Int32) : Option (Int32 × Mem) := if x1 < 0 then (some (0, F)) else (if 16 ≤ x1 then (some (0, F)) else (if x2 < 0 then (some (0, F)) else ((gfR F x0 6 0).bind fun v16 => (rdI F 0 v16 x1).bind fun v20 => if v20 ≤ x2 then (some (0, F)) else (some (1, F)))))
set_option maxRecDepth 100000 in
set_option maxHeartbeats 4000000 in
theorem cX7_has_ok {l : Launch} {D : va_G} {cy : Nat → ClassId} {F : Mem} {x0 : Nat} {x1 : Int32} {x2 : Int32} {res : Int32 × Mem} (h : mX7_has F x0 x1 x2 = some res) : MI l yX7_has cX7_has 3 (some .boolean) rmX7_has D cy F [.ref x0, .int x1, .int x2] res := by
  refine mi_of (by decide) (Nat.le_of_ble_eq_true rfl) [(0, .ref x0), (1, .int x1), (2, .int x2)] rfl (fun C X hcd Qr => ?_)
  unfold mX7_has at h
  refine wp_iload_n X dX7_has_0 1 rfl ?_
  refine wp_if_lt X (tgt := 28) dX7_has_1 (by decide) h (fun h => ?_) (fun h => ?_)
  · refine wp_iconst X (v := 0) dX7_has_28 (by decide) ?_
    exact wp_ireturn X Qr rfl rfl dX7_has_29 h
  · refine wp_iload_n X dX7_has_4 1 rfl ?_
    refine wp_bipush X (v := 16) dX7_has_5 (by decide) ?_
    refine wp_icmp_ge X (tgt := 28) dX7_has_7 (by decide) h (fun h => ?_) (fun h => ?_)
    · refine wp_iconst X (v := 0) dX7_has_28 (by decide) ?_
      exact wp_ireturn X Qr rfl rfl dX7_has_29 h
    · refine wp_iload_n X dX7_has_10 2 rfl ?_
      refine wp_if_lt X (tgt := 28) dX7_has_11 (by decide) h (fun h => ?_) (fun h => ?_)
      · refine wp_iconst X (v := 0) dX7_has_28 (by decide) ?_
        exact wp_ireturn X Qr rfl rfl dX7_has_29 h
      · refine wp_iload_n X dX7_has_14 2 rfl ?_
        refine wp_aload_n X dX7_has_15 0 rfl ?_
        refine wp_getR X (T := TX7) (N := 2) (ci := 6) (k := 0) rfl (by decide) (by decide) inBX7 kw42 dX7_has_16 h (fun v16 h => ?_)
        refine wp_iload_n X dX7_has_19 1 rfl ?_
        refine wp_iaload X dX7_has_20 h (fun v20 h => ?_)
        refine wp_icmp_ge X (tgt := 28) dX7_has_21 (by decide) h (fun h => ?_) (fun h => ?_)
        · refine wp_iconst X (v := 0) dX7_has_28 (by decide) ?_
          exact wp_ireturn X Qr rfl rfl dX7_has_29 h
        · refine wp_iconst X (v := 1) dX7_has_24 (by decide) ?_
          refine wp_goto X (tgt := 29) dX7_has_25 (by decide) ?_
          exact wp_ireturn X Qr rfl rfl dX7_has_29 h
/-! TableauBench$Tableau.letterAt(II)I -/
def rmX7_letterAt : Room := { frames := 1, cells := 0, slots := 0, locals := 22 }
def mX7_letterAt (F : Mem) (x0 : Nat) (x1 : Int32) (x2 : Int32) : Option (Int32 × Mem) := (obj F x0 6).bind fun _ => (mX7_has F x0 x1 x2).bind fun v3 => if v3.1 = 0 then (some (0, v3.2)) else ((gfR v3.2 x0 6 1).bind fun v10 => (rdI v3.2 0 v10 ((x1 * 24) + x2)).bind fun v19 => some (v19, v3.2))
set_option maxRecDepth 100000 in
set_option maxHeartbeats 4000000 in
theorem cX7_letterAt_ok {l : Launch} {D : va_G} {cy : Nat → ClassId} {F : Mem} {x0 : Nat} {x1 : Int32} {x2 : Int32} {res : Int32 × Mem} (h : mX7_letterAt F x0 x1 x2 = some res) : MI l yX7_letterAt cX7_letterAt 3 (some .int) rmX7_letterAt D cy F [.ref x0, .int x1, .int x2] res := by
  refine mi_of (by decide) (Nat.le_of_ble_eq_true rfl) [(0, .ref x0), (1, .int x1), (2, .int x2)] rfl (fun C X hcd Qr => ?_)
  unfold mX7_letterAt at h
  refine wp_aload_n X dX7_letterAt_0 0 rfl ?_
  refine wp_iload_n X dX7_letterAt_1 1 rfl ?_
  refine wp_iload_n X dX7_letterAt_2 2 rfl ?_
  refine wp_callVI X (rm := rmX7_has) (T := TX7) (N := 2) (ci := 6) (n := 2) [.int x1, .int x2] hcd (fun q hq => cX7_has_ok hq) kw227 kw228 kw229 kw2 kw230 (by decide +kernel) (by decide) (by decide) (cs2 := 0) (sl2 := 0) rfl rfl rfl (by decide) rfl rfl (Nat.le_of_ble_eq_true rfl) dX7_letterAt_3 h (fun v3 h => ?_)
  refine wp_if_eq X (tgt := 23) dX7_letterAt_6 (by decide) h (fun h => ?_) (fun h => ?_)
  · refine wp_iconst X (v := 0) dX7_letterAt_23 (by decide) ?_
    exact wp_ireturn X Qr rfl (vp_nar_int _) dX7_letterAt_24 h
  · refine wp_aload_n X dX7_letterAt_9 0 rfl ?_
    refine wp_getR X (T := TX7) (N := 2) (ci := 6) (k := 1) rfl (by decide) (by decide) inBX7 kw44 dX7_letterAt_10 h (fun v10 h => ?_)
    refine wp_iload_n X dX7_letterAt_13 1 rfl ?_
    refine wp_bipush X (v := 24) dX7_letterAt_14 (by decide) ?_
    refine wp_imul X dX7_letterAt_16 ?_
    refine wp_iload_n X dX7_letterAt_17 2 rfl ?_
    refine wp_iadd X dX7_letterAt_18 ?_
    refine wp_iaload X dX7_letterAt_19 h (fun v19 h => ?_)
    refine wp_goto X (tgt := 24) dX7_letterAt_20 (by decide) ?_
    exact wp_ireturn X Qr rfl (vp_nar_int _) dX7_letterAt_24 h
/-! TableauBench$Tableau.put(III)V -/
def rmX7_put : Room := { frames := 0, cells := 0, slots := 0, locals := 0 }
def mX7_put (F : Mem) (x0 : Nat) (x1 : Int32) (x2 : Int32) (x3 : Int32) : Option (Mem) := (gfR F x0 6 1).bind fun v1 => (wrI F v1 ((x1 * 24) + x2) x3).bind fun F11 => some F11
set_option maxRecDepth 100000 in
set_option maxHeartbeats 4000000 in
theorem cX7_put_ok {l : Launch} {D : va_G} {cy : Nat → ClassId} {F : Mem} {x0 : Nat} {x1 : Int32} {x2 : Int32} {x3 : Int32} {res : Mem} (h : mX7_put F x0 x1 x2 x3 = some res) : MV l yX7_put cX7_put 4 none rmX7_put D cy F [.ref x0, .int x1, .int x2, .int x3] res := by
  refine mv_of (by decide) (Nat.le_of_ble_eq_true rfl) [(0, .ref x0), (1, .int x1), (2, .int x2), (3, .int x3)] rfl (fun C X hcd Qr => ?_)
  unfold mX7_put at h
  refine wp_aload_n X dX7_put_0 0 rfl ?_
  refine wp_getR X (T := TX7) (N := 2) (ci := 6) (k := 1) rfl (by decide) (by decide) inBX7 kw44 dX7_put_1 h (fun v1 h => ?_)
  refine wp_iload_n X dX7_put_4 1 rfl ?_
  refine wp_bipush X (v := 24) dX7_put_5 (by decide) ?_
  refine wp_imul X dX7_put_7 ?_
  refine wp_iload_n X dX7_put_8 2 rfl ?_
  refine wp_iadd X dX7_put_9 ?_
  refine wp_iload_n X dX7_put_10 3 rfl ?_
  refine wp_iastore X dX7_put_11 h (fun F11 h => ?_)
  exact wp_return X Qr rfl dX7_put_12 h
/-! TableauBench$Tableau.append(II)V -/
def rmX7_append : Room := { frames := 1, cells := 0, slots := 0, locals := 23 }
def mX7_append (F : Mem) (x0 : Nat) (x1 : Int32) (x2 : Int32) : Option (Mem) := (gfR F x0 6 0).bind fun v3 => (rdI F 0 v3 x1).bind fun v7 => (obj F x0 6).bind fun _ => (mX7_put F x0 x1 v7 x2).bind fun v9 => (gfR v9 x0 6 0).bind fun v13 => (rdI v9 0 v13 x1).bind fun v18 => (wrI v9 v13 x1 (v18 + 1)).bind fun F21 => some F21
set_option maxRecDepth 100000 in
set_option maxHeartbeats 4000000 in
theorem cX7_append_ok {l : Launch} {D : va_G} {cy : Nat → ClassId} {F : Mem} {x0 : Nat} {x1 : Int32} {x2 : Int32} {res : Mem} (h : mX7_append F x0 x1 x2 = some res) : MV l yX7_append cX7_append 3 none rmX7_append D cy F [.ref x0, .int x1, .int x2] res := by
  refine mv_of (by decide) (Nat.le_of_ble_eq_true rfl) [(0, .ref x0), (1, .int x1), (2, .int x2)] rfl (fun C X hcd Qr => ?_)
  unfold mX7_append at h
  refine wp_aload_n X dX7_append_0 0 rfl ?_
  refine wp_iload_n X dX7_append_1 1 rfl ?_
  refine wp_aload_n X dX7_append_2 0 rfl ?_
  refine wp_getR X (T := TX7) (N := 2) (ci := 6) (k := 0) rfl (by decide) (by decide) inBX7 kw42 dX7_append_3 h (fun v3 h => ?_)
  refine wp_iload_n X dX7_append_6 1 rfl ?_
  refine wp_iaload X dX7_append_7 h (fun v7 h => ?_)
  refine wp_iload_n X dX7_append_8 2 rfl ?_
  refine wp_callVV X (rm := rmX7_put) (T := TX7) (N := 2) (ci := 6) (n := 3) [.int x1, .int v7, .int x2] hcd (fun q hq => cX7_put_ok hq) kw263 kw264 kw265 kw2 kw266 (by decide +kernel) (by decide) (by decide) (cs2 := 0) (sl2 := 0) rfl rfl rfl (by decide) rfl rfl (Nat.le_of_ble_eq_true rfl) dX7_append_9 h (fun v9 h => ?_)
  refine wp_aload_n X dX7_append_12 0 rfl ?_
  refine wp_getR X (T := TX7) (N := 2) (ci := 6) (k := 0) rfl (by decide) (by decide) inBX7 kw42 dX7_append_13 h (fun v13 h => ?_)
  refine wp_iload_n X dX7_append_16 1 rfl ?_
  refine wp_dup2 X dX7_append_17 rfl rfl ?_
  refine wp_iaload X dX7_append_18 h (fun v18 h => ?_)
  refine wp_iconst X (v := 1) dX7_append_19 (by decide) ?_
  refine wp_iadd X dX7_append_20 ?_
  refine wp_iastore X dX7_append_21 h (fun F21 h => ?_)
  exact wp_return X Qr rfl dX7_append_22 h
/-! TableauBench$Tableau.replace(III)I -/
def rmX7_replace : Room := { frames := 2, cells := 0, slots := 0, locals := 44 }
def mX7_replace (F : Mem) (x0 : Nat) (x1 : Int32) (x2 : Int32) (x3 : Int32) : Option (Int32 × Mem) := (obj F x0 6).bind fun _ => (mX7_letterAt F x0 x1 x2).bind fun v3 => (obj v3.2 x0 6).bind fun _ => (mX7_put v3.2 x0 x1 x2 x3).bind fun v12 => some (v3.1, v12)
set_option maxRecDepth 100000 in
set_option maxHeartbeats 4000000 in
theorem cX7_replace_ok {l : Launch} {D : va_G} {cy : Nat → ClassId} {F : Mem} {x0 : Nat} {x1 : Int32} {x2 : Int32} {x3 : Int32} {res : Int32 × Mem} (h : mX7_replace F x0 x1 x2 x3 = some res) : MI l yX7_replace cX7_replace 5 (some .int) rmX7_replace D cy F [.ref x0, .int x1, .int x2, .int x3] res := by
  refine mi_of (by decide) (Nat.le_of_ble_eq_true rfl) [(0, .ref x0), (1, .int x1), (2, .int x2), (3, .int x3)] rfl (fun C X hcd Qr => ?_)
  unfold mX7_replace at h
  refine wp_aload_n X dX7_replace_0 0 rfl ?_
  refine wp_iload_n X dX7_replace_1 1 rfl ?_
  refine wp_iload_n X dX7_replace_2 2 rfl ?_
  refine wp_callVI X (rm := rmX7_letterAt) (T := TX7) (N := 2) (ci := 6) (n := 2) [.int x1, .int x2] hcd (fun q hq => cX7_letterAt_ok hq) kw258 kw224 kw225 kw2 kw226 (by decide +kernel) (by decide) (by decide) (cs2 := 0) (sl2 := 0) rfl rfl rfl (by decide) rfl rfl (Nat.le_of_ble_eq_true rfl) dX7_replace_3 h (fun v3 h => ?_)
  refine wp_istore X (lv' := [(0, .ref x0), (1, .int x1), (2, .int x2), (3, .int x3), (4, .int v3.1)]) dX7_replace_6 (by decide) [1, 2, 3, 4, 0] rfl ?_
  refine wp_aload_n X dX7_replace_8 0 rfl ?_
  refine wp_iload_n X dX7_replace_9 1 rfl ?_
  refine wp_iload_n X dX7_replace_10 2 rfl ?_
  refine wp_iload_n X dX7_replace_11 3 rfl ?_
  refine wp_callVV X (rm := rmX7_put) (T := TX7) (N := 2) (ci := 6) (n := 3) [.int x1, .int x2, .int x3] hcd (fun q hq => cX7_put_ok hq) kw263 kw264 kw265 kw2 kw266 (by decide +kernel) (by decide) (by decide) (cs2 := 0) (sl2 := 0) rfl rfl rfl (by decide) rfl rfl (Nat.le_of_ble_eq_true rfl) dX7_replace_12 h (fun v12 h => ?_)
  refine wp_iload X dX7_replace_15 4 rfl ?_
  exact wp_ireturn X Qr rfl (vp_nar_int _) dX7_replace_17 h
/-! TableauBench$Tableau.countRows()I -/
def rmX7_countRows : Room := { frames := 0, cells := 0, slots := 0, locals := 0 }
def fX7_countRows_22 (K4 : Nat → Int32 → Int32 → Mem → Option (Int32 × Mem)) (x0 : Nat) (x1 : Int32) (x2 : Int32) (F : Mem) : Option (Int32 × Mem) := K4 x0 x1 (x2 + 1) F
set_option maxRecDepth 100000 in
set_option maxHeartbeats 4000000 in
theorem tX7_countRows_22 {l : Launch} {D : va_G} {cy : Nat → ClassId} {C : Cx} {res : Int32 × Mem} (X : Fx C cX7_countRows RX7 (some .int) rmX7_countRows 3) (hcd : CD C l D cy) (Qr : RI C 0 0 res) {K4 : Nat → Int32 → Int32 → Mem → Option (Int32 × Mem)} (hK4 : ∀ (x0 : Nat) (x1 : Int32) (x2 : Int32) (F : Mem), K4 x0 x1 x2 F = some res → Wp C 0 0 4 [(0, .ref x0), (1, .int x1), (2, .int x2)] [] F) (x0 : Nat) (x1 : Int32) (x2 : Int32) (F : Mem) (h : fX7_countRows_22 K4 x0 x1 x2 F = some res) : Wp C 0 0 22 [(0, .ref x0), (1, .int x1), (2, .int x2)] [] F := by
  unfold fX7_countRows_22 at h
  refine wp_iinc X (v := x2 + 1) (lv' := [(0, .ref x0), (1, .int x1), (2, .int (x2 + 1))]) dX7_countRows_22 (by decide) 2 rfl rfl [1, 2, 0] rfl ?_
  refine wp_goto X (tgt := 4) dX7_countRows_25 (by decide) ?_
  exact hK4 _ _ _ _ h
def fX7_countRows_4  : Nat → Nat → Int32 → Int32 → Mem → Option (Int32 × Mem)
  | 0, _, _, _, _ => none
  | n + 1, x0, x1, x2, F => if 16 ≤ x2 then (some (x1, F)) else ((gfR F x0 6 0).bind fun v11 => (rdI F 0 v11 x2).bind fun v15 => if v15 ≤ 0 then (fX7_countRows_22  (fX7_countRows_4   n) x0 x1 x2 F) else (fX7_countRows_22  (fX7_countRows_4   n) x0 (x1 + 1) x2 F))
set_option maxRecDepth 100000 in
set_option maxHeartbeats 4000000 in
theorem tX7_countRows_4 {l : Launch} {D : va_G} {cy : Nat → ClassId} {C : Cx} {res : Int32 × Mem} (X : Fx C cX7_countRows RX7 (some .int) rmX7_countRows 3) (hcd : CD C l D cy) (Qr : RI C 0 0 res)   : ∀ (n : Nat) (x0 : Nat) (x1 : Int32) (x2 : Int32) (F : Mem), fX7_countRows_4  n x0 x1 x2 F = some res → Wp C 0 0 4 [(0, .ref x0), (1, .int x1), (2, .int x2)] [] F := by
  intro n
  induction n with
  | zero =>
    intro x0 x1 x2 F h
    rw [fX7_countRows_4.eq_1] at h
    cases h
  | succ n ih =>
    intro x0 x1 x2 F h
    rw [fX7_countRows_4.eq_2] at h
    refine wp_iload_n X dX7_countRows_4 2 rfl ?_
    refine wp_bipush X (v := 16) dX7_countRows_5 (by decide) ?_
    refine wp_icmp_ge X (tgt := 28) dX7_countRows_7 (by decide) h (fun h => ?_) (fun h => ?_)
    · refine wp_iload_n X dX7_countRows_28 1 rfl ?_
      exact wp_ireturn X Qr rfl (vp_nar_int _) dX7_countRows_29 h
    · refine wp_aload_n X dX7_countRows_10 0 rfl ?_
      refine wp_getR X (T := TX7) (N := 2) (ci := 6) (k := 0) rfl (by decide) (by decide) inBX7 kw42 dX7_countRows_11 h (fun v11 h => ?_)
      refine wp_iload_n X dX7_countRows_14 2 rfl ?_
      refine wp_iaload X dX7_countRows_15 h (fun v15 h => ?_)
      refine wp_if_le X (tgt := 22) dX7_countRows_16 (by decide) h (fun h => ?_) (fun h => ?_)
      · exact tX7_countRows_22 X hcd Qr  ih _ _ _ _ h
      · refine wp_iinc X (v := x1 + 1) (lv' := [(0, .ref x0), (1, .int (x1 + 1)), (2, .int x2)]) dX7_countRows_19 (by decide) 1 rfl rfl [1, 0, 2] rfl ?_
        exact tX7_countRows_22 X hcd Qr  ih _ _ _ _ h
def mX7_countRows (F : Mem) (x0 : Nat) : Option (Int32 × Mem) := fX7_countRows_4   FU x0 0 0 F
set_option maxRecDepth 100000 in
set_option maxHeartbeats 4000000 in
theorem cX7_countRows_ok {l : Launch} {D : va_G} {cy : Nat → ClassId} {F : Mem} {x0 : Nat} {res : Int32 × Mem} (h : mX7_countRows F x0 = some res) : MI l yX7_countRows cX7_countRows 3 (some .int) rmX7_countRows D cy F [.ref x0] res := by
  refine mi_of (by decide) (Nat.le_of_ble_eq_true rfl) [(0, .ref x0)] rfl (fun C X hcd Qr => ?_)
  unfold mX7_countRows at h
  refine wp_iconst X (v := 0) dX7_countRows_0 (by decide) ?_
  refine wp_istore_n X (lv' := [(0, .ref x0), (1, .int 0)]) dX7_countRows_1 (by decide) [1, 0] rfl ?_
  refine wp_iconst X (v := 0) dX7_countRows_2 (by decide) ?_
  refine wp_istore_n X (lv' := [(0, .ref x0), (1, .int 0), (2, .int 0)]) dX7_countRows_3 (by decide) [1, 2, 0] rfl ?_
  refine tX7_countRows_4 X hcd Qr   FU _ _ _ _ h
/-! TableauBench$Tableau.countBoxes()I -/
def rmX7_countBoxes : Room := { frames := 0, cells := 0, slots := 0, locals := 0 }
def fX7_countBoxes_4  : Nat → Nat → Int32 → Int32 → Mem → Option (Int32 × Mem)
  | 0, _, _, _, _ => none
  | n + 1, x0, x1, x2, F => if 16 ≤ x2 then (some (x1, F)) else ((gfR F x0 6 0).bind fun v12 => (rdI F 0 v12 x2).bind fun v16 => (fX7_countBoxes_4   n) x0 (x1 + v16) (x2 + 1) F)
set_option maxRecDepth 100000 in
set_option maxHeartbeats 4000000 in
theorem tX7_countBoxes_4 {l : Launch} {D : va_G} {cy : Nat → ClassId} {C : Cx} {res : Int32 × Mem} (X : Fx C cX7_countBoxes RX7 (some .int) rmX7_countBoxes 3) (hcd : CD C l D cy) (Qr : RI C 0 0 res)   : ∀ (n : Nat) (x0 : Nat) (x1 : Int32) (x2 : Int32) (F : Mem), fX7_countBoxes_4  n x0 x1 x2 F = some res → Wp C 0 0 4 [(0, .ref x0), (1, .int x1), (2, .int x2)] [] F := by
  intro n
  induction n with
  | zero =>
    intro x0 x1 x2 F h
    rw [fX7_countBoxes_4.eq_1] at h
    cases h
  | succ n ih =>
    intro x0 x1 x2 F h
    rw [fX7_countBoxes_4.eq_2] at h
    refine wp_iload_n X dX7_countBoxes_4 2 rfl ?_
    refine wp_bipush X (v := 16) dX7_countBoxes_5 (by decide) ?_
    refine wp_icmp_ge X (tgt := 25) dX7_countBoxes_7 (by decide) h (fun h => ?_) (fun h => ?_)
    · refine wp_iload_n X dX7_countBoxes_25 1 rfl ?_
      exact wp_ireturn X Qr rfl (vp_nar_int _) dX7_countBoxes_26 h
    · refine wp_iload_n X dX7_countBoxes_10 1 rfl ?_
      refine wp_aload_n X dX7_countBoxes_11 0 rfl ?_
      refine wp_getR X (T := TX7) (N := 2) (ci := 6) (k := 0) rfl (by decide) (by decide) inBX7 kw42 dX7_countBoxes_12 h (fun v12 h => ?_)
      refine wp_iload_n X dX7_countBoxes_15 2 rfl ?_
      refine wp_iaload X dX7_countBoxes_16 h (fun v16 h => ?_)
      refine wp_iadd X dX7_countBoxes_17 ?_
      refine wp_istore_n X (lv' := [(0, .ref x0), (1, .int (x1 + v16)), (2, .int x2)]) dX7_countBoxes_18 (by decide) [1, 0, 2] rfl ?_
      refine wp_iinc X (v := x2 + 1) (lv' := [(0, .ref x0), (1, .int (x1 + v16)), (2, .int (x2 + 1))]) dX7_countBoxes_19 (by decide) 2 rfl rfl [1, 2, 0] rfl ?_
      refine wp_goto X (tgt := 4) dX7_countBoxes_22 (by decide) ?_
      exact ih _ _ _ _ h
def mX7_countBoxes (F : Mem) (x0 : Nat) : Option (Int32 × Mem) := fX7_countBoxes_4   FU x0 0 0 F
set_option maxRecDepth 100000 in
set_option maxHeartbeats 4000000 in
theorem cX7_countBoxes_ok {l : Launch} {D : va_G} {cy : Nat → ClassId} {F : Mem} {x0 : Nat} {res : Int32 × Mem} (h : mX7_countBoxes F x0 = some res) : MI l yX7_countBoxes cX7_countBoxes 3 (some .int) rmX7_countBoxes D cy F [.ref x0] res := by
  refine mi_of (by decide) (Nat.le_of_ble_eq_true rfl) [(0, .ref x0)] rfl (fun C X hcd Qr => ?_)
  unfold mX7_countBoxes at h
  refine wp_iconst X (v := 0) dX7_countBoxes_0 (by decide) ?_
  refine wp_istore_n X (lv' := [(0, .ref x0), (1, .int 0)]) dX7_countBoxes_1 (by decide) [1, 0] rfl ?_
  refine wp_iconst X (v := 0) dX7_countBoxes_2 (by decide) ?_
  refine wp_istore_n X (lv' := [(0, .ref x0), (1, .int 0), (2, .int 0)]) dX7_countBoxes_3 (by decide) [1, 2, 0] rfl ?_
  refine tX7_countBoxes_4 X hcd Qr   FU _ _ _ _ h
/-! TableauBench$Tableau.greatestLetter()I -/
def rmX7_greatestLetter : Room := { frames := 2, cells := 0, slots := 0, locals := 44 }
def fX7_greatestLetter_4  : Nat → Nat → Int32 → Int32 → Mem → Option (Int32 × Mem)
  | 0, _, _, _, _ => none
  | n + 1, x0, x1, x2, F => if 16 ≤ x2 then (some (x1, F)) else ((gfR F x0 6 0).bind fun v14 => (rdI F 0 v14 x2).bind fun v18 => (obj F x0 6).bind fun _ => (mX7_letterAt F x0 x2 (v18 - 1)).bind fun v21 => (fX7_greatestLetter_4   n) x0 (if x1 < v21.1 then v21.1 else x1) (x2 + 1) v21.2)
set_option maxRecDepth 100000 in
set_option maxHeartbeats 4000000 in
theorem tX7_greatestLetter_4 {l : Launch} {D : va_G} {cy : Nat → ClassId} {C : Cx} {res : Int32 × Mem} (X : Fx C cX7_greatestLetter RX7 (some .int) rmX7_greatestLetter 3) (hcd : CD C l D cy) (Qr : RI C 0 0 res)   : ∀ (n : Nat) (x0 : Nat) (x1 : Int32) (x2 : Int32) (F : Mem), fX7_greatestLetter_4  n x0 x1 x2 F = some res → Wp C 0 0 4 [(0, .ref x0), (1, .int x1), (2, .int x2)] [] F := by
  intro n
  induction n with
  | zero =>
    intro x0 x1 x2 F h
    rw [fX7_greatestLetter_4.eq_1] at h
    cases h
  | succ n ih =>
    intro x0 x1 x2 F h
    rw [fX7_greatestLetter_4.eq_2] at h
    refine wp_iload_n X dX7_greatestLetter_4 2 rfl ?_
    refine wp_bipush X (v := 16) dX7_greatestLetter_5 (by decide) ?_
    refine wp_icmp_ge X (tgt := 34) dX7_greatestLetter_7 (by decide) h (fun h => ?_) (fun h => ?_)
    · refine wp_iload_n X dX7_greatestLetter_34 1 rfl ?_
      exact wp_ireturn X Qr rfl (vp_nar_int _) dX7_greatestLetter_35 h
    · refine wp_iload_n X dX7_greatestLetter_10 1 rfl ?_
      refine wp_aload_n X dX7_greatestLetter_11 0 rfl ?_
      refine wp_iload_n X dX7_greatestLetter_12 2 rfl ?_
      refine wp_aload_n X dX7_greatestLetter_13 0 rfl ?_
      refine wp_getR X (T := TX7) (N := 2) (ci := 6) (k := 0) rfl (by decide) (by decide) inBX7 kw42 dX7_greatestLetter_14 h (fun v14 h => ?_)
      refine wp_iload_n X dX7_greatestLetter_17 2 rfl ?_
      refine wp_iaload X dX7_greatestLetter_18 h (fun v18 h => ?_)
      refine wp_iconst X (v := 1) dX7_greatestLetter_19 (by decide) ?_
      refine wp_isub X dX7_greatestLetter_20 ?_
      refine wp_callVI X (rm := rmX7_letterAt) (T := TX7) (N := 2) (ci := 6) (n := 2) [.int x2, .int (v18 - 1)] hcd (fun q hq => cX7_letterAt_ok hq) kw258 kw224 kw225 kw2 kw226 (by decide +kernel) (by decide) (by decide) (cs2 := 0) (sl2 := 0) rfl rfl rfl (by decide) rfl rfl (Nat.le_of_ble_eq_true rfl) dX7_greatestLetter_21 h (fun v21 h => ?_)
      refine wp_mmax X kw586 kw587 kw18 kw588 (by decide) (by decide) (by decide) (by decide) dX7_greatestLetter_24 ?_
      refine wp_istore_n X (lv' := [(0, .ref x0), (1, .int (if x1 < v21.1 then v21.1 else x1)), (2, .int x2)]) dX7_greatestLetter_27 (by decide) [1, 0, 2] rfl ?_
      refine wp_iinc X (v := x2 + 1) (lv' := [(0, .ref x0), (1, .int (if x1 < v21.1 then v21.1 else x1)), (2, .int (x2 + 1))]) dX7_greatestLetter_28 (by decide) 2 rfl rfl [1, 2, 0] rfl ?_
      refine wp_goto X (tgt := 4) dX7_greatestLetter_31 (by decide) ?_
      exact ih _ _ _ _ h
def mX7_greatestLetter (F : Mem) (x0 : Nat) : Option (Int32 × Mem) := fX7_greatestLetter_4   FU x0 0 0 F
set_option maxRecDepth 100000 in
set_option maxHeartbeats 4000000 in
theorem cX7_greatestLetter_ok {l : Launch} {D : va_G} {cy : Nat → ClassId} {F : Mem} {x0 : Nat} {res : Int32 × Mem} (h : mX7_greatestLetter F x0 = some res) : MI l yX7_greatestLetter cX7_greatestLetter 3 (some .int) rmX7_greatestLetter D cy F [.ref x0] res := by
  refine mi_of (by decide) (Nat.le_of_ble_eq_true rfl) [(0, .ref x0)] rfl (fun C X hcd Qr => ?_)
  unfold mX7_greatestLetter at h
  refine wp_iconst X (v := 0) dX7_greatestLetter_0 (by decide) ?_
  refine wp_istore_n X (lv' := [(0, .ref x0), (1, .int 0)]) dX7_greatestLetter_1 (by decide) [1, 0] rfl ?_
  refine wp_iconst X (v := 0) dX7_greatestLetter_2 (by decide) ?_
  refine wp_istore_n X (lv' := [(0, .ref x0), (1, .int 0), (2, .int 0)]) dX7_greatestLetter_3 (by decide) [1, 2, 0] rfl ?_
  refine tX7_greatestLetter_4 X hcd Qr   FU _ _ _ _ h
/-! TableauBench$Tableau.isStandard()Z -/
def rmX7_isStandard : Room := { frames := 2, cells := 0, slots := 0, locals := 44 }
def fX7_isStandard_18 (K47 : Nat → Int32 → Int32 → Int32 → Mem → Option (Int32 × Mem)) : Nat → Nat → Int32 → Int32 → Int32 → Int32 → Mem → Option (Int32 × Mem)
  | 0, _, _, _, _, _, _ => none
  | n + 1, x0, x1, x2, x3, x4, F => (gfR F x0 6 0).bind fun v21 => (rdI F 0 v21 x3).bind fun v25 => if v25 ≤ x4 then (K47 x0 x1 x2 x3 F) else ((obj F x0 6).bind fun _ => (mX7_letterAt F x0 x3 x4).bind fun v35 => (fX7_isStandard_18  K47 n) x0 x1 (x2 ||| (1 <<< (v35.1 &&& 31))) x3 (x4 + 1) v35.2)
set_option maxRecDepth 100000 in
set_option maxHeartbeats 4000000 in
theorem tX7_isStandard_18 {l : Launch} {D : va_G} {cy : Nat → ClassId} {C : Cx} {res : Int32 × Mem} (X : Fx C cX7_isStandard RX7 (some .boolean) rmX7_isStandard 5) (hcd : CD C l D cy) (Qr : RI C 0 0 res) {K47 : Nat → Int32 → Int32 → Int32 → Mem → Option (Int32 × Mem)} (hK47 : ∀ (x0 : Nat) (x1 : Int32) (x2 : Int32) (x3 : Int32) (F : Mem), K47 x0 x1 x2 x3 F = some res → Wp C 0 0 47 [(0, .ref x0), (1, .int x1), (2, .int x2), (3, .int x3)] [] F) : ∀ (n : Nat) (x0 : Nat) (x1 : Int32) (x2 : Int32) (x3 : Int32) (x4 : Int32) (F : Mem), fX7_isStandard_18 K47 n x0 x1 x2 x3 x4 F = some res → Wp C 0 0 18 [(0, .ref x0), (1, .int x1), (2, .int x2), (3, .int x3), (4, .int x4)] [] F := by
  intro n
  induction n with
  | zero =>
    intro x0 x1 x2 x3 x4 F h
    rw [fX7_isStandard_18.eq_1] at h
    cases h
  | succ n ih =>
    intro x0 x1 x2 x3 x4 F h
    rw [fX7_isStandard_18.eq_2] at h
    refine wp_iload X dX7_isStandard_18 4 rfl ?_
    refine wp_aload_n X dX7_isStandard_20 0 rfl ?_
    refine wp_getR X (T := TX7) (N := 2) (ci := 6) (k := 0) rfl (by decide) (by decide) inBX7 kw42 dX7_isStandard_21 h (fun v21 h => ?_)
    refine wp_iload_n X dX7_isStandard_24 3 rfl ?_
    refine wp_iaload X dX7_isStandard_25 h (fun v25 h => ?_)
    refine wp_icmp_ge X (tgt := 47) dX7_isStandard_26 (by decide) h (fun h => ?_) (fun h => ?_)
    · refine wp_sub (lv' := [(0, .ref x0), (1, .int x1), (2, .int x2), (3, .int x3)]) [0, 1, 2, 3] rfl ?_
      exact hK47 _ _ _ _ _ h
    · refine wp_iload_n X dX7_isStandard_29 2 rfl ?_
      refine wp_iconst X (v := 1) dX7_isStandard_30 (by decide) ?_
      refine wp_aload_n X dX7_isStandard_31 0 rfl ?_
      refine wp_iload_n X dX7_isStandard_32 3 rfl ?_
      refine wp_iload X dX7_isStandard_33 4 rfl ?_
      refine wp_callVI X (rm := rmX7_letterAt) (T := TX7) (N := 2) (ci := 6) (n := 2) [.int x3, .int x4] hcd (fun q hq => cX7_letterAt_ok hq) kw258 kw224 kw225 kw2 kw226 (by decide +kernel) (by decide) (by decide) (cs2 := 0) (sl2 := 0) rfl rfl rfl (by decide) rfl rfl (Nat.le_of_ble_eq_true rfl) dX7_isStandard_35 h (fun v35 h => ?_)
      refine wp_ishl X dX7_isStandard_38 ?_
      refine wp_ior X dX7_isStandard_39 ?_
      refine wp_istore_n X (lv' := [(0, .ref x0), (1, .int x1), (2, .int (x2 ||| (1 <<< (v35.1 &&& 31)))), (3, .int x3), (4, .int x4)]) dX7_isStandard_40 (by decide) [1, 2, 0, 3, 4] rfl ?_
      refine wp_iinc X (v := x4 + 1) (lv' := [(0, .ref x0), (1, .int x1), (2, .int (x2 ||| (1 <<< (v35.1 &&& 31)))), (3, .int x3), (4, .int (x4 + 1))]) dX7_isStandard_41 (by decide) 4 rfl rfl [1, 2, 3, 4, 0] rfl ?_
      refine wp_goto X (tgt := 18) dX7_isStandard_44 (by decide) ?_
      exact ih _ _ _ _ _ _ h
def fX7_isStandard_9 (K53 : Int32 → Int32 → Mem → Option (Int32 × Mem)) : Nat → Nat → Int32 → Int32 → Int32 → Mem → Option (Int32 × Mem)
  | 0, _, _, _, _, _ => none
  | n + 1, x0, x1, x2, x3, F => if 16 ≤ x3 then (K53 x1 x2 F) else (fX7_isStandard_18  (fun (x0 : Nat) (x1 : Int32) (x2 : Int32) (x3 : Int32) (F : Mem) => (fX7_isStandard_9  K53 n) x0 x1 x2 (x3 + 1) F) FU x0 x1 x2 x3 0 F)
set_option maxRecDepth 100000 in
set_option maxHeartbeats 4000000 in
theorem tX7_isStandard_9 {l : Launch} {D : va_G} {cy : Nat → ClassId} {C : Cx} {res : Int32 × Mem} (X : Fx C cX7_isStandard RX7 (some .boolean) rmX7_isStandard 5) (hcd : CD C l D cy) (Qr : RI C 0 0 res) {K53 : Int32 → Int32 → Mem → Option (Int32 × Mem)} (hK53 : ∀ (x1 : Int32) (x2 : Int32) (F : Mem), K53 x1 x2 F = some res → Wp C 0 0 53 [(1, .int x1), (2, .int x2)] [] F) : ∀ (n : Nat) (x0 : Nat) (x1 : Int32) (x2 : Int32) (x3 : Int32) (F : Mem), fX7_isStandard_9 K53 n x0 x1 x2 x3 F = some res → Wp C 0 0 9 [(0, .ref x0), (1, .int x1), (2, .int x2), (3, .int x3)] [] F := by
  intro n
  induction n with
  | zero =>
    intro x0 x1 x2 x3 F h
    rw [fX7_isStandard_9.eq_1] at h
    cases h
  | succ n ih =>
    intro x0 x1 x2 x3 F h
    rw [fX7_isStandard_9.eq_2] at h
    refine wp_iload_n X dX7_isStandard_9 3 rfl ?_
    refine wp_bipush X (v := 16) dX7_isStandard_10 (by decide) ?_
    refine wp_icmp_ge X (tgt := 53) dX7_isStandard_12 (by decide) h (fun h => ?_) (fun h => ?_)
    · refine wp_sub (lv' := [(1, .int x1), (2, .int x2)]) [1, 2] rfl ?_
      exact hK53 _ _ _ h
    · refine wp_iconst X (v := 0) dX7_isStandard_15 (by decide) ?_
      refine wp_istore X (lv' := [(0, .ref x0), (1, .int x1), (2, .int x2), (3, .int x3), (4, .int 0)]) dX7_isStandard_16 (by decide) [1, 2, 3, 4, 0] rfl ?_
      refine tX7_isStandard_18 X hcd Qr  ?_ FU _ _ _ _ _ _ h
      · intro x0 x1 x2 x3 F h
        refine wp_iinc X (v := x3 + 1) (lv' := [(0, .ref x0), (1, .int x1), (2, .int x2), (3, .int (x3 + 1))]) dX7_isStandard_47 (by decide) 3 rfl rfl [1, 2, 3, 0] rfl ?_
        refine wp_goto X (tgt := 9) dX7_isStandard_50 (by decide) ?_
        exact ih _ _ _ _ _ h
def mX7_isStandard (F : Mem) (x0 : Nat) : Option (Int32 × Mem) := (obj F x0 6).bind fun _ => (mX7_countBoxes F x0).bind fun v1 => fX7_isStandard_9  (fun (x1 : Int32) (x2 : Int32) (F : Mem) => if x2 = ((1 <<< ((x1 + 1) &&& 31)) - 2) then (some (1, F)) else (some (0, F))) FU x0 v1.1 0 0 v1.2
set_option maxRecDepth 100000 in
set_option maxHeartbeats 4000000 in
theorem cX7_isStandard_ok {l : Launch} {D : va_G} {cy : Nat → ClassId} {F : Mem} {x0 : Nat} {res : Int32 × Mem} (h : mX7_isStandard F x0 = some res) : MI l yX7_isStandard cX7_isStandard 5 (some .boolean) rmX7_isStandard D cy F [.ref x0] res := by
  refine mi_of (by decide) (Nat.le_of_ble_eq_true rfl) [(0, .ref x0)] rfl (fun C X hcd Qr => ?_)
  unfold mX7_isStandard at h
  refine wp_aload_n X dX7_isStandard_0 0 rfl ?_
  refine wp_callVI X (rm := rmX7_countBoxes) (T := TX7) (N := 2) (ci := 6) (n := 0) [] hcd (fun q hq => cX7_countBoxes_ok hq) kw660 kw570 kw571 kw2 kw572 (by decide +kernel) (by decide) (by decide) (cs2 := 0) (sl2 := 0) rfl rfl rfl (by decide) rfl rfl (Nat.le_of_ble_eq_true rfl) dX7_isStandard_1 h (fun v1 h => ?_)
  refine wp_istore_n X (lv' := [(0, .ref x0), (1, .int v1.1)]) dX7_isStandard_4 (by decide) [1, 0] rfl ?_
  refine wp_iconst X (v := 0) dX7_isStandard_5 (by decide) ?_
  refine wp_istore_n X (lv' := [(0, .ref x0), (1, .int v1.1), (2, .int 0)]) dX7_isStandard_6 (by decide) [1, 2, 0] rfl ?_
  refine wp_iconst X (v := 0) dX7_isStandard_7 (by decide) ?_
  refine wp_istore_n X (lv' := [(0, .ref x0), (1, .int v1.1), (2, .int 0), (3, .int 0)]) dX7_isStandard_8 (by decide) [1, 2, 3, 0] rfl ?_
  refine tX7_isStandard_9 X hcd Qr  ?_ FU _ _ _ _ _ h
  · intro x1 x2 F h
    refine wp_iload_n X dX7_isStandard_53 1 rfl ?_
    refine wp_iconst X (v := 1) dX7_isStandard_54 (by decide) ?_
    refine wp_iload_n X dX7_isStandard_55 0 rfl ?_
    refine wp_iconst X (v := 1) dX7_isStandard_56 (by decide) ?_
    refine wp_iadd X dX7_isStandard_57 ?_
    refine wp_ishl X dX7_isStandard_58 ?_
    refine wp_iconst X (v := 2) dX7_isStandard_59 (by decide) ?_
    refine wp_isub X dX7_isStandard_60 ?_
    refine wp_icmp_ne X (tgt := 68) dX7_isStandard_61 (by decide) h (fun h => ?_) (fun h => ?_)
    · refine wp_iconst X (v := 0) dX7_isStandard_68 (by decide) ?_
      exact wp_ireturn X Qr rfl rfl dX7_isStandard_69 h
    · refine wp_iconst X (v := 1) dX7_isStandard_64 (by decide) ?_
      refine wp_goto X (tgt := 69) dX7_isStandard_65 (by decide) ?_
      exact wp_ireturn X Qr rfl rfl dX7_isStandard_69 h
/-! TableauBench$Tableau.isSameAs(LTableauBench$Tableau;)Z -/
def rmX7_isSameAs : Room := { frames := 2, cells := 0, slots := 0, locals := 44 }
def fX7_isSameAs_27 (K60 : Nat → Nat → Int32 → Mem → Option (Int32 × Mem)) : Nat → Nat → Nat → Int32 → Int32 → Mem → Option (Int32 × Mem)
  | 0, _, _, _, _, _ => none
  | n + 1, x0, x1, x2, x3, F => (gfR F x0 6 0).bind fun v29 => (rdI F 0 v29 x2).bind fun v33 => if v33 ≤ x3 then (K60 x0 x1 x2 F) else ((obj F x0 6).bind fun _ => (mX7_letterAt F x0 x2 x3).bind fun v40 => (obj v40.2 x1 6).bind fun _ => (mX7_letterAt v40.2 x1 x2 x3).bind fun v46 => if v40.1 = v46.1 then ((fX7_isSameAs_27  K60 n) x0 x1 x2 (x3 + 1) v46.2) else (some (0, v46.2)))
set_option maxRecDepth 100000 in
set_option maxHeartbeats 4000000 in
theorem tX7_isSameAs_27 {l : Launch} {D : va_G} {cy : Nat → ClassId} {C : Cx} {res : Int32 × Mem} (X : Fx C cX7_isSameAs RX7 (some .boolean) rmX7_isSameAs 4) (hcd : CD C l D cy) (Qr : RI C 0 0 res) {K60 : Nat → Nat → Int32 → Mem → Option (Int32 × Mem)} (hK60 : ∀ (x0 : Nat) (x1 : Nat) (x2 : Int32) (F : Mem), K60 x0 x1 x2 F = some res → Wp C 0 0 60 [(0, .ref x0), (1, .ref x1), (2, .int x2)] [] F) : ∀ (n : Nat) (x0 : Nat) (x1 : Nat) (x2 : Int32) (x3 : Int32) (F : Mem), fX7_isSameAs_27 K60 n x0 x1 x2 x3 F = some res → Wp C 0 0 27 [(0, .ref x0), (1, .ref x1), (2, .int x2), (3, .int x3)] [] F := by
  intro n
  induction n with
  | zero =>
    intro x0 x1 x2 x3 F h
    rw [fX7_isSameAs_27.eq_1] at h
    cases h
  | succ n ih =>
    intro x0 x1 x2 x3 F h
    rw [fX7_isSameAs_27.eq_2] at h
    refine wp_iload_n X dX7_isSameAs_27 3 rfl ?_
    refine wp_aload_n X dX7_isSameAs_28 0 rfl ?_
    refine wp_getR X (T := TX7) (N := 2) (ci := 6) (k := 0) rfl (by decide) (by decide) inBX7 kw42 dX7_isSameAs_29 h (fun v29 h => ?_)
    refine wp_iload_n X dX7_isSameAs_32 2 rfl ?_
    refine wp_iaload X dX7_isSameAs_33 h (fun v33 h => ?_)
    refine wp_icmp_ge X (tgt := 60) dX7_isSameAs_34 (by decide) h (fun h => ?_) (fun h => ?_)
    · refine wp_sub (lv' := [(0, .ref x0), (1, .ref x1), (2, .int x2)]) [0, 1, 2] rfl ?_
      exact hK60 _ _ _ _ h
    · refine wp_aload_n X dX7_isSameAs_37 0 rfl ?_
      refine wp_iload_n X dX7_isSameAs_38 2 rfl ?_
      refine wp_iload_n X dX7_isSameAs_39 3 rfl ?_
      refine wp_callVI X (rm := rmX7_letterAt) (T := TX7) (N := 2) (ci := 6) (n := 2) [.int x2, .int x3] hcd (fun q hq => cX7_letterAt_ok hq) kw258 kw224 kw225 kw2 kw226 (by decide +kernel) (by decide) (by decide) (cs2 := 0) (sl2 := 0) rfl rfl rfl (by decide) rfl rfl (Nat.le_of_ble_eq_true rfl) dX7_isSameAs_40 h (fun v40 h => ?_)
      refine wp_aload_n X dX7_isSameAs_43 1 rfl ?_
      refine wp_iload_n X dX7_isSameAs_44 2 rfl ?_
      refine wp_iload_n X dX7_isSameAs_45 3 rfl ?_
      refine wp_callVI X (rm := rmX7_letterAt) (T := TX7) (N := 2) (ci := 6) (n := 2) [.int x2, .int x3] hcd (fun q hq => cX7_letterAt_ok hq) kw258 kw224 kw225 kw2 kw226 (by decide +kernel) (by decide) (by decide) (cs2 := 0) (sl2 := 0) rfl rfl rfl (by decide) rfl rfl (Nat.le_of_ble_eq_true rfl) dX7_isSameAs_46 h (fun v46 h => ?_)
      refine wp_icmp_eq X (tgt := 54) dX7_isSameAs_49 (by decide) h (fun h => ?_) (fun h => ?_)
      · refine wp_iinc X (v := x3 + 1) (lv' := [(0, .ref x0), (1, .ref x1), (2, .int x2), (3, .int (x3 + 1))]) dX7_isSameAs_54 (by decide) 3 rfl rfl [1, 2, 3, 0] rfl ?_
        refine wp_goto X (tgt := 27) dX7_isSameAs_57 (by decide) ?_
        exact ih _ _ _ _ _ h
      · refine wp_iconst X (v := 0) dX7_isSameAs_52 (by decide) ?_
        exact wp_ireturn X Qr rfl rfl dX7_isSameAs_53 h
def fX7_isSameAs_2  : Nat → Nat → Nat → Int32 → Mem → Option (Int32 × Mem)
  | 0, _, _, _, _ => none
  | n + 1, x0, x1, x2, F => if 16 ≤ x2 then (some (1, F)) else ((gfR F x0 6 0).bind fun v9 => (rdI F 0 v9 x2).bind fun v13 => (gfR F x1 6 0).bind fun v15 => (rdI F 0 v15 x2).bind fun v19 => if v13 = v19 then (fX7_isSameAs_27  (fun (x0 : Nat) (x1 : Nat) (x2 : Int32) (F : Mem) => (fX7_isSameAs_2   n) x0 x1 (x2 + 1) F) FU x0 x1 x2 0 F) else (some (0, F)))
set_option maxRecDepth 100000 in
set_option maxHeartbeats 4000000 in
theorem tX7_isSameAs_2 {l : Launch} {D : va_G} {cy : Nat → ClassId} {C : Cx} {res : Int32 × Mem} (X : Fx C cX7_isSameAs RX7 (some .boolean) rmX7_isSameAs 4) (hcd : CD C l D cy) (Qr : RI C 0 0 res)   : ∀ (n : Nat) (x0 : Nat) (x1 : Nat) (x2 : Int32) (F : Mem), fX7_isSameAs_2  n x0 x1 x2 F = some res → Wp C 0 0 2 [(0, .ref x0), (1, .ref x1), (2, .int x2)] [] F := by
  intro n
  induction n with
  | zero =>
    intro x0 x1 x2 F h
    rw [fX7_isSameAs_2.eq_1] at h
    cases h
  | succ n ih =>
    intro x0 x1 x2 F h
    rw [fX7_isSameAs_2.eq_2] at h
    refine wp_iload_n X dX7_isSameAs_2 2 rfl ?_
    refine wp_bipush X (v := 16) dX7_isSameAs_3 (by decide) ?_
    refine wp_icmp_ge X (tgt := 66) dX7_isSameAs_5 (by decide) h (fun h => ?_) (fun h => ?_)
    · refine wp_iconst X (v := 1) dX7_isSameAs_66 (by decide) ?_
      exact wp_ireturn X Qr rfl rfl dX7_isSameAs_67 h
    · refine wp_aload_n X dX7_isSameAs_8 0 rfl ?_
      refine wp_getR X (T := TX7) (N := 2) (ci := 6) (k := 0) rfl (by decide) (by decide) inBX7 kw42 dX7_isSameAs_9 h (fun v9 h => ?_)
      refine wp_iload_n X dX7_isSameAs_12 2 rfl ?_
      refine wp_iaload X dX7_isSameAs_13 h (fun v13 h => ?_)
      refine wp_aload_n X dX7_isSameAs_14 1 rfl ?_
      refine wp_getR X (T := TX7) (N := 2) (ci := 6) (k := 0) rfl (by decide) (by decide) inBX7 kw42 dX7_isSameAs_15 h (fun v15 h => ?_)
      refine wp_iload_n X dX7_isSameAs_18 2 rfl ?_
      refine wp_iaload X dX7_isSameAs_19 h (fun v19 h => ?_)
      refine wp_icmp_eq X (tgt := 25) dX7_isSameAs_20 (by decide) h (fun h => ?_) (fun h => ?_)
      · refine wp_iconst X (v := 0) dX7_isSameAs_25 (by decide) ?_
        refine wp_istore_n X (lv' := [(0, .ref x0), (1, .ref x1), (2, .int x2), (3, .int 0)]) dX7_isSameAs_26 (by decide) [1, 2, 3, 0] rfl ?_
        refine tX7_isSameAs_27 X hcd Qr  ?_ FU _ _ _ _ _ h
        · intro x0 x1 x2 F h
          refine wp_iinc X (v := x2 + 1) (lv' := [(0, .ref x0), (1, .ref x1), (2, .int (x2 + 1))]) dX7_isSameAs_60 (by decide) 2 rfl rfl [1, 2, 0] rfl ?_
          refine wp_goto X (tgt := 2) dX7_isSameAs_63 (by decide) ?_
          exact ih _ _ _ _ h
      · refine wp_iconst X (v := 0) dX7_isSameAs_23 (by decide) ?_
        exact wp_ireturn X Qr rfl rfl dX7_isSameAs_24 h
def mX7_isSameAs (F : Mem) (x0 : Nat) (x1 : Nat) : Option (Int32 × Mem) := fX7_isSameAs_2   FU x0 x1 0 F
set_option maxRecDepth 100000 in
set_option maxHeartbeats 4000000 in
theorem cX7_isSameAs_ok {l : Launch} {D : va_G} {cy : Nat → ClassId} {F : Mem} {x0 : Nat} {x1 : Nat} {res : Int32 × Mem} (h : mX7_isSameAs F x0 x1 = some res) : MI l yX7_isSameAs cX7_isSameAs 4 (some .boolean) rmX7_isSameAs D cy F [.ref x0, .ref x1] res := by
  refine mi_of (by decide) (Nat.le_of_ble_eq_true rfl) [(0, .ref x0), (1, .ref x1)] rfl (fun C X hcd Qr => ?_)
  unfold mX7_isSameAs at h
  refine wp_iconst X (v := 0) dX7_isSameAs_0 (by decide) ?_
  refine wp_istore_n X (lv' := [(0, .ref x0), (1, .ref x1), (2, .int 0)]) dX7_isSameAs_1 (by decide) [1, 2, 0] rfl ?_
  refine tX7_isSameAs_2 X hcd Qr   FU _ _ _ _ h
/-! TableauBench$Tableau.firstGreater(II)I -/
def rmX7_firstGreater : Room := { frames := 2, cells := 0, slots := 0, locals := 44 }
def fX7_firstGreater_2  : Nat → Nat → Int32 → Int32 → Int32 → Mem → Option (Int32 × Mem)
  | 0, _, _, _, _, _ => none
  | n + 1, x0, x1, x2, x3, F => (gfR F x0 6 0).bind fun v4 => (rdI F 0 v4 x1).bind fun v8 => if v8 ≤ x3 then (some (x3, F)) else ((obj F x0 6).bind fun _ => (mX7_letterAt F x0 x1 x3).bind fun v15 => if x2 < v15.1 then (some (x3, v15.2)) else ((fX7_firstGreater_2   n) x0 x1 x2 (x3 + 1) v15.2))
set_option maxRecDepth 100000 in
set_option maxHeartbeats 4000000 in
theorem tX7_firstGreater_2 {l : Launch} {D : va_G} {cy : Nat → ClassId} {C : Cx} {res : Int32 × Mem} (X : Fx C cX7_firstGreater RX7 (some .int) rmX7_firstGreater 4) (hcd : CD C l D cy) (Qr : RI C 0 0 res)   : ∀ (n : Nat) (x0 : Nat) (x1 : Int32) (x2 : Int32) (x3 : Int32) (F : Mem), fX7_firstGreater_2  n x0 x1 x2 x3 F = some res → Wp C 0 0 2 [(0, .ref x0), (1, .int x1), (2, .int x2), (3, .int x3)] [] F := by
  intro n
  induction n with
  | zero =>
    intro x0 x1 x2 x3 F h
    rw [fX7_firstGreater_2.eq_1] at h
    cases h
  | succ n ih =>
    intro x0 x1 x2 x3 F h
    rw [fX7_firstGreater_2.eq_2] at h
    refine wp_iload_n X dX7_firstGreater_2 3 rfl ?_
    refine wp_aload_n X dX7_firstGreater_3 0 rfl ?_
    refine wp_getR X (T := TX7) (N := 2) (ci := 6) (k := 0) rfl (by decide) (by decide) inBX7 kw42 dX7_firstGreater_4 h (fun v4 h => ?_)
    refine wp_iload_n X dX7_firstGreater_7 1 rfl ?_
    refine wp_iaload X dX7_firstGreater_8 h (fun v8 h => ?_)
    refine wp_icmp_ge X (tgt := 28) dX7_firstGreater_9 (by decide) h (fun h => ?_) (fun h => ?_)
    · refine wp_iload_n X dX7_firstGreater_28 3 rfl ?_
      exact wp_ireturn X Qr rfl (vp_nar_int _) dX7_firstGreater_29 h
    · refine wp_aload_n X dX7_firstGreater_12 0 rfl ?_
      refine wp_iload_n X dX7_firstGreater_13 1 rfl ?_
      refine wp_iload_n X dX7_firstGreater_14 3 rfl ?_
      refine wp_callVI X (rm := rmX7_letterAt) (T := TX7) (N := 2) (ci := 6) (n := 2) [.int x1, .int x3] hcd (fun q hq => cX7_letterAt_ok hq) kw258 kw224 kw225 kw2 kw226 (by decide +kernel) (by decide) (by decide) (cs2 := 0) (sl2 := 0) rfl rfl rfl (by decide) rfl rfl (Nat.le_of_ble_eq_true rfl) dX7_firstGreater_15 h (fun v15 h => ?_)
      refine wp_iload_n X dX7_firstGreater_18 2 rfl ?_
      refine wp_icmp_gt X (tgt := 28) dX7_firstGreater_19 (by decide) h (fun h => ?_) (fun h => ?_)
      · refine wp_iload_n X dX7_firstGreater_28 3 rfl ?_
        exact wp_ireturn X Qr rfl (vp_nar_int _) dX7_firstGreater_29 h
      · refine wp_iinc X (v := x3 + 1) (lv' := [(0, .ref x0), (1, .int x1), (2, .int x2), (3, .int (x3 + 1))]) dX7_firstGreater_22 (by decide) 3 rfl rfl [1, 2, 3, 0] rfl ?_
        refine wp_goto X (tgt := 2) dX7_firstGreater_25 (by decide) ?_
        exact ih _ _ _ _ _ h
def mX7_firstGreater (F : Mem) (x0 : Nat) (x1 : Int32) (x2 : Int32) : Option (Int32 × Mem) := fX7_firstGreater_2   FU x0 x1 x2 0 F
set_option maxRecDepth 100000 in
set_option maxHeartbeats 4000000 in
theorem cX7_firstGreater_ok {l : Launch} {D : va_G} {cy : Nat → ClassId} {F : Mem} {x0 : Nat} {x1 : Int32} {x2 : Int32} {res : Int32 × Mem} (h : mX7_firstGreater F x0 x1 x2 = some res) : MI l yX7_firstGreater cX7_firstGreater 4 (some .int) rmX7_firstGreater D cy F [.ref x0, .int x1, .int x2] res := by
  refine mi_of (by decide) (Nat.le_of_ble_eq_true rfl) [(0, .ref x0), (1, .int x1), (2, .int x2)] rfl (fun C X hcd Qr => ?_)
  unfold mX7_firstGreater at h
  refine wp_iconst X (v := 0) dX7_firstGreater_0 (by decide) ?_
  refine wp_istore_n X (lv' := [(0, .ref x0), (1, .int x1), (2, .int x2), (3, .int 0)]) dX7_firstGreater_1 (by decide) [1, 2, 3, 0] rfl ?_
  refine tX7_firstGreater_2 X hcd Qr   FU _ _ _ _ _ h
/-! TableauBench$Tableau.addByRows(I)I -/
def rmX7_addByRows : Room := { frames := 3, cells := 0, slots := 0, locals := 68 }
def fX7_addByRows_12 (K52 : Nat → Int32 → Int32 → Mem → Option (Int32 × Mem)) : Nat → Nat → Int32 → Int32 → Int32 → Mem → Option (Int32 × Mem)
  | 0, _, _, _, _, _ => none
  | n + 1, x0, x2, x3, x4, F => if 15 ≤ x3 then (K52 x0 x2 x3 F) else ((gfR F x0 6 0).bind fun v21 => (rdI F 0 v21 x3).bind fun v25 => if v25 ≤ x4 then (K52 x0 x2 x3 F) else ((obj F x0 6).bind fun _ => (mX7_replace F x0 x3 x4 x2).bind fun v34 => (obj v34.2 x0 6).bind fun _ => (mX7_firstGreater v34.2 x0 (x3 + 1) v34.1).bind fun v44 => (fX7_addByRows_12  K52 n) x0 v34.1 (x3 + 1) v44.1 v44.2))
set_option maxRecDepth 100000 in
set_option maxHeartbeats 4000000 in
theorem tX7_addByRows_12 {l : Launch} {D : va_G} {cy : Nat → ClassId} {C : Cx} {res : Int32 × Mem} (X : Fx C cX7_addByRows RX7 (some .int) rmX7_addByRows 5) (hcd : CD C l D cy) (Qr : RI C 0 0 res) {K52 : Nat → Int32 → Int32 → Mem → Option (Int32 × Mem)} (hK52 : ∀ (x0 : Nat) (x2 : Int32) (x3 : Int32) (F : Mem), K52 x0 x2 x3 F = some res → Wp C 0 0 52 [(0, .ref x0), (2, .int x2), (3, .int x3)] [] F) : ∀ (n : Nat) (x0 : Nat) (x2 : Int32) (x3 : Int32) (x4 : Int32) (F : Mem), fX7_addByRows_12 K52 n x0 x2 x3 x4 F = some res → Wp C 0 0 12 [(0, .ref x0), (2, .int x2), (3, .int x3), (4, .int x4)] [] F := by
  intro n
  induction n with
  | zero =>
    intro x0 x2 x3 x4 F h
    rw [fX7_addByRows_12.eq_1] at h
    cases h
  | succ n ih =>
    intro x0 x2 x3 x4 F h
    rw [fX7_addByRows_12.eq_2] at h
    refine wp_iload_n X dX7_addByRows_12 2 rfl ?_
    refine wp_bipush X (v := 15) dX7_addByRows_13 (by decide) ?_
    refine wp_icmp_ge X (tgt := 52) dX7_addByRows_15 (by decide) h (fun h => ?_) (fun h => ?_)
    · refine wp_sub (lv' := [(0, .ref x0), (2, .int x2), (3, .int x3)]) [0, 1, 2] rfl ?_
      exact hK52 _ _ _ _ h
    · refine wp_iload X dX7_addByRows_18 3 rfl ?_
      refine wp_aload_n X dX7_addByRows_20 0 rfl ?_
      refine wp_getR X (T := TX7) (N := 2) (ci := 6) (k := 0) rfl (by decide) (by decide) inBX7 kw42 dX7_addByRows_21 h (fun v21 h => ?_)
      refine wp_iload_n X dX7_addByRows_24 2 rfl ?_
      refine wp_iaload X dX7_addByRows_25 h (fun v25 h => ?_)
      refine wp_icmp_ge X (tgt := 52) dX7_addByRows_26 (by decide) h (fun h => ?_) (fun h => ?_)
      · refine wp_sub (lv' := [(0, .ref x0), (2, .int x2), (3, .int x3)]) [0, 1, 2] rfl ?_
        exact hK52 _ _ _ _ h
      · refine wp_aload_n X dX7_addByRows_29 0 rfl ?_
        refine wp_iload_n X dX7_addByRows_30 2 rfl ?_
        refine wp_iload X dX7_addByRows_31 3 rfl ?_
        refine wp_iload_n X dX7_addByRows_33 1 rfl ?_
        refine wp_callVI X (rm := rmX7_replace) (T := TX7) (N := 2) (ci := 6) (n := 3) [.int x3, .int x4, .int x2] hcd (fun q hq => cX7_replace_ok hq) kw259 kw260 kw261 kw2 kw262 (by decide +kernel) (by decide) (by decide) (cs2 := 0) (sl2 := 0) rfl rfl rfl (by decide) rfl rfl (Nat.le_of_ble_eq_true rfl) dX7_addByRows_34 h (fun v34 h => ?_)
        refine wp_istore_n X (lv' := [(0, .ref x0), (2, .int v34.1), (3, .int x3)]) dX7_addByRows_37 (by decide) [1, 0, 2] rfl ?_
        refine wp_iinc X (v := x3 + 1) (lv' := [(0, .ref x0), (2, .int v34.1), (3, .int (x3 + 1))]) dX7_addByRows_38 (by decide) 2 rfl rfl [1, 2, 0] rfl ?_
        refine wp_aload_n X dX7_addByRows_41 0 rfl ?_
        refine wp_iload_n X dX7_addByRows_42 2 rfl ?_
        refine wp_iload_n X dX7_addByRows_43 1 rfl ?_
        refine wp_callVI X (rm := rmX7_firstGreater) (T := TX7) (N := 2) (ci := 6) (n := 2) [.int (x3 + 1), .int v34.1] hcd (fun q hq => cX7_firstGreater_ok hq) kw254 kw256 ks0 kw2 kw257 (by decide +kernel) (by decide) (by decide) (cs2 := 0) (sl2 := 0) rfl rfl rfl (by decide) rfl rfl (Nat.le_of_ble_eq_true rfl) dX7_addByRows_44 h (fun v44 h => ?_)
        refine wp_istore X (lv' := [(0, .ref x0), (2, .int v34.1), (3, .int (x3 + 1)), (4, .int v44.1)]) dX7_addByRows_47 (by decide) [1, 2, 3, 0] rfl ?_
        refine wp_goto X (tgt := 12) dX7_addByRows_49 (by decide) ?_
        exact ih _ _ _ _ _ h
def fX7_addByRows_52  (x0 : Nat) (x2 : Int32) (x3 : Int32) (F : Mem) : Option (Int32 × Mem) := (obj F x0 6).bind fun _ => (mX7_append F x0 x3 x2).bind fun v55 => some (x3, v55)
set_option maxRecDepth 100000 in
set_option maxHeartbeats 4000000 in
theorem tX7_addByRows_52 {l : Launch} {D : va_G} {cy : Nat → ClassId} {C : Cx} {res : Int32 × Mem} (X : Fx C cX7_addByRows RX7 (some .int) rmX7_addByRows 5) (hcd : CD C l D cy) (Qr : RI C 0 0 res)   (x0 : Nat) (x2 : Int32) (x3 : Int32) (F : Mem) (h : fX7_addByRows_52  x0 x2 x3 F = some res) : Wp C 0 0 52 [(0, .ref x0), (2, .int x2), (3, .int x3)] [] F := by
  unfold fX7_addByRows_52 at h
  refine wp_aload_n X dX7_addByRows_52 0 rfl ?_
  refine wp_iload_n X dX7_addByRows_53 2 rfl ?_
  refine wp_iload_n X dX7_addByRows_54 1 rfl ?_
  refine wp_callVV X (rm := rmX7_append) (T := TX7) (N := 2) (ci := 6) (n := 2) [.int x3, .int x2] hcd (fun q hq => cX7_append_ok hq) kw267 kw268 kw269 kw2 kw270 (by decide +kernel) (by decide) (by decide) (cs2 := 0) (sl2 := 0) rfl rfl rfl (by decide) rfl rfl (Nat.le_of_ble_eq_true rfl) dX7_addByRows_55 h (fun v55 h => ?_)
  refine wp_iload_n X dX7_addByRows_58 2 rfl ?_
  exact wp_ireturn X Qr rfl (vp_nar_int _) dX7_addByRows_59 h
def mX7_addByRows (F : Mem) (x0 : Nat) (x1 : Int32) : Option (Int32 × Mem) := (obj F x0 6).bind fun _ => (mX7_firstGreater F x0 0 x1).bind fun v7 => fX7_addByRows_12  (fun (x0 : Nat) (x2 : Int32) (x3 : Int32) (F : Mem) => fX7_addByRows_52   x0 x2 x3 F) FU x0 x1 0 v7.1 v7.2
set_option maxRecDepth 100000 in
set_option maxHeartbeats 4000000 in
theorem cX7_addByRows_ok {l : Launch} {D : va_G} {cy : Nat → ClassId} {F : Mem} {x0 : Nat} {x1 : Int32} {res : Int32 × Mem} (h : mX7_addByRows F x0 x1 = some res) : MI l yX7_addByRows cX7_addByRows 5 (some .int) rmX7_addByRows D cy F [.ref x0, .int x1] res := by
  refine mi_of (by decide) (Nat.le_of_ble_eq_true rfl) [(0, .ref x0), (1, .int x1)] rfl (fun C X hcd Qr => ?_)
  unfold mX7_addByRows at h
  refine wp_iload_n X dX7_addByRows_0 1 rfl ?_
  refine wp_istore_n X (lv' := [(0, .ref x0), (2, .int x1)]) dX7_addByRows_1 (by decide) [1, 0] rfl ?_
  refine wp_iconst X (v := 0) dX7_addByRows_2 (by decide) ?_
  refine wp_istore_n X (lv' := [(0, .ref x0), (2, .int x1), (3, .int 0)]) dX7_addByRows_3 (by decide) [1, 2, 0] rfl ?_
  refine wp_aload_n X dX7_addByRows_4 0 rfl ?_
  refine wp_iload_n X dX7_addByRows_5 2 rfl ?_
  refine wp_iload_n X dX7_addByRows_6 1 rfl ?_
  refine wp_callVI X (rm := rmX7_firstGreater) (T := TX7) (N := 2) (ci := 6) (n := 2) [.int 0, .int x1] hcd (fun q hq => cX7_firstGreater_ok hq) kw254 kw256 ks0 kw2 kw257 (by decide +kernel) (by decide) (by decide) (cs2 := 0) (sl2 := 0) rfl rfl rfl (by decide) rfl rfl (Nat.le_of_ble_eq_true rfl) dX7_addByRows_7 h (fun v7 h => ?_)
  refine wp_istore X (lv' := [(0, .ref x0), (2, .int x1), (3, .int 0), (4, .int v7.1)]) dX7_addByRows_10 (by decide) [1, 2, 3, 0] rfl ?_
  refine tX7_addByRows_12 X hcd Qr  ?_ FU _ _ _ _ _ h
  · intro x0 x2 x3 F h
    exact tX7_addByRows_52 X hcd Qr   _ _ _ _ h
/-! TableauBench$Tableau.insertAll(LTableauBench$Word;)V -/
def rmX7_insertAll : Room := { frames := 4, cells := 0, slots := 0, locals := 92 }
def fX7_insertAll_6  : Nat → Nat → Nat → Int32 → Mem → Option (Mem)
  | 0, _, _, _, _ => none
  | n + 1, x0, x1, x2, F => (gfI F x1 7 1).bind fun v8 => if v8 ≤ x2 then (some F) else ((obj F x1 7).bind fun _ => (mX8_letterAt F x1 x2).bind fun v17 => (obj v17.2 x0 6).bind fun _ => (mX7_addByRows v17.2 x0 v17.1).bind fun v20 => (fX7_insertAll_6   n) x0 x1 (x2 + 1) v20.2)
set_option maxRecDepth 100000 in
set_option maxHeartbeats 4000000 in
theorem tX7_insertAll_6 {l : Launch} {D : va_G} {cy : Nat → ClassId} {C : Cx} {res : Mem} (X : Fx C cX7_insertAll RX7 none rmX7_insertAll 3) (hcd : CD C l D cy) (Qr : RV C 0 0 res)   : ∀ (n : Nat) (x0 : Nat) (x1 : Nat) (x2 : Int32) (F : Mem), fX7_insertAll_6  n x0 x1 x2 F = some res → Wp C 0 0 6 [(0, .ref x0), (1, .ref x1), (2, .int x2)] [] F := by
  intro n
  induction n with
  | zero =>
    intro x0 x1 x2 F h
    rw [fX7_insertAll_6.eq_1] at h
    cases h
  | succ n ih =>
    intro x0 x1 x2 F h
    rw [fX7_insertAll_6.eq_2] at h
    refine wp_iload_n X dX7_insertAll_6 2 rfl ?_
    refine wp_aload_n X dX7_insertAll_7 1 rfl ?_
    refine wp_getI X (T := TX8) (N := 2) (ci := 7) (k := 1) rfl (by decide) (by decide) inBX8 kw173 dX7_insertAll_8 h (fun v8 h => ?_)
    refine wp_icmp_ge X (tgt := 30) dX7_insertAll_11 (by decide) h (fun h => ?_) (fun h => ?_)
    · exact wp_return X Qr rfl dX7_insertAll_30 h
    · refine wp_aload_n X dX7_insertAll_14 0 rfl ?_
      refine wp_aload_n X dX7_insertAll_15 1 rfl ?_
      refine wp_iload_n X dX7_insertAll_16 2 rfl ?_
      refine wp_callVI X (rm := rmX8_letterAt) (T := TX8) (N := 2) (ci := 7) (n := 1) [.int x2] hcd (fun q hq => cX8_letterAt_ok hq) kw246 kw247 kw248 kw9 kw249 (by decide +kernel) (by decide) (by decide) (cs2 := 0) (sl2 := 0) rfl rfl rfl (by decide) rfl rfl (Nat.le_of_ble_eq_true rfl) dX7_insertAll_17 h (fun v17 h => ?_)
      refine wp_callVI X (rm := rmX7_addByRows) (T := TX7) (N := 2) (ci := 6) (n := 1) [.int v17.1] hcd (fun q hq => cX7_addByRows_ok hq) kw250 kw251 kw252 kw2 kw253 (by decide +kernel) (by decide) (by decide) (cs2 := 0) (sl2 := 0) rfl rfl rfl (by decide) rfl rfl (Nat.le_of_ble_eq_true rfl) dX7_insertAll_20 h (fun v20 h => ?_)
      refine wp_pop X dX7_insertAll_23 rfl ?_
      refine wp_iinc X (v := x2 + 1) (lv' := [(0, .ref x0), (1, .ref x1), (2, .int (x2 + 1))]) dX7_insertAll_24 (by decide) 2 rfl rfl [1, 2, 0] rfl ?_
      refine wp_goto X (tgt := 6) dX7_insertAll_27 (by decide) ?_
      exact ih _ _ _ _ h
def mX7_insertAll (F : Mem) (x0 : Nat) (x1 : Nat) : Option (Mem) := (obj F x0 6).bind fun _ => (mX7_clear F x0).bind fun v1 => fX7_insertAll_6   FU x0 x1 0 v1
set_option maxRecDepth 100000 in
set_option maxHeartbeats 4000000 in
theorem cX7_insertAll_ok {l : Launch} {D : va_G} {cy : Nat → ClassId} {F : Mem} {x0 : Nat} {x1 : Nat} {res : Mem} (h : mX7_insertAll F x0 x1 = some res) : MV l yX7_insertAll cX7_insertAll 3 none rmX7_insertAll D cy F [.ref x0, .ref x1] res := by
  refine mv_of (by decide) (Nat.le_of_ble_eq_true rfl) [(0, .ref x0), (1, .ref x1)] rfl (fun C X hcd Qr => ?_)
  unfold mX7_insertAll at h
  refine wp_aload_n X dX7_insertAll_0 0 rfl ?_
  refine wp_callVV X (rm := rmX7_clear) (T := TX7) (N := 2) (ci := 6) (n := 0) [] hcd (fun q hq => cX7_clear_ok hq) kw239 kw240 kw241 kw2 kw242 (by decide +kernel) (by decide) (by decide) (cs2 := 0) (sl2 := 0) rfl rfl rfl (by decide) rfl rfl (Nat.le_of_ble_eq_true rfl) dX7_insertAll_1 h (fun v1 h => ?_)
  refine wp_iconst X (v := 0) dX7_insertAll_4 (by decide) ?_
  refine wp_istore_n X (lv' := [(0, .ref x0), (1, .ref x1), (2, .int 0)]) dX7_insertAll_5 (by decide) [1, 2, 0] rfl ?_
  refine tX7_insertAll_6 X hcd Qr   FU _ _ _ _ h
/-! TableauBench$Tableau.firstNotLess(II)I -/
def rmX7_firstNotLess : Room := { frames := 2, cells := 0, slots := 0, locals := 44 }
def fX7_firstNotLess_2  : Nat → Nat → Int32 → Int32 → Int32 → Mem → Option (Int32 × Mem)
  | 0, _, _, _, _, _ => none
  | n + 1, x0, x1, x2, x3, F => if 15 ≤ x3 then (some (x3, F)) else ((obj F x0 6).bind fun _ => (mX7_has F x0 x3 x1).bind fun v11 => if v11.1 = 0 then (some (x3, v11.2)) else ((obj v11.2 x0 6).bind fun _ => (mX7_letterAt v11.2 x0 x3 x1).bind fun v20 => if x2 ≤ v20.1 then (some (x3, v20.2)) else ((fX7_firstNotLess_2   n) x0 x1 x2 (x3 + 1) v20.2)))
set_option maxRecDepth 100000 in
set_option maxHeartbeats 4000000 in
theorem tX7_firstNotLess_2 {l : Launch} {D : va_G} {cy : Nat → ClassId} {C : Cx} {res : Int32 × Mem} (X : Fx C cX7_firstNotLess RX7 (some .int) rmX7_firstNotLess 4) (hcd : CD C l D cy) (Qr : RI C 0 0 res)   : ∀ (n : Nat) (x0 : Nat) (x1 : Int32) (x2 : Int32) (x3 : Int32) (F : Mem), fX7_firstNotLess_2  n x0 x1 x2 x3 F = some res → Wp C 0 0 2 [(0, .ref x0), (1, .int x1), (2, .int x2), (3, .int x3)] [] F := by
  intro n
  induction n with
  | zero =>
    intro x0 x1 x2 x3 F h
    rw [fX7_firstNotLess_2.eq_1] at h
    cases h
  | succ n ih =>
    intro x0 x1 x2 x3 F h
    rw [fX7_firstNotLess_2.eq_2] at h
    refine wp_iload_n X dX7_firstNotLess_2 3 rfl ?_
    refine wp_bipush X (v := 15) dX7_firstNotLess_3 (by decide) ?_
    refine wp_icmp_ge X (tgt := 33) dX7_firstNotLess_5 (by decide) h (fun h => ?_) (fun h => ?_)
    · refine wp_iload_n X dX7_firstNotLess_33 3 rfl ?_
      exact wp_ireturn X Qr rfl (vp_nar_int _) dX7_firstNotLess_34 h
    · refine wp_aload_n X dX7_firstNotLess_8 0 rfl ?_
      refine wp_iload_n X dX7_firstNotLess_9 3 rfl ?_
      refine wp_iload_n X dX7_firstNotLess_10 1 rfl ?_
      refine wp_callVI X (rm := rmX7_has) (T := TX7) (N := 2) (ci := 6) (n := 2) [.int x3, .int x1] hcd (fun q hq => cX7_has_ok hq) kw227 kw228 kw229 kw2 kw230 (by decide +kernel) (by decide) (by decide) (cs2 := 0) (sl2 := 0) rfl rfl rfl (by decide) rfl rfl (Nat.le_of_ble_eq_true rfl) dX7_firstNotLess_11 h (fun v11 h => ?_)
      refine wp_if_eq X (tgt := 33) dX7_firstNotLess_14 (by decide) h (fun h => ?_) (fun h => ?_)
      · refine wp_iload_n X dX7_firstNotLess_33 3 rfl ?_
        exact wp_ireturn X Qr rfl (vp_nar_int _) dX7_firstNotLess_34 h
      · refine wp_aload_n X dX7_firstNotLess_17 0 rfl ?_
        refine wp_iload_n X dX7_firstNotLess_18 3 rfl ?_
        refine wp_iload_n X dX7_firstNotLess_19 1 rfl ?_
        refine wp_callVI X (rm := rmX7_letterAt) (T := TX7) (N := 2) (ci := 6) (n := 2) [.int x3, .int x1] hcd (fun q hq => cX7_letterAt_ok hq) kw258 kw224 kw225 kw2 kw226 (by decide +kernel) (by decide) (by decide) (cs2 := 0) (sl2 := 0) rfl rfl rfl (by decide) rfl rfl (Nat.le_of_ble_eq_true rfl) dX7_firstNotLess_20 h (fun v20 h => ?_)
        refine wp_iload_n X dX7_firstNotLess_23 2 rfl ?_
        refine wp_icmp_ge X (tgt := 33) dX7_firstNotLess_24 (by decide) h (fun h => ?_) (fun h => ?_)
        · refine wp_iload_n X dX7_firstNotLess_33 3 rfl ?_
          exact wp_ireturn X Qr rfl (vp_nar_int _) dX7_firstNotLess_34 h
        · refine wp_iinc X (v := x3 + 1) (lv' := [(0, .ref x0), (1, .int x1), (2, .int x2), (3, .int (x3 + 1))]) dX7_firstNotLess_27 (by decide) 3 rfl rfl [1, 2, 3, 0] rfl ?_
          refine wp_goto X (tgt := 2) dX7_firstNotLess_30 (by decide) ?_
          exact ih _ _ _ _ _ h
def mX7_firstNotLess (F : Mem) (x0 : Nat) (x1 : Int32) (x2 : Int32) : Option (Int32 × Mem) := fX7_firstNotLess_2   FU x0 x1 x2 0 F
set_option maxRecDepth 100000 in
set_option maxHeartbeats 4000000 in
theorem cX7_firstNotLess_ok {l : Launch} {D : va_G} {cy : Nat → ClassId} {F : Mem} {x0 : Nat} {x1 : Int32} {x2 : Int32} {res : Int32 × Mem} (h : mX7_firstNotLess F x0 x1 x2 = some res) : MI l yX7_firstNotLess cX7_firstNotLess 4 (some .int) rmX7_firstNotLess D cy F [.ref x0, .int x1, .int x2] res := by
  refine mi_of (by decide) (Nat.le_of_ble_eq_true rfl) [(0, .ref x0), (1, .int x1), (2, .int x2)] rfl (fun C X hcd Qr => ?_)
  unfold mX7_firstNotLess at h
  refine wp_iconst X (v := 0) dX7_firstNotLess_0 (by decide) ?_
  refine wp_istore_n X (lv' := [(0, .ref x0), (1, .int x1), (2, .int x2), (3, .int 0)]) dX7_firstNotLess_1 (by decide) [1, 2, 3, 0] rfl ?_
  refine tX7_firstNotLess_2 X hcd Qr   FU _ _ _ _ _ h
/-! TableauBench$Tableau.addByColumns(I)I -/
def rmX7_addByColumns : Room := { frames := 3, cells := 0, slots := 0, locals := 68 }
def fX7_addByColumns_12 (K51 : Nat → Int32 → Int32 → Mem → Option (Int32 × Mem)) : Nat → Nat → Int32 → Int32 → Int32 → Mem → Option (Int32 × Mem)
  | 0, _, _, _, _, _ => none
  | n + 1, x0, x2, x3, x4, F => if 23 ≤ x3 then (K51 x0 x2 x4 F) else ((obj F x0 6).bind fun _ => (mX7_has F x0 x4 x3).bind fun v22 => if v22.1 = 0 then (K51 x0 x2 x4 v22.2) else ((obj v22.2 x0 6).bind fun _ => (mX7_replace v22.2 x0 x4 x3 x2).bind fun v33 => (obj v33.2 x0 6).bind fun _ => (mX7_firstNotLess v33.2 x0 (x3 + 1) v33.1).bind fun v43 => (fX7_addByColumns_12  K51 n) x0 v33.1 (x3 + 1) v43.1 v43.2))
set_option maxRecDepth 100000 in
set_option maxHeartbeats 4000000 in
theorem tX7_addByColumns_12 {l : Launch} {D : va_G} {cy : Nat → ClassId} {C : Cx} {res : Int32 × Mem} (X : Fx C cX7_addByColumns RX7 (some .int) rmX7_addByColumns 5) (hcd : CD C l D cy) (Qr : RI C 0 0 res) {K51 : Nat → Int32 → Int32 → Mem → Option (Int32 × Mem)} (hK51 : ∀ (x0 : Nat) (x2 : Int32) (x4 : Int32) (F : Mem), K51 x0 x2 x4 F = some res → Wp C 0 0 51 [(0, .ref x0), (2, .int x2), (4, .int x4)] [] F) : ∀ (n : Nat) (x0 : Nat) (x2 : Int32) (x3 : Int32) (x4 : Int32) (F : Mem), fX7_addByColumns_12 K51 n x0 x2 x3 x4 F = some res → Wp C 0 0 12 [(0, .ref x0), (2, .int x2), (3, .int x3), (4, .int x4)] [] F := by
  intro n
  induction n with
  | zero =>
    intro x0 x2 x3 x4 F h
    rw [fX7_addByColumns_12.eq_1] at h
    cases h
  | succ n ih =>
    intro x0 x2 x3 x4 F h
    rw [fX7_addByColumns_12.eq_2] at h
    refine wp_iload_n X dX7_addByColumns_12 2 rfl ?_
    refine wp_bipush X (v := 23) dX7_addByColumns_13 (by decide) ?_
    refine wp_icmp_ge X (tgt := 51) dX7_addByColumns_15 (by decide) h (fun h => ?_) (fun h => ?_)
    · refine wp_sub (lv' := [(0, .ref x0), (2, .int x2), (4, .int x4)]) [0, 1, 3] rfl ?_
      exact hK51 _ _ _ _ h
    · refine wp_aload_n X dX7_addByColumns_18 0 rfl ?_
      refine wp_iload X dX7_addByColumns_19 3 rfl ?_
      refine wp_iload_n X dX7_addByColumns_21 2 rfl ?_
      refine wp_callVI X (rm := rmX7_has) (T := TX7) (N := 2) (ci := 6) (n := 2) [.int x4, .int x3] hcd (fun q hq => cX7_has_ok hq) kw227 kw228 kw229 kw2 kw230 (by decide +kernel) (by decide) (by decide) (cs2 := 0) (sl2 := 0) rfl rfl rfl (by decide) rfl rfl (Nat.le_of_ble_eq_true rfl) dX7_addByColumns_22 h (fun v22 h => ?_)
      refine wp_if_eq X (tgt := 51) dX7_addByColumns_25 (by decide) h (fun h => ?_) (fun h => ?_)
      · refine wp_sub (lv' := [(0, .ref x0), (2, .int x2), (4, .int x4)]) [0, 1, 3] rfl ?_
        exact hK51 _ _ _ _ h
      · refine wp_aload_n X dX7_addByColumns_28 0 rfl ?_
        refine wp_iload X dX7_addByColumns_29 3 rfl ?_
        refine wp_iload_n X dX7_addByColumns_31 2 rfl ?_
        refine wp_iload_n X dX7_addByColumns_32 1 rfl ?_
        refine wp_callVI X (rm := rmX7_replace) (T := TX7) (N := 2) (ci := 6) (n := 3) [.int x4, .int x3, .int x2] hcd (fun q hq => cX7_replace_ok hq) kw259 kw260 kw261 kw2 kw262 (by decide +kernel) (by decide) (by decide) (cs2 := 0) (sl2 := 0) rfl rfl rfl (by decide) rfl rfl (Nat.le_of_ble_eq_true rfl) dX7_addByColumns_33 h (fun v33 h => ?_)
        refine wp_istore_n X (lv' := [(0, .ref x0), (2, .int v33.1), (3, .int x3)]) dX7_addByColumns_36 (by decide) [1, 0, 2] rfl ?_
        refine wp_iinc X (v := x3 + 1) (lv' := [(0, .ref x0), (2, .int v33.1), (3, .int (x3 + 1))]) dX7_addByColumns_37 (by decide) 2 rfl rfl [1, 2, 0] rfl ?_
        refine wp_aload_n X dX7_addByColumns_40 0 rfl ?_
        refine wp_iload_n X dX7_addByColumns_41 2 rfl ?_
        refine wp_iload_n X dX7_addByColumns_42 1 rfl ?_
        refine wp_callVI X (rm := rmX7_firstNotLess) (T := TX7) (N := 2) (ci := 6) (n := 2) [.int (x3 + 1), .int v33.1] hcd (fun q hq => cX7_firstNotLess_ok hq) kw530 kw532 ks4 kw2 kw533 (by decide +kernel) (by decide) (by decide) (cs2 := 0) (sl2 := 0) rfl rfl rfl (by decide) rfl rfl (Nat.le_of_ble_eq_true rfl) dX7_addByColumns_43 h (fun v43 h => ?_)
        refine wp_istore X (lv' := [(0, .ref x0), (2, .int v33.1), (3, .int (x3 + 1)), (4, .int v43.1)]) dX7_addByColumns_46 (by decide) [1, 2, 3, 0] rfl ?_
        refine wp_goto X (tgt := 12) dX7_addByColumns_48 (by decide) ?_
        exact ih _ _ _ _ _ h
def fX7_addByColumns_51  (x0 : Nat) (x2 : Int32) (x4 : Int32) (F : Mem) : Option (Int32 × Mem) := (obj F x0 6).bind fun _ => (mX7_append F x0 x4 x2).bind fun v55 => some (x4, v55)
set_option maxRecDepth 100000 in
set_option maxHeartbeats 4000000 in
theorem tX7_addByColumns_51 {l : Launch} {D : va_G} {cy : Nat → ClassId} {C : Cx} {res : Int32 × Mem} (X : Fx C cX7_addByColumns RX7 (some .int) rmX7_addByColumns 5) (hcd : CD C l D cy) (Qr : RI C 0 0 res)   (x0 : Nat) (x2 : Int32) (x4 : Int32) (F : Mem) (h : fX7_addByColumns_51  x0 x2 x4 F = some res) : Wp C 0 0 51 [(0, .ref x0), (2, .int x2), (4, .int x4)] [] F := by
  unfold fX7_addByColumns_51 at h
  refine wp_aload_n X dX7_addByColumns_51 0 rfl ?_
  refine wp_iload X dX7_addByColumns_52 2 rfl ?_
  refine wp_iload_n X dX7_addByColumns_54 1 rfl ?_
  refine wp_callVV X (rm := rmX7_append) (T := TX7) (N := 2) (ci := 6) (n := 2) [.int x4, .int x2] hcd (fun q hq => cX7_append_ok hq) kw267 kw268 kw269 kw2 kw270 (by decide +kernel) (by decide) (by decide) (cs2 := 0) (sl2 := 0) rfl rfl rfl (by decide) rfl rfl (Nat.le_of_ble_eq_true rfl) dX7_addByColumns_55 h (fun v55 h => ?_)
  refine wp_iload X dX7_addByColumns_58 2 rfl ?_
  exact wp_ireturn X Qr rfl (vp_nar_int _) dX7_addByColumns_60 h
def mX7_addByColumns (F : Mem) (x0 : Nat) (x1 : Int32) : Option (Int32 × Mem) := (obj F x0 6).bind fun _ => (mX7_firstNotLess F x0 0 x1).bind fun v7 => fX7_addByColumns_12  (fun (x0 : Nat) (x2 : Int32) (x4 : Int32) (F : Mem) => fX7_addByColumns_51   x0 x2 x4 F) FU x0 x1 0 v7.1 v7.2
set_option maxRecDepth 100000 in
set_option maxHeartbeats 4000000 in
theorem cX7_addByColumns_ok {l : Launch} {D : va_G} {cy : Nat → ClassId} {F : Mem} {x0 : Nat} {x1 : Int32} {res : Int32 × Mem} (h : mX7_addByColumns F x0 x1 = some res) : MI l yX7_addByColumns cX7_addByColumns 5 (some .int) rmX7_addByColumns D cy F [.ref x0, .int x1] res := by
  refine mi_of (by decide) (Nat.le_of_ble_eq_true rfl) [(0, .ref x0), (1, .int x1)] rfl (fun C X hcd Qr => ?_)
  unfold mX7_addByColumns at h
  refine wp_iload_n X dX7_addByColumns_0 1 rfl ?_
  refine wp_istore_n X (lv' := [(0, .ref x0), (2, .int x1)]) dX7_addByColumns_1 (by decide) [1, 0] rfl ?_
  refine wp_iconst X (v := 0) dX7_addByColumns_2 (by decide) ?_
  refine wp_istore_n X (lv' := [(0, .ref x0), (2, .int x1), (3, .int 0)]) dX7_addByColumns_3 (by decide) [1, 2, 0] rfl ?_
  refine wp_aload_n X dX7_addByColumns_4 0 rfl ?_
  refine wp_iload_n X dX7_addByColumns_5 2 rfl ?_
  refine wp_iload_n X dX7_addByColumns_6 1 rfl ?_
  refine wp_callVI X (rm := rmX7_firstNotLess) (T := TX7) (N := 2) (ci := 6) (n := 2) [.int 0, .int x1] hcd (fun q hq => cX7_firstNotLess_ok hq) kw530 kw532 ks4 kw2 kw533 (by decide +kernel) (by decide) (by decide) (cs2 := 0) (sl2 := 0) rfl rfl rfl (by decide) rfl rfl (Nat.le_of_ble_eq_true rfl) dX7_addByColumns_7 h (fun v7 h => ?_)
  refine wp_istore X (lv' := [(0, .ref x0), (2, .int x1), (3, .int 0), (4, .int v7.1)]) dX7_addByColumns_10 (by decide) [1, 2, 3, 0] rfl ?_
  refine tX7_addByColumns_12 X hcd Qr  ?_ FU _ _ _ _ _ h
  · intro x0 x2 x4 F h
    exact tX7_addByColumns_51 X hcd Qr   _ _ _ _ h
/-! TableauBench$Tableau.lastLess(II)I -/
def rmX7_lastLess : Room := { frames := 2, cells := 0, slots := 0, locals := 44 }
def fX7_lastLess_13  : Nat → Nat → Int32 → Int32 → Int32 → Mem → Option (Int32 × Mem)
  | 0, _, _, _, _, _ => none
  | n + 1, x0, x1, x2, x3, F => if x3 ≤ 0 then (some (x3, F)) else ((obj F x0 6).bind fun _ => (mX7_letterAt F x0 x1 x3).bind fun v20 => if v20.1 < x2 then (some (x3, v20.2)) else ((fX7_lastLess_13   n) x0 x1 x2 (x3 + (-1)) v20.2))
set_option maxRecDepth 100000 in
set_option maxHeartbeats 4000000 in
theorem tX7_lastLess_13 {l : Launch} {D : va_G} {cy : Nat → ClassId} {C : Cx} {res : Int32 × Mem} (X : Fx C cX7_lastLess RX7 (some .int) rmX7_lastLess 4) (hcd : CD C l D cy) (Qr : RI C 0 0 res)   : ∀ (n : Nat) (x0 : Nat) (x1 : Int32) (x2 : Int32) (x3 : Int32) (F : Mem), fX7_lastLess_13  n x0 x1 x2 x3 F = some res → Wp C 0 0 13 [(0, .ref x0), (1, .int x1), (2, .int x2), (3, .int x3)] [] F := by
  intro n
  induction n with
  | zero =>
    intro x0 x1 x2 x3 F h
    rw [fX7_lastLess_13.eq_1] at h
    cases h
  | succ n ih =>
    intro x0 x1 x2 x3 F h
    rw [fX7_lastLess_13.eq_2] at h
    refine wp_iload_n X dX7_lastLess_13 3 rfl ?_
    refine wp_if_le X (tgt := 33) dX7_lastLess_14 (by decide) h (fun h => ?_) (fun h => ?_)
    · refine wp_iload_n X dX7_lastLess_33 3 rfl ?_
      exact wp_ireturn X Qr rfl (vp_nar_int _) dX7_lastLess_34 h
    · refine wp_aload_n X dX7_lastLess_17 0 rfl ?_
      refine wp_iload_n X dX7_lastLess_18 1 rfl ?_
      refine wp_iload_n X dX7_lastLess_19 3 rfl ?_
      refine wp_callVI X (rm := rmX7_letterAt) (T := TX7) (N := 2) (ci := 6) (n := 2) [.int x1, .int x3] hcd (fun q hq => cX7_letterAt_ok hq) kw258 kw224 kw225 kw2 kw226 (by decide +kernel) (by decide) (by decide) (cs2 := 0) (sl2 := 0) rfl rfl rfl (by decide) rfl rfl (Nat.le_of_ble_eq_true rfl) dX7_lastLess_20 h (fun v20 h => ?_)
      refine wp_iload_n X dX7_lastLess_23 2 rfl ?_
      refine wp_icmp_lt X (tgt := 33) dX7_lastLess_24 (by decide) h (fun h => ?_) (fun h => ?_)
      · refine wp_iload_n X dX7_lastLess_33 3 rfl ?_
        exact wp_ireturn X Qr rfl (vp_nar_int _) dX7_lastLess_34 h
      · refine wp_iinc X (v := x3 + (-1)) (lv' := [(0, .ref x0), (1, .int x1), (2, .int x2), (3, .int (x3 + (-1)))]) dX7_lastLess_27 (by decide) 3 rfl rfl [1, 2, 3, 0] rfl ?_
        refine wp_goto X (tgt := 13) dX7_lastLess_30 (by decide) ?_
        exact ih _ _ _ _ _ h
def mX7_lastLess (F : Mem) (x0 : Nat) (x1 : Int32) (x2 : Int32) : Option (Int32 × Mem) := (gfR F x0 6 0).bind fun v1 => (rdI F 0 v1 x1).bind fun v5 => fX7_lastLess_13   FU x0 x1 x2 (if (v5 - 1) < 0 then 0 else (v5 - 1)) F
set_option maxRecDepth 100000 in
set_option maxHeartbeats 4000000 in
theorem cX7_lastLess_ok {l : Launch} {D : va_G} {cy : Nat → ClassId} {F : Mem} {x0 : Nat} {x1 : Int32} {x2 : Int32} {res : Int32 × Mem} (h : mX7_lastLess F x0 x1 x2 = some res) : MI l yX7_lastLess cX7_lastLess 4 (some .int) rmX7_lastLess D cy F [.ref x0, .int x1, .int x2] res := by
  refine mi_of (by decide) (Nat.le_of_ble_eq_true rfl) [(0, .ref x0), (1, .int x1), (2, .int x2)] rfl (fun C X hcd Qr => ?_)
  unfold mX7_lastLess at h
  refine wp_aload_n X dX7_lastLess_0 0 rfl ?_
  refine wp_getR X (T := TX7) (N := 2) (ci := 6) (k := 0) rfl (by decide) (by decide) inBX7 kw42 dX7_lastLess_1 h (fun v1 h => ?_)
  refine wp_iload_n X dX7_lastLess_4 1 rfl ?_
  refine wp_iaload X dX7_lastLess_5 h (fun v5 h => ?_)
  refine wp_iconst X (v := 1) dX7_lastLess_6 (by decide) ?_
  refine wp_isub X dX7_lastLess_7 ?_
  refine wp_iconst X (v := 0) dX7_lastLess_8 (by decide) ?_
  refine wp_mmax X kw586 kw587 kw18 kw588 (by decide) (by decide) (by decide) (by decide) dX7_lastLess_9 ?_
  refine wp_istore_n X (lv' := [(0, .ref x0), (1, .int x1), (2, .int x2), (3, .int (if (v5 - 1) < 0 then 0 else (v5 - 1)))]) dX7_lastLess_12 (by decide) [1, 2, 3, 0] rfl ?_
  refine tX7_lastLess_13 X hcd Qr   FU _ _ _ _ _ h
/-! TableauBench$Tableau.takeByRows(I)I -/
def rmX7_takeByRows : Room := { frames := 3, cells := 0, slots := 0, locals := 68 }
def fX7_takeByRows_42  : Nat → Nat → Int32 → Int32 → Mem → Option (Int32 × Mem)
  | 0, _, _, _, _ => none
  | n + 1, x0, x2, x3, F => if x3 < 0 then (some (x2, F)) else ((obj F x0 6).bind fun _ => (mX7_lastLess F x0 x3 x2).bind fun v51 => (obj v51.2 x0 6).bind fun _ => (mX7_replace v51.2 x0 x3 v51.1 x2).bind fun v55 => (fX7_takeByRows_42   n) x0 v55.1 (x3 + (-1)) v55.2)
set_option maxRecDepth 100000 in
set_option maxHeartbeats 4000000 in
theorem tX7_takeByRows_42 {l : Launch} {D : va_G} {cy : Nat → ClassId} {C : Cx} {res : Int32 × Mem} (X : Fx C cX7_takeByRows RX7 (some .int) rmX7_takeByRows 4) (hcd : CD C l D cy) (Qr : RI C 0 0 res)   : ∀ (n : Nat) (x0 : Nat) (x2 : Int32) (x3 : Int32) (F : Mem), fX7_takeByRows_42  n x0 x2 x3 F = some res → Wp C 0 0 42 [(0, .ref x0), (2, .int x2), (3, .int x3)] [] F := by
  intro n
  induction n with
  | zero =>
    intro x0 x2 x3 F h
    rw [fX7_takeByRows_42.eq_1] at h
    cases h
  | succ n ih =>
    intro x0 x2 x3 F h
    rw [fX7_takeByRows_42.eq_2] at h
    refine wp_iload_n X dX7_takeByRows_42 2 rfl ?_
    refine wp_if_lt X (tgt := 65) dX7_takeByRows_43 (by decide) h (fun h => ?_) (fun h => ?_)
    · refine wp_iload_n X dX7_takeByRows_65 1 rfl ?_
      exact wp_ireturn X Qr rfl (vp_nar_int _) dX7_takeByRows_66 h
    · refine wp_aload_n X dX7_takeByRows_46 0 rfl ?_
      refine wp_iload_n X dX7_takeByRows_47 2 rfl ?_
      refine wp_aload_n X dX7_takeByRows_48 0 rfl ?_
      refine wp_iload_n X dX7_takeByRows_49 2 rfl ?_
      refine wp_iload_n X dX7_takeByRows_50 1 rfl ?_
      refine wp_callVI X (rm := rmX7_lastLess) (T := TX7) (N := 2) (ci := 6) (n := 2) [.int x3, .int x2] hcd (fun q hq => cX7_lastLess_ok hq) kw582 kw584 ks6 kw2 kw585 (by decide +kernel) (by decide) (by decide) (cs2 := 0) (sl2 := 0) rfl rfl rfl (by decide) rfl rfl (Nat.le_of_ble_eq_true rfl) dX7_takeByRows_51 h (fun v51 h => ?_)
      refine wp_iload_n X dX7_takeByRows_54 1 rfl ?_
      refine wp_callVI X (rm := rmX7_replace) (T := TX7) (N := 2) (ci := 6) (n := 3) [.int x3, .int v51.1, .int x2] hcd (fun q hq => cX7_replace_ok hq) kw259 kw260 kw261 kw2 kw262 (by decide +kernel) (by decide) (by decide) (cs2 := 0) (sl2 := 0) rfl rfl rfl (by decide) rfl rfl (Nat.le_of_ble_eq_true rfl) dX7_takeByRows_55 h (fun v55 h => ?_)
      refine wp_istore_n X (lv' := [(0, .ref x0), (2, .int v55.1), (3, .int x3)]) dX7_takeByRows_58 (by decide) [1, 0, 2] rfl ?_
      refine wp_iinc X (v := x3 + (-1)) (lv' := [(0, .ref x0), (2, .int v55.1), (3, .int (x3 + (-1)))]) dX7_takeByRows_59 (by decide) 2 rfl rfl [1, 2, 0] rfl ?_
      refine wp_goto X (tgt := 42) dX7_takeByRows_62 (by decide) ?_
      exact ih _ _ _ _ h
def mX7_takeByRows (F : Mem) (x0 : Nat) (x1 : Int32) : Option (Int32 × Mem) := (gfR F x0 6 0).bind fun v1 => (rdI F 0 v1 x1).bind fun v5 => if v5 = 0 then (some (0, F)) else ((gfR F x0 6 0).bind fun v12 => (rdI F 0 v12 x1).bind fun v17 => (wrI F v12 x1 (v17 - 1)).bind fun F20 => (gfR F20 x0 6 1).bind fun v22 => (gfR F20 x0 6 0).bind fun v30 => (rdI F20 0 v30 x1).bind fun v34 => (rdI F20 0 v22 ((x1 * 24) + v34)).bind fun v36 => fX7_takeByRows_42   FU x0 v36 (x1 - 1) F20)
set_option maxRecDepth 100000 in
set_option maxHeartbeats 4000000 in
theorem cX7_takeByRows_ok {l : Launch} {D : va_G} {cy : Nat → ClassId} {F : Mem} {x0 : Nat} {x1 : Int32} {res : Int32 × Mem} (h : mX7_takeByRows F x0 x1 = some res) : MI l yX7_takeByRows cX7_takeByRows 4 (some .int) rmX7_takeByRows D cy F [.ref x0, .int x1] res := by
  refine mi_of (by decide) (Nat.le_of_ble_eq_true rfl) [(0, .ref x0), (1, .int x1)] rfl (fun C X hcd Qr => ?_)
  unfold mX7_takeByRows at h
  refine wp_aload_n X dX7_takeByRows_0 0 rfl ?_
  refine wp_getR X (T := TX7) (N := 2) (ci := 6) (k := 0) rfl (by decide) (by decide) inBX7 kw42 dX7_takeByRows_1 h (fun v1 h => ?_)
  refine wp_iload_n X dX7_takeByRows_4 1 rfl ?_
  refine wp_iaload X dX7_takeByRows_5 h (fun v5 h => ?_)
  refine wp_if_ne X (tgt := 11) dX7_takeByRows_6 (by decide) h (fun h => ?_) (fun h => ?_)
  · refine wp_aload_n X dX7_takeByRows_11 0 rfl ?_
    refine wp_getR X (T := TX7) (N := 2) (ci := 6) (k := 0) rfl (by decide) (by decide) inBX7 kw42 dX7_takeByRows_12 h (fun v12 h => ?_)
    refine wp_iload_n X dX7_takeByRows_15 1 rfl ?_
    refine wp_dup2 X dX7_takeByRows_16 rfl rfl ?_
    refine wp_iaload X dX7_takeByRows_17 h (fun v17 h => ?_)
    refine wp_iconst X (v := 1) dX7_takeByRows_18 (by decide) ?_
    refine wp_isub X dX7_takeByRows_19 ?_
    refine wp_iastore X dX7_takeByRows_20 h (fun F20 h => ?_)
    refine wp_aload_n X dX7_takeByRows_21 0 rfl ?_
    refine wp_getR X (T := TX7) (N := 2) (ci := 6) (k := 1) rfl (by decide) (by decide) inBX7 kw44 dX7_takeByRows_22 h (fun v22 h => ?_)
    refine wp_iload_n X dX7_takeByRows_25 1 rfl ?_
    refine wp_bipush X (v := 24) dX7_takeByRows_26 (by decide) ?_
    refine wp_imul X dX7_takeByRows_28 ?_
    refine wp_aload_n X dX7_takeByRows_29 0 rfl ?_
    refine wp_getR X (T := TX7) (N := 2) (ci := 6) (k := 0) rfl (by decide) (by decide) inBX7 kw42 dX7_takeByRows_30 h (fun v30 h => ?_)
    refine wp_iload_n X dX7_takeByRows_33 1 rfl ?_
    refine wp_iaload X dX7_takeByRows_34 h (fun v34 h => ?_)
    refine wp_iadd X dX7_takeByRows_35 ?_
    refine wp_iaload X dX7_takeByRows_36 h (fun v36 h => ?_)
    refine wp_istore_n X (lv' := [(0, .ref x0), (1, .int x1), (2, .int v36)]) dX7_takeByRows_37 (by decide) [1, 2, 0] rfl ?_
    refine wp_iload_n X dX7_takeByRows_38 1 rfl ?_
    refine wp_iconst X (v := 1) dX7_takeByRows_39 (by decide) ?_
    refine wp_isub X dX7_takeByRows_40 ?_
    refine wp_istore_n X (lv' := [(0, .ref x0), (2, .int v36), (3, .int (x1 - 1))]) dX7_takeByRows_41 (by decide) [1, 3, 0] rfl ?_
    refine tX7_takeByRows_42 X hcd Qr   FU _ _ _ _ h
  · refine wp_iconst X (v := 0) dX7_takeByRows_9 (by decide) ?_
    exact wp_ireturn X Qr rfl (vp_nar_int _) dX7_takeByRows_10 h
/-! TableauBench$Tableau.fillSkew(LTableauBench$Shape;LTableauBench$Shape;LTableauBench$Word;)V -/
def rmX7_fillSkew : Room := { frames := 3, cells := 0, slots := 0, locals := 85 }
def fX7_fillSkew_26 (K61 : Nat → Nat → Nat → Nat → Int32 → Int32 → Mem → Option (Mem)) : Nat → Nat → Nat → Nat → Nat → Int32 → Int32 → Int32 → Mem → Option (Mem)
  | 0, _, _, _, _, _, _, _, _ => none
  | n + 1, x0, x1, x2, x3, x4, x5, x6, F => (gfR F x2 3 0).bind fun v29 => (rdI F 0 v29 x5).bind fun v34 => if v34 ≤ x6 then (K61 x0 x1 x2 x3 x4 x5 F) else ((obj F x3 7).bind fun _ => (mX8_letterAt F x3 x4).bind fun v46 => (obj v46.2 x0 6).bind fun _ => (mX7_put v46.2 x0 x5 x6 v46.1).bind fun v49 => (fX7_fillSkew_26  K61 n) x0 x1 x2 x3 (x4 + 1) x5 (x6 + 1) v49)
set_option maxRecDepth 100000 in
set_option maxHeartbeats 4000000 in
theorem tX7_fillSkew_26 {l : Launch} {D : va_G} {cy : Nat → ClassId} {C : Cx} {res : Mem} (X : Fx C cX7_fillSkew RX7 none rmX7_fillSkew 7) (hcd : CD C l D cy) (Qr : RV C 0 0 res) {K61 : Nat → Nat → Nat → Nat → Int32 → Int32 → Mem → Option (Mem)} (hK61 : ∀ (x0 : Nat) (x1 : Nat) (x2 : Nat) (x3 : Nat) (x4 : Int32) (x5 : Int32) (F : Mem), K61 x0 x1 x2 x3 x4 x5 F = some res → Wp C 0 0 61 [(0, .ref x0), (1, .ref x1), (2, .ref x2), (3, .ref x3), (4, .int x4), (5, .int x5)] [] F) : ∀ (n : Nat) (x0 : Nat) (x1 : Nat) (x2 : Nat) (x3 : Nat) (x4 : Int32) (x5 : Int32) (x6 : Int32) (F : Mem), fX7_fillSkew_26 K61 n x0 x1 x2 x3 x4 x5 x6 F = some res → Wp C 0 0 26 [(0, .ref x0), (1, .ref x1), (2, .ref x2), (3, .ref x3), (4, .int x4), (5, .int x5), (6, .int x6)] [] F := by
  intro n
  induction n with
  | zero =>
    intro x0 x1 x2 x3 x4 x5 x6 F h
    rw [fX7_fillSkew_26.eq_1] at h
    cases h
  | succ n ih =>
    intro x0 x1 x2 x3 x4 x5 x6 F h
    rw [fX7_fillSkew_26.eq_2] at h
    refine wp_iload X dX7_fillSkew_26 6 rfl ?_
    refine wp_aload_n X dX7_fillSkew_28 2 rfl ?_
    refine wp_getR X (T := TX4) (N := 1) (ci := 3) (k := 0) rfl (by decide) (by decide) inBX4 kw63 dX7_fillSkew_29 h (fun v29 h => ?_)
    refine wp_iload X dX7_fillSkew_32 5 rfl ?_
    refine wp_iaload X dX7_fillSkew_34 h (fun v34 h => ?_)
    refine wp_icmp_ge X (tgt := 61) dX7_fillSkew_35 (by decide) h (fun h => ?_) (fun h => ?_)
    · refine wp_sub (lv' := [(0, .ref x0), (1, .ref x1), (2, .ref x2), (3, .ref x3), (4, .int x4), (5, .int x5)]) [0, 1, 2, 3, 4, 5] rfl ?_
      exact hK61 _ _ _ _ _ _ _ h
    · refine wp_aload_n X dX7_fillSkew_38 0 rfl ?_
      refine wp_iload X dX7_fillSkew_39 5 rfl ?_
      refine wp_iload X dX7_fillSkew_41 6 rfl ?_
      refine wp_aload_n X dX7_fillSkew_43 3 rfl ?_
      refine wp_iload X dX7_fillSkew_44 4 rfl ?_
      refine wp_callVI X (rm := rmX8_letterAt) (T := TX8) (N := 2) (ci := 7) (n := 1) [.int x4] hcd (fun q hq => cX8_letterAt_ok hq) kw246 kw247 kw248 kw9 kw249 (by decide +kernel) (by decide) (by decide) (cs2 := 0) (sl2 := 0) rfl rfl rfl (by decide) rfl rfl (Nat.le_of_ble_eq_true rfl) dX7_fillSkew_46 h (fun v46 h => ?_)
      refine wp_callVV X (rm := rmX7_put) (T := TX7) (N := 2) (ci := 6) (n := 3) [.int x5, .int x6, .int v46.1] hcd (fun q hq => cX7_put_ok hq) kw263 kw264 kw265 kw2 kw266 (by decide +kernel) (by decide) (by decide) (cs2 := 0) (sl2 := 0) rfl rfl rfl (by decide) rfl rfl (Nat.le_of_ble_eq_true rfl) dX7_fillSkew_49 h (fun v49 h => ?_)
      refine wp_iinc X (v := x4 + 1) (lv' := [(0, .ref x0), (1, .ref x1), (2, .ref x2), (3, .ref x3), (4, .int (x4 + 1)), (5, .int x5), (6, .int x6)]) dX7_fillSkew_52 (by decide) 4 rfl rfl [1, 2, 3, 4, 0, 5, 6] rfl ?_
      refine wp_iinc X (v := x6 + 1) (lv' := [(0, .ref x0), (1, .ref x1), (2, .ref x2), (3, .ref x3), (4, .int (x4 + 1)), (5, .int x5), (6, .int (x6 + 1))]) dX7_fillSkew_55 (by decide) 6 rfl rfl [1, 2, 3, 4, 5, 6, 0] rfl ?_
      refine wp_goto X (tgt := 26) dX7_fillSkew_58 (by decide) ?_
      exact ih _ _ _ _ _ _ _ _ h
def fX7_fillSkew_12  : Nat → Nat → Nat → Nat → Nat → Int32 → Int32 → Mem → Option (Mem)
  | 0, _, _, _, _, _, _, _ => none
  | n + 1, x0, x1, x2, x3, x4, x5, F => if x5 < 0 then (some F) else ((gfR F x1 3 0).bind fun v18 => (rdI F 0 v18 x5).bind fun v23 => fX7_fillSkew_26  (fun (x0 : Nat) (x1 : Nat) (x2 : Nat) (x3 : Nat) (x4 : Int32) (x5 : Int32) (F : Mem) => (fX7_fillSkew_12   n) x0 x1 x2 x3 x4 (x5 + (-1)) F) FU x0 x1 x2 x3 x4 x5 v23 F)
set_option maxRecDepth 100000 in
set_option maxHeartbeats 4000000 in
theorem tX7_fillSkew_12 {l : Launch} {D : va_G} {cy : Nat → ClassId} {C : Cx} {res : Mem} (X : Fx C cX7_fillSkew RX7 none rmX7_fillSkew 7) (hcd : CD C l D cy) (Qr : RV C 0 0 res)   : ∀ (n : Nat) (x0 : Nat) (x1 : Nat) (x2 : Nat) (x3 : Nat) (x4 : Int32) (x5 : Int32) (F : Mem), fX7_fillSkew_12  n x0 x1 x2 x3 x4 x5 F = some res → Wp C 0 0 12 [(0, .ref x0), (1, .ref x1), (2, .ref x2), (3, .ref x3), (4, .int x4), (5, .int x5)] [] F := by
  intro n
  induction n with
  | zero =>
    intro x0 x1 x2 x3 x4 x5 F h
    rw [fX7_fillSkew_12.eq_1] at h
    cases h
  | succ n ih =>
    intro x0 x1 x2 x3 x4 x5 F h
    rw [fX7_fillSkew_12.eq_2] at h
    refine wp_iload X dX7_fillSkew_12 5 rfl ?_
    refine wp_if_lt X (tgt := 67) dX7_fillSkew_14 (by decide) h (fun h => ?_) (fun h => ?_)
    · exact wp_return X Qr rfl dX7_fillSkew_67 h
    · refine wp_aload_n X dX7_fillSkew_17 1 rfl ?_
      refine wp_getR X (T := TX4) (N := 1) (ci := 3) (k := 0) rfl (by decide) (by decide) inBX4 kw63 dX7_fillSkew_18 h (fun v18 h => ?_)
      refine wp_iload X dX7_fillSkew_21 5 rfl ?_
      refine wp_iaload X dX7_fillSkew_23 h (fun v23 h => ?_)
      refine wp_istore X (lv' := [(0, .ref x0), (1, .ref x1), (2, .ref x2), (3, .ref x3), (4, .int x4), (5, .int x5), (6, .int v23)]) dX7_fillSkew_24 (by decide) [1, 2, 3, 4, 5, 6, 0] rfl ?_
      refine tX7_fillSkew_26 X hcd Qr  ?_ FU _ _ _ _ _ _ _ _ h
      · intro x0 x1 x2 x3 x4 x5 F h
        refine wp_iinc X (v := x5 + (-1)) (lv' := [(0, .ref x0), (1, .ref x1), (2, .ref x2), (3, .ref x3), (4, .int x4), (5, .int (x5 + (-1)))]) dX7_fillSkew_61 (by decide) 5 rfl rfl [1, 2, 3, 4, 5, 0] rfl ?_
        refine wp_goto X (tgt := 12) dX7_fillSkew_64 (by decide) ?_
        exact ih _ _ _ _ _ _ _ h
def mX7_fillSkew (F : Mem) (x0 : Nat) (x1 : Nat) (x2 : Nat) (x3 : Nat) : Option (Mem) := (obj F x0 6).bind fun _ => (mX7_takeShape F x0 x2).bind fun v2 => fX7_fillSkew_12   FU x0 x1 x2 x3 0 7 v2
set_option maxRecDepth 100000 in
set_option maxHeartbeats 4000000 in
theorem cX7_fillSkew_ok {l : Launch} {D : va_G} {cy : Nat → ClassId} {F : Mem} {x0 : Nat} {x1 : Nat} {x2 : Nat} {x3 : Nat} {res : Mem} (h : mX7_fillSkew F x0 x1 x2 x3 = some res) : MV l yX7_fillSkew cX7_fillSkew 7 none rmX7_fillSkew D cy F [.ref x0, .ref x1, .ref x2, .ref x3] res := by
  refine mv_of (by decide) (Nat.le_of_ble_eq_true rfl) [(0, .ref x0), (1, .ref x1), (2, .ref x2), (3, .ref x3)] rfl (fun C X hcd Qr => ?_)
  unfold mX7_fillSkew at h
  refine wp_aload_n X dX7_fillSkew_0 0 rfl ?_
  refine wp_aload_n X dX7_fillSkew_1 2 rfl ?_
  refine wp_callVV X (rm := rmX7_takeShape) (T := TX7) (N := 2) (ci := 6) (n := 1) [.ref x2] hcd (fun q hq => cX7_takeShape_ok hq) kw619 kw620 kw621 kw2 kw622 (by decide +kernel) (by decide) (by decide) (cs2 := 0) (sl2 := 0) rfl rfl rfl (by decide) rfl rfl (Nat.le_of_ble_eq_true rfl) dX7_fillSkew_2 h (fun v2 h => ?_)
  refine wp_iconst X (v := 0) dX7_fillSkew_5 (by decide) ?_
  refine wp_istore X (lv' := [(0, .ref x0), (1, .ref x1), (2, .ref x2), (3, .ref x3), (4, .int 0)]) dX7_fillSkew_6 (by decide) [1, 2, 3, 4, 0] rfl ?_
  refine wp_bipush X (v := 7) dX7_fillSkew_8 (by decide) ?_
  refine wp_istore X (lv' := [(0, .ref x0), (1, .ref x1), (2, .ref x2), (3, .ref x3), (4, .int 0), (5, .int 7)]) dX7_fillSkew_10 (by decide) [1, 2, 3, 4, 5, 0] rfl ?_
  refine tX7_fillSkew_12 X hcd Qr   FU _ _ _ _ _ _ _ h
/-! TableauBench$Tableau.isColumnStrictOutside(LTableauBench$Shape;)Z -/
def rmX7_isColumnStrictOutside : Room := { frames := 2, cells := 0, slots := 0, locals := 44 }
def fX7_isColumnStrictOutside_89 (K15 : Nat → Nat → Int32 → Int32 → Mem → Option (Int32 × Mem)) (K95 : Nat → Nat → Int32 → Mem → Option (Int32 × Mem)) (x0 : Nat) (x1 : Nat) (x2 : Int32) (x3 : Int32) (F : Mem) : Option (Int32 × Mem) := K15 x0 x1 x2 (x3 + 1) F
set_option maxRecDepth 100000 in
set_option maxHeartbeats 4000000 in
theorem tX7_isColumnStrictOutside_89 {l : Launch} {D : va_G} {cy : Nat → ClassId} {C : Cx} {res : Int32 × Mem} (X : Fx C cX7_isColumnStrictOutside RX7 (some .boolean) rmX7_isColumnStrictOutside 5) (hcd : CD C l D cy) (Qr : RI C 0 0 res) {K15 : Nat → Nat → Int32 → Int32 → Mem → Option (Int32 × Mem)} {K95 : Nat → Nat → Int32 → Mem → Option (Int32 × Mem)} (hK15 : ∀ (x0 : Nat) (x1 : Nat) (x2 : Int32) (x3 : Int32) (F : Mem), K15 x0 x1 x2 x3 F = some res → Wp C 0 0 15 [(0, .ref x0), (1, .ref x1), (2, .int x2), (3, .int x3)] [] F) (hK95 : ∀ (x0 : Nat) (x1 : Nat) (x2 : Int32) (F : Mem), K95 x0 x1 x2 F = some res → Wp C 0 0 95 [(0, .ref x0), (1, .ref x1), (2, .int x2)] [] F) (x0 : Nat) (x1 : Nat) (x2 : Int32) (x3 : Int32) (F : Mem) (h : fX7_isColumnStrictOutside_89 K15 K95 x0 x1 x2 x3 F = some res) : Wp C 0 0 89 [(0, .ref x0), (1, .ref x1), (2, .int x2), (3, .int x3)] [] F := by
  unfold fX7_isColumnStrictOutside_89 at h
  refine wp_iinc X (v := x3 + 1) (lv' := [(0, .ref x0), (1, .ref x1), (2, .int x2), (3, .int (x3 + 1))]) dX7_isColumnStrictOutside_89 (by decide) 3 rfl rfl [1, 2, 3, 0] rfl ?_
  refine wp_goto X (tgt := 15) dX7_isColumnStrictOutside_92 (by decide) ?_
  exact hK15 _ _ _ _ _ h
def fX7_isColumnStrictOutside_58 (K15 : Nat → Nat → Int32 → Int32 → Mem → Option (Int32 × Mem)) (K95 : Nat → Nat → Int32 → Mem → Option (Int32 × Mem)) (x0 : Nat) (x1 : Nat) (x2 : Int32) (x3 : Int32) (x4 : Int32) (F : Mem) : Option (Int32 × Mem) := if x2 ≤ 0 then (fX7_isColumnStrictOutside_89  K15 K95 x0 x1 x2 x3 F) else ((gfR F x1 3 0).bind fun v64 => (rdI F 0 v64 (x2 - 1)).bind fun v70 => if x3 < v70 then (fX7_isColumnStrictOutside_89  K15 K95 x0 x1 x2 x3 F) else ((obj F x0 6).bind fun _ => (mX7_letterAt F x0 (x2 - 1) x3).bind fun v79 => if v79.1 < x4 then (fX7_isColumnStrictOutside_89  K15 K95 x0 x1 x2 x3 v79.2) else (some (0, v79.2))))
set_option maxRecDepth 100000 in
set_option maxHeartbeats 4000000 in
theorem tX7_isColumnStrictOutside_58 {l : Launch} {D : va_G} {cy : Nat → ClassId} {C : Cx} {res : Int32 × Mem} (X : Fx C cX7_isColumnStrictOutside RX7 (some .boolean) rmX7_isColumnStrictOutside 5) (hcd : CD C l D cy) (Qr : RI C 0 0 res) {K15 : Nat → Nat → Int32 → Int32 → Mem → Option (Int32 × Mem)} {K95 : Nat → Nat → Int32 → Mem → Option (Int32 × Mem)} (hK15 : ∀ (x0 : Nat) (x1 : Nat) (x2 : Int32) (x3 : Int32) (F : Mem), K15 x0 x1 x2 x3 F = some res → Wp C 0 0 15 [(0, .ref x0), (1, .ref x1), (2, .int x2), (3, .int x3)] [] F) (hK95 : ∀ (x0 : Nat) (x1 : Nat) (x2 : Int32) (F : Mem), K95 x0 x1 x2 F = some res → Wp C 0 0 95 [(0, .ref x0), (1, .ref x1), (2, .int x2)] [] F) (x0 : Nat) (x1 : Nat) (x2 : Int32) (x3 : Int32) (x4 : Int32) (F : Mem) (h : fX7_isColumnStrictOutside_58 K15 K95 x0 x1 x2 x3 x4 F = some res) : Wp C 0 0 58 [(0, .ref x0), (1, .ref x1), (2, .int x2), (3, .int x3), (4, .int x4)] [] F := by
  unfold fX7_isColumnStrictOutside_58 at h
  refine wp_iload_n X dX7_isColumnStrictOutside_58 2 rfl ?_
  refine wp_if_le X (tgt := 89) dX7_isColumnStrictOutside_59 (by decide) h (fun h => ?_) (fun h => ?_)
  · refine wp_sub (lv' := [(0, .ref x0), (1, .ref x1), (2, .int x2), (3, .int x3)]) [0, 1, 2, 3] rfl ?_
    exact tX7_isColumnStrictOutside_89 X hcd Qr  hK15 hK95 _ _ _ _ _ h
  · refine wp_iload_n X dX7_isColumnStrictOutside_62 3 rfl ?_
    refine wp_aload_n X dX7_isColumnStrictOutside_63 1 rfl ?_
    refine wp_getR X (T := TX4) (N := 1) (ci := 3) (k := 0) rfl (by decide) (by decide) inBX4 kw63 dX7_isColumnStrictOutside_64 h (fun v64 h => ?_)
    refine wp_iload_n X dX7_isColumnStrictOutside_67 2 rfl ?_
    refine wp_iconst X (v := 1) dX7_isColumnStrictOutside_68 (by decide) ?_
    refine wp_isub X dX7_isColumnStrictOutside_69 ?_
    refine wp_iaload X dX7_isColumnStrictOutside_70 h (fun v70 h => ?_)
    refine wp_icmp_lt X (tgt := 89) dX7_isColumnStrictOutside_71 (by decide) h (fun h => ?_) (fun h => ?_)
    · refine wp_sub (lv' := [(0, .ref x0), (1, .ref x1), (2, .int x2), (3, .int x3)]) [0, 1, 2, 3] rfl ?_
      exact tX7_isColumnStrictOutside_89 X hcd Qr  hK15 hK95 _ _ _ _ _ h
    · refine wp_aload_n X dX7_isColumnStrictOutside_74 0 rfl ?_
      refine wp_iload_n X dX7_isColumnStrictOutside_75 2 rfl ?_
      refine wp_iconst X (v := 1) dX7_isColumnStrictOutside_76 (by decide) ?_
      refine wp_isub X dX7_isColumnStrictOutside_77 ?_
      refine wp_iload_n X dX7_isColumnStrictOutside_78 3 rfl ?_
      refine wp_callVI X (rm := rmX7_letterAt) (T := TX7) (N := 2) (ci := 6) (n := 2) [.int (x2 - 1), .int x3] hcd (fun q hq => cX7_letterAt_ok hq) kw258 kw224 kw225 kw2 kw226 (by decide +kernel) (by decide) (by decide) (cs2 := 0) (sl2 := 0) rfl rfl rfl (by decide) rfl rfl (Nat.le_of_ble_eq_true rfl) dX7_isColumnStrictOutside_79 h (fun v79 h => ?_)
      refine wp_iload X dX7_isColumnStrictOutside_82 4 rfl ?_
      refine wp_icmp_lt X (tgt := 89) dX7_isColumnStrictOutside_84 (by decide) h (fun h => ?_) (fun h => ?_)
      · refine wp_sub (lv' := [(0, .ref x0), (1, .ref x1), (2, .int x2), (3, .int x3)]) [0, 1, 2, 3] rfl ?_
        exact tX7_isColumnStrictOutside_89 X hcd Qr  hK15 hK95 _ _ _ _ _ h
      · refine wp_iconst X (v := 0) dX7_isColumnStrictOutside_87 (by decide) ?_
        exact wp_ireturn X Qr rfl rfl dX7_isColumnStrictOutside_88 h
def fX7_isColumnStrictOutside_15 (K95 : Nat → Nat → Int32 → Mem → Option (Int32 × Mem)) : Nat → Nat → Nat → Int32 → Int32 → Mem → Option (Int32 × Mem)
  | 0, _, _, _, _, _ => none
  | n + 1, x0, x1, x2, x3, F => (gfR F x0 6 0).bind fun v17 => (rdI F 0 v17 x2).bind fun v21 => if v21 ≤ x3 then (K95 x0 x1 x2 F) else ((obj F x0 6).bind fun _ => (mX7_letterAt F x0 x2 x3).bind fun v28 => (gfR v28.2 x1 3 0).bind fun v35 => (rdI v28.2 0 v35 x2).bind fun v39 => if x3 ≤ v39 then (fX7_isColumnStrictOutside_58  (fX7_isColumnStrictOutside_15  K95 n) K95 x0 x1 x2 x3 v28.1 v28.2) else ((obj v28.2 x0 6).bind fun _ => (mX7_letterAt v28.2 x0 x2 (x3 - 1)).bind fun v48 => if v48.1 ≤ v28.1 then (fX7_isColumnStrictOutside_58  (fX7_isColumnStrictOutside_15  K95 n) K95 x0 x1 x2 x3 v28.1 v48.2) else (some (0, v48.2))))
set_option maxRecDepth 100000 in
set_option maxHeartbeats 4000000 in
theorem tX7_isColumnStrictOutside_15 {l : Launch} {D : va_G} {cy : Nat → ClassId} {C : Cx} {res : Int32 × Mem} (X : Fx C cX7_isColumnStrictOutside RX7 (some .boolean) rmX7_isColumnStrictOutside 5) (hcd : CD C l D cy) (Qr : RI C 0 0 res) {K95 : Nat → Nat → Int32 → Mem → Option (Int32 × Mem)} (hK95 : ∀ (x0 : Nat) (x1 : Nat) (x2 : Int32) (F : Mem), K95 x0 x1 x2 F = some res → Wp C 0 0 95 [(0, .ref x0), (1, .ref x1), (2, .int x2)] [] F) : ∀ (n : Nat) (x0 : Nat) (x1 : Nat) (x2 : Int32) (x3 : Int32) (F : Mem), fX7_isColumnStrictOutside_15 K95 n x0 x1 x2 x3 F = some res → Wp C 0 0 15 [(0, .ref x0), (1, .ref x1), (2, .int x2), (3, .int x3)] [] F := by
  intro n
  induction n with
  | zero =>
    intro x0 x1 x2 x3 F h
    rw [fX7_isColumnStrictOutside_15.eq_1] at h
    cases h
  | succ n ih =>
    intro x0 x1 x2 x3 F h
    rw [fX7_isColumnStrictOutside_15.eq_2] at h
    refine wp_iload_n X dX7_isColumnStrictOutside_15 3 rfl ?_
    refine wp_aload_n X dX7_isColumnStrictOutside_16 0 rfl ?_
    refine wp_getR X (T := TX7) (N := 2) (ci := 6) (k := 0) rfl (by decide) (by decide) inBX7 kw42 dX7_isColumnStrictOutside_17 h (fun v17 h => ?_)
    refine wp_iload_n X dX7_isColumnStrictOutside_20 2 rfl ?_
    refine wp_iaload X dX7_isColumnStrictOutside_21 h (fun v21 h => ?_)
    refine wp_icmp_ge X (tgt := 95) dX7_isColumnStrictOutside_22 (by decide) h (fun h => ?_) (fun h => ?_)
    · refine wp_sub (lv' := [(0, .ref x0), (1, .ref x1), (2, .int x2)]) [0, 1, 2] rfl ?_
      exact hK95 _ _ _ _ h
    · refine wp_aload_n X dX7_isColumnStrictOutside_25 0 rfl ?_
      refine wp_iload_n X dX7_isColumnStrictOutside_26 2 rfl ?_
      refine wp_iload_n X dX7_isColumnStrictOutside_27 3 rfl ?_
      refine wp_callVI X (rm := rmX7_letterAt) (T := TX7) (N := 2) (ci := 6) (n := 2) [.int x2, .int x3] hcd (fun q hq => cX7_letterAt_ok hq) kw258 kw224 kw225 kw2 kw226 (by decide +kernel) (by decide) (by decide) (cs2 := 0) (sl2 := 0) rfl rfl rfl (by decide) rfl rfl (Nat.le_of_ble_eq_true rfl) dX7_isColumnStrictOutside_28 h (fun v28 h => ?_)
      refine wp_istore X (lv' := [(0, .ref x0), (1, .ref x1), (2, .int x2), (3, .int x3), (4, .int v28.1)]) dX7_isColumnStrictOutside_31 (by decide) [1, 2, 3, 4, 0] rfl ?_
      refine wp_iload_n X dX7_isColumnStrictOutside_33 3 rfl ?_
      refine wp_aload_n X dX7_isColumnStrictOutside_34 1 rfl ?_
      refine wp_getR X (T := TX4) (N := 1) (ci := 3) (k := 0) rfl (by decide) (by decide) inBX4 kw63 dX7_isColumnStrictOutside_35 h (fun v35 h => ?_)
      refine wp_iload_n X dX7_isColumnStrictOutside_38 2 rfl ?_
      refine wp_iaload X dX7_isColumnStrictOutside_39 h (fun v39 h => ?_)
      refine wp_icmp_le X (tgt := 58) dX7_isColumnStrictOutside_40 (by decide) h (fun h => ?_) (fun h => ?_)
      · exact tX7_isColumnStrictOutside_58 X hcd Qr  ih hK95 _ _ _ _ _ _ h
      · refine wp_aload_n X dX7_isColumnStrictOutside_43 0 rfl ?_
        refine wp_iload_n X dX7_isColumnStrictOutside_44 2 rfl ?_
        refine wp_iload_n X dX7_isColumnStrictOutside_45 3 rfl ?_
        refine wp_iconst X (v := 1) dX7_isColumnStrictOutside_46 (by decide) ?_
        refine wp_isub X dX7_isColumnStrictOutside_47 ?_
        refine wp_callVI X (rm := rmX7_letterAt) (T := TX7) (N := 2) (ci := 6) (n := 2) [.int x2, .int (x3 - 1)] hcd (fun q hq => cX7_letterAt_ok hq) kw258 kw224 kw225 kw2 kw226 (by decide +kernel) (by decide) (by decide) (cs2 := 0) (sl2 := 0) rfl rfl rfl (by decide) rfl rfl (Nat.le_of_ble_eq_true rfl) dX7_isColumnStrictOutside_48 h (fun v48 h => ?_)
        refine wp_iload X dX7_isColumnStrictOutside_51 4 rfl ?_
        refine wp_icmp_le X (tgt := 58) dX7_isColumnStrictOutside_53 (by decide) h (fun h => ?_) (fun h => ?_)
        · exact tX7_isColumnStrictOutside_58 X hcd Qr  ih hK95 _ _ _ _ _ _ h
        · refine wp_iconst X (v := 0) dX7_isColumnStrictOutside_56 (by decide) ?_
          exact wp_ireturn X Qr rfl rfl dX7_isColumnStrictOutside_57 h
def fX7_isColumnStrictOutside_2  : Nat → Nat → Nat → Int32 → Mem → Option (Int32 × Mem)
  | 0, _, _, _, _ => none
  | n + 1, x0, x1, x2, F => if 8 ≤ x2 then (some (1, F)) else ((gfR F x1 3 0).bind fun v9 => (rdI F 0 v9 x2).bind fun v13 => fX7_isColumnStrictOutside_15  (fun (x0 : Nat) (x1 : Nat) (x2 : Int32) (F : Mem) => (fX7_isColumnStrictOutside_2   n) x0 x1 (x2 + 1) F) FU x0 x1 x2 v13 F)
set_option maxRecDepth 100000 in
set_option maxHeartbeats 4000000 in
theorem tX7_isColumnStrictOutside_2 {l : Launch} {D : va_G} {cy : Nat → ClassId} {C : Cx} {res : Int32 × Mem} (X : Fx C cX7_isColumnStrictOutside RX7 (some .boolean) rmX7_isColumnStrictOutside 5) (hcd : CD C l D cy) (Qr : RI C 0 0 res)   : ∀ (n : Nat) (x0 : Nat) (x1 : Nat) (x2 : Int32) (F : Mem), fX7_isColumnStrictOutside_2  n x0 x1 x2 F = some res → Wp C 0 0 2 [(0, .ref x0), (1, .ref x1), (2, .int x2)] [] F := by
  intro n
  induction n with
  | zero =>
    intro x0 x1 x2 F h
    rw [fX7_isColumnStrictOutside_2.eq_1] at h
    cases h
  | succ n ih =>
    intro x0 x1 x2 F h
    rw [fX7_isColumnStrictOutside_2.eq_2] at h
    refine wp_iload_n X dX7_isColumnStrictOutside_2 2 rfl ?_
    refine wp_bipush X (v := 8) dX7_isColumnStrictOutside_3 (by decide) ?_
    refine wp_icmp_ge X (tgt := 101) dX7_isColumnStrictOutside_5 (by decide) h (fun h => ?_) (fun h => ?_)
    · refine wp_iconst X (v := 1) dX7_isColumnStrictOutside_101 (by decide) ?_
      exact wp_ireturn X Qr rfl rfl dX7_isColumnStrictOutside_102 h
    · refine wp_aload_n X dX7_isColumnStrictOutside_8 1 rfl ?_
      refine wp_getR X (T := TX4) (N := 1) (ci := 3) (k := 0) rfl (by decide) (by decide) inBX4 kw63 dX7_isColumnStrictOutside_9 h (fun v9 h => ?_)
      refine wp_iload_n X dX7_isColumnStrictOutside_12 2 rfl ?_
      refine wp_iaload X dX7_isColumnStrictOutside_13 h (fun v13 h => ?_)
      refine wp_istore_n X (lv' := [(0, .ref x0), (1, .ref x1), (2, .int x2), (3, .int v13)]) dX7_isColumnStrictOutside_14 (by decide) [1, 2, 3, 0] rfl ?_
      refine tX7_isColumnStrictOutside_15 X hcd Qr  ?_ FU _ _ _ _ _ h
      · intro x0 x1 x2 F h
        refine wp_iinc X (v := x2 + 1) (lv' := [(0, .ref x0), (1, .ref x1), (2, .int (x2 + 1))]) dX7_isColumnStrictOutside_95 (by decide) 2 rfl rfl [1, 2, 0] rfl ?_
        refine wp_goto X (tgt := 2) dX7_isColumnStrictOutside_98 (by decide) ?_
        exact ih _ _ _ _ h
def mX7_isColumnStrictOutside (F : Mem) (x0 : Nat) (x1 : Nat) : Option (Int32 × Mem) := fX7_isColumnStrictOutside_2   FU x0 x1 0 F
set_option maxRecDepth 100000 in
set_option maxHeartbeats 4000000 in
theorem cX7_isColumnStrictOutside_ok {l : Launch} {D : va_G} {cy : Nat → ClassId} {F : Mem} {x0 : Nat} {x1 : Nat} {res : Int32 × Mem} (h : mX7_isColumnStrictOutside F x0 x1 = some res) : MI l yX7_isColumnStrictOutside cX7_isColumnStrictOutside 5 (some .boolean) rmX7_isColumnStrictOutside D cy F [.ref x0, .ref x1] res := by
  refine mi_of (by decide) (Nat.le_of_ble_eq_true rfl) [(0, .ref x0), (1, .ref x1)] rfl (fun C X hcd Qr => ?_)
  unfold mX7_isColumnStrictOutside at h
  refine wp_iconst X (v := 0) dX7_isColumnStrictOutside_0 (by decide) ?_
  refine wp_istore_n X (lv' := [(0, .ref x0), (1, .ref x1), (2, .int 0)]) dX7_isColumnStrictOutside_1 (by decide) [1, 2, 0] rfl ?_
  refine tX7_isColumnStrictOutside_2 X hcd Qr   FU _ _ _ _ h
/-! TableauBench$Tableau.slideInto(II)I -/
def rmX7_slideInto : Room := { frames := 2, cells := 0, slots := 0, locals := 44 }
def fX7_slideInto_94 (K8 : Nat → Int32 → Int32 → Int32 → Mem → Option (Int32 × Mem)) (K47 : Nat → Int32 → Mem → Option (Int32 × Mem)) (K100 : Nat → Int32 → Mem → Option (Int32 × Mem)) (x0 : Nat) (x3 : Int32) (x4 : Int32) (x5 : Int32) (F : Mem) : Option (Int32 × Mem) := K8 x0 x3 x4 (x5 + 1) F
set_option maxRecDepth 100000 in
set_option maxHeartbeats 4000000 in
theorem tX7_slideInto_94 {l : Launch} {D : va_G} {cy : Nat → ClassId} {C : Cx} {res : Int32 × Mem} (X : Fx C cX7_slideInto RX7 (some .int) rmX7_slideInto 8) (hcd : CD C l D cy) (Qr : RI C 0 0 res) {K8 : Nat → Int32 → Int32 → Int32 → Mem → Option (Int32 × Mem)} {K47 : Nat → Int32 → Mem → Option (Int32 × Mem)} {K100 : Nat → Int32 → Mem → Option (Int32 × Mem)} (hK8 : ∀ (x0 : Nat) (x3 : Int32) (x4 : Int32) (x5 : Int32) (F : Mem), K8 x0 x3 x4 x5 F = some res → Wp C 0 0 8 [(0, .ref x0), (3, .int x3), (4, .int x4), (5, .int x5)] [] F) (hK47 : ∀ (x0 : Nat) (x3 : Int32) (F : Mem), K47 x0 x3 F = some res → Wp C 0 0 47 [(0, .ref x0), (3, .int x3)] [] F) (hK100 : ∀ (x0 : Nat) (x3 : Int32) (F : Mem), K100 x0 x3 F = some res → Wp C 0 0 100 [(0, .ref x0), (3, .int x3)] [] F) (x0 : Nat) (x3 : Int32) (x4 : Int32) (x5 : Int32) (F : Mem) (h : fX7_slideInto_94 K8 K47 K100 x0 x3 x4 x5 F = some res) : Wp C 0 0 94 [(0, .ref x0), (3, .int x3), (4, .int x4), (5, .int x5)] [] F := by
  unfold fX7_slideInto_94 at h
  refine wp_iinc X (v := x5 + 1) (lv' := [(0, .ref x0), (3, .int x3), (4, .int x4), (5, .int (x5 + 1))]) dX7_slideInto_94 (by decide) 3 rfl rfl [1, 2, 3, 0] rfl ?_
  refine wp_goto X (tgt := 8) dX7_slideInto_97 (by decide) ?_
  exact hK8 _ _ _ _ _ h
def fX7_slideInto_67 (K8 : Nat → Int32 → Int32 → Int32 → Mem → Option (Int32 × Mem)) (K47 : Nat → Int32 → Mem → Option (Int32 × Mem)) (K100 : Nat → Int32 → Mem → Option (Int32 × Mem)) (x0 : Nat) (x3 : Int32) (x4 : Int32) (x5 : Int32) (x7 : Int32) (F : Mem) : Option (Int32 × Mem) := (obj F x0 6).bind fun _ => (mX7_put F x0 x3 x4 x7).bind fun v73 => fX7_slideInto_94  K8 K47 K100 x0 (x3 + 1) x4 x5 v73
set_option maxRecDepth 100000 in
set_option maxHeartbeats 4000000 in
theorem tX7_slideInto_67 {l : Launch} {D : va_G} {cy : Nat → ClassId} {C : Cx} {res : Int32 × Mem} (X : Fx C cX7_slideInto RX7 (some .int) rmX7_slideInto 8) (hcd : CD C l D cy) (Qr : RI C 0 0 res) {K8 : Nat → Int32 → Int32 → Int32 → Mem → Option (Int32 × Mem)} {K47 : Nat → Int32 → Mem → Option (Int32 × Mem)} {K100 : Nat → Int32 → Mem → Option (Int32 × Mem)} (hK8 : ∀ (x0 : Nat) (x3 : Int32) (x4 : Int32) (x5 : Int32) (F : Mem), K8 x0 x3 x4 x5 F = some res → Wp C 0 0 8 [(0, .ref x0), (3, .int x3), (4, .int x4), (5, .int x5)] [] F) (hK47 : ∀ (x0 : Nat) (x3 : Int32) (F : Mem), K47 x0 x3 F = some res → Wp C 0 0 47 [(0, .ref x0), (3, .int x3)] [] F) (hK100 : ∀ (x0 : Nat) (x3 : Int32) (F : Mem), K100 x0 x3 F = some res → Wp C 0 0 100 [(0, .ref x0), (3, .int x3)] [] F) (x0 : Nat) (x3 : Int32) (x4 : Int32) (x5 : Int32) (x7 : Int32) (F : Mem) (h : fX7_slideInto_67 K8 K47 K100 x0 x3 x4 x5 x7 F = some res) : Wp C 0 0 67 [(0, .ref x0), (3, .int x3), (4, .int x4), (5, .int x5), (7, .int x7)] [] F := by
  unfold fX7_slideInto_67 at h
  refine wp_aload_n X dX7_slideInto_67 0 rfl ?_
  refine wp_iload_n X dX7_slideInto_68 1 rfl ?_
  refine wp_iload X dX7_slideInto_69 2 rfl ?_
  refine wp_iload X dX7_slideInto_71 4 rfl ?_
  refine wp_callVV X (rm := rmX7_put) (T := TX7) (N := 2) (ci := 6) (n := 3) [.int x3, .int x4, .int x7] hcd (fun q hq => cX7_put_ok hq) kw263 kw264 kw265 kw2 kw266 (by decide +kernel) (by decide) (by decide) (cs2 := 0) (sl2 := 0) rfl rfl rfl (by decide) rfl rfl (Nat.le_of_ble_eq_true rfl) dX7_slideInto_73 h (fun v73 h => ?_)
  refine wp_iinc X (v := x3 + 1) (lv' := [(0, .ref x0), (3, .int (x3 + 1)), (4, .int x4), (5, .int x5)]) dX7_slideInto_76 (by decide) 1 rfl rfl [1, 0, 2, 3] rfl ?_
  refine wp_goto X (tgt := 94) dX7_slideInto_79 (by decide) ?_
  exact tX7_slideInto_94 X hcd Qr  hK8 hK47 hK100 _ _ _ _ _ h
def fX7_slideInto_82 (K8 : Nat → Int32 → Int32 → Int32 → Mem → Option (Int32 × Mem)) (K47 : Nat → Int32 → Mem → Option (Int32 × Mem)) (K100 : Nat → Int32 → Mem → Option (Int32 × Mem)) (x0 : Nat) (x3 : Int32) (x4 : Int32) (x5 : Int32) (x6 : Int32) (F : Mem) : Option (Int32 × Mem) := (obj F x0 6).bind fun _ => (mX7_put F x0 x3 x4 x6).bind fun v88 => fX7_slideInto_94  K8 K47 K100 x0 x3 (x4 + 1) x5 v88
set_option maxRecDepth 100000 in
set_option maxHeartbeats 4000000 in
theorem tX7_slideInto_82 {l : Launch} {D : va_G} {cy : Nat → ClassId} {C : Cx} {res : Int32 × Mem} (X : Fx C cX7_slideInto RX7 (some .int) rmX7_slideInto 8) (hcd : CD C l D cy) (Qr : RI C 0 0 res) {K8 : Nat → Int32 → Int32 → Int32 → Mem → Option (Int32 × Mem)} {K47 : Nat → Int32 → Mem → Option (Int32 × Mem)} {K100 : Nat → Int32 → Mem → Option (Int32 × Mem)} (hK8 : ∀ (x0 : Nat) (x3 : Int32) (x4 : Int32) (x5 : Int32) (F : Mem), K8 x0 x3 x4 x5 F = some res → Wp C 0 0 8 [(0, .ref x0), (3, .int x3), (4, .int x4), (5, .int x5)] [] F) (hK47 : ∀ (x0 : Nat) (x3 : Int32) (F : Mem), K47 x0 x3 F = some res → Wp C 0 0 47 [(0, .ref x0), (3, .int x3)] [] F) (hK100 : ∀ (x0 : Nat) (x3 : Int32) (F : Mem), K100 x0 x3 F = some res → Wp C 0 0 100 [(0, .ref x0), (3, .int x3)] [] F) (x0 : Nat) (x3 : Int32) (x4 : Int32) (x5 : Int32) (x6 : Int32) (F : Mem) (h : fX7_slideInto_82 K8 K47 K100 x0 x3 x4 x5 x6 F = some res) : Wp C 0 0 82 [(0, .ref x0), (3, .int x3), (4, .int x4), (5, .int x5), (6, .int x6)] [] F := by
  unfold fX7_slideInto_82 at h
  refine wp_aload_n X dX7_slideInto_82 0 rfl ?_
  refine wp_iload_n X dX7_slideInto_83 1 rfl ?_
  refine wp_iload X dX7_slideInto_84 2 rfl ?_
  refine wp_iload X dX7_slideInto_86 4 rfl ?_
  refine wp_callVV X (rm := rmX7_put) (T := TX7) (N := 2) (ci := 6) (n := 3) [.int x3, .int x4, .int x6] hcd (fun q hq => cX7_put_ok hq) kw263 kw264 kw265 kw2 kw266 (by decide +kernel) (by decide) (by decide) (cs2 := 0) (sl2 := 0) rfl rfl rfl (by decide) rfl rfl (Nat.le_of_ble_eq_true rfl) dX7_slideInto_88 h (fun v88 h => ?_)
  refine wp_iinc X (v := x4 + 1) (lv' := [(0, .ref x0), (3, .int x3), (4, .int (x4 + 1)), (5, .int x5)]) dX7_slideInto_91 (by decide) 2 rfl rfl [1, 2, 0, 3] rfl ?_
  exact tX7_slideInto_94 X hcd Qr  hK8 hK47 hK100 _ _ _ _ _ h
def fX7_slideInto_50 (K8 : Nat → Int32 → Int32 → Int32 → Mem → Option (Int32 × Mem)) (K47 : Nat → Int32 → Mem → Option (Int32 × Mem)) (K100 : Nat → Int32 → Mem → Option (Int32 × Mem)) (x0 : Nat) (x3 : Int32) (x4 : Int32) (x5 : Int32) (x6 : Int32) (x7 : Int32) (F : Mem) : Option (Int32 × Mem) := if x7 = 0 then (fX7_slideInto_82  K8 K47 K100 x0 x3 x4 x5 x6 F) else (if x6 = 0 then (fX7_slideInto_67  K8 K47 K100 x0 x3 x4 x5 x7 F) else (if x6 < x7 then (fX7_slideInto_82  K8 K47 K100 x0 x3 x4 x5 x6 F) else (fX7_slideInto_67  K8 K47 K100 x0 x3 x4 x5 x7 F)))
set_option maxRecDepth 100000 in
set_option maxHeartbeats 4000000 in
theorem tX7_slideInto_50 {l : Launch} {D : va_G} {cy : Nat → ClassId} {C : Cx} {res : Int32 × Mem} (X : Fx C cX7_slideInto RX7 (some .int) rmX7_slideInto 8) (hcd : CD C l D cy) (Qr : RI C 0 0 res) {K8 : Nat → Int32 → Int32 → Int32 → Mem → Option (Int32 × Mem)} {K47 : Nat → Int32 → Mem → Option (Int32 × Mem)} {K100 : Nat → Int32 → Mem → Option (Int32 × Mem)} (hK8 : ∀ (x0 : Nat) (x3 : Int32) (x4 : Int32) (x5 : Int32) (F : Mem), K8 x0 x3 x4 x5 F = some res → Wp C 0 0 8 [(0, .ref x0), (3, .int x3), (4, .int x4), (5, .int x5)] [] F) (hK47 : ∀ (x0 : Nat) (x3 : Int32) (F : Mem), K47 x0 x3 F = some res → Wp C 0 0 47 [(0, .ref x0), (3, .int x3)] [] F) (hK100 : ∀ (x0 : Nat) (x3 : Int32) (F : Mem), K100 x0 x3 F = some res → Wp C 0 0 100 [(0, .ref x0), (3, .int x3)] [] F) (x0 : Nat) (x3 : Int32) (x4 : Int32) (x5 : Int32) (x6 : Int32) (x7 : Int32) (F : Mem) (h : fX7_slideInto_50 K8 K47 K100 x0 x3 x4 x5 x6 x7 F = some res) : Wp C 0 0 50 [(0, .ref x0), (3, .int x3), (4, .int x4), (5, .int x5), (6, .int x6), (7, .int x7)] [] F := by
  unfold fX7_slideInto_50 at h
  refine wp_iload X dX7_slideInto_50 5 rfl ?_
  refine wp_if_eq X (tgt := 82) dX7_slideInto_52 (by decide) h (fun h => ?_) (fun h => ?_)
  · refine wp_sub (lv' := [(0, .ref x0), (3, .int x3), (4, .int x4), (5, .int x5), (6, .int x6)]) [0, 1, 2, 3, 4] rfl ?_
    exact tX7_slideInto_82 X hcd Qr  hK8 hK47 hK100 _ _ _ _ _ _ h
  · refine wp_iload X dX7_slideInto_55 4 rfl ?_
    refine wp_if_eq X (tgt := 67) dX7_slideInto_57 (by decide) h (fun h => ?_) (fun h => ?_)
    · refine wp_sub (lv' := [(0, .ref x0), (3, .int x3), (4, .int x4), (5, .int x5), (7, .int x7)]) [0, 1, 2, 3, 5] rfl ?_
      exact tX7_slideInto_67 X hcd Qr  hK8 hK47 hK100 _ _ _ _ _ _ h
    · refine wp_iload X dX7_slideInto_60 5 rfl ?_
      refine wp_iload X dX7_slideInto_62 4 rfl ?_
      refine wp_icmp_gt X (tgt := 82) dX7_slideInto_64 (by decide) h (fun h => ?_) (fun h => ?_)
      · refine wp_sub (lv' := [(0, .ref x0), (3, .int x3), (4, .int x4), (5, .int x5), (6, .int x6)]) [0, 1, 2, 3, 4] rfl ?_
        exact tX7_slideInto_82 X hcd Qr  hK8 hK47 hK100 _ _ _ _ _ _ h
      · refine wp_sub (lv' := [(0, .ref x0), (3, .int x3), (4, .int x4), (5, .int x5), (7, .int x7)]) [0, 1, 2, 3, 5] rfl ?_
        exact tX7_slideInto_67 X hcd Qr  hK8 hK47 hK100 _ _ _ _ _ _ h
def fX7_slideInto_8 (K47 : Nat → Int32 → Mem → Option (Int32 × Mem)) (K100 : Nat → Int32 → Mem → Option (Int32 × Mem)) : Nat → Nat → Int32 → Int32 → Int32 → Mem → Option (Int32 × Mem)
  | 0, _, _, _, _, _ => none
  | n + 1, x0, x3, x4, x5, F => if 40 ≤ x5 then (K100 x0 x3 F) else ((obj F x0 6).bind fun _ => (mX7_letterAt F x0 x3 (x4 + 1)).bind fun v21 => (obj v21.2 x0 6).bind fun _ => (mX7_letterAt v21.2 x0 (x3 + 1) x4).bind fun v32 => if v21.1 = 0 then (if v32.1 = 0 then (K47 x0 x3 v32.2) else (fX7_slideInto_50  (fX7_slideInto_8  K47 K100 n) K47 K100 x0 x3 x4 x5 v21.1 v32.1 v32.2)) else (fX7_slideInto_50  (fX7_slideInto_8  K47 K100 n) K47 K100 x0 x3 x4 x5 v21.1 v32.1 v32.2))
set_option maxRecDepth 100000 in
set_option maxHeartbeats 4000000 in
theorem tX7_slideInto_8 {l : Launch} {D : va_G} {cy : Nat → ClassId} {C : Cx} {res : Int32 × Mem} (X : Fx C cX7_slideInto RX7 (some .int) rmX7_slideInto 8) (hcd : CD C l D cy) (Qr : RI C 0 0 res) {K47 : Nat → Int32 → Mem → Option (Int32 × Mem)} {K100 : Nat → Int32 → Mem → Option (Int32 × Mem)} (hK47 : ∀ (x0 : Nat) (x3 : Int32) (F : Mem), K47 x0 x3 F = some res → Wp C 0 0 47 [(0, .ref x0), (3, .int x3)] [] F) (hK100 : ∀ (x0 : Nat) (x3 : Int32) (F : Mem), K100 x0 x3 F = some res → Wp C 0 0 100 [(0, .ref x0), (3, .int x3)] [] F) : ∀ (n : Nat) (x0 : Nat) (x3 : Int32) (x4 : Int32) (x5 : Int32) (F : Mem), fX7_slideInto_8 K47 K100 n x0 x3 x4 x5 F = some res → Wp C 0 0 8 [(0, .ref x0), (3, .int x3), (4, .int x4), (5, .int x5)] [] F := by
  intro n
  induction n with
  | zero =>
    intro x0 x3 x4 x5 F h
    rw [fX7_slideInto_8.eq_1] at h
    cases h
  | succ n ih =>
    intro x0 x3 x4 x5 F h
    rw [fX7_slideInto_8.eq_2] at h
    refine wp_iload X dX7_slideInto_8 3 rfl ?_
    refine wp_bipush X (v := 40) dX7_slideInto_10 (by decide) ?_
    refine wp_icmp_ge X (tgt := 100) dX7_slideInto_12 (by decide) h (fun h => ?_) (fun h => ?_)
    · refine wp_sub (lv' := [(0, .ref x0), (3, .int x3)]) [0, 1] rfl ?_
      exact hK100 _ _ _ h
    · refine wp_aload_n X dX7_slideInto_15 0 rfl ?_
      refine wp_iload_n X dX7_slideInto_16 1 rfl ?_
      refine wp_iload X dX7_slideInto_17 2 rfl ?_
      refine wp_iconst X (v := 1) dX7_slideInto_19 (by decide) ?_
      refine wp_iadd X dX7_slideInto_20 ?_
      refine wp_callVI X (rm := rmX7_letterAt) (T := TX7) (N := 2) (ci := 6) (n := 2) [.int x3, .int (x4 + 1)] hcd (fun q hq => cX7_letterAt_ok hq) kw258 kw224 kw225 kw2 kw226 (by decide +kernel) (by decide) (by decide) (cs2 := 0) (sl2 := 0) rfl rfl rfl (by decide) rfl rfl (Nat.le_of_ble_eq_true rfl) dX7_slideInto_21 h (fun v21 h => ?_)
      refine wp_istore X (lv' := [(0, .ref x0), (3, .int x3), (4, .int x4), (5, .int x5), (6, .int v21.1)]) dX7_slideInto_24 (by decide) [1, 2, 3, 4, 0] rfl ?_
      refine wp_aload_n X dX7_slideInto_26 0 rfl ?_
      refine wp_iload_n X dX7_slideInto_27 1 rfl ?_
      refine wp_iconst X (v := 1) dX7_slideInto_28 (by decide) ?_
      refine wp_iadd X dX7_slideInto_29 ?_
      refine wp_iload X dX7_slideInto_30 2 rfl ?_
      refine wp_callVI X (rm := rmX7_letterAt) (T := TX7) (N := 2) (ci := 6) (n := 2) [.int (x3 + 1), .int x4] hcd (fun q hq => cX7_letterAt_ok hq) kw258 kw224 kw225 kw2 kw226 (by decide +kernel) (by decide) (by decide) (cs2 := 0) (sl2 := 0) rfl rfl rfl (by decide) rfl rfl (Nat.le_of_ble_eq_true rfl) dX7_slideInto_32 h (fun v32 h => ?_)
      refine wp_istore X (lv' := [(0, .ref x0), (3, .int x3), (4, .int x4), (5, .int x5), (6, .int v21.1), (7, .int v32.1)]) dX7_slideInto_35 (by decide) [1, 2, 3, 4, 5, 0] rfl ?_
      refine wp_iload X dX7_slideInto_37 4 rfl ?_
      refine wp_if_ne X (tgt := 50) dX7_slideInto_39 (by decide) h (fun h => ?_) (fun h => ?_)
      · exact tX7_slideInto_50 X hcd Qr  ih hK47 hK100 _ _ _ _ _ _ _ h
      · refine wp_iload X dX7_slideInto_42 5 rfl ?_
        refine wp_if_ne X (tgt := 50) dX7_slideInto_44 (by decide) h (fun h => ?_) (fun h => ?_)
        · exact tX7_slideInto_50 X hcd Qr  ih hK47 hK100 _ _ _ _ _ _ _ h
        · refine wp_sub (lv' := [(0, .ref x0), (3, .int x3)]) [0, 1] rfl ?_
          exact hK47 _ _ _ h
def fX7_slideInto_100  (x0 : Nat) (x3 : Int32) (F : Mem) : Option (Int32 × Mem) := (gfR F x0 6 0).bind fun v101 => (rdI F 0 v101 x3).bind fun v106 => (wrI F v101 x3 (v106 - 1)).bind fun F109 => some (x3, F109)
set_option maxRecDepth 100000 in
set_option maxHeartbeats 4000000 in
theorem tX7_slideInto_100 {l : Launch} {D : va_G} {cy : Nat → ClassId} {C : Cx} {res : Int32 × Mem} (X : Fx C cX7_slideInto RX7 (some .int) rmX7_slideInto 8) (hcd : CD C l D cy) (Qr : RI C 0 0 res)   (x0 : Nat) (x3 : Int32) (F : Mem) (h : fX7_slideInto_100  x0 x3 F = some res) : Wp C 0 0 100 [(0, .ref x0), (3, .int x3)] [] F := by
  unfold fX7_slideInto_100 at h
  refine wp_aload_n X dX7_slideInto_100 0 rfl ?_
  refine wp_getR X (T := TX7) (N := 2) (ci := 6) (k := 0) rfl (by decide) (by decide) inBX7 kw42 dX7_slideInto_101 h (fun v101 h => ?_)
  refine wp_iload_n X dX7_slideInto_104 1 rfl ?_
  refine wp_dup2 X dX7_slideInto_105 rfl rfl ?_
  refine wp_iaload X dX7_slideInto_106 h (fun v106 h => ?_)
  refine wp_iconst X (v := 1) dX7_slideInto_107 (by decide) ?_
  refine wp_isub X dX7_slideInto_108 ?_
  refine wp_iastore X dX7_slideInto_109 h (fun F109 h => ?_)
  refine wp_iload_n X dX7_slideInto_110 1 rfl ?_
  exact wp_ireturn X Qr rfl (vp_nar_int _) dX7_slideInto_111 h
def mX7_slideInto (F : Mem) (x0 : Nat) (x1 : Int32) (x2 : Int32) : Option (Int32 × Mem) := fX7_slideInto_8  (fun (x0 : Nat) (x3 : Int32) (F : Mem) => fX7_slideInto_100   x0 x3 F) (fun (x0 : Nat) (x3 : Int32) (F : Mem) => fX7_slideInto_100   x0 x3 F) FU x0 x1 x2 0 F
set_option maxRecDepth 100000 in
set_option maxHeartbeats 4000000 in
theorem cX7_slideInto_ok {l : Launch} {D : va_G} {cy : Nat → ClassId} {F : Mem} {x0 : Nat} {x1 : Int32} {x2 : Int32} {res : Int32 × Mem} (h : mX7_slideInto F x0 x1 x2 = some res) : MI l yX7_slideInto cX7_slideInto 8 (some .int) rmX7_slideInto D cy F [.ref x0, .int x1, .int x2] res := by
  refine mi_of (by decide) (Nat.le_of_ble_eq_true rfl) [(0, .ref x0), (1, .int x1), (2, .int x2)] rfl (fun C X hcd Qr => ?_)
  unfold mX7_slideInto at h
  refine wp_iload_n X dX7_slideInto_0 1 rfl ?_
  refine wp_istore_n X (lv' := [(0, .ref x0), (2, .int x2), (3, .int x1)]) dX7_slideInto_1 (by decide) [1, 3, 0] rfl ?_
  refine wp_iload_n X dX7_slideInto_2 1 rfl ?_
  refine wp_istore X (lv' := [(0, .ref x0), (3, .int x1), (4, .int x2)]) dX7_slideInto_3 (by decide) [1, 3, 0] rfl ?_
  refine wp_iconst X (v := 0) dX7_slideInto_5 (by decide) ?_
  refine wp_istore X (lv' := [(0, .ref x0), (3, .int x1), (4, .int x2), (5, .int 0)]) dX7_slideInto_6 (by decide) [1, 2, 3, 0] rfl ?_
  refine tX7_slideInto_8 X hcd Qr  ?_ ?_ FU _ _ _ _ _ h
  · intro x0 x3 F h
    refine wp_goto X (tgt := 100) dX7_slideInto_47 (by decide) ?_
    exact tX7_slideInto_100 X hcd Qr   _ _ _ h
  · intro x0 x3 F h
    exact tX7_slideInto_100 X hcd Qr   _ _ _ h
