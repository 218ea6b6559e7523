/-! TableauBenchLaw.shape(LTableauBench;IJ[J)I -/
def rmL_shape : Room := { frames := 8, cells := 1, slots := 6, locals := 141 }
def fL_shape_17  (s0 : Nat) (s1 : Int32) (s2 : Int64) (F : Mem) : Option (Int32 × Mem) := (wrJ F s0 s1 s2).bind fun F17 => some (0, F17)
set_option maxRecDepth 100000 in
set_option maxHeartbeats 4000000 in
theorem tL_shape_17 {l : Launch} {D : va_G} {cy : Nat → ClassId} (hst0 : l.stackTraces = false) {C : Cx} {res : Int32 × Mem} (X : Fx C cL_shape RL (some .int) rmL_shape 6) (hcd : CD C l D cy) (Ht : HT C [(0, 18, 21, 13)]) (Qr : RI C 1 6 res)   (s0 : Nat) (s1 : Int32) (s2 : Int64) (F : Mem) (h : fL_shape_17  s0 s1 s2 F = some res) : Wp C 1 6 17 [] [.long s2, .int s1, .ref s0] F := by
  unfold fL_shape_17 at h
  refine wp_lastore X dL_shape_17 h (fun F17 h => ?_)
  refine wp_goto X (tgt := 25) dL_shape_18 (by decide) ?_
  refine wp_iconst X (v := 0) dL_shape_25 (by decide) ?_
  exact wp_ireturnW X Qr (by decide) (by decide) rfl (vp_nar_int _) dL_shape_26 h
def mL_shape (F : Mem) (x0 : Nat) (x1 : Int32) (x2 : Int64) (x4 : Nat) : Option (Int32 × Mem) := (obj F x0 8).bind fun _ => hnl (mX9_shape F x0 x1 x2) (fun E9 F9 => (if E9 = "java/lang/IndexOutOfBoundsException" then some (1, F9) else none)) fun v6 F6 => if v6 = 0 then (fL_shape_17   x4 0 0 F6) else (fL_shape_17   x4 0 1 F6)
set_option maxRecDepth 100000 in
set_option maxHeartbeats 4000000 in
theorem cL_shape_ok {l : Launch} {D : va_G} {cy : Nat → ClassId} (hst0 : l.stackTraces = false) {F : Mem} {x0 : Nat} {x1 : Int32} {x2 : Int64} {x4 : Nat} {res : Int32 × Mem} (h : mL_shape F x0 x1 x2 x4 = some res) : MH l yL_shape cL_shape 6 (some .int) [(0, 18, 21, 13)] rmL_shape D cy F [.ref x0, .int x1, .long x2, .ref x4] res := by
  refine mh_of hst0 (by decide) (Nat.le_of_ble_eq_true rfl) [(0, .ref x0), (1, .int x1), (2, .long x2), (4, .ref x4)] rfl (fun C X hcd Ht Qr => ?_)
  unfold mL_shape at h
  refine wp_aload X dL_shape_0 3 rfl ?_
  refine wp_iconst X (v := 0) dL_shape_2 (by decide) ?_
  refine wp_aload_n X dL_shape_3 0 rfl ?_
  refine wp_iload_n X dL_shape_4 1 rfl ?_
  refine wp_lload_n X dL_shape_5 2 rfl ?_
  refine wp_callCI X Ht (rm := rmX9_shape) (T := TX9) (N := 13) (ci := 8) (n := 2) [.int x1, .long x2] [((0, 18, 21, 13), "java/lang/IndexOutOfBoundsException")] rfl (by decide) (by intro y9 hy9; simp only [List.mem_cons, List.not_mem_nil, or_false] at hy9; rcases hy9 with rfl <;> first | exact ⟨kw278, by decide⟩) hcd (fun q hq => cX9_shape_ok hst0 hq) kw279 kw280 kw281 kw1 kw282 (by decide +kernel) (by decide) (by decide) (cs2 := 1) (sl2 := 6) rfl rfl rfl (by decide) rfl rfl (Nat.le_of_ble_eq_true rfl) dL_shape_6 h (fun E9 F9 h => ?_) (fun v6 F6 h => ?_)
  · by_cases e0 : E9 = "java/lang/IndexOutOfBoundsException"
    · rw [if_pos e0] at h
      subst e0
      refine ⟨[], ((0, 18, 21, 13), "java/lang/IndexOutOfBoundsException"), [], rfl, rfl, (by decide), (by decide), fun q9 => ?_⟩
      refine wp_sub (lv' := []) [] rfl ?_
      refine wp_astore X (lv' := []) dL_shape_21 (by decide) [] rfl ?_
      refine wp_iconst X (v := 1) dL_shape_23 (by decide) ?_
      exact wp_ireturnW X Qr (by decide) (by decide) rfl (vp_nar_int _) dL_shape_24 h
    · rw [if_neg e0] at h
      cases h
  · refine wp_if_eq X (tgt := 16) dL_shape_9 (by decide) h (fun h => ?_) (fun h => ?_)
    · refine wp_lconst X (v := 0) dL_shape_16 (by decide) ?_
      refine wp_sub (lv' := []) [] rfl ?_
      exact tL_shape_17 hst0 X hcd Ht Qr   _ _ _ _ h
    · refine wp_lconst X (v := 1) dL_shape_12 (by decide) ?_
      refine wp_goto X (tgt := 17) dL_shape_13 (by decide) ?_
      refine wp_sub (lv' := []) [] rfl ?_
      exact tL_shape_17 hst0 X hcd Ht Qr   _ _ _ _ h
/-! TableauBenchLaw.row(LTableauBench;II[J)I -/
def rmL_row : Room := { frames := 8, cells := 1, slots := 6, locals := 139 }
def mL_row (F : Mem) (x0 : Nat) (x1 : Int32) (x2 : Int32) (x3 : Nat) : Option (Int32 × Mem) := (obj F x0 8).bind fun _ => hnl (mX9_row F x0 x1 x2) (fun E9 F9 => (if E9 = "java/lang/IndexOutOfBoundsException" then some (1, F9) else none)) fun v5 F5 => (wrJ F5 x3 0 (Int32.toInt64 v5)).bind fun F9 => some (0, F9)
set_option maxRecDepth 100000 in
set_option maxHeartbeats 4000000 in
theorem cL_row_ok {l : Launch} {D : va_G} {cy : Nat → ClassId} (hst0 : l.stackTraces = false) {F : Mem} {x0 : Nat} {x1 : Int32} {x2 : Int32} {x3 : Nat} {res : Int32 × Mem} (h : mL_row F x0 x1 x2 x3 = some res) : MH l yL_row cL_row 5 (some .int) [(0, 10, 13, 13)] rmL_row D cy F [.ref x0, .int x1, .int x2, .ref x3] res := by
  refine mh_of hst0 (by decide) (Nat.le_of_ble_eq_true rfl) [(0, .ref x0), (1, .int x1), (2, .int x2), (3, .ref x3)] rfl (fun C X hcd Ht Qr => ?_)
  unfold mL_row at h
  refine wp_aload_n X dL_row_0 3 rfl ?_
  refine wp_iconst X (v := 0) dL_row_1 (by decide) ?_
  refine wp_aload_n X dL_row_2 0 rfl ?_
  refine wp_iload_n X dL_row_3 1 rfl ?_
  refine wp_iload_n X dL_row_4 2 rfl ?_
  refine wp_callCI X Ht (rm := rmX9_row) (T := TX9) (N := 13) (ci := 8) (n := 2) [.int x1, .int x2] [((0, 10, 13, 13), "java/lang/IndexOutOfBoundsException")] rfl (by decide) (by intro y9 hy9; simp only [List.mem_cons, List.not_mem_nil, or_false] at hy9; rcases hy9 with rfl <;> first | exact ⟨kw278, by decide⟩) hcd (fun q hq => cX9_row_ok hst0 hq) kw379 kw380 kw381 kw1 kw382 (by decide +kernel) (by decide) (by decide) (cs2 := 1) (sl2 := 6) rfl rfl rfl (by decide) rfl rfl (Nat.le_of_ble_eq_true rfl) dL_row_5 h (fun E9 F9 h => ?_) (fun v5 F5 h => ?_)
  · by_cases e0 : E9 = "java/lang/IndexOutOfBoundsException"
    · rw [if_pos e0] at h
      subst e0
      refine ⟨[], ((0, 10, 13, 13), "java/lang/IndexOutOfBoundsException"), [], rfl, rfl, (by decide), (by decide), fun q9 => ?_⟩
      refine wp_sub (lv' := []) [] rfl ?_
      refine wp_astore X (lv' := []) dL_row_13 (by decide) [] rfl ?_
      refine wp_iconst X (v := 1) dL_row_15 (by decide) ?_
      exact wp_ireturnW X Qr (by decide) (by decide) rfl (vp_nar_int _) dL_row_16 h
    · rw [if_neg e0] at h
      cases h
  · refine wp_i2l X dL_row_8 ?_
    refine wp_lastore X dL_row_9 h (fun F9 h => ?_)
    refine wp_goto X (tgt := 17) dL_row_10 (by decide) ?_
    refine wp_iconst X (v := 0) dL_row_17 (by decide) ?_
    exact wp_ireturnW X Qr (by decide) (by decide) rfl (vp_nar_int _) dL_row_18 h
/-! TableauBenchLaw.conjugate(LTableauBench;I[J)I -/
def rmL_conjugate : Room := { frames := 8, cells := 1, slots := 6, locals := 140 }
def fL_conjugate_15  (s0 : Nat) (s1 : Int32) (s2 : Int64) (F : Mem) : Option (Int32 × Mem) := (wrJ F s0 s1 s2).bind fun F15 => some (0, F15)
set_option maxRecDepth 100000 in
set_option maxHeartbeats 4000000 in
theorem tL_conjugate_15 {l : Launch} {D : va_G} {cy : Nat → ClassId} (hst0 : l.stackTraces = false) {C : Cx} {res : Int32 × Mem} (X : Fx C cL_conjugate RL (some .int) rmL_conjugate 4) (hcd : CD C l D cy) (Ht : HT C [(0, 16, 19, 13)]) (Qr : RI C 1 6 res)   (s0 : Nat) (s1 : Int32) (s2 : Int64) (F : Mem) (h : fL_conjugate_15  s0 s1 s2 F = some res) : Wp C 1 6 15 [] [.long s2, .int s1, .ref s0] F := by
  unfold fL_conjugate_15 at h
  refine wp_lastore X dL_conjugate_15 h (fun F15 h => ?_)
  refine wp_goto X (tgt := 22) dL_conjugate_16 (by decide) ?_
  refine wp_iconst X (v := 0) dL_conjugate_22 (by decide) ?_
  exact wp_ireturnW X Qr (by decide) (by decide) rfl (vp_nar_int _) dL_conjugate_23 h
def mL_conjugate (F : Mem) (x0 : Nat) (x1 : Int32) (x2 : Nat) : Option (Int32 × Mem) := (obj F x0 8).bind fun _ => hnl (mX9_conjugate F x0 x1) (fun E9 F9 => (if E9 = "java/lang/IndexOutOfBoundsException" then some (1, F9) else none)) fun v4 F4 => if v4 = 0 then (fL_conjugate_15   x2 0 0 F4) else (fL_conjugate_15   x2 0 1 F4)
set_option maxRecDepth 100000 in
set_option maxHeartbeats 4000000 in
theorem cL_conjugate_ok {l : Launch} {D : va_G} {cy : Nat → ClassId} (hst0 : l.stackTraces = false) {F : Mem} {x0 : Nat} {x1 : Int32} {x2 : Nat} {res : Int32 × Mem} (h : mL_conjugate F x0 x1 x2 = some res) : MH l yL_conjugate cL_conjugate 4 (some .int) [(0, 16, 19, 13)] rmL_conjugate D cy F [.ref x0, .int x1, .ref x2] res := by
  refine mh_of hst0 (by decide) (Nat.le_of_ble_eq_true rfl) [(0, .ref x0), (1, .int x1), (2, .ref x2)] rfl (fun C X hcd Ht Qr => ?_)
  unfold mL_conjugate at h
  refine wp_aload_n X dL_conjugate_0 2 rfl ?_
  refine wp_iconst X (v := 0) dL_conjugate_1 (by decide) ?_
  refine wp_aload_n X dL_conjugate_2 0 rfl ?_
  refine wp_iload_n X dL_conjugate_3 1 rfl ?_
  refine wp_callCI X Ht (rm := rmX9_conjugate) (T := TX9) (N := 13) (ci := 8) (n := 1) [.int x1] [((0, 16, 19, 13), "java/lang/IndexOutOfBoundsException")] rfl (by decide) (by intro y9 hy9; simp only [List.mem_cons, List.not_mem_nil, or_false] at hy9; rcases hy9 with rfl <;> first | exact ⟨kw278, by decide⟩) hcd (fun q hq => cX9_conjugate_ok hst0 hq) kw390 kw391 kw392 kw1 kw393 (by decide +kernel) (by decide) (by decide) (cs2 := 1) (sl2 := 6) rfl rfl rfl (by decide) rfl rfl (Nat.le_of_ble_eq_true rfl) dL_conjugate_4 h (fun E9 F9 h => ?_) (fun v4 F4 h => ?_)
  · by_cases e0 : E9 = "java/lang/IndexOutOfBoundsException"
    · rw [if_pos e0] at h
      subst e0
      refine ⟨[], ((0, 16, 19, 13), "java/lang/IndexOutOfBoundsException"), [], rfl, rfl, (by decide), (by decide), fun q9 => ?_⟩
      refine wp_sub (lv' := []) [] rfl ?_
      refine wp_astore_n X (lv' := []) dL_conjugate_19 (by decide) [] rfl ?_
      refine wp_iconst X (v := 1) dL_conjugate_20 (by decide) ?_
      exact wp_ireturnW X Qr (by decide) (by decide) rfl (vp_nar_int _) dL_conjugate_21 h
    · rw [if_neg e0] at h
      cases h
  · refine wp_if_eq X (tgt := 14) dL_conjugate_7 (by decide) h (fun h => ?_) (fun h => ?_)
    · refine wp_lconst X (v := 0) dL_conjugate_14 (by decide) ?_
      refine wp_sub (lv' := []) [] rfl ?_
      exact tL_conjugate_15 hst0 X hcd Ht Qr   _ _ _ _ h
    · refine wp_lconst X (v := 1) dL_conjugate_10 (by decide) ?_
      refine wp_goto X (tgt := 15) dL_conjugate_11 (by decide) ?_
      refine wp_sub (lv' := []) [] rfl ?_
      exact tL_conjugate_15 hst0 X hcd Ht Qr   _ _ _ _ h
/-! TableauBenchLaw.rank(LTableauBench;I[J)I -/
def rmL_rank : Room := { frames := 8, cells := 1, slots := 6, locals := 138 }
def mL_rank (F : Mem) (x0 : Nat) (x1 : Int32) (x2 : Nat) : Option (Int32 × Mem) := (obj F x0 8).bind fun _ => hnl (mX9_rank F x0 x1) (fun E9 F9 => (if E9 = "java/lang/IndexOutOfBoundsException" then some (1, F9) else none)) fun v4 F4 => (wrJ F4 x2 0 (Int32.toInt64 v4)).bind fun F8 => some (0, F8)
set_option maxRecDepth 100000 in
set_option maxHeartbeats 4000000 in
theorem cL_rank_ok {l : Launch} {D : va_G} {cy : Nat → ClassId} (hst0 : l.stackTraces = false) {F : Mem} {x0 : Nat} {x1 : Int32} {x2 : Nat} {res : Int32 × Mem} (h : mL_rank F x0 x1 x2 = some res) : MH l yL_rank cL_rank 4 (some .int) [(0, 9, 12, 13)] rmL_rank D cy F [.ref x0, .int x1, .ref x2] res := by
  refine mh_of hst0 (by decide) (Nat.le_of_ble_eq_true rfl) [(0, .ref x0), (1, .int x1), (2, .ref x2)] rfl (fun C X hcd Ht Qr => ?_)
  unfold mL_rank at h
  refine wp_aload_n X dL_rank_0 2 rfl ?_
  refine wp_iconst X (v := 0) dL_rank_1 (by decide) ?_
  refine wp_aload_n X dL_rank_2 0 rfl ?_
  refine wp_iload_n X dL_rank_3 1 rfl ?_
  refine wp_callCI X Ht (rm := rmX9_rank) (T := TX9) (N := 13) (ci := 8) (n := 1) [.int x1] [((0, 9, 12, 13), "java/lang/IndexOutOfBoundsException")] rfl (by decide) (by intro y9 hy9; simp only [List.mem_cons, List.not_mem_nil, or_false] at hy9; rcases hy9 with rfl <;> first | exact ⟨kw278, by decide⟩) hcd (fun q hq => cX9_rank_ok hst0 hq) kw401 kw402 kw403 kw1 kw404 (by decide +kernel) (by decide) (by decide) (cs2 := 1) (sl2 := 6) rfl rfl rfl (by decide) rfl rfl (Nat.le_of_ble_eq_true rfl) dL_rank_4 h (fun E9 F9 h => ?_) (fun v4 F4 h => ?_)
  · by_cases e0 : E9 = "java/lang/IndexOutOfBoundsException"
    · rw [if_pos e0] at h
      subst e0
      refine ⟨[], ((0, 9, 12, 13), "java/lang/IndexOutOfBoundsException"), [], rfl, rfl, (by decide), (by decide), fun q9 => ?_⟩
      refine wp_sub (lv' := []) [] rfl ?_
      refine wp_astore_n X (lv' := []) dL_rank_12 (by decide) [] rfl ?_
      refine wp_iconst X (v := 1) dL_rank_13 (by decide) ?_
      exact wp_ireturnW X Qr (by decide) (by decide) rfl (vp_nar_int _) dL_rank_14 h
    · rw [if_neg e0] at h
      cases h
  · refine wp_i2l X dL_rank_7 ?_
    refine wp_lastore X dL_rank_8 h (fun F8 h => ?_)
    refine wp_goto X (tgt := 15) dL_rank_9 (by decide) ?_
    refine wp_iconst X (v := 0) dL_rank_15 (by decide) ?_
    exact wp_ireturnW X Qr (by decide) (by decide) rfl (vp_nar_int _) dL_rank_16 h
/-! TableauBenchLaw.unrank(LTableauBench;III)I -/
def rmL_unrank : Room := { frames := 8, cells := 2, slots := 12, locals := 141 }
def mL_unrank (F : Mem) (x0 : Nat) (x1 : Int32) (x2 : Int32) (x3 : Int32) : Option (Int32 × Mem) := (obj F x0 8).bind fun _ => hnl (mX9_unrank F x0 x1 x2 x3) (fun E9 F9 => (if E9 = "java/lang/IndexOutOfBoundsException" then some (1, F9) else (if E9 = "java/lang/IllegalArgumentException" then some (2, F9) else (if E9 = "java/util/NoSuchElementException" then some (3, F9) else (if E9 = "java/lang/UnsupportedOperationException" then some (4, F9) else none))))) fun u4 F4 => some (0, F4)
set_option maxRecDepth 100000 in
set_option maxHeartbeats 4000000 in
theorem cL_unrank_ok {l : Launch} {D : va_G} {cy : Nat → ClassId} (hst0 : l.stackTraces = false) {F : Mem} {x0 : Nat} {x1 : Int32} {x2 : Int32} {x3 : Int32} {res : Int32 × Mem} (h : mL_unrank F x0 x1 x2 x3 = some res) : MH l yL_unrank cL_unrank 5 (some .int) [(0, 7, 10, 13), (0, 7, 14, 31), (0, 7, 18, 33), (0, 7, 22, 35)] rmL_unrank D cy F [.ref x0, .int x1, .int x2, .int x3] res := by
  refine mh_of hst0 (by decide) (Nat.le_of_ble_eq_true rfl) [(0, .ref x0), (1, .int x1), (2, .int x2), (3, .int x3)] rfl (fun C X hcd Ht Qr => ?_)
  unfold mL_unrank at h
  refine wp_aload_n X dL_unrank_0 0 rfl ?_
  refine wp_iload_n X dL_unrank_1 1 rfl ?_
  refine wp_iload_n X dL_unrank_2 2 rfl ?_
  refine wp_iload_n X dL_unrank_3 3 rfl ?_
  refine wp_callCV X Ht (rm := rmX9_unrank) (T := TX9) (N := 13) (ci := 8) (n := 3) [.int x1, .int x2, .int x3] [((0, 7, 10, 13), "java/lang/IndexOutOfBoundsException"), ((0, 7, 14, 31), "java/lang/IllegalArgumentException"), ((0, 7, 18, 33), "java/util/NoSuchElementException"), ((0, 7, 22, 35), "java/lang/UnsupportedOperationException")] rfl (by decide) (by intro y9 hy9; simp only [List.mem_cons, List.not_mem_nil, or_false] at hy9; rcases hy9 with rfl | rfl | rfl | rfl <;> first | exact ⟨kw278, by decide⟩ | exact ⟨kw417, by decide⟩ | exact ⟨kw418, by decide⟩ | exact ⟨kw419, by decide⟩) hcd (fun q hq => cX9_unrank_ok hst0 hq) kw420 kw421 kw422 kw1 kw423 (by decide +kernel) (by decide) (by decide) (cs2 := 2) (sl2 := 12) rfl rfl rfl (by decide) rfl rfl (Nat.le_of_ble_eq_true rfl) dL_unrank_4 h (fun E9 F9 h => ?_) (fun u4 F4 h => ?_)
  · by_cases e0 : E9 = "java/lang/IndexOutOfBoundsException"
    · rw [if_pos e0] at h
      subst e0
      refine ⟨[], ((0, 7, 10, 13), "java/lang/IndexOutOfBoundsException"), [((0, 7, 14, 31), "java/lang/IllegalArgumentException"), ((0, 7, 18, 33), "java/util/NoSuchElementException"), ((0, 7, 22, 35), "java/lang/UnsupportedOperationException")], rfl, rfl, (by decide), (by decide), fun q9 => ?_⟩
      refine wp_sub (lv' := []) [] rfl ?_
      refine wp_astore X (lv' := []) dL_unrank_10 (by decide) [] rfl ?_
      refine wp_iconst X (v := 1) dL_unrank_12 (by decide) ?_
      exact wp_ireturnW X Qr (by decide) (by decide) rfl (vp_nar_int _) dL_unrank_13 h
    · rw [if_neg e0] at h
      by_cases e1 : E9 = "java/lang/IllegalArgumentException"
      · rw [if_pos e1] at h
        subst e1
        refine ⟨[((0, 7, 10, 13), "java/lang/IndexOutOfBoundsException")], ((0, 7, 14, 31), "java/lang/IllegalArgumentException"), [((0, 7, 18, 33), "java/util/NoSuchElementException"), ((0, 7, 22, 35), "java/lang/UnsupportedOperationException")], rfl, rfl, (by decide), (by decide), fun q9 => ?_⟩
        refine wp_sub (lv' := []) [] rfl ?_
        refine wp_astore X (lv' := []) dL_unrank_14 (by decide) [] rfl ?_
        refine wp_iconst X (v := 2) dL_unrank_16 (by decide) ?_
        exact wp_ireturnW X Qr (by decide) (by decide) rfl (vp_nar_int _) dL_unrank_17 h
      · rw [if_neg e1] at h
        by_cases e2 : E9 = "java/util/NoSuchElementException"
        · rw [if_pos e2] at h
          subst e2
          refine ⟨[((0, 7, 10, 13), "java/lang/IndexOutOfBoundsException"), ((0, 7, 14, 31), "java/lang/IllegalArgumentException")], ((0, 7, 18, 33), "java/util/NoSuchElementException"), [((0, 7, 22, 35), "java/lang/UnsupportedOperationException")], rfl, rfl, (by decide), (by decide), fun q9 => ?_⟩
          refine wp_sub (lv' := []) [] rfl ?_
          refine wp_astore X (lv' := []) dL_unrank_18 (by decide) [] rfl ?_
          refine wp_iconst X (v := 3) dL_unrank_20 (by decide) ?_
          exact wp_ireturnW X Qr (by decide) (by decide) rfl (vp_nar_int _) dL_unrank_21 h
        · rw [if_neg e2] at h
          by_cases e3 : E9 = "java/lang/UnsupportedOperationException"
          · rw [if_pos e3] at h
            subst e3
            refine ⟨[((0, 7, 10, 13), "java/lang/IndexOutOfBoundsException"), ((0, 7, 14, 31), "java/lang/IllegalArgumentException"), ((0, 7, 18, 33), "java/util/NoSuchElementException")], ((0, 7, 22, 35), "java/lang/UnsupportedOperationException"), [], rfl, rfl, (by decide), (by decide), fun q9 => ?_⟩
            refine wp_sub (lv' := []) [] rfl ?_
            refine wp_astore X (lv' := []) dL_unrank_22 (by decide) [] rfl ?_
            refine wp_iconst X (v := 4) dL_unrank_24 (by decide) ?_
            exact wp_ireturnW X Qr (by decide) (by decide) rfl (vp_nar_int _) dL_unrank_25 h
          · rw [if_neg e3] at h
            cases h
  · refine wp_goto X (tgt := 26) dL_unrank_7 (by decide) ?_
    refine wp_iconst X (v := 0) dL_unrank_26 (by decide) ?_
    exact wp_ireturnW X Qr (by decide) (by decide) rfl (vp_nar_int _) dL_unrank_27 h
/-! TableauBenchLaw.letter(LTableauBench;II[J)I -/
def rmL_letter : Room := { frames := 8, cells := 1, slots := 6, locals := 140 }
def fL_letter_16  (s0 : Nat) (s1 : Int32) (s2 : Int64) (F : Mem) : Option (Int32 × Mem) := (wrJ F s0 s1 s2).bind fun F16 => some (0, F16)
set_option maxRecDepth 100000 in
set_option maxHeartbeats 4000000 in
theorem tL_letter_16 {l : Launch} {D : va_G} {cy : Nat → ClassId} (hst0 : l.stackTraces = false) {C : Cx} {res : Int32 × Mem} (X : Fx C cL_letter RL (some .int) rmL_letter 5) (hcd : CD C l D cy) (Ht : HT C [(0, 17, 20, 13)]) (Qr : RI C 1 6 res)   (s0 : Nat) (s1 : Int32) (s2 : Int64) (F : Mem) (h : fL_letter_16  s0 s1 s2 F = some res) : Wp C 1 6 16 [] [.long s2, .int s1, .ref s0] F := by
  unfold fL_letter_16 at h
  refine wp_lastore X dL_letter_16 h (fun F16 h => ?_)
  refine wp_goto X (tgt := 24) dL_letter_17 (by decide) ?_
  refine wp_iconst X (v := 0) dL_letter_24 (by decide) ?_
  exact wp_ireturnW X Qr (by decide) (by decide) rfl (vp_nar_int _) dL_letter_25 h
def mL_letter (F : Mem) (x0 : Nat) (x1 : Int32) (x2 : Int32) (x3 : Nat) : Option (Int32 × Mem) := (obj F x0 8).bind fun _ => hnl (mX9_letter F x0 x1 x2) (fun E9 F9 => (if E9 = "java/lang/IndexOutOfBoundsException" then some (1, F9) else none)) fun v5 F5 => if v5 = 0 then (fL_letter_16   x3 0 0 F5) else (fL_letter_16   x3 0 1 F5)
set_option maxRecDepth 100000 in
set_option maxHeartbeats 4000000 in
theorem cL_letter_ok {l : Launch} {D : va_G} {cy : Nat → ClassId} (hst0 : l.stackTraces = false) {F : Mem} {x0 : Nat} {x1 : Int32} {x2 : Int32} {x3 : Nat} {res : Int32 × Mem} (h : mL_letter F x0 x1 x2 x3 = some res) : MH l yL_letter cL_letter 5 (some .int) [(0, 17, 20, 13)] rmL_letter D cy F [.ref x0, .int x1, .int x2, .ref x3] res := by
  refine mh_of hst0 (by decide) (Nat.le_of_ble_eq_true rfl) [(0, .ref x0), (1, .int x1), (2, .int x2), (3, .ref x3)] rfl (fun C X hcd Ht Qr => ?_)
  unfold mL_letter at h
  refine wp_aload_n X dL_letter_0 3 rfl ?_
  refine wp_iconst X (v := 0) dL_letter_1 (by decide) ?_
  refine wp_aload_n X dL_letter_2 0 rfl ?_
  refine wp_iload_n X dL_letter_3 1 rfl ?_
  refine wp_iload_n X dL_letter_4 2 rfl ?_
  refine wp_callCI X Ht (rm := rmX9_letter) (T := TX9) (N := 13) (ci := 8) (n := 2) [.int x1, .int x2] [((0, 17, 20, 13), "java/lang/IndexOutOfBoundsException")] rfl (by decide) (by intro y9 hy9; simp only [List.mem_cons, List.not_mem_nil, or_false] at hy9; rcases hy9 with rfl <;> first | exact ⟨kw278, by decide⟩) hcd (fun q hq => cX9_letter_ok hst0 hq) kw483 kw484 kw485 kw1 kw486 (by decide +kernel) (by decide) (by decide) (cs2 := 1) (sl2 := 6) rfl rfl rfl (by decide) rfl rfl (Nat.le_of_ble_eq_true rfl) dL_letter_5 h (fun E9 F9 h => ?_) (fun v5 F5 h => ?_)
  · by_cases e0 : E9 = "java/lang/IndexOutOfBoundsException"
    · rw [if_pos e0] at h
      subst e0
      refine ⟨[], ((0, 17, 20, 13), "java/lang/IndexOutOfBoundsException"), [], rfl, rfl, (by decide), (by decide), fun q9 => ?_⟩
      refine wp_sub (lv' := []) [] rfl ?_
      refine wp_astore X (lv' := []) dL_letter_20 (by decide) [] rfl ?_
      refine wp_iconst X (v := 1) dL_letter_22 (by decide) ?_
      exact wp_ireturnW X Qr (by decide) (by decide) rfl (vp_nar_int _) dL_letter_23 h
    · rw [if_neg e0] at h
      cases h
  · refine wp_if_eq X (tgt := 15) dL_letter_8 (by decide) h (fun h => ?_) (fun h => ?_)
    · refine wp_lconst X (v := 0) dL_letter_15 (by decide) ?_
      refine wp_sub (lv' := []) [] rfl ?_
      exact tL_letter_16 hst0 X hcd Ht Qr   _ _ _ _ h
    · refine wp_lconst X (v := 1) dL_letter_11 (by decide) ?_
      refine wp_goto X (tgt := 16) dL_letter_12 (by decide) ?_
      refine wp_sub (lv' := []) [] rfl ?_
      exact tL_letter_16 hst0 X hcd Ht Qr   _ _ _ _ h
/-! TableauBenchLaw.cut(LTableauBench;II[J)I -/
def rmL_cut : Room := { frames := 8, cells := 1, slots := 6, locals := 140 }
def fL_cut_16  (s0 : Nat) (s1 : Int32) (s2 : Int64) (F : Mem) : Option (Int32 × Mem) := (wrJ F s0 s1 s2).bind fun F16 => some (0, F16)
set_option maxRecDepth 100000 in
set_option maxHeartbeats 4000000 in
theorem tL_cut_16 {l : Launch} {D : va_G} {cy : Nat → ClassId} (hst0 : l.stackTraces = false) {C : Cx} {res : Int32 × Mem} (X : Fx C cL_cut RL (some .int) rmL_cut 5) (hcd : CD C l D cy) (Ht : HT C [(0, 17, 20, 13)]) (Qr : RI C 1 6 res)   (s0 : Nat) (s1 : Int32) (s2 : Int64) (F : Mem) (h : fL_cut_16  s0 s1 s2 F = some res) : Wp C 1 6 16 [] [.long s2, .int s1, .ref s0] F := by
  unfold fL_cut_16 at h
  refine wp_lastore X dL_cut_16 h (fun F16 h => ?_)
  refine wp_goto X (tgt := 24) dL_cut_17 (by decide) ?_
  refine wp_iconst X (v := 0) dL_cut_24 (by decide) ?_
  exact wp_ireturnW X Qr (by decide) (by decide) rfl (vp_nar_int _) dL_cut_25 h
def mL_cut (F : Mem) (x0 : Nat) (x1 : Int32) (x2 : Int32) (x3 : Nat) : Option (Int32 × Mem) := (obj F x0 8).bind fun _ => hnl (mX9_cut F x0 x1 x2) (fun E9 F9 => (if E9 = "java/lang/IndexOutOfBoundsException" then some (1, F9) else none)) fun v5 F5 => if v5 = 0 then (fL_cut_16   x3 0 0 F5) else (fL_cut_16   x3 0 1 F5)
set_option maxRecDepth 100000 in
set_option maxHeartbeats 4000000 in
theorem cL_cut_ok {l : Launch} {D : va_G} {cy : Nat → ClassId} (hst0 : l.stackTraces = false) {F : Mem} {x0 : Nat} {x1 : Int32} {x2 : Int32} {x3 : Nat} {res : Int32 × Mem} (h : mL_cut F x0 x1 x2 x3 = some res) : MH l yL_cut cL_cut 5 (some .int) [(0, 17, 20, 13)] rmL_cut D cy F [.ref x0, .int x1, .int x2, .ref x3] res := by
  refine mh_of hst0 (by decide) (Nat.le_of_ble_eq_true rfl) [(0, .ref x0), (1, .int x1), (2, .int x2), (3, .ref x3)] rfl (fun C X hcd Ht Qr => ?_)
  unfold mL_cut at h
  refine wp_aload_n X dL_cut_0 3 rfl ?_
  refine wp_iconst X (v := 0) dL_cut_1 (by decide) ?_
  refine wp_aload_n X dL_cut_2 0 rfl ?_
  refine wp_iload_n X dL_cut_3 1 rfl ?_
  refine wp_iload_n X dL_cut_4 2 rfl ?_
  refine wp_callCI X Ht (rm := rmX9_cut) (T := TX9) (N := 13) (ci := 8) (n := 2) [.int x1, .int x2] [((0, 17, 20, 13), "java/lang/IndexOutOfBoundsException")] rfl (by decide) (by intro y9 hy9; simp only [List.mem_cons, List.not_mem_nil, or_false] at hy9; rcases hy9 with rfl <;> first | exact ⟨kw278, by decide⟩) hcd (fun q hq => cX9_cut_ok hst0 hq) kw499 kw500 kw501 kw1 kw502 (by decide +kernel) (by decide) (by decide) (cs2 := 1) (sl2 := 6) rfl rfl rfl (by decide) rfl rfl (Nat.le_of_ble_eq_true rfl) dL_cut_5 h (fun E9 F9 h => ?_) (fun v5 F5 h => ?_)
  · by_cases e0 : E9 = "java/lang/IndexOutOfBoundsException"
    · rw [if_pos e0] at h
      subst e0
      refine ⟨[], ((0, 17, 20, 13), "java/lang/IndexOutOfBoundsException"), [], rfl, rfl, (by decide), (by decide), fun q9 => ?_⟩
      refine wp_sub (lv' := []) [] rfl ?_
      refine wp_astore X (lv' := []) dL_cut_20 (by decide) [] rfl ?_
      refine wp_iconst X (v := 1) dL_cut_22 (by decide) ?_
      exact wp_ireturnW X Qr (by decide) (by decide) rfl (vp_nar_int _) dL_cut_23 h
    · rw [if_neg e0] at h
      cases h
  · refine wp_if_eq X (tgt := 15) dL_cut_8 (by decide) h (fun h => ?_) (fun h => ?_)
    · refine wp_lconst X (v := 0) dL_cut_15 (by decide) ?_
      refine wp_sub (lv' := []) [] rfl ?_
      exact tL_cut_16 hst0 X hcd Ht Qr   _ _ _ _ h
    · refine wp_lconst X (v := 1) dL_cut_11 (by decide) ?_
      refine wp_goto X (tgt := 16) dL_cut_12 (by decide) ?_
      refine wp_sub (lv' := []) [] rfl ?_
      exact tL_cut_16 hst0 X hcd Ht Qr   _ _ _ _ h
/-! TableauBenchLaw.length(LTableauBench;I[J)I -/
def rmL_length : Room := { frames := 8, cells := 1, slots := 6, locals := 138 }
def mL_length (F : Mem) (x0 : Nat) (x1 : Int32) (x2 : Nat) : Option (Int32 × Mem) := (obj F x0 8).bind fun _ => hnl (mX9_length F x0 x1) (fun E9 F9 => (if E9 = "java/lang/IndexOutOfBoundsException" then some (1, F9) else none)) fun v4 F4 => (wrJ F4 x2 0 (Int32.toInt64 v4)).bind fun F8 => some (0, F8)
set_option maxRecDepth 100000 in
set_option maxHeartbeats 4000000 in
theorem cL_length_ok {l : Launch} {D : va_G} {cy : Nat → ClassId} (hst0 : l.stackTraces = false) {F : Mem} {x0 : Nat} {x1 : Int32} {x2 : Nat} {res : Int32 × Mem} (h : mL_length F x0 x1 x2 = some res) : MH l yL_length cL_length 4 (some .int) [(0, 9, 12, 13)] rmL_length D cy F [.ref x0, .int x1, .ref x2] res := by
  refine mh_of hst0 (by decide) (Nat.le_of_ble_eq_true rfl) [(0, .ref x0), (1, .int x1), (2, .ref x2)] rfl (fun C X hcd Ht Qr => ?_)
  unfold mL_length at h
  refine wp_aload_n X dL_length_0 2 rfl ?_
  refine wp_iconst X (v := 0) dL_length_1 (by decide) ?_
  refine wp_aload_n X dL_length_2 0 rfl ?_
  refine wp_iload_n X dL_length_3 1 rfl ?_
  refine wp_callCI X Ht (rm := rmX9_length) (T := TX9) (N := 13) (ci := 8) (n := 1) [.int x1] [((0, 9, 12, 13), "java/lang/IndexOutOfBoundsException")] rfl (by decide) (by intro y9 hy9; simp only [List.mem_cons, List.not_mem_nil, or_false] at hy9; rcases hy9 with rfl <;> first | exact ⟨kw278, by decide⟩) hcd (fun q hq => cX9_length_ok hst0 hq) kw506 kw507 kw508 kw1 kw509 (by decide +kernel) (by decide) (by decide) (cs2 := 1) (sl2 := 6) rfl rfl rfl (by decide) rfl rfl (Nat.le_of_ble_eq_true rfl) dL_length_4 h (fun E9 F9 h => ?_) (fun v4 F4 h => ?_)
  · by_cases e0 : E9 = "java/lang/IndexOutOfBoundsException"
    · rw [if_pos e0] at h
      subst e0
      refine ⟨[], ((0, 9, 12, 13), "java/lang/IndexOutOfBoundsException"), [], rfl, rfl, (by decide), (by decide), fun q9 => ?_⟩
      refine wp_sub (lv' := []) [] rfl ?_
      refine wp_astore_n X (lv' := []) dL_length_12 (by decide) [] rfl ?_
      refine wp_iconst X (v := 1) dL_length_13 (by decide) ?_
      exact wp_ireturnW X Qr (by decide) (by decide) rfl (vp_nar_int _) dL_length_14 h
    · rw [if_neg e0] at h
      cases h
  · refine wp_i2l X dL_length_7 ?_
    refine wp_lastore X dL_length_8 h (fun F8 h => ?_)
    refine wp_goto X (tgt := 15) dL_length_9 (by decide) ?_
    refine wp_iconst X (v := 0) dL_length_15 (by decide) ?_
    exact wp_ireturnW X Qr (by decide) (by decide) rfl (vp_nar_int _) dL_length_16 h
/-! TableauBenchLaw.at(LTableauBench;II[J)I -/
def rmL_at : Room := { frames := 8, cells := 1, slots := 6, locals := 139 }
def mL_at (F : Mem) (x0 : Nat) (x1 : Int32) (x2 : Int32) (x3 : Nat) : Option (Int32 × Mem) := (obj F x0 8).bind fun _ => hnl (mX9_at F x0 x1 x2) (fun E9 F9 => (if E9 = "java/lang/IndexOutOfBoundsException" then some (1, F9) else none)) fun v5 F5 => (wrJ F5 x3 0 (Int32.toInt64 v5)).bind fun F9 => some (0, F9)
set_option maxRecDepth 100000 in
set_option maxHeartbeats 4000000 in
theorem cL_at_ok {l : Launch} {D : va_G} {cy : Nat → ClassId} (hst0 : l.stackTraces = false) {F : Mem} {x0 : Nat} {x1 : Int32} {x2 : Int32} {x3 : Nat} {res : Int32 × Mem} (h : mL_at F x0 x1 x2 x3 = some res) : MH l yL_at cL_at 5 (some .int) [(0, 10, 13, 13)] rmL_at D cy F [.ref x0, .int x1, .int x2, .ref x3] res := by
  refine mh_of hst0 (by decide) (Nat.le_of_ble_eq_true rfl) [(0, .ref x0), (1, .int x1), (2, .int x2), (3, .ref x3)] rfl (fun C X hcd Ht Qr => ?_)
  unfold mL_at at h
  refine wp_aload_n X dL_at_0 3 rfl ?_
  refine wp_iconst X (v := 0) dL_at_1 (by decide) ?_
  refine wp_aload_n X dL_at_2 0 rfl ?_
  refine wp_iload_n X dL_at_3 1 rfl ?_
  refine wp_iload_n X dL_at_4 2 rfl ?_
  refine wp_callCI X Ht (rm := rmX9_at) (T := TX9) (N := 13) (ci := 8) (n := 2) [.int x1, .int x2] [((0, 10, 13, 13), "java/lang/IndexOutOfBoundsException")] rfl (by decide) (by intro y9 hy9; simp only [List.mem_cons, List.not_mem_nil, or_false] at hy9; rcases hy9 with rfl <;> first | exact ⟨kw278, by decide⟩) hcd (fun q hq => cX9_at_ok hst0 hq) kw513 kw514 kw515 kw1 kw516 (by decide +kernel) (by decide) (by decide) (cs2 := 1) (sl2 := 6) rfl rfl rfl (by decide) rfl rfl (Nat.le_of_ble_eq_true rfl) dL_at_5 h (fun E9 F9 h => ?_) (fun v5 F5 h => ?_)
  · by_cases e0 : E9 = "java/lang/IndexOutOfBoundsException"
    · rw [if_pos e0] at h
      subst e0
      refine ⟨[], ((0, 10, 13, 13), "java/lang/IndexOutOfBoundsException"), [], rfl, rfl, (by decide), (by decide), fun q9 => ?_⟩
      refine wp_sub (lv' := []) [] rfl ?_
      refine wp_astore X (lv' := []) dL_at_13 (by decide) [] rfl ?_
      refine wp_iconst X (v := 1) dL_at_15 (by decide) ?_
      exact wp_ireturnW X Qr (by decide) (by decide) rfl (vp_nar_int _) dL_at_16 h
    · rw [if_neg e0] at h
      cases h
  · refine wp_i2l X dL_at_8 ?_
    refine wp_lastore X dL_at_9 h (fun F9 h => ?_)
    refine wp_goto X (tgt := 17) dL_at_10 (by decide) ?_
    refine wp_iconst X (v := 0) dL_at_17 (by decide) ?_
    exact wp_ireturnW X Qr (by decide) (by decide) rfl (vp_nar_int _) dL_at_18 h
/-! TableauBenchLaw.insert(LTableauBench;IZ[J)I -/
def rmL_insert : Room := { frames := 8, cells := 1, slots := 6, locals := 143 }
def mL_insert (F : Mem) (x0 : Nat) (x1 : Int32) (x2 : Int32) (x3 : Nat) : Option (Int32 × Mem) := (obj F x0 8).bind fun _ => hnl (mX9_insert F x0 x1 x2) (fun E9 F9 => (if E9 = "java/lang/IndexOutOfBoundsException" then some (1, F9) else none)) fun v5 F5 => (wrJ F5 x3 0 (Int32.toInt64 v5)).bind fun F9 => some (0, F9)
set_option maxRecDepth 100000 in
set_option maxHeartbeats 4000000 in
theorem cL_insert_ok {l : Launch} {D : va_G} {cy : Nat → ClassId} (hst0 : l.stackTraces = false) {F : Mem} {x0 : Nat} {x1 : Int32} {x2 : Int32} {x3 : Nat} {res : Int32 × Mem} (h : mL_insert F x0 x1 x2 x3 = some res) : MH l yL_insert cL_insert 5 (some .int) [(0, 10, 13, 13)] rmL_insert D cy F [.ref x0, .int x1, .int x2, .ref x3] res := by
  refine mh_of hst0 (by decide) (Nat.le_of_ble_eq_true rfl) [(0, .ref x0), (1, .int x1), (2, .int x2), (3, .ref x3)] rfl (fun C X hcd Ht Qr => ?_)
  unfold mL_insert at h
  refine wp_aload_n X dL_insert_0 3 rfl ?_
  refine wp_iconst X (v := 0) dL_insert_1 (by decide) ?_
  refine wp_aload_n X dL_insert_2 0 rfl ?_
  refine wp_iload_n X dL_insert_3 1 rfl ?_
  refine wp_iload_n X dL_insert_4 2 rfl ?_
  refine wp_callCI X Ht (rm := rmX9_insert) (T := TX9) (N := 13) (ci := 8) (n := 2) [.int x1, .int x2] [((0, 10, 13, 13), "java/lang/IndexOutOfBoundsException")] rfl (by decide) (by intro y9 hy9; simp only [List.mem_cons, List.not_mem_nil, or_false] at hy9; rcases hy9 with rfl <;> first | exact ⟨kw278, by decide⟩) hcd (fun q hq => cX9_insert_ok hst0 hq) kw521 kw522 kw523 kw1 kw524 (by decide +kernel) (by decide) (by decide) (cs2 := 1) (sl2 := 6) rfl rfl rfl (by decide) rfl rfl (Nat.le_of_ble_eq_true rfl) dL_insert_5 h (fun E9 F9 h => ?_) (fun v5 F5 h => ?_)
  · by_cases e0 : E9 = "java/lang/IndexOutOfBoundsException"
    · rw [if_pos e0] at h
      subst e0
      refine ⟨[], ((0, 10, 13, 13), "java/lang/IndexOutOfBoundsException"), [], rfl, rfl, (by decide), (by decide), fun q9 => ?_⟩
      refine wp_sub (lv' := []) [] rfl ?_
      refine wp_astore X (lv' := []) dL_insert_13 (by decide) [] rfl ?_
      refine wp_iconst X (v := 1) dL_insert_15 (by decide) ?_
      exact wp_ireturnW X Qr (by decide) (by decide) rfl (vp_nar_int _) dL_insert_16 h
    · rw [if_neg e0] at h
      cases h
  · refine wp_i2l X dL_insert_8 ?_
    refine wp_lastore X dL_insert_9 h (fun F9 h => ?_)
    refine wp_goto X (tgt := 17) dL_insert_10 (by decide) ?_
    refine wp_iconst X (v := 0) dL_insert_17 (by decide) ?_
    exact wp_ireturnW X Qr (by decide) (by decide) rfl (vp_nar_int _) dL_insert_18 h
/-! TableauBenchLaw.recover(LTableauBench;I)I -/
def rmL_recover : Room := { frames := 8, cells := 2, slots := 12, locals := 140 }
def mL_recover (F : Mem) (x0 : Nat) (x1 : Int32) : Option (Int32 × Mem) := (obj F x0 8).bind fun _ => hnl (mX9_recover F x0 x1) (fun E9 F9 => (if E9 = "java/lang/IndexOutOfBoundsException" then some (1, F9) else (if E9 = "java/lang/IllegalStateException" then some (2, F9) else none))) fun u2 F2 => some (0, F2)
set_option maxRecDepth 100000 in
set_option maxHeartbeats 4000000 in
theorem cL_recover_ok {l : Launch} {D : va_G} {cy : Nat → ClassId} (hst0 : l.stackTraces = false) {F : Mem} {x0 : Nat} {x1 : Int32} {res : Int32 × Mem} (h : mL_recover F x0 x1 = some res) : MH l yL_recover cL_recover 3 (some .int) [(0, 5, 8, 13), (0, 5, 11, 58)] rmL_recover D cy F [.ref x0, .int x1] res := by
  refine mh_of hst0 (by decide) (Nat.le_of_ble_eq_true rfl) [(0, .ref x0), (1, .int x1)] rfl (fun C X hcd Ht Qr => ?_)
  unfold mL_recover at h
  refine wp_aload_n X dL_recover_0 0 rfl ?_
  refine wp_iload_n X dL_recover_1 1 rfl ?_
  refine wp_callCV X Ht (rm := rmX9_recover) (T := TX9) (N := 13) (ci := 8) (n := 1) [.int x1] [((0, 5, 8, 13), "java/lang/IndexOutOfBoundsException"), ((0, 5, 11, 58), "java/lang/IllegalStateException")] rfl (by decide) (by intro y9 hy9; simp only [List.mem_cons, List.not_mem_nil, or_false] at hy9; rcases hy9 with rfl | rfl <;> first | exact ⟨kw278, by decide⟩ | exact ⟨kw543, by decide⟩) hcd (fun q hq => cX9_recover_ok hst0 hq) kw544 kw545 kw546 kw1 kw547 (by decide +kernel) (by decide) (by decide) (cs2 := 2) (sl2 := 12) rfl rfl rfl (by decide) rfl rfl (Nat.le_of_ble_eq_true rfl) dL_recover_2 h (fun E9 F9 h => ?_) (fun u2 F2 h => ?_)
  · by_cases e0 : E9 = "java/lang/IndexOutOfBoundsException"
    · rw [if_pos e0] at h
      subst e0
      refine ⟨[], ((0, 5, 8, 13), "java/lang/IndexOutOfBoundsException"), [((0, 5, 11, 58), "java/lang/IllegalStateException")], rfl, rfl, (by decide), (by decide), fun q9 => ?_⟩
      refine wp_sub (lv' := []) [] rfl ?_
      refine wp_astore_n X (lv' := []) dL_recover_8 (by decide) [] rfl ?_
      refine wp_iconst X (v := 1) dL_recover_9 (by decide) ?_
      exact wp_ireturnW X Qr (by decide) (by decide) rfl (vp_nar_int _) dL_recover_10 h
    · rw [if_neg e0] at h
      by_cases e1 : E9 = "java/lang/IllegalStateException"
      · rw [if_pos e1] at h
        subst e1
        refine ⟨[((0, 5, 8, 13), "java/lang/IndexOutOfBoundsException")], ((0, 5, 11, 58), "java/lang/IllegalStateException"), [], rfl, rfl, (by decide), (by decide), fun q9 => ?_⟩
        refine wp_sub (lv' := []) [] rfl ?_
        refine wp_astore_n X (lv' := []) dL_recover_11 (by decide) [] rfl ?_
        refine wp_iconst X (v := 2) dL_recover_12 (by decide) ?_
        exact wp_ireturnW X Qr (by decide) (by decide) rfl (vp_nar_int _) dL_recover_13 h
      · rw [if_neg e1] at h
        cases h
  · refine wp_goto X (tgt := 14) dL_recover_5 (by decide) ?_
    refine wp_iconst X (v := 0) dL_recover_14 (by decide) ?_
    exact wp_ireturnW X Qr (by decide) (by decide) rfl (vp_nar_int _) dL_recover_15 h
/-! TableauBenchLaw.read(LTableauBench;I)I -/
def rmL_read : Room := { frames := 8, cells := 2, slots := 12, locals := 141 }
def mL_read (F : Mem) (x0 : Nat) (x1 : Int32) : Option (Int32 × Mem) := (obj F x0 8).bind fun _ => hnl (mX9_read F x0 x1) (fun E9 F9 => (if E9 = "java/lang/IndexOutOfBoundsException" then some (1, F9) else (if E9 = "java/lang/IllegalStateException" then some (2, F9) else none))) fun u2 F2 => some (0, F2)
set_option maxRecDepth 100000 in
set_option maxHeartbeats 4000000 in
theorem cL_read_ok {l : Launch} {D : va_G} {cy : Nat → ClassId} (hst0 : l.stackTraces = false) {F : Mem} {x0 : Nat} {x1 : Int32} {res : Int32 × Mem} (h : mL_read F x0 x1 = some res) : MH l yL_read cL_read 3 (some .int) [(0, 5, 8, 13), (0, 5, 11, 58)] rmL_read D cy F [.ref x0, .int x1] res := by
  refine mh_of hst0 (by decide) (Nat.le_of_ble_eq_true rfl) [(0, .ref x0), (1, .int x1)] rfl (fun C X hcd Ht Qr => ?_)
  unfold mL_read at h
  refine wp_aload_n X dL_read_0 0 rfl ?_
  refine wp_iload_n X dL_read_1 1 rfl ?_
  refine wp_callCV X Ht (rm := rmX9_read) (T := TX9) (N := 13) (ci := 8) (n := 1) [.int x1] [((0, 5, 8, 13), "java/lang/IndexOutOfBoundsException"), ((0, 5, 11, 58), "java/lang/IllegalStateException")] rfl (by decide) (by intro y9 hy9; simp only [List.mem_cons, List.not_mem_nil, or_false] at hy9; rcases hy9 with rfl | rfl <;> first | exact ⟨kw278, by decide⟩ | exact ⟨kw543, by decide⟩) hcd (fun q hq => cX9_read_ok hst0 hq) kw592 kw593 kw594 kw1 kw595 (by decide +kernel) (by decide) (by decide) (cs2 := 2) (sl2 := 12) rfl rfl rfl (by decide) rfl rfl (Nat.le_of_ble_eq_true rfl) dL_read_2 h (fun E9 F9 h => ?_) (fun u2 F2 h => ?_)
  · by_cases e0 : E9 = "java/lang/IndexOutOfBoundsException"
    · rw [if_pos e0] at h
      subst e0
      refine ⟨[], ((0, 5, 8, 13), "java/lang/IndexOutOfBoundsException"), [((0, 5, 11, 58), "java/lang/IllegalStateException")], rfl, rfl, (by decide), (by decide), fun q9 => ?_⟩
      refine wp_sub (lv' := []) [] rfl ?_
      refine wp_astore_n X (lv' := []) dL_read_8 (by decide) [] rfl ?_
      refine wp_iconst X (v := 1) dL_read_9 (by decide) ?_
      exact wp_ireturnW X Qr (by decide) (by decide) rfl (vp_nar_int _) dL_read_10 h
    · rw [if_neg e0] at h
      by_cases e1 : E9 = "java/lang/IllegalStateException"
      · rw [if_pos e1] at h
        subst e1
        refine ⟨[((0, 5, 8, 13), "java/lang/IndexOutOfBoundsException")], ((0, 5, 11, 58), "java/lang/IllegalStateException"), [], rfl, rfl, (by decide), (by decide), fun q9 => ?_⟩
        refine wp_sub (lv' := []) [] rfl ?_
        refine wp_astore_n X (lv' := []) dL_read_11 (by decide) [] rfl ?_
        refine wp_iconst X (v := 2) dL_read_12 (by decide) ?_
        exact wp_ireturnW X Qr (by decide) (by decide) rfl (vp_nar_int _) dL_read_13 h
      · rw [if_neg e1] at h
        cases h
  · refine wp_goto X (tgt := 14) dL_read_5 (by decide) ?_
    refine wp_iconst X (v := 0) dL_read_14 (by decide) ?_
    exact wp_ireturnW X Qr (by decide) (by decide) rfl (vp_nar_int _) dL_read_15 h
/-! TableauBenchLaw.rectify(LTableauBench;IIII[J)I -/
def rmL_rectify : Room := { frames := 8, cells := 4, slots := 24, locals := 145 }
def mL_rectify (F : Mem) (x0 : Nat) (x1 : Int32) (x2 : Int32) (x3 : Int32) (x4 : Int32) (x5 : Nat) : Option (Int32 × Mem) := (obj F x0 8).bind fun _ => hnl (mX9_rectify F x0 x1 x2 x3 x4) (fun E9 F9 => (if E9 = "java/lang/IndexOutOfBoundsException" then some (1, F9) else (if E9 = "java/lang/IllegalArgumentException" then some (2, F9) else (if E9 = "java/lang/IllegalStateException" then some (3, F9) else (if E9 = "java/lang/UnsupportedOperationException" then some (4, F9) else none))))) fun v9 F9 => (wrJ F9 x5 0 (Int32.toInt64 v9)).bind fun F13 => some (0, F13)
set_option maxRecDepth 100000 in
set_option maxHeartbeats 4000000 in
theorem cL_rectify_ok {l : Launch} {D : va_G} {cy : Nat → ClassId} (hst0 : l.stackTraces = false) {F : Mem} {x0 : Nat} {x1 : Int32} {x2 : Int32} {x3 : Int32} {x4 : Int32} {x5 : Nat} {res : Int32 × Mem} (h : mL_rectify F x0 x1 x2 x3 x4 x5 = some res) : MH l yL_rectify cL_rectify 7 (some .int) [(0, 14, 17, 13), (0, 14, 21, 31), (0, 14, 25, 58), (0, 14, 29, 35)] rmL_rectify D cy F [.ref x0, .int x1, .int x2, .int x3, .int x4, .ref x5] res := by
  refine mh_of hst0 (by decide) (Nat.le_of_ble_eq_true rfl) [(0, .ref x0), (1, .int x1), (2, .int x2), (3, .int x3), (4, .int x4), (5, .ref x5)] rfl (fun C X hcd Ht Qr => ?_)
  unfold mL_rectify at h
  refine wp_aload X dL_rectify_0 5 rfl ?_
  refine wp_iconst X (v := 0) dL_rectify_2 (by decide) ?_
  refine wp_aload_n X dL_rectify_3 0 rfl ?_
  refine wp_iload_n X dL_rectify_4 1 rfl ?_
  refine wp_iload_n X dL_rectify_5 2 rfl ?_
  refine wp_iload_n X dL_rectify_6 3 rfl ?_
  refine wp_iload X dL_rectify_7 4 rfl ?_
  refine wp_callCI X Ht (rm := rmX9_rectify) (T := TX9) (N := 13) (ci := 8) (n := 4) [.int x1, .int x2, .int x3, .int x4] [((0, 14, 17, 13), "java/lang/IndexOutOfBoundsException"), ((0, 14, 21, 31), "java/lang/IllegalArgumentException"), ((0, 14, 25, 58), "java/lang/IllegalStateException"), ((0, 14, 29, 35), "java/lang/UnsupportedOperationException")] rfl (by decide) (by intro y9 hy9; simp only [List.mem_cons, List.not_mem_nil, or_false] at hy9; rcases hy9 with rfl | rfl | rfl | rfl <;> first | exact ⟨kw278, by decide⟩ | exact ⟨kw417, by decide⟩ | exact ⟨kw543, by decide⟩ | exact ⟨kw419, by decide⟩) hcd (fun q hq => cX9_rectify_ok hst0 hq) kw604 kw605 kw606 kw1 kw607 (by decide +kernel) (by decide) (by decide) (cs2 := 4) (sl2 := 24) rfl rfl rfl (by decide) rfl rfl (Nat.le_of_ble_eq_true rfl) dL_rectify_9 h (fun E9 F9 h => ?_) (fun v9 F9 h => ?_)
  · by_cases e0 : E9 = "java/lang/IndexOutOfBoundsException"
    · rw [if_pos e0] at h
      subst e0
      refine ⟨[], ((0, 14, 17, 13), "java/lang/IndexOutOfBoundsException"), [((0, 14, 21, 31), "java/lang/IllegalArgumentException"), ((0, 14, 25, 58), "java/lang/IllegalStateException"), ((0, 14, 29, 35), "java/lang/UnsupportedOperationException")], rfl, rfl, (by decide), (by decide), fun q9 => ?_⟩
      refine wp_sub (lv' := []) [] rfl ?_
      refine wp_astore X (lv' := []) dL_rectify_17 (by decide) [] rfl ?_
      refine wp_iconst X (v := 1) dL_rectify_19 (by decide) ?_
      exact wp_ireturnW X Qr (by decide) (by decide) rfl (vp_nar_int _) dL_rectify_20 h
    · rw [if_neg e0] at h
      by_cases e1 : E9 = "java/lang/IllegalArgumentException"
      · rw [if_pos e1] at h
        subst e1
        refine ⟨[((0, 14, 17, 13), "java/lang/IndexOutOfBoundsException")], ((0, 14, 21, 31), "java/lang/IllegalArgumentException"), [((0, 14, 25, 58), "java/lang/IllegalStateException"), ((0, 14, 29, 35), "java/lang/UnsupportedOperationException")], rfl, rfl, (by decide), (by decide), fun q9 => ?_⟩
        refine wp_sub (lv' := []) [] rfl ?_
        refine wp_astore X (lv' := []) dL_rectify_21 (by decide) [] rfl ?_
        refine wp_iconst X (v := 2) dL_rectify_23 (by decide) ?_
        exact wp_ireturnW X Qr (by decide) (by decide) rfl (vp_nar_int _) dL_rectify_24 h
      · rw [if_neg e1] at h
        by_cases e2 : E9 = "java/lang/IllegalStateException"
        · rw [if_pos e2] at h
          subst e2
          refine ⟨[((0, 14, 17, 13), "java/lang/IndexOutOfBoundsException"), ((0, 14, 21, 31), "java/lang/IllegalArgumentException")], ((0, 14, 25, 58), "java/lang/IllegalStateException"), [((0, 14, 29, 35), "java/lang/UnsupportedOperationException")], rfl, rfl, (by decide), (by decide), fun q9 => ?_⟩
          refine wp_sub (lv' := []) [] rfl ?_
          refine wp_astore X (lv' := []) dL_rectify_25 (by decide) [] rfl ?_
          refine wp_iconst X (v := 3) dL_rectify_27 (by decide) ?_
          exact wp_ireturnW X Qr (by decide) (by decide) rfl (vp_nar_int _) dL_rectify_28 h
        · rw [if_neg e2] at h
          by_cases e3 : E9 = "java/lang/UnsupportedOperationException"
          · rw [if_pos e3] at h
            subst e3
            refine ⟨[((0, 14, 17, 13), "java/lang/IndexOutOfBoundsException"), ((0, 14, 21, 31), "java/lang/IllegalArgumentException"), ((0, 14, 25, 58), "java/lang/IllegalStateException")], ((0, 14, 29, 35), "java/lang/UnsupportedOperationException"), [], rfl, rfl, (by decide), (by decide), fun q9 => ?_⟩
            refine wp_sub (lv' := []) [] rfl ?_
            refine wp_astore X (lv' := []) dL_rectify_29 (by decide) [] rfl ?_
            refine wp_iconst X (v := 4) dL_rectify_31 (by decide) ?_
            exact wp_ireturnW X Qr (by decide) (by decide) rfl (vp_nar_int _) dL_rectify_32 h
          · rw [if_neg e3] at h
            cases h
  · refine wp_i2l X dL_rectify_12 ?_
    refine wp_lastore X dL_rectify_13 h (fun F13 h => ?_)
    refine wp_goto X (tgt := 33) dL_rectify_14 (by decide) ?_
    refine wp_iconst X (v := 0) dL_rectify_33 (by decide) ?_
    exact wp_ireturnW X Qr (by decide) (by decide) rfl (vp_nar_int _) dL_rectify_34 h
/-! TableauBenchLaw.turn(LTableauBench;)I -/
def rmL_turn : Room := { frames := 7, cells := 1, slots := 6, locals := 118 }
def mL_turn (F : Mem) (x0 : Nat) : Option (Int32 × Mem) := (obj F x0 8).bind fun _ => hnl (mX9_turn F x0) (fun E9 F9 => (if E9 = "java/lang/IllegalStateException" then some (1, F9) else none)) fun u1 F1 => some (0, F1)
set_option maxRecDepth 100000 in
set_option maxHeartbeats 4000000 in
theorem cL_turn_ok {l : Launch} {D : va_G} {cy : Nat → ClassId} (hst0 : l.stackTraces = false) {F : Mem} {x0 : Nat} {res : Int32 × Mem} (h : mL_turn F x0 = some res) : MH l yL_turn cL_turn 2 (some .int) [(0, 4, 7, 58)] rmL_turn D cy F [.ref x0] res := by
  refine mh_of hst0 (by decide) (Nat.le_of_ble_eq_true rfl) [(0, .ref x0)] rfl (fun C X hcd Ht Qr => ?_)
  unfold mL_turn at h
  refine wp_aload_n X dL_turn_0 0 rfl ?_
  refine wp_callCV X Ht (rm := rmX9_turn) (T := TX9) (N := 13) (ci := 8) (n := 0) [] [((0, 4, 7, 58), "java/lang/IllegalStateException")] rfl (by decide) (by intro y9 hy9; simp only [List.mem_cons, List.not_mem_nil, or_false] at hy9; rcases hy9 with rfl <;> first | exact ⟨kw543, by decide⟩) hcd (fun q hq => cX9_turn_ok hst0 hq) kw652 kw653 kw654 kw1 kw655 (by decide +kernel) (by decide) (by decide) (cs2 := 1) (sl2 := 6) rfl rfl rfl (by decide) rfl rfl (Nat.le_of_ble_eq_true rfl) dL_turn_1 h (fun E9 F9 h => ?_) (fun u1 F1 h => ?_)
  · by_cases e0 : E9 = "java/lang/IllegalStateException"
    · rw [if_pos e0] at h
      subst e0
      refine ⟨[], ((0, 4, 7, 58), "java/lang/IllegalStateException"), [], rfl, rfl, (by decide), (by decide), fun q9 => ?_⟩
      refine wp_sub (lv' := []) [] rfl ?_
      refine wp_astore_n X (lv' := []) dL_turn_7 (by decide) [] rfl ?_
      refine wp_iconst X (v := 1) dL_turn_8 (by decide) ?_
      exact wp_ireturnW X Qr (by decide) (by decide) rfl (vp_nar_int _) dL_turn_9 h
    · rw [if_neg e0] at h
      cases h
  · refine wp_goto X (tgt := 10) dL_turn_4 (by decide) ?_
    refine wp_iconst X (v := 0) dL_turn_10 (by decide) ?_
    exact wp_ireturnW X Qr (by decide) (by decide) rfl (vp_nar_int _) dL_turn_11 h
/-! TableauBenchLaw.draw(LTableauBench;IJ[J)I -/
def rmL_draw : Room := { frames := 8, cells := 1, slots := 6, locals := 142 }
def mL_draw (F : Mem) (x0 : Nat) (x1 : Int32) (x2 : Int64) (x4 : Nat) : Option (Int32 × Mem) := (obj F x0 8).bind fun _ => hnl (mX9_draw F x0 x1 x2) (fun E9 F9 => (if E9 = "java/lang/IndexOutOfBoundsException" then some (1, F9) else none)) fun v6 F6 => (wrJ F6 x4 0 v6).bind fun F9 => some (0, F9)
set_option maxRecDepth 100000 in
set_option maxHeartbeats 4000000 in
theorem cL_draw_ok {l : Launch} {D : va_G} {cy : Nat → ClassId} (hst0 : l.stackTraces = false) {F : Mem} {x0 : Nat} {x1 : Int32} {x2 : Int64} {x4 : Nat} {res : Int32 × Mem} (h : mL_draw F x0 x1 x2 x4 = some res) : MH l yL_draw cL_draw 6 (some .int) [(0, 10, 13, 13)] rmL_draw D cy F [.ref x0, .int x1, .long x2, .ref x4] res := by
  refine mh_of hst0 (by decide) (Nat.le_of_ble_eq_true rfl) [(0, .ref x0), (1, .int x1), (2, .long x2), (4, .ref x4)] rfl (fun C X hcd Ht Qr => ?_)
  unfold mL_draw at h
  refine wp_aload X dL_draw_0 3 rfl ?_
  refine wp_iconst X (v := 0) dL_draw_2 (by decide) ?_
  refine wp_aload_n X dL_draw_3 0 rfl ?_
  refine wp_iload_n X dL_draw_4 1 rfl ?_
  refine wp_lload_n X dL_draw_5 2 rfl ?_
  refine wp_callCL X Ht (rm := rmX9_draw) (T := TX9) (N := 13) (ci := 8) (n := 2) [.int x1, .long x2] [((0, 10, 13, 13), "java/lang/IndexOutOfBoundsException")] rfl (by decide) (by intro y9 hy9; simp only [List.mem_cons, List.not_mem_nil, or_false] at hy9; rcases hy9 with rfl <;> first | exact ⟨kw278, by decide⟩) hcd (fun q hq => cX9_draw_ok hst0 hq) kw666 kw667 kw668 kw1 kw669 (by decide +kernel) (by decide) (by decide) (cs2 := 1) (sl2 := 6) rfl rfl rfl (by decide) rfl rfl (Nat.le_of_ble_eq_true rfl) dL_draw_6 h (fun E9 F9 h => ?_) (fun v6 F6 h => ?_)
  · by_cases e0 : E9 = "java/lang/IndexOutOfBoundsException"
    · rw [if_pos e0] at h
      subst e0
      refine ⟨[], ((0, 10, 13, 13), "java/lang/IndexOutOfBoundsException"), [], rfl, rfl, (by decide), (by decide), fun q9 => ?_⟩
      refine wp_sub (lv' := []) [] rfl ?_
      refine wp_astore X (lv' := []) dL_draw_13 (by decide) [] rfl ?_
      refine wp_iconst X (v := 1) dL_draw_15 (by decide) ?_
      exact wp_ireturnW X Qr (by decide) (by decide) rfl (vp_nar_int _) dL_draw_16 h
    · rw [if_neg e0] at h
      cases h
  · refine wp_lastore X dL_draw_9 h (fun F9 h => ?_)
    refine wp_goto X (tgt := 17) dL_draw_10 (by decide) ?_
    refine wp_iconst X (v := 0) dL_draw_17 (by decide) ?_
    exact wp_ireturnW X Qr (by decide) (by decide) rfl (vp_nar_int _) dL_draw_18 h
/-! TableauBenchLaw.standard(LTableauBench;I[J)I -/
def rmL_standard : Room := { frames := 8, cells := 1, slots := 6, locals := 138 }
def mL_standard (F : Mem) (x0 : Nat) (x1 : Int32) (x2 : Nat) : Option (Int32 × Mem) := (obj F x0 8).bind fun _ => hnl (mX9_standard F x0 x1) (fun E9 F9 => (if E9 = "java/lang/IndexOutOfBoundsException" then some (1, F9) else none)) fun v4 F4 => (wrJ F4 x2 0 v4).bind fun F7 => some (0, F7)
set_option maxRecDepth 100000 in
set_option maxHeartbeats 4000000 in
theorem cL_standard_ok {l : Launch} {D : va_G} {cy : Nat → ClassId} (hst0 : l.stackTraces = false) {F : Mem} {x0 : Nat} {x1 : Int32} {x2 : Nat} {res : Int32 × Mem} (h : mL_standard F x0 x1 x2 = some res) : MH l yL_standard cL_standard 4 (some .int) [(0, 8, 11, 13)] rmL_standard D cy F [.ref x0, .int x1, .ref x2] res := by
  refine mh_of hst0 (by decide) (Nat.le_of_ble_eq_true rfl) [(0, .ref x0), (1, .int x1), (2, .ref x2)] rfl (fun C X hcd Ht Qr => ?_)
  unfold mL_standard at h
  refine wp_aload_n X dL_standard_0 2 rfl ?_
  refine wp_iconst X (v := 0) dL_standard_1 (by decide) ?_
  refine wp_aload_n X dL_standard_2 0 rfl ?_
  refine wp_iload_n X dL_standard_3 1 rfl ?_
  refine wp_callCL X Ht (rm := rmX9_standard) (T := TX9) (N := 13) (ci := 8) (n := 1) [.int x1] [((0, 8, 11, 13), "java/lang/IndexOutOfBoundsException")] rfl (by decide) (by intro y9 hy9; simp only [List.mem_cons, List.not_mem_nil, or_false] at hy9; rcases hy9 with rfl <;> first | exact ⟨kw278, by decide⟩) hcd (fun q hq => cX9_standard_ok hst0 hq) kw715 kw716 kw717 kw1 kw718 (by decide +kernel) (by decide) (by decide) (cs2 := 1) (sl2 := 6) rfl rfl rfl (by decide) rfl rfl (Nat.le_of_ble_eq_true rfl) dL_standard_4 h (fun E9 F9 h => ?_) (fun v4 F4 h => ?_)
  · by_cases e0 : E9 = "java/lang/IndexOutOfBoundsException"
    · rw [if_pos e0] at h
      subst e0
      refine ⟨[], ((0, 8, 11, 13), "java/lang/IndexOutOfBoundsException"), [], rfl, rfl, (by decide), (by decide), fun q9 => ?_⟩
      refine wp_sub (lv' := []) [] rfl ?_
      refine wp_astore_n X (lv' := []) dL_standard_11 (by decide) [] rfl ?_
      refine wp_iconst X (v := 1) dL_standard_12 (by decide) ?_
      exact wp_ireturnW X Qr (by decide) (by decide) rfl (vp_nar_int _) dL_standard_13 h
    · rw [if_neg e0] at h
      cases h
  · refine wp_lastore X dL_standard_7 h (fun F7 h => ?_)
    refine wp_goto X (tgt := 14) dL_standard_8 (by decide) ?_
    refine wp_iconst X (v := 0) dL_standard_14 (by decide) ?_
    exact wp_ireturnW X Qr (by decide) (by decide) rfl (vp_nar_int _) dL_standard_15 h
/-! TableauBenchLaw.fillings(LTableauBench;II[J)I -/
def rmL_fillings : Room := { frames := 8, cells := 2, slots := 12, locals := 141 }
def mL_fillings (F : Mem) (x0 : Nat) (x1 : Int32) (x2 : Int32) (x3 : Nat) : Option (Int32 × Mem) := (obj F x0 8).bind fun _ => hnl (mX9_fillings F x0 x1 x2) (fun E9 F9 => (if E9 = "java/lang/IndexOutOfBoundsException" then some (1, F9) else none)) fun v5 F5 => (wrJ F5 x3 0 v5).bind fun F8 => some (0, F8)
set_option maxRecDepth 100000 in
set_option maxHeartbeats 4000000 in
theorem cL_fillings_ok {l : Launch} {D : va_G} {cy : Nat → ClassId} (hst0 : l.stackTraces = false) {F : Mem} {x0 : Nat} {x1 : Int32} {x2 : Int32} {x3 : Nat} {res : Int32 × Mem} (h : mL_fillings F x0 x1 x2 x3 = some res) : MH l yL_fillings cL_fillings 5 (some .int) [(0, 9, 12, 13)] rmL_fillings D cy F [.ref x0, .int x1, .int x2, .ref x3] res := by
  refine mh_of hst0 (by decide) (Nat.le_of_ble_eq_true rfl) [(0, .ref x0), (1, .int x1), (2, .int x2), (3, .ref x3)] rfl (fun C X hcd Ht Qr => ?_)
  unfold mL_fillings at h
  refine wp_aload_n X dL_fillings_0 3 rfl ?_
  refine wp_iconst X (v := 0) dL_fillings_1 (by decide) ?_
  refine wp_aload_n X dL_fillings_2 0 rfl ?_
  refine wp_iload_n X dL_fillings_3 1 rfl ?_
  refine wp_iload_n X dL_fillings_4 2 rfl ?_
  refine wp_callCL X Ht (rm := rmX9_fillings) (T := TX9) (N := 13) (ci := 8) (n := 2) [.int x1, .int x2] [((0, 9, 12, 13), "java/lang/IndexOutOfBoundsException")] rfl (by decide) (by intro y9 hy9; simp only [List.mem_cons, List.not_mem_nil, or_false] at hy9; rcases hy9 with rfl <;> first | exact ⟨kw278, by decide⟩) hcd (fun q hq => cX9_fillings_ok hst0 hq) kw737 kw738 kw739 kw1 kw740 (by decide +kernel) (by decide) (by decide) (cs2 := 2) (sl2 := 12) rfl rfl rfl (by decide) rfl rfl (Nat.le_of_ble_eq_true rfl) dL_fillings_5 h (fun E9 F9 h => ?_) (fun v5 F5 h => ?_)
  · by_cases e0 : E9 = "java/lang/IndexOutOfBoundsException"
    · rw [if_pos e0] at h
      subst e0
      refine ⟨[], ((0, 9, 12, 13), "java/lang/IndexOutOfBoundsException"), [], rfl, rfl, (by decide), (by decide), fun q9 => ?_⟩
      refine wp_sub (lv' := []) [] rfl ?_
      refine wp_astore X (lv' := []) dL_fillings_12 (by decide) [] rfl ?_
      refine wp_iconst X (v := 1) dL_fillings_14 (by decide) ?_
      exact wp_ireturnW X Qr (by decide) (by decide) rfl (vp_nar_int _) dL_fillings_15 h
    · rw [if_neg e0] at h
      cases h
  · refine wp_lastore X dL_fillings_8 h (fun F8 h => ?_)
    refine wp_goto X (tgt := 16) dL_fillings_9 (by decide) ?_
    refine wp_iconst X (v := 0) dL_fillings_16 (by decide) ?_
    exact wp_ireturnW X Qr (by decide) (by decide) rfl (vp_nar_int _) dL_fillings_17 h
/-! TableauBenchLaw.coefficient(LTableauBench;III[J)I -/
def rmL_coefficient : Room := { frames := 33, cells := 3, slots := 18, locals := 860 }
def mL_coefficient (F : Mem) (x0 : Nat) (x1 : Int32) (x2 : Int32) (x3 : Int32) (x4 : Nat) : Option (Int32 × Mem) := (obj F x0 8).bind fun _ => hnl (mX9_coefficient F x0 x1 x2 x3) (fun E9 F9 => (if E9 = "java/lang/IndexOutOfBoundsException" then some (1, F9) else none)) fun v7 F7 => (wrJ F7 x4 0 v7).bind fun F10 => some (0, F10)
set_option maxRecDepth 100000 in
set_option maxHeartbeats 4000000 in
theorem cL_coefficient_ok {l : Launch} {D : va_G} {cy : Nat → ClassId} (hst0 : l.stackTraces = false) {F : Mem} {x0 : Nat} {x1 : Int32} {x2 : Int32} {x3 : Int32} {x4 : Nat} {res : Int32 × Mem} (h : mL_coefficient F x0 x1 x2 x3 x4 = some res) : MH l yL_coefficient cL_coefficient 6 (some .int) [(0, 11, 14, 13)] rmL_coefficient D cy F [.ref x0, .int x1, .int x2, .int x3, .ref x4] res := by
  refine mh_of hst0 (by decide) (Nat.le_of_ble_eq_true rfl) [(0, .ref x0), (1, .int x1), (2, .int x2), (3, .int x3), (4, .ref x4)] rfl (fun C X hcd Ht Qr => ?_)
  unfold mL_coefficient at h
  refine wp_aload X dL_coefficient_0 4 rfl ?_
  refine wp_iconst X (v := 0) dL_coefficient_2 (by decide) ?_
  refine wp_aload_n X dL_coefficient_3 0 rfl ?_
  refine wp_iload_n X dL_coefficient_4 1 rfl ?_
  refine wp_iload_n X dL_coefficient_5 2 rfl ?_
  refine wp_iload_n X dL_coefficient_6 3 rfl ?_
  refine wp_callCL X Ht (rm := rmX9_coefficient) (T := TX9) (N := 13) (ci := 8) (n := 3) [.int x1, .int x2, .int x3] [((0, 11, 14, 13), "java/lang/IndexOutOfBoundsException")] rfl (by decide) (by intro y9 hy9; simp only [List.mem_cons, List.not_mem_nil, or_false] at hy9; rcases hy9 with rfl <;> first | exact ⟨kw278, by decide⟩) hcd (fun q hq => cX9_coefficient_ok hst0 hq) kw767 kw768 kw769 kw1 kw770 (by decide +kernel) (by decide) (by decide) (cs2 := 3) (sl2 := 18) rfl rfl rfl (by decide) rfl rfl (Nat.le_of_ble_eq_true rfl) dL_coefficient_7 h (fun E9 F9 h => ?_) (fun v7 F7 h => ?_)
  · by_cases e0 : E9 = "java/lang/IndexOutOfBoundsException"
    · rw [if_pos e0] at h
      subst e0
      refine ⟨[], ((0, 11, 14, 13), "java/lang/IndexOutOfBoundsException"), [], rfl, rfl, (by decide), (by decide), fun q9 => ?_⟩
      refine wp_sub (lv' := []) [] rfl ?_
      refine wp_astore X (lv' := []) dL_coefficient_14 (by decide) [] rfl ?_
      refine wp_iconst X (v := 1) dL_coefficient_16 (by decide) ?_
      exact wp_ireturnW X Qr (by decide) (by decide) rfl (vp_nar_int _) dL_coefficient_17 h
    · rw [if_neg e0] at h
      cases h
  · refine wp_lastore X dL_coefficient_10 h (fun F10 h => ?_)
    refine wp_goto X (tgt := 18) dL_coefficient_11 (by decide) ?_
    refine wp_iconst X (v := 0) dL_coefficient_18 (by decide) ?_
    exact wp_ireturnW X Qr (by decide) (by decide) rfl (vp_nar_int _) dL_coefficient_19 h
/-! TableauBenchLaw.character(LTableauBench;II[J)I -/
def rmL_character : Room := { frames := 34, cells := 3, slots := 18, locals := 1027 }
def mL_character (F : Mem) (x0 : Nat) (x1 : Int32) (x2 : Int32) (x3 : Nat) : Option (Int32 × Mem) := (obj F x0 8).bind fun _ => hnl (mX9_character F x0 x1 x2) (fun E9 F9 => (if E9 = "java/lang/IndexOutOfBoundsException" then some (1, F9) else (if E9 = "java/lang/IllegalStateException" then some (2, F9) else (if E9 = "java/lang/UnsupportedOperationException" then some (3, F9) else none)))) fun v5 F5 => (wrJ F5 x3 0 v5).bind fun F8 => some (0, F8)
set_option maxRecDepth 100000 in
set_option maxHeartbeats 4000000 in
theorem cL_character_ok {l : Launch} {D : va_G} {cy : Nat → ClassId} (hst0 : l.stackTraces = false) {F : Mem} {x0 : Nat} {x1 : Int32} {x2 : Int32} {x3 : Nat} {res : Int32 × Mem} (h : mL_character F x0 x1 x2 x3 = some res) : MH l yL_character cL_character 5 (some .int) [(0, 9, 12, 13), (0, 9, 16, 58), (0, 9, 20, 35)] rmL_character D cy F [.ref x0, .int x1, .int x2, .ref x3] res := by
  refine mh_of hst0 (by decide) (Nat.le_of_ble_eq_true rfl) [(0, .ref x0), (1, .int x1), (2, .int x2), (3, .ref x3)] rfl (fun C X hcd Ht Qr => ?_)
  unfold mL_character at h
  refine wp_aload_n X dL_character_0 3 rfl ?_
  refine wp_iconst X (v := 0) dL_character_1 (by decide) ?_
  refine wp_aload_n X dL_character_2 0 rfl ?_
  refine wp_iload_n X dL_character_3 1 rfl ?_
  refine wp_iload_n X dL_character_4 2 rfl ?_
  refine wp_callCL X Ht (rm := rmX9_character) (T := TX9) (N := 13) (ci := 8) (n := 2) [.int x1, .int x2] [((0, 9, 12, 13), "java/lang/IndexOutOfBoundsException"), ((0, 9, 16, 58), "java/lang/IllegalStateException"), ((0, 9, 20, 35), "java/lang/UnsupportedOperationException")] rfl (by decide) (by intro y9 hy9; simp only [List.mem_cons, List.not_mem_nil, or_false] at hy9; rcases hy9 with rfl | rfl | rfl <;> first | exact ⟨kw278, by decide⟩ | exact ⟨kw543, by decide⟩ | exact ⟨kw419, by decide⟩) hcd (fun q hq => cX9_character_ok hst0 hq) kw784 kw785 kw786 kw1 kw787 (by decide +kernel) (by decide) (by decide) (cs2 := 3) (sl2 := 18) rfl rfl rfl (by decide) rfl rfl (Nat.le_of_ble_eq_true rfl) dL_character_5 h (fun E9 F9 h => ?_) (fun v5 F5 h => ?_)
  · by_cases e0 : E9 = "java/lang/IndexOutOfBoundsException"
    · rw [if_pos e0] at h
      subst e0
      refine ⟨[], ((0, 9, 12, 13), "java/lang/IndexOutOfBoundsException"), [((0, 9, 16, 58), "java/lang/IllegalStateException"), ((0, 9, 20, 35), "java/lang/UnsupportedOperationException")], rfl, rfl, (by decide), (by decide), fun q9 => ?_⟩
      refine wp_sub (lv' := []) [] rfl ?_
      refine wp_astore X (lv' := []) dL_character_12 (by decide) [] rfl ?_
      refine wp_iconst X (v := 1) dL_character_14 (by decide) ?_
      exact wp_ireturnW X Qr (by decide) (by decide) rfl (vp_nar_int _) dL_character_15 h
    · rw [if_neg e0] at h
      by_cases e1 : E9 = "java/lang/IllegalStateException"
      · rw [if_pos e1] at h
        subst e1
        refine ⟨[((0, 9, 12, 13), "java/lang/IndexOutOfBoundsException")], ((0, 9, 16, 58), "java/lang/IllegalStateException"), [((0, 9, 20, 35), "java/lang/UnsupportedOperationException")], rfl, rfl, (by decide), (by decide), fun q9 => ?_⟩
        refine wp_sub (lv' := []) [] rfl ?_
        refine wp_astore X (lv' := []) dL_character_16 (by decide) [] rfl ?_
        refine wp_iconst X (v := 2) dL_character_18 (by decide) ?_
        exact wp_ireturnW X Qr (by decide) (by decide) rfl (vp_nar_int _) dL_character_19 h
      · rw [if_neg e1] at h
        by_cases e2 : E9 = "java/lang/UnsupportedOperationException"
        · rw [if_pos e2] at h
          subst e2
          refine ⟨[((0, 9, 12, 13), "java/lang/IndexOutOfBoundsException"), ((0, 9, 16, 58), "java/lang/IllegalStateException")], ((0, 9, 20, 35), "java/lang/UnsupportedOperationException"), [], rfl, rfl, (by decide), (by decide), fun q9 => ?_⟩
          refine wp_sub (lv' := []) [] rfl ?_
          refine wp_astore X (lv' := []) dL_character_20 (by decide) [] rfl ?_
          refine wp_iconst X (v := 3) dL_character_22 (by decide) ?_
          exact wp_ireturnW X Qr (by decide) (by decide) rfl (vp_nar_int _) dL_character_23 h
        · rw [if_neg e2] at h
          cases h
  · refine wp_lastore X dL_character_8 h (fun F8 h => ?_)
    refine wp_goto X (tgt := 24) dL_character_9 (by decide) ?_
    refine wp_iconst X (v := 0) dL_character_24 (by decide) ?_
    exact wp_ireturnW X Qr (by decide) (by decide) rfl (vp_nar_int _) dL_character_25 h
