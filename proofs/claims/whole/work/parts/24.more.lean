/-! TableauBench$FillingCount.sortLetters(LTableauBench$Word;)V -/
def rmX0_sortLetters : Room := { frames := 0, cells := 0, slots := 0, locals := 0 }
def fX0_sortLetters_56 (K16 : Nat → Nat → Int32 → Int32 → Int32 → Int32 → Mem → Option (Mem)) (K62 : Nat → Nat → Int32 → Int32 → Mem → Option (Mem)) (x0 : Nat) (x1 : Nat) (x2 : Int32) (x3 : Int32) (x4 : Int32) (x5 : Int32) (F : Mem) : Option (Mem) := K16 x0 x1 x2 x3 x4 (x5 + 1) F
set_option maxRecDepth 100000 in
set_option maxHeartbeats 4000000 in
theorem tX0_sortLetters_56 {l : Launch} {D : va_G} {cy : Nat → ClassId} {C : Cx} {res : Mem} (X : Fx C cX0_sortLetters RX0 none rmX0_sortLetters 6) (hcd : CD C l D cy) (Qr : RV C 0 0 res) {K16 : Nat → Nat → Int32 → Int32 → Int32 → Int32 → Mem → Option (Mem)} {K62 : Nat → Nat → Int32 → Int32 → Mem → Option (Mem)} (hK16 : ∀ (x0 : Nat) (x1 : Nat) (x2 : Int32) (x3 : Int32) (x4 : Int32) (x5 : Int32) (F : Mem), K16 x0 x1 x2 x3 x4 x5 F = some res → Wp C 0 0 16 [(0, .ref x0), (1, .ref x1), (2, .int x2), (3, .int x3), (4, .int x4), (5, .int x5)] [] F) (hK62 : ∀ (x0 : Nat) (x1 : Nat) (x2 : Int32) (x3 : Int32) (F : Mem), K62 x0 x1 x2 x3 F = some res → Wp C 0 0 62 [(0, .ref x0), (1, .ref x1), (2, .int x2), (3, .int x3)] [] F) (x0 : Nat) (x1 : Nat) (x2 : Int32) (x3 : Int32) (x4 : Int32) (x5 : Int32) (F : Mem) (h : fX0_sortLetters_56 K16 K62 x0 x1 x2 x3 x4 x5 F = some res) : Wp C 0 0 56 [(0, .ref x0), (1, .ref x1), (2, .int x2), (3, .int x3), (4, .int x4), (5, .int x5)] [] F := by
  unfold fX0_sortLetters_56 at h
  refine wp_iinc X (v := x5 + 1) (lv' := [(0, .ref x0), (1, .ref x1), (2, .int x2), (3, .int x3), (4, .int x4), (5, .int (x5 + 1))]) dX0_sortLetters_56 (by decide) 5 rfl rfl [1, 2, 3, 4, 5, 0] rfl ?_
  refine wp_goto X (tgt := 16) dX0_sortLetters_59 (by decide) ?_
  exact hK16 _ _ _ _ _ _ _ h
def fX0_sortLetters_52 (K16 : Nat → Nat → Int32 → Int32 → Int32 → Int32 → Mem → Option (Mem)) (K62 : Nat → Nat → Int32 → Int32 → Mem → Option (Mem)) (x0 : Nat) (x1 : Nat) (x2 : Int32) (x3 : Int32) (x4 : Int32) (x5 : Int32) (s0 : Nat) (s1 : Int32) (s2 : Int32) (F : Mem) : Option (Mem) := (wrZ F s0 s1 s2).bind fun F52 => fX0_sortLetters_56  K16 K62 x0 x1 (x2 + 1) x3 x4 x5 F52
set_option maxRecDepth 100000 in
set_option maxHeartbeats 4000000 in
theorem tX0_sortLetters_52 {l : Launch} {D : va_G} {cy : Nat → ClassId} {C : Cx} {res : Mem} (X : Fx C cX0_sortLetters RX0 none rmX0_sortLetters 6) (hcd : CD C l D cy) (Qr : RV C 0 0 res) {K16 : Nat → Nat → Int32 → Int32 → Int32 → Int32 → Mem → Option (Mem)} {K62 : Nat → Nat → Int32 → Int32 → Mem → Option (Mem)} (hK16 : ∀ (x0 : Nat) (x1 : Nat) (x2 : Int32) (x3 : Int32) (x4 : Int32) (x5 : Int32) (F : Mem), K16 x0 x1 x2 x3 x4 x5 F = some res → Wp C 0 0 16 [(0, .ref x0), (1, .ref x1), (2, .int x2), (3, .int x3), (4, .int x4), (5, .int x5)] [] F) (hK62 : ∀ (x0 : Nat) (x1 : Nat) (x2 : Int32) (x3 : Int32) (F : Mem), K62 x0 x1 x2 x3 F = some res → Wp C 0 0 62 [(0, .ref x0), (1, .ref x1), (2, .int x2), (3, .int x3)] [] F) (x0 : Nat) (x1 : Nat) (x2 : Int32) (x3 : Int32) (x4 : Int32) (x5 : Int32) (s0 : Nat) (s1 : Int32) (s2 : Int32) (F : Mem) (h : fX0_sortLetters_52 K16 K62 x0 x1 x2 x3 x4 x5 s0 s1 s2 F = some res) : Wp C 0 0 52 [(0, .ref x0), (1, .ref x1), (2, .int x2), (3, .int x3), (4, .int x4), (5, .int x5)] [.int s2, .int s1, .ref s0] F := by
  unfold fX0_sortLetters_52 at h
  refine wp_zastore X dX0_sortLetters_52 h (fun F52 h => ?_)
  refine wp_iinc X (v := x2 + 1) (lv' := [(0, .ref x0), (1, .ref x1), (2, .int (x2 + 1)), (3, .int x3), (4, .int x4), (5, .int x5)]) dX0_sortLetters_53 (by decide) 2 rfl rfl [1, 2, 0, 3, 4, 5] rfl ?_
  exact tX0_sortLetters_56 X hcd Qr  hK16 hK62 _ _ _ _ _ _ _ h
def fX0_sortLetters_16 (K62 : Nat → Nat → Int32 → Int32 → Mem → Option (Mem)) : Nat → Nat → Nat → Int32 → Int32 → Int32 → Int32 → Mem → Option (Mem)
  | 0, _, _, _, _, _, _, _ => none
  | n + 1, x0, x1, x2, x3, x4, x5, F => (gfI F x1 7 1).bind fun v19 => if v19 ≤ x5 then (K62 x0 x1 x2 x3 F) else ((gfR F x1 7 0).bind fun v26 => (rdI F 0 v26 x5).bind fun v31 => if v31 = x3 then ((gfR F x0 0 2).bind fun v37 => if x2 = x4 then (fX0_sortLetters_52  (fX0_sortLetters_16  K62 n) K62 x0 x1 x2 x3 x4 x5 v37 x2 1 F) else (fX0_sortLetters_52  (fX0_sortLetters_16  K62 n) K62 x0 x1 x2 x3 x4 x5 v37 x2 0 F)) else (fX0_sortLetters_56  (fX0_sortLetters_16  K62 n) K62 x0 x1 x2 x3 x4 x5 F))
set_option maxRecDepth 100000 in
set_option maxHeartbeats 4000000 in
theorem tX0_sortLetters_16 {l : Launch} {D : va_G} {cy : Nat → ClassId} {C : Cx} {res : Mem} (X : Fx C cX0_sortLetters RX0 none rmX0_sortLetters 6) (hcd : CD C l D cy) (Qr : RV C 0 0 res) {K62 : Nat → Nat → Int32 → Int32 → Mem → Option (Mem)} (hK62 : ∀ (x0 : Nat) (x1 : Nat) (x2 : Int32) (x3 : Int32) (F : Mem), K62 x0 x1 x2 x3 F = some res → Wp C 0 0 62 [(0, .ref x0), (1, .ref x1), (2, .int x2), (3, .int x3)] [] F) : ∀ (n : Nat) (x0 : Nat) (x1 : Nat) (x2 : Int32) (x3 : Int32) (x4 : Int32) (x5 : Int32) (F : Mem), fX0_sortLetters_16 K62 n x0 x1 x2 x3 x4 x5 F = some res → Wp C 0 0 16 [(0, .ref x0), (1, .ref x1), (2, .int x2), (3, .int x3), (4, .int x4), (5, .int x5)] [] F := by
  intro n
  induction n with
  | zero =>
    intro x0 x1 x2 x3 x4 x5 F h
    rw [fX0_sortLetters_16.eq_1] at h
    cases h
  | succ n ih =>
    intro x0 x1 x2 x3 x4 x5 F h
    rw [fX0_sortLetters_16.eq_2] at h
    refine wp_iload X dX0_sortLetters_16 5 rfl ?_
    refine wp_aload_n X dX0_sortLetters_18 1 rfl ?_
    refine wp_getI X (T := TX8) (N := 2) (ci := 7) (k := 1) rfl (by decide) (by decide) inBX8 kw171 dX0_sortLetters_19 h (fun v19 h => ?_)
    refine wp_icmp_ge X (tgt := 62) dX0_sortLetters_22 (by decide) h (fun h => ?_) (fun h => ?_)
    · refine wp_sub (lv' := [(0, .ref x0), (1, .ref x1), (2, .int x2), (3, .int x3)]) [0, 1, 2, 3] rfl ?_
      exact hK62 _ _ _ _ _ h
    · refine wp_aload_n X dX0_sortLetters_25 1 rfl ?_
      refine wp_getR X (T := TX8) (N := 2) (ci := 7) (k := 0) rfl (by decide) (by decide) inBX8 kw168 dX0_sortLetters_26 h (fun v26 h => ?_)
      refine wp_iload X dX0_sortLetters_29 5 rfl ?_
      refine wp_iaload X dX0_sortLetters_31 h (fun v31 h => ?_)
      refine wp_iload_n X dX0_sortLetters_32 3 rfl ?_
      refine wp_icmp_ne X (tgt := 56) dX0_sortLetters_33 (by decide) h (fun h => ?_) (fun h => ?_)
      · exact tX0_sortLetters_56 X hcd Qr  ih hK62 _ _ _ _ _ _ _ h
      · refine wp_aload_n X dX0_sortLetters_36 0 rfl ?_
        refine wp_getR X (T := TX0) (N := 4) (ci := 0) (k := 2) rfl (by decide) (by decide) inBX0 kw122 dX0_sortLetters_37 h (fun v37 h => ?_)
        refine wp_iload_n X dX0_sortLetters_40 2 rfl ?_
        refine wp_iload_n X dX0_sortLetters_41 2 rfl ?_
        refine wp_iload X dX0_sortLetters_42 4 rfl ?_
        refine wp_icmp_ne X (tgt := 51) dX0_sortLetters_44 (by decide) h (fun h => ?_) (fun h => ?_)
        · refine wp_iconst X (v := 0) dX0_sortLetters_51 (by decide) ?_
          exact tX0_sortLetters_52 X hcd Qr  ih hK62 _ _ _ _ _ _ _ _ _ _ h
        · refine wp_iconst X (v := 1) dX0_sortLetters_47 (by decide) ?_
          refine wp_goto X (tgt := 52) dX0_sortLetters_48 (by decide) ?_
          exact tX0_sortLetters_52 X hcd Qr  ih hK62 _ _ _ _ _ _ _ _ _ _ h
def fX0_sortLetters_4  : Nat → Nat → Nat → Int32 → Int32 → Mem → Option (Mem)
  | 0, _, _, _, _, _ => none
  | n + 1, x0, x1, x2, x3, F => if 16 < x3 then (some F) else (fX0_sortLetters_16  (fun (x0 : Nat) (x1 : Nat) (x2 : Int32) (x3 : Int32) (F : Mem) => (fX0_sortLetters_4   n) x0 x1 x2 (x3 + 1) F) FU x0 x1 x2 x3 x2 0 F)
set_option maxRecDepth 100000 in
set_option maxHeartbeats 4000000 in
theorem tX0_sortLetters_4 {l : Launch} {D : va_G} {cy : Nat → ClassId} {C : Cx} {res : Mem} (X : Fx C cX0_sortLetters RX0 none rmX0_sortLetters 6) (hcd : CD C l D cy) (Qr : RV C 0 0 res)   : ∀ (n : Nat) (x0 : Nat) (x1 : Nat) (x2 : Int32) (x3 : Int32) (F : Mem), fX0_sortLetters_4  n x0 x1 x2 x3 F = some res → Wp C 0 0 4 [(0, .ref x0), (1, .ref x1), (2, .int x2), (3, .int x3)] [] F := by
  intro n
  induction n with
  | zero =>
    intro x0 x1 x2 x3 F h
    rw [fX0_sortLetters_4.eq_1] at h
    cases h
  | succ n ih =>
    intro x0 x1 x2 x3 F h
    rw [fX0_sortLetters_4.eq_2] at h
    refine wp_iload_n X dX0_sortLetters_4 3 rfl ?_
    refine wp_bipush X (v := 16) dX0_sortLetters_5 (by decide) ?_
    refine wp_icmp_gt X (tgt := 68) dX0_sortLetters_7 (by decide) h (fun h => ?_) (fun h => ?_)
    · exact wp_return X Qr rfl dX0_sortLetters_68 h
    · refine wp_iload_n X dX0_sortLetters_10 2 rfl ?_
      refine wp_istore X (lv' := [(0, .ref x0), (1, .ref x1), (2, .int x2), (3, .int x3), (4, .int x2)]) dX0_sortLetters_11 (by decide) [1, 2, 3, 4, 0] rfl ?_
      refine wp_iconst X (v := 0) dX0_sortLetters_13 (by decide) ?_
      refine wp_istore X (lv' := [(0, .ref x0), (1, .ref x1), (2, .int x2), (3, .int x3), (4, .int x2), (5, .int 0)]) dX0_sortLetters_14 (by decide) [1, 2, 3, 4, 5, 0] rfl ?_
      refine tX0_sortLetters_16 X hcd Qr  ?_ FU _ _ _ _ _ _ _ h
      · intro x0 x1 x2 x3 F h
        refine wp_iinc X (v := x3 + 1) (lv' := [(0, .ref x0), (1, .ref x1), (2, .int x2), (3, .int (x3 + 1))]) dX0_sortLetters_62 (by decide) 3 rfl rfl [1, 2, 3, 0] rfl ?_
        refine wp_goto X (tgt := 4) dX0_sortLetters_65 (by decide) ?_
        exact ih _ _ _ _ _ h
def mX0_sortLetters (F : Mem) (x0 : Nat) (x1 : Nat) : Option (Mem) := fX0_sortLetters_4   FU x0 x1 0 1 F
set_option maxRecDepth 100000 in
set_option maxHeartbeats 4000000 in
theorem cX0_sortLetters_ok {l : Launch} {D : va_G} {cy : Nat → ClassId} {F : Mem} {x0 : Nat} {x1 : Nat} {res : Mem} (h : mX0_sortLetters F x0 x1 = some res) : MV l yX0_sortLetters cX0_sortLetters 6 none rmX0_sortLetters D cy F [.ref x0, .ref x1] res := by
  refine mv_of (by decide) (Nat.le_of_ble_eq_true rfl) [(0, .ref x0), (1, .ref x1)] rfl (fun C X hcd Qr => ?_)
  unfold mX0_sortLetters at h
  refine wp_iconst X (v := 0) dX0_sortLetters_0 (by decide) ?_
  refine wp_istore_n X (lv' := [(0, .ref x0), (1, .ref x1), (2, .int 0)]) dX0_sortLetters_1 (by decide) [1, 2, 0] rfl ?_
  refine wp_iconst X (v := 1) dX0_sortLetters_2 (by decide) ?_
  refine wp_istore_n X (lv' := [(0, .ref x0), (1, .ref x1), (2, .int 0), (3, .int 1)]) dX0_sortLetters_3 (by decide) [1, 2, 3, 0] rfl ?_
  refine tX0_sortLetters_4 X hcd Qr   FU _ _ _ _ _ h
/-! TableauBench$FillingCount.countEndings(LTableauBench$Shape;)V -/
def rmX0_countEndings : Room := { frames := 1, cells := 0, slots := 0, locals := 23 }
def fX0_countEndings_50 (K17 : Nat → Nat → Int32 → Int32 → Mem → Option (Mem)) (K85 : Nat → Nat → Int32 → Mem → Option (Mem)) (x0 : Nat) (x1 : Nat) (x2 : Int32) (x3 : Int32) (s0 : Int32) (F : Mem) : Option (Mem) := (gfR F x0 0 1).bind fun v53 => (gfR F x0 0 1).bind fun v63 => (rdI F 0 v63 (((x2 * 17) + x3) - 1)).bind fun v74 => (wrI F v53 ((x2 * 17) + x3) (v74 + s0)).bind fun F78 => K17 x0 x1 x2 (x3 + 1) F78
set_option maxRecDepth 100000 in
set_option maxHeartbeats 4000000 in
theorem tX0_countEndings_50 {l : Launch} {D : va_G} {cy : Nat → ClassId} {C : Cx} {res : Mem} (X : Fx C cX0_countEndings RX0 none rmX0_countEndings 5) (hcd : CD C l D cy) (Qr : RV C 0 0 res) {K17 : Nat → Nat → Int32 → Int32 → Mem → Option (Mem)} {K85 : Nat → Nat → Int32 → Mem → Option (Mem)} (hK17 : ∀ (x0 : Nat) (x1 : Nat) (x2 : Int32) (x3 : Int32) (F : Mem), K17 x0 x1 x2 x3 F = some res → Wp C 0 0 17 [(0, .ref x0), (1, .ref x1), (2, .int x2), (3, .int x3)] [] F) (hK85 : ∀ (x0 : Nat) (x1 : Nat) (x2 : Int32) (F : Mem), K85 x0 x1 x2 F = some res → Wp C 0 0 85 [(0, .ref x0), (1, .ref x1), (2, .int x2)] [] F) (x0 : Nat) (x1 : Nat) (x2 : Int32) (x3 : Int32) (s0 : Int32) (F : Mem) (h : fX0_countEndings_50 K17 K85 x0 x1 x2 x3 s0 F = some res) : Wp C 0 0 50 [(0, .ref x0), (1, .ref x1), (2, .int x2), (3, .int x3)] [.int s0] F := by
  unfold fX0_countEndings_50 at h
  refine wp_istore X (lv' := [(0, .ref x0), (1, .ref x1), (2, .int x2), (3, .int x3), (4, .int s0)]) dX0_countEndings_50 (by decide) [1, 2, 3, 4, 0] rfl ?_
  refine wp_aload_n X dX0_countEndings_52 0 rfl ?_
  refine wp_getR X (T := TX0) (N := 4) (ci := 0) (k := 1) rfl (by decide) (by decide) inBX0 kw121 dX0_countEndings_53 h (fun v53 h => ?_)
  refine wp_iload_n X dX0_countEndings_56 2 rfl ?_
  refine wp_bipush X (v := 17) dX0_countEndings_57 (by decide) ?_
  refine wp_imul X dX0_countEndings_59 ?_
  refine wp_iload_n X dX0_countEndings_60 3 rfl ?_
  refine wp_iadd X dX0_countEndings_61 ?_
  refine wp_aload_n X dX0_countEndings_62 0 rfl ?_
  refine wp_getR X (T := TX0) (N := 4) (ci := 0) (k := 1) rfl (by decide) (by decide) inBX0 kw121 dX0_countEndings_63 h (fun v63 h => ?_)
  refine wp_iload_n X dX0_countEndings_66 2 rfl ?_
  refine wp_bipush X (v := 17) dX0_countEndings_67 (by decide) ?_
  refine wp_imul X dX0_countEndings_69 ?_
  refine wp_iload_n X dX0_countEndings_70 3 rfl ?_
  refine wp_iadd X dX0_countEndings_71 ?_
  refine wp_iconst X (v := 1) dX0_countEndings_72 (by decide) ?_
  refine wp_isub X dX0_countEndings_73 ?_
  refine wp_iaload X dX0_countEndings_74 h (fun v74 h => ?_)
  refine wp_iload X dX0_countEndings_75 4 rfl ?_
  refine wp_iadd X dX0_countEndings_77 ?_
  refine wp_iastore X dX0_countEndings_78 h (fun F78 h => ?_)
  refine wp_iinc X (v := x3 + 1) (lv' := [(0, .ref x0), (1, .ref x1), (2, .int x2), (3, .int (x3 + 1))]) dX0_countEndings_79 (by decide) 3 rfl rfl [1, 2, 3, 0] rfl ?_
  refine wp_goto X (tgt := 17) dX0_countEndings_82 (by decide) ?_
  exact hK17 _ _ _ _ _ h
def fX0_countEndings_17 (K85 : Nat → Nat → Int32 → Mem → Option (Mem)) : Nat → Nat → Nat → Int32 → Int32 → Mem → Option (Mem)
  | 0, _, _, _, _, _ => none
  | n + 1, x0, x1, x2, x3, F => if 17 ≤ x3 then (K85 x0 x1 x2 F) else ((gfR F x1 3 0).bind fun v25 => (rdI F 0 v25 x2).bind fun v29 => if x3 ≤ v29 then ((gfR F x0 0 1).bind fun v38 => (rdI F 0 v38 (((x2 + 1) * 17) + x3)).bind fun v49 => fX0_countEndings_50  (fX0_countEndings_17  K85 n) K85 x0 x1 x2 x3 v49 F) else (fX0_countEndings_50  (fX0_countEndings_17  K85 n) K85 x0 x1 x2 x3 0 F))
set_option maxRecDepth 100000 in
set_option maxHeartbeats 4000000 in
theorem tX0_countEndings_17 {l : Launch} {D : va_G} {cy : Nat → ClassId} {C : Cx} {res : Mem} (X : Fx C cX0_countEndings RX0 none rmX0_countEndings 5) (hcd : CD C l D cy) (Qr : RV C 0 0 res) {K85 : Nat → Nat → Int32 → Mem → Option (Mem)} (hK85 : ∀ (x0 : Nat) (x1 : Nat) (x2 : Int32) (F : Mem), K85 x0 x1 x2 F = some res → Wp C 0 0 85 [(0, .ref x0), (1, .ref x1), (2, .int x2)] [] F) : ∀ (n : Nat) (x0 : Nat) (x1 : Nat) (x2 : Int32) (x3 : Int32) (F : Mem), fX0_countEndings_17 K85 n x0 x1 x2 x3 F = some res → Wp C 0 0 17 [(0, .ref x0), (1, .ref x1), (2, .int x2), (3, .int x3)] [] F := by
  intro n
  induction n with
  | zero =>
    intro x0 x1 x2 x3 F h
    rw [fX0_countEndings_17.eq_1] at h
    cases h
  | succ n ih =>
    intro x0 x1 x2 x3 F h
    rw [fX0_countEndings_17.eq_2] at h
    refine wp_iload_n X dX0_countEndings_17 3 rfl ?_
    refine wp_bipush X (v := 17) dX0_countEndings_18 (by decide) ?_
    refine wp_icmp_ge X (tgt := 85) dX0_countEndings_20 (by decide) h (fun h => ?_) (fun h => ?_)
    · refine wp_sub (lv' := [(0, .ref x0), (1, .ref x1), (2, .int x2)]) [0, 1, 2] rfl ?_
      exact hK85 _ _ _ _ h
    · refine wp_iload_n X dX0_countEndings_23 3 rfl ?_
      refine wp_aload_n X dX0_countEndings_24 1 rfl ?_
      refine wp_getR X (T := TX4) (N := 1) (ci := 3) (k := 0) rfl (by decide) (by decide) inBX4 kw57 dX0_countEndings_25 h (fun v25 h => ?_)
      refine wp_iload_n X dX0_countEndings_28 2 rfl ?_
      refine wp_iaload X dX0_countEndings_29 h (fun v29 h => ?_)
      refine wp_icmp_le X (tgt := 37) dX0_countEndings_30 (by decide) h (fun h => ?_) (fun h => ?_)
      · refine wp_aload_n X dX0_countEndings_37 0 rfl ?_
        refine wp_getR X (T := TX0) (N := 4) (ci := 0) (k := 1) rfl (by decide) (by decide) inBX0 kw121 dX0_countEndings_38 h (fun v38 h => ?_)
        refine wp_iload_n X dX0_countEndings_41 2 rfl ?_
        refine wp_iconst X (v := 1) dX0_countEndings_42 (by decide) ?_
        refine wp_iadd X dX0_countEndings_43 ?_
        refine wp_bipush X (v := 17) dX0_countEndings_44 (by decide) ?_
        refine wp_imul X dX0_countEndings_46 ?_
        refine wp_iload_n X dX0_countEndings_47 3 rfl ?_
        refine wp_iadd X dX0_countEndings_48 ?_
        refine wp_iaload X dX0_countEndings_49 h (fun v49 h => ?_)
        exact tX0_countEndings_50 X hcd Qr  ih hK85 _ _ _ _ _ _ h
      · refine wp_iconst X (v := 0) dX0_countEndings_33 (by decide) ?_
        refine wp_goto X (tgt := 50) dX0_countEndings_34 (by decide) ?_
        exact tX0_countEndings_50 X hcd Qr  ih hK85 _ _ _ _ _ _ h
def fX0_countEndings_11  : Nat → Nat → Nat → Int32 → Mem → Option (Mem)
  | 0, _, _, _, _ => none
  | n + 1, x0, x1, x2, F => if x2 < 0 then (some F) else (fX0_countEndings_17  (fun (x0 : Nat) (x1 : Nat) (x2 : Int32) (F : Mem) => (fX0_countEndings_11   n) x0 x1 (x2 + (-1)) F) FU x0 x1 x2 1 F)
set_option maxRecDepth 100000 in
set_option maxHeartbeats 4000000 in
theorem tX0_countEndings_11 {l : Launch} {D : va_G} {cy : Nat → ClassId} {C : Cx} {res : Mem} (X : Fx C cX0_countEndings RX0 none rmX0_countEndings 5) (hcd : CD C l D cy) (Qr : RV C 0 0 res)   : ∀ (n : Nat) (x0 : Nat) (x1 : Nat) (x2 : Int32) (F : Mem), fX0_countEndings_11  n x0 x1 x2 F = some res → Wp C 0 0 11 [(0, .ref x0), (1, .ref x1), (2, .int x2)] [] F := by
  intro n
  induction n with
  | zero =>
    intro x0 x1 x2 F h
    rw [fX0_countEndings_11.eq_1] at h
    cases h
  | succ n ih =>
    intro x0 x1 x2 F h
    rw [fX0_countEndings_11.eq_2] at h
    refine wp_iload_n X dX0_countEndings_11 2 rfl ?_
    refine wp_if_lt X (tgt := 91) dX0_countEndings_12 (by decide) h (fun h => ?_) (fun h => ?_)
    · exact wp_return X Qr rfl dX0_countEndings_91 h
    · refine wp_iconst X (v := 1) dX0_countEndings_15 (by decide) ?_
      refine wp_istore_n X (lv' := [(0, .ref x0), (1, .ref x1), (2, .int x2), (3, .int 1)]) dX0_countEndings_16 (by decide) [1, 2, 3, 0] rfl ?_
      refine tX0_countEndings_17 X hcd Qr  ?_ FU _ _ _ _ _ h
      · intro x0 x1 x2 F h
        refine wp_iinc X (v := x2 + (-1)) (lv' := [(0, .ref x0), (1, .ref x1), (2, .int (x2 + (-1)))]) dX0_countEndings_85 (by decide) 2 rfl rfl [1, 2, 0] rfl ?_
        refine wp_goto X (tgt := 11) dX0_countEndings_88 (by decide) ?_
        exact ih _ _ _ _ h
def mX0_countEndings (F : Mem) (x0 : Nat) (x1 : Nat) : Option (Mem) := (gfR F x0 0 1).bind fun v1 => (mJ7_fill_53178 F v1 1).bind fun v5 => fX0_countEndings_11   FU x0 x1 7 v5
set_option maxRecDepth 100000 in
set_option maxHeartbeats 4000000 in
theorem cX0_countEndings_ok {l : Launch} {D : va_G} {cy : Nat → ClassId} {F : Mem} {x0 : Nat} {x1 : Nat} {res : Mem} (h : mX0_countEndings F x0 x1 = some res) : MV l yX0_countEndings cX0_countEndings 5 none rmX0_countEndings D cy F [.ref x0, .ref x1] res := by
  refine mv_of (by decide) (Nat.le_of_ble_eq_true rfl) [(0, .ref x0), (1, .ref x1)] rfl (fun C X hcd Qr => ?_)
  unfold mX0_countEndings at h
  refine wp_aload_n X dX0_countEndings_0 0 rfl ?_
  refine wp_getR X (T := TX0) (N := 4) (ci := 0) (k := 1) rfl (by decide) (by decide) inBX0 kw121 dX0_countEndings_1 h (fun v1 h => ?_)
  refine wp_iconst X (v := 1) dX0_countEndings_4 (by decide) ?_
  refine wp_callSV X (rm := rmJ7_fill_53178) (n := 2) [.ref v1, .int 1] hcd (fun q hq => cJ7_fill_53178_ok hq) kw753 kw244 kw20 kw245 (by decide +kernel) (by decide) (by decide) (cs2 := 0) (sl2 := 0) rfl rfl rfl rfl (Nat.le_of_ble_eq_true rfl) dX0_countEndings_5 h (fun v5 h => ?_)
  refine wp_bipush X (v := 7) dX0_countEndings_8 (by decide) ?_
  refine wp_istore_n X (lv' := [(0, .ref x0), (1, .ref x1), (2, .int 7)]) dX0_countEndings_10 (by decide) [1, 2, 0] rfl ?_
  refine tX0_countEndings_11 X hcd Qr   FU _ _ _ _ h
/-! TableauBench$FillingCount.goToNext(LTableauBench$Shape;)V -/
def rmX0_goToNext : Room := { frames := 0, cells := 0, slots := 0, locals := 0 }
def fX0_goToNext_66 (K3 : Nat → Nat → Int32 → Mem → Option (Mem)) (K52 : Nat → Int32 → Mem → Option (Mem)) (x0 : Nat) (x1 : Nat) (x2 : Int32) (F : Mem) : Option (Mem) := (gfR F x0 0 3).bind fun v67 => (gfR F v67 3 0).bind fun v70 => (wrI F v70 x2 0).bind fun F75 => K3 x0 x1 (x2 + (-1)) F75
set_option maxRecDepth 100000 in
set_option maxHeartbeats 4000000 in
theorem tX0_goToNext_66 {l : Launch} {D : va_G} {cy : Nat → ClassId} {C : Cx} {res : Mem} (X : Fx C cX0_goToNext RX0 none rmX0_goToNext 3) (hcd : CD C l D cy) (Qr : RV C 0 0 res) {K3 : Nat → Nat → Int32 → Mem → Option (Mem)} {K52 : Nat → Int32 → Mem → Option (Mem)} (hK3 : ∀ (x0 : Nat) (x1 : Nat) (x2 : Int32) (F : Mem), K3 x0 x1 x2 F = some res → Wp C 0 0 3 [(0, .ref x0), (1, .ref x1), (2, .int x2)] [] F) (hK52 : ∀ (x0 : Nat) (x2 : Int32) (F : Mem), K52 x0 x2 F = some res → Wp C 0 0 52 [(0, .ref x0), (2, .int x2)] [] F) (x0 : Nat) (x1 : Nat) (x2 : Int32) (F : Mem) (h : fX0_goToNext_66 K3 K52 x0 x1 x2 F = some res) : Wp C 0 0 66 [(0, .ref x0), (1, .ref x1), (2, .int x2)] [] F := by
  unfold fX0_goToNext_66 at h
  refine wp_aload_n X dX0_goToNext_66 0 rfl ?_
  refine wp_getR X (T := TX0) (N := 4) (ci := 0) (k := 3) rfl (by decide) (by decide) inBX0 kw123 dX0_goToNext_67 h (fun v67 h => ?_)
  refine wp_getR X (T := TX4) (N := 1) (ci := 3) (k := 0) rfl (by decide) (by decide) inBX4 kw57 dX0_goToNext_70 h (fun v70 h => ?_)
  refine wp_iload_n X dX0_goToNext_73 2 rfl ?_
  refine wp_iconst X (v := 0) dX0_goToNext_74 (by decide) ?_
  refine wp_iastore X dX0_goToNext_75 h (fun F75 h => ?_)
  refine wp_iinc X (v := x2 + (-1)) (lv' := [(0, .ref x0), (1, .ref x1), (2, .int (x2 + (-1)))]) dX0_goToNext_76 (by decide) 2 rfl rfl [1, 2, 0] rfl ?_
  refine wp_goto X (tgt := 3) dX0_goToNext_79 (by decide) ?_
  exact hK3 _ _ _ _ h
def fX0_goToNext_3 (K52 : Nat → Int32 → Mem → Option (Mem)) : Nat → Nat → Nat → Int32 → Mem → Option (Mem)
  | 0, _, _, _, _ => none
  | n + 1, x0, x1, x2, F => if x2 < 0 then (some F) else ((gfR F x0 0 3).bind fun v8 => (gfR F v8 3 0).bind fun v11 => (rdI F 0 v11 x2).bind fun v15 => (gfR F x1 3 0).bind fun v17 => (rdI F 0 v17 x2).bind fun v21 => if v21 ≤ v15 then (fX0_goToNext_66  (fX0_goToNext_3  K52 n) K52 x0 x1 x2 F) else (if x2 = 0 then (K52 x0 x2 F) else ((gfR F x0 0 3).bind fun v30 => (gfR F v30 3 0).bind fun v33 => (rdI F 0 v33 x2).bind fun v37 => (gfR F x0 0 3).bind fun v39 => (gfR F v39 3 0).bind fun v42 => (rdI F 0 v42 (x2 - 1)).bind fun v48 => if v48 ≤ v37 then (fX0_goToNext_66  (fX0_goToNext_3  K52 n) K52 x0 x1 x2 F) else (K52 x0 x2 F))))
set_option maxRecDepth 100000 in
set_option maxHeartbeats 4000000 in
theorem tX0_goToNext_3 {l : Launch} {D : va_G} {cy : Nat → ClassId} {C : Cx} {res : Mem} (X : Fx C cX0_goToNext RX0 none rmX0_goToNext 3) (hcd : CD C l D cy) (Qr : RV C 0 0 res) {K52 : Nat → Int32 → Mem → Option (Mem)} (hK52 : ∀ (x0 : Nat) (x2 : Int32) (F : Mem), K52 x0 x2 F = some res → Wp C 0 0 52 [(0, .ref x0), (2, .int x2)] [] F) : ∀ (n : Nat) (x0 : Nat) (x1 : Nat) (x2 : Int32) (F : Mem), fX0_goToNext_3 K52 n x0 x1 x2 F = some res → Wp C 0 0 3 [(0, .ref x0), (1, .ref x1), (2, .int x2)] [] F := by
  intro n
  induction n with
  | zero =>
    intro x0 x1 x2 F h
    rw [fX0_goToNext_3.eq_1] at h
    cases h
  | succ n ih =>
    intro x0 x1 x2 F h
    rw [fX0_goToNext_3.eq_2] at h
    refine wp_iload_n X dX0_goToNext_3 2 rfl ?_
    refine wp_if_lt X (tgt := 82) dX0_goToNext_4 (by decide) h (fun h => ?_) (fun h => ?_)
    · exact wp_return X Qr rfl dX0_goToNext_82 h
    · refine wp_aload_n X dX0_goToNext_7 0 rfl ?_
      refine wp_getR X (T := TX0) (N := 4) (ci := 0) (k := 3) rfl (by decide) (by decide) inBX0 kw123 dX0_goToNext_8 h (fun v8 h => ?_)
      refine wp_getR X (T := TX4) (N := 1) (ci := 3) (k := 0) rfl (by decide) (by decide) inBX4 kw57 dX0_goToNext_11 h (fun v11 h => ?_)
      refine wp_iload_n X dX0_goToNext_14 2 rfl ?_
      refine wp_iaload X dX0_goToNext_15 h (fun v15 h => ?_)
      refine wp_aload_n X dX0_goToNext_16 1 rfl ?_
      refine wp_getR X (T := TX4) (N := 1) (ci := 3) (k := 0) rfl (by decide) (by decide) inBX4 kw57 dX0_goToNext_17 h (fun v17 h => ?_)
      refine wp_iload_n X dX0_goToNext_20 2 rfl ?_
      refine wp_iaload X dX0_goToNext_21 h (fun v21 h => ?_)
      refine wp_icmp_ge X (tgt := 66) dX0_goToNext_22 (by decide) h (fun h => ?_) (fun h => ?_)
      · exact tX0_goToNext_66 X hcd Qr  ih hK52 _ _ _ _ h
      · refine wp_iload_n X dX0_goToNext_25 2 rfl ?_
        refine wp_if_eq X (tgt := 52) dX0_goToNext_26 (by decide) h (fun h => ?_) (fun h => ?_)
        · refine wp_sub (lv' := [(0, .ref x0), (2, .int x2)]) [0, 2] rfl ?_
          exact hK52 _ _ _ h
        · refine wp_aload_n X dX0_goToNext_29 0 rfl ?_
          refine wp_getR X (T := TX0) (N := 4) (ci := 0) (k := 3) rfl (by decide) (by decide) inBX0 kw123 dX0_goToNext_30 h (fun v30 h => ?_)
          refine wp_getR X (T := TX4) (N := 1) (ci := 3) (k := 0) rfl (by decide) (by decide) inBX4 kw57 dX0_goToNext_33 h (fun v33 h => ?_)
          refine wp_iload_n X dX0_goToNext_36 2 rfl ?_
          refine wp_iaload X dX0_goToNext_37 h (fun v37 h => ?_)
          refine wp_aload_n X dX0_goToNext_38 0 rfl ?_
          refine wp_getR X (T := TX0) (N := 4) (ci := 0) (k := 3) rfl (by decide) (by decide) inBX0 kw123 dX0_goToNext_39 h (fun v39 h => ?_)
          refine wp_getR X (T := TX4) (N := 1) (ci := 3) (k := 0) rfl (by decide) (by decide) inBX4 kw57 dX0_goToNext_42 h (fun v42 h => ?_)
          refine wp_iload_n X dX0_goToNext_45 2 rfl ?_
          refine wp_iconst X (v := 1) dX0_goToNext_46 (by decide) ?_
          refine wp_isub X dX0_goToNext_47 ?_
          refine wp_iaload X dX0_goToNext_48 h (fun v48 h => ?_)
          refine wp_icmp_ge X (tgt := 66) dX0_goToNext_49 (by decide) h (fun h => ?_) (fun h => ?_)
          · exact tX0_goToNext_66 X hcd Qr  ih hK52 _ _ _ _ h
          · refine wp_sub (lv' := [(0, .ref x0), (2, .int x2)]) [0, 2] rfl ?_
            exact hK52 _ _ _ h
def fX0_goToNext_52  (x0 : Nat) (x2 : Int32) (F : Mem) : Option (Mem) := (gfR F x0 0 3).bind fun v53 => (gfR F v53 3 0).bind fun v56 => (rdI F 0 v56 x2).bind fun v61 => (wrI F v56 x2 (v61 + 1)).bind fun F64 => some F64
set_option maxRecDepth 100000 in
set_option maxHeartbeats 4000000 in
theorem tX0_goToNext_52 {l : Launch} {D : va_G} {cy : Nat → ClassId} {C : Cx} {res : Mem} (X : Fx C cX0_goToNext RX0 none rmX0_goToNext 3) (hcd : CD C l D cy) (Qr : RV C 0 0 res)   (x0 : Nat) (x2 : Int32) (F : Mem) (h : fX0_goToNext_52  x0 x2 F = some res) : Wp C 0 0 52 [(0, .ref x0), (2, .int x2)] [] F := by
  unfold fX0_goToNext_52 at h
  refine wp_aload_n X dX0_goToNext_52 0 rfl ?_
  refine wp_getR X (T := TX0) (N := 4) (ci := 0) (k := 3) rfl (by decide) (by decide) inBX0 kw123 dX0_goToNext_53 h (fun v53 h => ?_)
  refine wp_getR X (T := TX4) (N := 1) (ci := 3) (k := 0) rfl (by decide) (by decide) inBX4 kw57 dX0_goToNext_56 h (fun v56 h => ?_)
  refine wp_iload_n X dX0_goToNext_59 1 rfl ?_
  refine wp_dup2 X dX0_goToNext_60 rfl rfl ?_
  refine wp_iaload X dX0_goToNext_61 h (fun v61 h => ?_)
  refine wp_iconst X (v := 1) dX0_goToNext_62 (by decide) ?_
  refine wp_iadd X dX0_goToNext_63 ?_
  refine wp_iastore X dX0_goToNext_64 h (fun F64 h => ?_)
  exact wp_return X Qr rfl dX0_goToNext_65 h
def mX0_goToNext (F : Mem) (x0 : Nat) (x1 : Nat) : Option (Mem) := fX0_goToNext_3  (fun (x0 : Nat) (x2 : Int32) (F : Mem) => fX0_goToNext_52   x0 x2 F) FU x0 x1 7 F
set_option maxRecDepth 100000 in
set_option maxHeartbeats 4000000 in
theorem cX0_goToNext_ok {l : Launch} {D : va_G} {cy : Nat → ClassId} {F : Mem} {x0 : Nat} {x1 : Nat} {res : Mem} (h : mX0_goToNext F x0 x1 = some res) : MV l yX0_goToNext cX0_goToNext 3 none rmX0_goToNext D cy F [.ref x0, .ref x1] res := by
  refine mv_of (by decide) (Nat.le_of_ble_eq_true rfl) [(0, .ref x0), (1, .ref x1)] rfl (fun C X hcd Qr => ?_)
  unfold mX0_goToNext at h
  refine wp_bipush X (v := 7) dX0_goToNext_0 (by decide) ?_
  refine wp_istore_n X (lv' := [(0, .ref x0), (1, .ref x1), (2, .int 7)]) dX0_goToNext_2 (by decide) [1, 2, 0] rfl ?_
  refine tX0_goToNext_3 X hcd Qr  ?_ FU _ _ _ _ h
  · intro x0 x2 F h
    exact tX0_goToNext_52 X hcd Qr   _ _ _ h
/-! TableauBench$FillingCount.countWays(I)V -/
def rmX0_countWays : Room := { frames := 2, cells := 0, slots := 0, locals := 42 }
def fX0_countWays_91 (K21 : Nat → Int32 → Int32 → Int64 → Int32 → Mem → Option (Mem)) (x0 : Nat) (x1 : Int32) (x2 : Int32) (x3 : Int64) (x5 : Int32) (F : Mem) : Option (Mem) := (gfR F x0 0 0).bind fun v92 => (wrJ F v92 ((x1 * 8) + x5) x3).bind fun F103 => K21 x0 x1 x2 x3 (x5 + (-1)) F103
set_option maxRecDepth 100000 in
set_option maxHeartbeats 4000000 in
theorem tX0_countWays_91 {l : Launch} {D : va_G} {cy : Nat → ClassId} {C : Cx} {res : Mem} (X : Fx C cX0_countWays RX0 none rmX0_countWays 7) (hcd : CD C l D cy) (Qr : RV C 0 0 res) {K21 : Nat → Int32 → Int32 → Int64 → Int32 → Mem → Option (Mem)} (hK21 : ∀ (x0 : Nat) (x1 : Int32) (x2 : Int32) (x3 : Int64) (x5 : Int32) (F : Mem), K21 x0 x1 x2 x3 x5 F = some res → Wp C 0 0 21 [(0, .ref x0), (1, .int x1), (2, .int x2), (3, .long x3), (5, .int x5)] [] F) (x0 : Nat) (x1 : Int32) (x2 : Int32) (x3 : Int64) (x5 : Int32) (F : Mem) (h : fX0_countWays_91 K21 x0 x1 x2 x3 x5 F = some res) : Wp C 0 0 91 [(0, .ref x0), (1, .int x1), (2, .int x2), (3, .long x3), (5, .int x5)] [] F := by
  unfold fX0_countWays_91 at h
  refine wp_aload_n X dX0_countWays_91 0 rfl ?_
  refine wp_getR X (T := TX0) (N := 4) (ci := 0) (k := 0) rfl (by decide) (by decide) inBX0 kw120 dX0_countWays_92 h (fun v92 h => ?_)
  refine wp_iload_n X dX0_countWays_95 1 rfl ?_
  refine wp_bipush X (v := 8) dX0_countWays_96 (by decide) ?_
  refine wp_imul X dX0_countWays_98 ?_
  refine wp_iload X dX0_countWays_99 4 rfl ?_
  refine wp_iadd X dX0_countWays_101 ?_
  refine wp_lload_n X dX0_countWays_102 3 rfl ?_
  refine wp_lastore X dX0_countWays_103 h (fun F103 h => ?_)
  refine wp_iinc X (v := x5 + (-1)) (lv' := [(0, .ref x0), (1, .int x1), (2, .int x2), (3, .long x3), (5, .int (x5 + (-1)))]) dX0_countWays_104 (by decide) 4 rfl rfl [1, 2, 3, 4, 0] rfl ?_
  refine wp_goto X (tgt := 21) dX0_countWays_107 (by decide) ?_
  exact hK21 _ _ _ _ _ _ h
def fX0_countWays_87 (K21 : Nat → Int32 → Int32 → Int64 → Int32 → Mem → Option (Mem)) (x0 : Nat) (x1 : Int32) (x2 : Int32) (x5 : Int32) (s0 : Int64) (s1 : Nat) (s2 : Int32) (s3 : Int32) (F : Mem) : Option (Mem) := (rdJ F s1 (s2 + s3)).bind fun v88 => fX0_countWays_91  K21 x0 x1 x2 (s0 + v88) x5 F
set_option maxRecDepth 100000 in
set_option maxHeartbeats 4000000 in
theorem tX0_countWays_87 {l : Launch} {D : va_G} {cy : Nat → ClassId} {C : Cx} {res : Mem} (X : Fx C cX0_countWays RX0 none rmX0_countWays 7) (hcd : CD C l D cy) (Qr : RV C 0 0 res) {K21 : Nat → Int32 → Int32 → Int64 → Int32 → Mem → Option (Mem)} (hK21 : ∀ (x0 : Nat) (x1 : Int32) (x2 : Int32) (x3 : Int64) (x5 : Int32) (F : Mem), K21 x0 x1 x2 x3 x5 F = some res → Wp C 0 0 21 [(0, .ref x0), (1, .int x1), (2, .int x2), (3, .long x3), (5, .int x5)] [] F) (x0 : Nat) (x1 : Int32) (x2 : Int32) (x5 : Int32) (s0 : Int64) (s1 : Nat) (s2 : Int32) (s3 : Int32) (F : Mem) (h : fX0_countWays_87 K21 x0 x1 x2 x5 s0 s1 s2 s3 F = some res) : Wp C 0 0 87 [(0, .ref x0), (1, .int x1), (2, .int x2), (5, .int x5)] [.int s3, .int s2, .ref s1, .long s0] F := by
  unfold fX0_countWays_87 at h
  refine wp_iadd X dX0_countWays_87 ?_
  refine wp_laload X dX0_countWays_88 h (fun v88 h => ?_)
  refine wp_ladd X dX0_countWays_89 ?_
  refine wp_lstore_n X (lv' := [(0, .ref x0), (1, .int x1), (2, .int x2), (3, .long (s0 + v88)), (5, .int x5)]) dX0_countWays_90 (by decide) [1, 2, 3, 0, 4] rfl ?_
  exact tX0_countWays_91 X hcd Qr  hK21 _ _ _ _ _ _ h
def fX0_countWays_21  : Nat → Nat → Int32 → Int32 → Int64 → Int32 → Mem → Option (Mem)
  | 0, _, _, _, _, _, _ => none
  | n + 1, x0, x1, x2, x3, x5, F => if x5 < 0 then (some F) else ((gfR F x0 0 3).bind fun v27 => (obj F v27 3).bind fun _ => (mX4_endsColumn F v27 x5).bind fun v32 => if v32.1 = 0 then (fX0_countWays_91  (fX0_countWays_21   n) x0 x1 x2 x3 x5 v32.2) else ((gfR v32.2 x0 0 1).bind fun v40 => (gfR v32.2 x0 0 3).bind fun v51 => (gfR v32.2 v51 3 0).bind fun v54 => (rdI v32.2 0 v54 x5).bind fun v59 => (rdI v32.2 0 v40 ((((x5 + 1) * 17) + v59) - 1)).bind fun v63 => (gfR v32.2 x0 0 0).bind fun v69 => if x2 = 0 then (fX0_countWays_87  (fX0_countWays_21   n) x0 x1 x2 x5 x3 v69 ((x1 - v63) * 8) x5 v32.2) else (fX0_countWays_87  (fX0_countWays_21   n) x0 x1 x2 x5 x3 v69 ((x1 - v63) * 8) 0 v32.2)))
set_option maxRecDepth 100000 in
set_option maxHeartbeats 4000000 in
theorem tX0_countWays_21 {l : Launch} {D : va_G} {cy : Nat → ClassId} {C : Cx} {res : Mem} (X : Fx C cX0_countWays RX0 none rmX0_countWays 7) (hcd : CD C l D cy) (Qr : RV C 0 0 res)   : ∀ (n : Nat) (x0 : Nat) (x1 : Int32) (x2 : Int32) (x3 : Int64) (x5 : Int32) (F : Mem), fX0_countWays_21  n x0 x1 x2 x3 x5 F = some res → Wp C 0 0 21 [(0, .ref x0), (1, .int x1), (2, .int x2), (3, .long x3), (5, .int x5)] [] F := by
  intro n
  induction n with
  | zero =>
    intro x0 x1 x2 x3 x5 F h
    rw [fX0_countWays_21.eq_1] at h
    cases h
  | succ n ih =>
    intro x0 x1 x2 x3 x5 F h
    rw [fX0_countWays_21.eq_2] at h
    refine wp_iload X dX0_countWays_21 4 rfl ?_
    refine wp_if_lt X (tgt := 110) dX0_countWays_23 (by decide) h (fun h => ?_) (fun h => ?_)
    · exact wp_return X Qr rfl dX0_countWays_110 h
    · refine wp_aload_n X dX0_countWays_26 0 rfl ?_
      refine wp_getR X (T := TX0) (N := 4) (ci := 0) (k := 3) rfl (by decide) (by decide) inBX0 kw123 dX0_countWays_27 h (fun v27 h => ?_)
      refine wp_iload X dX0_countWays_30 4 rfl ?_
      refine wp_callVI X (rm := rmX4_endsColumn) (T := TX4) (N := 1) (ci := 3) (n := 1) [.int x5] hcd (fun q hq => cX4_endsColumn_ok hq) kw763 kw641 kw642 kw3 kw643 (by decide +kernel) (by decide) (by decide) (cs2 := 0) (sl2 := 0) rfl rfl rfl (by decide) rfl rfl (Nat.le_of_ble_eq_true rfl) dX0_countWays_32 h (fun v32 h => ?_)
      refine wp_if_eq X (tgt := 91) dX0_countWays_35 (by decide) h (fun h => ?_) (fun h => ?_)
      · exact tX0_countWays_91 X hcd Qr  ih _ _ _ _ _ _ h
      · refine wp_iload_n X dX0_countWays_38 1 rfl ?_
        refine wp_aload_n X dX0_countWays_39 0 rfl ?_
        refine wp_getR X (T := TX0) (N := 4) (ci := 0) (k := 1) rfl (by decide) (by decide) inBX0 kw121 dX0_countWays_40 h (fun v40 h => ?_)
        refine wp_iload X dX0_countWays_43 4 rfl ?_
        refine wp_iconst X (v := 1) dX0_countWays_45 (by decide) ?_
        refine wp_iadd X dX0_countWays_46 ?_
        refine wp_bipush X (v := 17) dX0_countWays_47 (by decide) ?_
        refine wp_imul X dX0_countWays_49 ?_
        refine wp_aload_n X dX0_countWays_50 0 rfl ?_
        refine wp_getR X (T := TX0) (N := 4) (ci := 0) (k := 3) rfl (by decide) (by decide) inBX0 kw123 dX0_countWays_51 h (fun v51 h => ?_)
        refine wp_getR X (T := TX4) (N := 1) (ci := 3) (k := 0) rfl (by decide) (by decide) inBX4 kw57 dX0_countWays_54 h (fun v54 h => ?_)
        refine wp_iload X dX0_countWays_57 4 rfl ?_
        refine wp_iaload X dX0_countWays_59 h (fun v59 h => ?_)
        refine wp_iadd X dX0_countWays_60 ?_
        refine wp_iconst X (v := 1) dX0_countWays_61 (by decide) ?_
        refine wp_isub X dX0_countWays_62 ?_
        refine wp_iaload X dX0_countWays_63 h (fun v63 h => ?_)
        refine wp_isub X dX0_countWays_64 ?_
        refine wp_istore X (lv' := [(0, .ref x0), (1, .int x1), (2, .int x2), (3, .long x3), (5, .int x5), (6, .int (x1 - v63))]) dX0_countWays_65 (by decide) [1, 2, 3, 4, 5, 0] rfl ?_
        refine wp_lload_n X dX0_countWays_67 3 rfl ?_
        refine wp_aload_n X dX0_countWays_68 0 rfl ?_
        refine wp_getR X (T := TX0) (N := 4) (ci := 0) (k := 0) rfl (by decide) (by decide) inBX0 kw120 dX0_countWays_69 h (fun v69 h => ?_)
        refine wp_iload X dX0_countWays_72 5 rfl ?_
        refine wp_bipush X (v := 8) dX0_countWays_74 (by decide) ?_
        refine wp_imul X dX0_countWays_76 ?_
        refine wp_iload_n X dX0_countWays_77 2 rfl ?_
        refine wp_if_eq X (tgt := 85) dX0_countWays_78 (by decide) h (fun h => ?_) (fun h => ?_)
        · refine wp_iload X dX0_countWays_85 4 rfl ?_
          refine wp_sub (lv' := [(0, .ref x0), (1, .int x1), (2, .int x2), (5, .int x5)]) [0, 1, 2, 4] rfl ?_
          exact tX0_countWays_87 X hcd Qr  ih _ _ _ _ _ _ _ _ _ h
        · refine wp_iconst X (v := 0) dX0_countWays_81 (by decide) ?_
          refine wp_goto X (tgt := 87) dX0_countWays_82 (by decide) ?_
          refine wp_sub (lv' := [(0, .ref x0), (1, .int x1), (2, .int x2), (5, .int x5)]) [0, 1, 2, 4] rfl ?_
          exact tX0_countWays_87 X hcd Qr  ih _ _ _ _ _ _ _ _ _ h
def mX0_countWays (F : Mem) (x0 : Nat) (x1 : Int32) : Option (Mem) := (gfR F x0 0 2).bind fun v1 => (gfR F x0 0 3).bind fun v5 => (obj F v5 3).bind fun _ => (mX4_countBoxes F v5).bind fun v8 => (rdI v8.2 2 v1 (v8.1 - 1)).bind fun v13 => fX0_countWays_21   FU x0 x1 v13 0 7 v8.2
set_option maxRecDepth 100000 in
set_option maxHeartbeats 4000000 in
theorem cX0_countWays_ok {l : Launch} {D : va_G} {cy : Nat → ClassId} {F : Mem} {x0 : Nat} {x1 : Int32} {res : Mem} (h : mX0_countWays F x0 x1 = some res) : MV l yX0_countWays cX0_countWays 7 none rmX0_countWays D cy F [.ref x0, .int x1] res := by
  refine mv_of (by decide) (Nat.le_of_ble_eq_true rfl) [(0, .ref x0), (1, .int x1)] rfl (fun C X hcd Qr => ?_)
  unfold mX0_countWays at h
  refine wp_aload_n X dX0_countWays_0 0 rfl ?_
  refine wp_getR X (T := TX0) (N := 4) (ci := 0) (k := 2) rfl (by decide) (by decide) inBX0 kw122 dX0_countWays_1 h (fun v1 h => ?_)
  refine wp_aload_n X dX0_countWays_4 0 rfl ?_
  refine wp_getR X (T := TX0) (N := 4) (ci := 0) (k := 3) rfl (by decide) (by decide) inBX0 kw123 dX0_countWays_5 h (fun v5 h => ?_)
  refine wp_callVI X (rm := rmX4_countBoxes) (T := TX4) (N := 1) (ci := 3) (n := 0) [] hcd (fun q hq => cX4_countBoxes_ok hq) kw762 kw366 kw367 kw3 kw368 (by decide +kernel) (by decide) (by decide) (cs2 := 0) (sl2 := 0) rfl rfl rfl (by decide) rfl rfl (Nat.le_of_ble_eq_true rfl) dX0_countWays_8 h (fun v8 h => ?_)
  refine wp_iconst X (v := 1) dX0_countWays_11 (by decide) ?_
  refine wp_isub X dX0_countWays_12 ?_
  refine wp_zaload X dX0_countWays_13 h (fun v13 h => ?_)
  refine wp_istore_n X (lv' := [(0, .ref x0), (1, .int x1), (2, .int v13)]) dX0_countWays_14 (by decide) [1, 2, 0] rfl ?_
  refine wp_lconst X (v := 0) dX0_countWays_15 (by decide) ?_
  refine wp_lstore_n X (lv' := [(0, .ref x0), (1, .int x1), (2, .int v13), (3, .long 0)]) dX0_countWays_16 (by decide) [1, 2, 3, 0] rfl ?_
  refine wp_bipush X (v := 7) dX0_countWays_17 (by decide) ?_
  refine wp_istore X (lv' := [(0, .ref x0), (1, .int x1), (2, .int v13), (3, .long 0), (5, .int 7)]) dX0_countWays_19 (by decide) [1, 2, 3, 4, 0] rfl ?_
  refine tX0_countWays_21 X hcd Qr   FU _ _ _ _ _ _ h
/-! TableauBench$FillingCount.count(LTableauBench$Shape;LTableauBench$Word;)J -/
def rmX0_count : Room := { frames := 3, cells := 0, slots := 0, locals := 68 }
def fX0_count_43 (K66 : Nat → Int32 → Mem → Option (Int64 × Mem)) : Nat → Nat → Nat → Int32 → Int32 → Mem → Option (Int64 × Mem)
  | 0, _, _, _, _, _ => none
  | n + 1, x0, x1, x3, x4, F => if x3 ≤ x4 then (K66 x0 x3 F) else ((obj F x0 0).bind fun _ => (mX0_goToNext F x0 x1).bind fun v51 => (obj v51 x0 0).bind fun _ => (mX0_countWays v51 x0 x4).bind fun v57 => (fX0_count_43  K66 n) x0 x1 x3 (x4 + 1) v57)
set_option maxRecDepth 100000 in
set_option maxHeartbeats 4000000 in
theorem tX0_count_43 {l : Launch} {D : va_G} {cy : Nat → ClassId} {C : Cx} {res : Int64 × Mem} (X : Fx C cX0_count RX0 (some .long) rmX0_count 5) (hcd : CD C l D cy) (Qr : RJ C 0 0 res) {K66 : Nat → Int32 → Mem → Option (Int64 × Mem)} (hK66 : ∀ (x0 : Nat) (x3 : Int32) (F : Mem), K66 x0 x3 F = some res → Wp C 0 0 66 [(0, .ref x0), (3, .int x3)] [] F) : ∀ (n : Nat) (x0 : Nat) (x1 : Nat) (x3 : Int32) (x4 : Int32) (F : Mem), fX0_count_43 K66 n x0 x1 x3 x4 F = some res → Wp C 0 0 43 [(0, .ref x0), (1, .ref x1), (3, .int x3), (4, .int x4)] [] F := by
  intro n
  induction n with
  | zero =>
    intro x0 x1 x3 x4 F h
    rw [fX0_count_43.eq_1] at h
    cases h
  | succ n ih =>
    intro x0 x1 x3 x4 F h
    rw [fX0_count_43.eq_2] at h
    refine wp_iload X dX0_count_43 3 rfl ?_
    refine wp_iload_n X dX0_count_45 2 rfl ?_
    refine wp_icmp_ge X (tgt := 66) dX0_count_46 (by decide) h (fun h => ?_) (fun h => ?_)
    · refine wp_sub (lv' := [(0, .ref x0), (3, .int x3)]) [0, 2] rfl ?_
      exact hK66 _ _ _ h
    · refine wp_aload_n X dX0_count_49 0 rfl ?_
      refine wp_aload_n X dX0_count_50 1 rfl ?_
      refine wp_callVV X (rm := rmX0_goToNext) (T := TX0) (N := 4) (ci := 0) (n := 1) [.ref x1] hcd (fun q hq => cX0_goToNext_ok hq) kw754 kw756 ks16 kw7 kw757 (by decide +kernel) (by decide) (by decide) (cs2 := 0) (sl2 := 0) rfl rfl rfl (by decide) rfl rfl (Nat.le_of_ble_eq_true rfl) dX0_count_51 h (fun v51 h => ?_)
      refine wp_aload_n X dX0_count_54 0 rfl ?_
      refine wp_iload X dX0_count_55 3 rfl ?_
      refine wp_callVV X (rm := rmX0_countWays) (T := TX0) (N := 4) (ci := 0) (n := 1) [.int x4] hcd (fun q hq => cX0_countWays_ok hq) kw758 kw760 ks17 kw7 kw761 (by decide +kernel) (by decide) (by decide) (cs2 := 0) (sl2 := 0) rfl rfl rfl (by decide) rfl rfl (Nat.le_of_ble_eq_true rfl) dX0_count_57 h (fun v57 h => ?_)
      refine wp_iinc X (v := x4 + 1) (lv' := [(0, .ref x0), (1, .ref x1), (3, .int x3), (4, .int (x4 + 1))]) dX0_count_60 (by decide) 3 rfl rfl [1, 2, 3, 0] rfl ?_
      refine wp_goto X (tgt := 43) dX0_count_63 (by decide) ?_
      exact ih _ _ _ _ _ h
def mX0_count (F : Mem) (x0 : Nat) (x1 : Nat) (x2 : Nat) : Option (Int64 × Mem) := (obj F x0 0).bind fun _ => (mX0_sortLetters F x0 x2).bind fun v2 => (obj v2 x0 0).bind fun _ => (mX0_countEndings v2 x0 x1).bind fun v7 => (gfR v7 x0 0 1).bind fun v11 => (gfR v7 x1 3 0).bind fun v15 => (rdI v7 0 v15 0).bind fun v19 => (rdI v7 0 v11 v19).bind fun v20 => (gfR v7 x0 0 3).bind fun v23 => (gfR v7 v23 3 0).bind fun v26 => (mJ7_fill_53178 v7 v26 0).bind fun v30 => (gfR v30 x0 0 0).bind fun v34 => (wrJ v30 v34 0 1).bind fun F39 => fX0_count_43  (fun (x0 : Nat) (x3 : Int32) (F : Mem) => (gfR F x0 0 0).bind fun v67 => (rdJ F v67 ((x3 - 1) * 8)).bind fun v76 => some (v76, F)) FU x0 x1 v20 1 F39
set_option maxRecDepth 100000 in
set_option maxHeartbeats 4000000 in
theorem cX0_count_ok {l : Launch} {D : va_G} {cy : Nat → ClassId} {F : Mem} {x0 : Nat} {x1 : Nat} {x2 : Nat} {res : Int64 × Mem} (h : mX0_count F x0 x1 x2 = some res) : ML l yX0_count cX0_count 5 (some .long) rmX0_count D cy F [.ref x0, .ref x1, .ref x2] res := by
  refine ml_of (by decide) (Nat.le_of_ble_eq_true rfl) [(0, .ref x0), (1, .ref x1), (2, .ref x2)] rfl (fun C X hcd Qr => ?_)
  unfold mX0_count at h
  refine wp_aload_n X dX0_count_0 0 rfl ?_
  refine wp_aload_n X dX0_count_1 2 rfl ?_
  refine wp_callVV X (rm := rmX0_sortLetters) (T := TX0) (N := 4) (ci := 0) (n := 1) [.ref x2] hcd (fun q hq => cX0_sortLetters_ok hq) kw745 kw747 ks14 kw7 kw748 (by decide +kernel) (by decide) (by decide) (cs2 := 0) (sl2 := 0) rfl rfl rfl (by decide) rfl rfl (Nat.le_of_ble_eq_true rfl) dX0_count_2 h (fun v2 h => ?_)
  refine wp_aload_n X dX0_count_5 0 rfl ?_
  refine wp_aload_n X dX0_count_6 1 rfl ?_
  refine wp_callVV X (rm := rmX0_countEndings) (T := TX0) (N := 4) (ci := 0) (n := 1) [.ref x1] hcd (fun q hq => cX0_countEndings_ok hq) kw749 kw751 ks15 kw7 kw752 (by decide +kernel) (by decide) (by decide) (cs2 := 0) (sl2 := 0) rfl rfl rfl (by decide) rfl rfl (Nat.le_of_ble_eq_true rfl) dX0_count_7 h (fun v7 h => ?_)
  refine wp_aload_n X dX0_count_10 0 rfl ?_
  refine wp_getR X (T := TX0) (N := 4) (ci := 0) (k := 1) rfl (by decide) (by decide) inBX0 kw121 dX0_count_11 h (fun v11 h => ?_)
  refine wp_aload_n X dX0_count_14 1 rfl ?_
  refine wp_getR X (T := TX4) (N := 1) (ci := 3) (k := 0) rfl (by decide) (by decide) inBX4 kw57 dX0_count_15 h (fun v15 h => ?_)
  refine wp_iconst X (v := 0) dX0_count_18 (by decide) ?_
  refine wp_iaload X dX0_count_19 h (fun v19 h => ?_)
  refine wp_iaload X dX0_count_20 h (fun v20 h => ?_)
  refine wp_istore_n X (lv' := [(0, .ref x0), (1, .ref x1), (3, .int v20)]) dX0_count_21 (by decide) [1, 2, 0] rfl ?_
  refine wp_aload_n X dX0_count_22 0 rfl ?_
  refine wp_getR X (T := TX0) (N := 4) (ci := 0) (k := 3) rfl (by decide) (by decide) inBX0 kw123 dX0_count_23 h (fun v23 h => ?_)
  refine wp_getR X (T := TX4) (N := 1) (ci := 3) (k := 0) rfl (by decide) (by decide) inBX4 kw57 dX0_count_26 h (fun v26 h => ?_)
  refine wp_iconst X (v := 0) dX0_count_29 (by decide) ?_
  refine wp_callSV X (rm := rmJ7_fill_53178) (n := 2) [.ref v26, .int 0] hcd (fun q hq => cJ7_fill_53178_ok hq) kw753 kw244 kw20 kw245 (by decide +kernel) (by decide) (by decide) (cs2 := 0) (sl2 := 0) rfl rfl rfl rfl (Nat.le_of_ble_eq_true rfl) dX0_count_30 h (fun v30 h => ?_)
  refine wp_aload_n X dX0_count_33 0 rfl ?_
  refine wp_getR X (T := TX0) (N := 4) (ci := 0) (k := 0) rfl (by decide) (by decide) inBX0 kw120 dX0_count_34 h (fun v34 h => ?_)
  refine wp_iconst X (v := 0) dX0_count_37 (by decide) ?_
  refine wp_lconst X (v := 1) dX0_count_38 (by decide) ?_
  refine wp_lastore X dX0_count_39 h (fun F39 h => ?_)
  refine wp_iconst X (v := 1) dX0_count_40 (by decide) ?_
  refine wp_istore X (lv' := [(0, .ref x0), (1, .ref x1), (3, .int v20), (4, .int 1)]) dX0_count_41 (by decide) [1, 2, 3, 0] rfl ?_
  refine tX0_count_43 X hcd Qr  ?_ FU _ _ _ _ _ h
  · intro x0 x3 F h
    refine wp_aload_n X dX0_count_66 0 rfl ?_
    refine wp_getR X (T := TX0) (N := 4) (ci := 0) (k := 0) rfl (by decide) (by decide) inBX0 kw120 dX0_count_67 h (fun v67 h => ?_)
    refine wp_iload_n X dX0_count_70 1 rfl ?_
    refine wp_iconst X (v := 1) dX0_count_71 (by decide) ?_
    refine wp_isub X dX0_count_72 ?_
    refine wp_bipush X (v := 8) dX0_count_73 (by decide) ?_
    refine wp_imul X dX0_count_75 ?_
    refine wp_laload X dX0_count_76 h (fun v76 h => ?_)
    exact wp_lreturn X Qr rfl dX0_count_77 h
/-! TableauBench$ProductCount.countFrom(I)J -/
def rmX2_countFrom (d : Nat) : Room := { frames := 0 + d, cells := 0, slots := 0, locals := 0 + 26 * d }
def fX2_countFrom_160 (rc : Mem → Nat → Int32 → Option (Int64 × Mem)) (K71 : Nat → Int32 → Int32 → Int64 → Int32 → Mem → Option (Int64 × Mem)) (x0 : Nat) (x1 : Int32) (x3 : Int32) (x4 : Int64) (x6 : Int32) (F : Mem) : Option (Int64 × Mem) := K71 x0 x1 x3 x4 (x6 + 1) F
set_option maxRecDepth 100000 in
set_option maxHeartbeats 4000000 in
theorem tX2_countFrom_160 {l : Launch} {D : va_G} {cy : Nat → ClassId} {C : Cx} {d : Nat} {rc : Mem → Nat → Int32 → Option (Int64 × Mem)} {res : Int64 × Mem} (X : Fx C cX2_countFrom RX2 (some .long) (rmX2_countFrom (d + 1)) 7) (hcd : CD C l D cy) (Qr : RJ C 0 0 res) (hrc : ∀ (F : Mem) (x0 : Nat) (x1 : Int32) (q : Int64 × Mem), rc F x0 x1 = some q → ML l yX2_countFrom cX2_countFrom 7 (some .long) (rmX2_countFrom d) D cy F [.ref x0, .int x1] q) {K71 : Nat → Int32 → Int32 → Int64 → Int32 → Mem → Option (Int64 × Mem)} (hK71 : ∀ (x0 : Nat) (x1 : Int32) (x3 : Int32) (x4 : Int64) (x6 : Int32) (F : Mem), K71 x0 x1 x3 x4 x6 F = some res → Wp C 0 0 71 [(0, .ref x0), (1, .int x1), (3, .int x3), (4, .long x4), (6, .int x6)] [] F) (x0 : Nat) (x1 : Int32) (x3 : Int32) (x4 : Int64) (x6 : Int32) (F : Mem) (h : fX2_countFrom_160 rc K71 x0 x1 x3 x4 x6 F = some res) : Wp C 0 0 160 [(0, .ref x0), (1, .int x1), (3, .int x3), (4, .long x4), (6, .int x6)] [] F := by
  unfold fX2_countFrom_160 at h
  refine wp_iinc X (v := x6 + 1) (lv' := [(0, .ref x0), (1, .int x1), (3, .int x3), (4, .long x4), (6, .int (x6 + 1))]) dX2_countFrom_160 (by decide) 4 rfl rfl [1, 2, 3, 4, 0] rfl ?_
  refine wp_goto X (tgt := 71) dX2_countFrom_163 (by decide) ?_
  exact hK71 _ _ _ _ _ _ h
def fX2_countFrom_71 (rc : Mem → Nat → Int32 → Option (Int64 × Mem))  : Nat → Nat → Int32 → Int32 → Int64 → Int32 → Mem → Option (Int64 × Mem)
  | 0, _, _, _, _, _, _ => none
  | n + 1, x0, x1, x3, x4, x6, F => if x3 < x6 then (some (x4, F)) else ((gfR F x0 2 3).bind fun v78 => (rdI F 0 v78 x6).bind fun v83 => (gfR F x0 2 4).bind fun v85 => (gfR F v85 3 0).bind fun v88 => (rdI F 0 v88 (x6 - 1)).bind fun v95 => if v95 ≤ v83 then (fX2_countFrom_160 rc (fX2_countFrom_71 rc  n) x0 x1 x3 x4 x6 F) else ((gfR F x0 2 3).bind fun v100 => (rdI F 0 v100 x6).bind fun v105 => (gfR F x0 2 3).bind fun v107 => (rdI F 0 v107 (x6 - 1)).bind fun v114 => if v114 ≤ v105 then (fX2_countFrom_160 rc (fX2_countFrom_71 rc  n) x0 x1 x3 x4 x6 F) else ((gfR F x0 2 0).bind fun v119 => (wrI F v119 x1 x6).bind fun F125 => (gfR F125 x0 2 3).bind fun v127 => (rdI F125 0 v127 x6).bind fun v133 => (wrI F125 v127 x6 (v133 + 1)).bind fun F136 => (obj F136 x0 2).bind fun _ => (rc F136 x0 (x1 + 1)).bind fun v143 => (gfR v143.2 x0 2 3).bind fun v150 => (rdI v143.2 0 v150 x6).bind fun v156 => (wrI v143.2 v150 x6 (v156 - 1)).bind fun F159 => fX2_countFrom_160 rc (fX2_countFrom_71 rc  n) x0 x1 x3 (x4 + v143.1) x6 F159)))
set_option maxRecDepth 100000 in
set_option maxHeartbeats 4000000 in
theorem tX2_countFrom_71 {l : Launch} {D : va_G} {cy : Nat → ClassId} {C : Cx} {d : Nat} {rc : Mem → Nat → Int32 → Option (Int64 × Mem)} {res : Int64 × Mem} (X : Fx C cX2_countFrom RX2 (some .long) (rmX2_countFrom (d + 1)) 7) (hcd : CD C l D cy) (Qr : RJ C 0 0 res) (hrc : ∀ (F : Mem) (x0 : Nat) (x1 : Int32) (q : Int64 × Mem), rc F x0 x1 = some q → ML l yX2_countFrom cX2_countFrom 7 (some .long) (rmX2_countFrom d) D cy F [.ref x0, .int x1] q)   : ∀ (n : Nat) (x0 : Nat) (x1 : Int32) (x3 : Int32) (x4 : Int64) (x6 : Int32) (F : Mem), fX2_countFrom_71 rc  n x0 x1 x3 x4 x6 F = some res → Wp C 0 0 71 [(0, .ref x0), (1, .int x1), (3, .int x3), (4, .long x4), (6, .int x6)] [] F := by
  intro n
  induction n with
  | zero =>
    intro x0 x1 x3 x4 x6 F h
    rw [fX2_countFrom_71.eq_1] at h
    cases h
  | succ n ih =>
    intro x0 x1 x3 x4 x6 F h
    rw [fX2_countFrom_71.eq_2] at h
    refine wp_iload X dX2_countFrom_71 4 rfl ?_
    refine wp_iload_n X dX2_countFrom_73 2 rfl ?_
    refine wp_icmp_gt X (tgt := 166) dX2_countFrom_74 (by decide) h (fun h => ?_) (fun h => ?_)
    · refine wp_lload X dX2_countFrom_166 3 rfl ?_
      exact wp_lreturn X Qr rfl dX2_countFrom_168 h
    · refine wp_aload_n X dX2_countFrom_77 0 rfl ?_
      refine wp_getR X (T := TX2) (N := 6) (ci := 2) (k := 3) rfl (by decide) (by decide) inBX2 kw146 dX2_countFrom_78 h (fun v78 h => ?_)
      refine wp_iload X dX2_countFrom_81 4 rfl ?_
      refine wp_iaload X dX2_countFrom_83 h (fun v83 h => ?_)
      refine wp_aload_n X dX2_countFrom_84 0 rfl ?_
      refine wp_getR X (T := TX2) (N := 6) (ci := 2) (k := 4) rfl (by decide) (by decide) inBX2 kw147 dX2_countFrom_85 h (fun v85 h => ?_)
      refine wp_getR X (T := TX4) (N := 1) (ci := 3) (k := 0) rfl (by decide) (by decide) inBX4 kw58 dX2_countFrom_88 h (fun v88 h => ?_)
      refine wp_iload X dX2_countFrom_91 4 rfl ?_
      refine wp_iconst X (v := 1) dX2_countFrom_93 (by decide) ?_
      refine wp_isub X dX2_countFrom_94 ?_
      refine wp_iaload X dX2_countFrom_95 h (fun v95 h => ?_)
      refine wp_icmp_ge X (tgt := 160) dX2_countFrom_96 (by decide) h (fun h => ?_) (fun h => ?_)
      · exact tX2_countFrom_160 X hcd Qr hrc ih _ _ _ _ _ _ h
      · refine wp_aload_n X dX2_countFrom_99 0 rfl ?_
        refine wp_getR X (T := TX2) (N := 6) (ci := 2) (k := 3) rfl (by decide) (by decide) inBX2 kw146 dX2_countFrom_100 h (fun v100 h => ?_)
        refine wp_iload X dX2_countFrom_103 4 rfl ?_
        refine wp_iaload X dX2_countFrom_105 h (fun v105 h => ?_)
        refine wp_aload_n X dX2_countFrom_106 0 rfl ?_
        refine wp_getR X (T := TX2) (N := 6) (ci := 2) (k := 3) rfl (by decide) (by decide) inBX2 kw146 dX2_countFrom_107 h (fun v107 h => ?_)
        refine wp_iload X dX2_countFrom_110 4 rfl ?_
        refine wp_iconst X (v := 1) dX2_countFrom_112 (by decide) ?_
        refine wp_isub X dX2_countFrom_113 ?_
        refine wp_iaload X dX2_countFrom_114 h (fun v114 h => ?_)
        refine wp_icmp_ge X (tgt := 160) dX2_countFrom_115 (by decide) h (fun h => ?_) (fun h => ?_)
        · exact tX2_countFrom_160 X hcd Qr hrc ih _ _ _ _ _ _ h
        · refine wp_aload_n X dX2_countFrom_118 0 rfl ?_
          refine wp_getR X (T := TX2) (N := 6) (ci := 2) (k := 0) rfl (by decide) (by decide) inBX2 kw143 dX2_countFrom_119 h (fun v119 h => ?_)
          refine wp_iload_n X dX2_countFrom_122 1 rfl ?_
          refine wp_iload X dX2_countFrom_123 4 rfl ?_
          refine wp_iastore X dX2_countFrom_125 h (fun F125 h => ?_)
          refine wp_aload_n X dX2_countFrom_126 0 rfl ?_
          refine wp_getR X (T := TX2) (N := 6) (ci := 2) (k := 3) rfl (by decide) (by decide) inBX2 kw146 dX2_countFrom_127 h (fun v127 h => ?_)
          refine wp_iload X dX2_countFrom_130 4 rfl ?_
          refine wp_dup2 X dX2_countFrom_132 rfl rfl ?_
          refine wp_iaload X dX2_countFrom_133 h (fun v133 h => ?_)
          refine wp_iconst X (v := 1) dX2_countFrom_134 (by decide) ?_
          refine wp_iadd X dX2_countFrom_135 ?_
          refine wp_iastore X dX2_countFrom_136 h (fun F136 h => ?_)
          refine wp_lload X dX2_countFrom_137 3 rfl ?_
          refine wp_aload_n X dX2_countFrom_139 0 rfl ?_
          refine wp_iload_n X dX2_countFrom_140 1 rfl ?_
          refine wp_iconst X (v := 1) dX2_countFrom_141 (by decide) ?_
          refine wp_iadd X dX2_countFrom_142 ?_
          refine wp_callVL X (rm := (rmX2_countFrom d)) (T := TX2) (N := 6) (ci := 2) (n := 1) [.int (x1 + 1)] hcd (fun q hq => hrc _ _ _ _ hq) kw777 kw779 ks18 kw8 kw780 (by decide +kernel) ⟨by simp only [rmX2_countFrom]; omega, by simp only [rmX2_countFrom]; omega⟩ ⟨by simp only [rmX2_countFrom]; omega, by simp only [rmX2_countFrom]; omega⟩ (cs2 := 0) (sl2 := 0) rfl rfl rfl (by decide) rfl rfl (Nat.le_of_ble_eq_true rfl) dX2_countFrom_143 h (fun v143 h => ?_)
          refine wp_ladd X dX2_countFrom_146 ?_
          refine wp_lstore X (lv' := [(0, .ref x0), (1, .int x1), (3, .int x3), (4, .long (x4 + v143.1)), (6, .int x6)]) dX2_countFrom_147 (by decide) [1, 2, 3, 0, 4] rfl ?_
          refine wp_aload_n X dX2_countFrom_149 0 rfl ?_
          refine wp_getR X (T := TX2) (N := 6) (ci := 2) (k := 3) rfl (by decide) (by decide) inBX2 kw146 dX2_countFrom_150 h (fun v150 h => ?_)
          refine wp_iload X dX2_countFrom_153 4 rfl ?_
          refine wp_dup2 X dX2_countFrom_155 rfl rfl ?_
          refine wp_iaload X dX2_countFrom_156 h (fun v156 h => ?_)
          refine wp_iconst X (v := 1) dX2_countFrom_157 (by decide) ?_
          refine wp_isub X dX2_countFrom_158 ?_
          refine wp_iastore X dX2_countFrom_159 h (fun F159 h => ?_)
          exact tX2_countFrom_160 X hcd Qr hrc ih _ _ _ _ _ _ h
def fX2_countFrom_64 (rc : Mem → Nat → Int32 → Option (Int64 × Mem))  (x0 : Nat) (x1 : Int32) (x2 : Int32) (s0 : Int32) (F : Mem) : Option (Int64 × Mem) := fX2_countFrom_71 rc  FU x0 x1 s0 0 x2 F
set_option maxRecDepth 100000 in
set_option maxHeartbeats 4000000 in
theorem tX2_countFrom_64 {l : Launch} {D : va_G} {cy : Nat → ClassId} {C : Cx} {d : Nat} {rc : Mem → Nat → Int32 → Option (Int64 × Mem)} {res : Int64 × Mem} (X : Fx C cX2_countFrom RX2 (some .long) (rmX2_countFrom (d + 1)) 7) (hcd : CD C l D cy) (Qr : RJ C 0 0 res) (hrc : ∀ (F : Mem) (x0 : Nat) (x1 : Int32) (q : Int64 × Mem), rc F x0 x1 = some q → ML l yX2_countFrom cX2_countFrom 7 (some .long) (rmX2_countFrom d) D cy F [.ref x0, .int x1] q)   (x0 : Nat) (x1 : Int32) (x2 : Int32) (s0 : Int32) (F : Mem) (h : fX2_countFrom_64 rc  x0 x1 x2 s0 F = some res) : Wp C 0 0 64 [(0, .ref x0), (1, .int x1), (2, .int x2)] [.int s0] F := by
  unfold fX2_countFrom_64 at h
  refine wp_istore_n X (lv' := [(0, .ref x0), (1, .int x1), (2, .int x2), (3, .int s0)]) dX2_countFrom_64 (by decide) [1, 2, 3, 0] rfl ?_
  refine wp_lconst X (v := 0) dX2_countFrom_65 (by decide) ?_
  refine wp_lstore X (lv' := [(0, .ref x0), (1, .int x1), (2, .int x2), (3, .int s0), (4, .long 0)]) dX2_countFrom_66 (by decide) [1, 2, 3, 4, 0] rfl ?_
  refine wp_iload_n X dX2_countFrom_68 2 rfl ?_
  refine wp_istore X (lv' := [(0, .ref x0), (1, .int x1), (3, .int s0), (4, .long 0), (6, .int x2)]) dX2_countFrom_69 (by decide) [1, 2, 4, 5, 0] rfl ?_
  refine tX2_countFrom_71 X hcd Qr hrc  FU _ _ _ _ _ _ h
def fX2_countFrom_37 (rc : Mem → Nat → Int32 → Option (Int64 × Mem))  (x0 : Nat) (x1 : Int32) (s0 : Int32) (F : Mem) : Option (Int64 × Mem) := (gfR F x0 2 2).bind fun v39 => (rdI F 0 v39 x1).bind fun v43 => if v43 = (-1) then (fX2_countFrom_64 rc  x0 x1 s0 8 F) else ((gfR F x0 2 0).bind fun v54 => (gfR F x0 2 2).bind fun v58 => (rdI F 0 v58 x1).bind fun v62 => (rdI F 0 v54 v62).bind fun v63 => fX2_countFrom_64 rc  x0 x1 s0 v63 F)
set_option maxRecDepth 100000 in
set_option maxHeartbeats 4000000 in
theorem tX2_countFrom_37 {l : Launch} {D : va_G} {cy : Nat → ClassId} {C : Cx} {d : Nat} {rc : Mem → Nat → Int32 → Option (Int64 × Mem)} {res : Int64 × Mem} (X : Fx C cX2_countFrom RX2 (some .long) (rmX2_countFrom (d + 1)) 7) (hcd : CD C l D cy) (Qr : RJ C 0 0 res) (hrc : ∀ (F : Mem) (x0 : Nat) (x1 : Int32) (q : Int64 × Mem), rc F x0 x1 = some q → ML l yX2_countFrom cX2_countFrom 7 (some .long) (rmX2_countFrom d) D cy F [.ref x0, .int x1] q)   (x0 : Nat) (x1 : Int32) (s0 : Int32) (F : Mem) (h : fX2_countFrom_37 rc  x0 x1 s0 F = some res) : Wp C 0 0 37 [(0, .ref x0), (1, .int x1)] [.int s0] F := by
  unfold fX2_countFrom_37 at h
  refine wp_istore_n X (lv' := [(0, .ref x0), (1, .int x1), (2, .int s0)]) dX2_countFrom_37 (by decide) [1, 2, 0] rfl ?_
  refine wp_aload_n X dX2_countFrom_38 0 rfl ?_
  refine wp_getR X (T := TX2) (N := 6) (ci := 2) (k := 2) rfl (by decide) (by decide) inBX2 kw145 dX2_countFrom_39 h (fun v39 h => ?_)
  refine wp_iload_n X dX2_countFrom_42 1 rfl ?_
  refine wp_iaload X dX2_countFrom_43 h (fun v43 h => ?_)
  refine wp_iconst X (v := -1) dX2_countFrom_44 (by decide) ?_
  refine wp_icmp_ne X (tgt := 53) dX2_countFrom_45 (by decide) h (fun h => ?_) (fun h => ?_)
  · refine wp_aload_n X dX2_countFrom_53 0 rfl ?_
    refine wp_getR X (T := TX2) (N := 6) (ci := 2) (k := 0) rfl (by decide) (by decide) inBX2 kw143 dX2_countFrom_54 h (fun v54 h => ?_)
    refine wp_aload_n X dX2_countFrom_57 0 rfl ?_
    refine wp_getR X (T := TX2) (N := 6) (ci := 2) (k := 2) rfl (by decide) (by decide) inBX2 kw145 dX2_countFrom_58 h (fun v58 h => ?_)
    refine wp_iload_n X dX2_countFrom_61 1 rfl ?_
    refine wp_iaload X dX2_countFrom_62 h (fun v62 h => ?_)
    refine wp_iaload X dX2_countFrom_63 h (fun v63 h => ?_)
    exact tX2_countFrom_64 X hcd Qr hrc  _ _ _ _ _ h
  · refine wp_bipush X (v := 8) dX2_countFrom_48 (by decide) ?_
    refine wp_goto X (tgt := 64) dX2_countFrom_50 (by decide) ?_
    exact tX2_countFrom_64 X hcd Qr hrc  _ _ _ _ _ h
def mX2_countFrom : Nat → Mem → Nat → Int32 → Option (Int64 × Mem)
  | 0, _, _, _ => none
  | d + 1, F, x0, x1 => (gfI F x0 2 5).bind fun v2 => if x1 < v2 then ((gfR F x0 2 1).bind fun v11 => (rdI F 0 v11 x1).bind fun v15 => if v15 = (-1) then (fX2_countFrom_37 (mX2_countFrom d)  x0 x1 1 F) else ((gfR F x0 2 0).bind fun v25 => (gfR F x0 2 1).bind fun v29 => (rdI F 0 v29 x1).bind fun v33 => (rdI F 0 v25 v33).bind fun v34 => fX2_countFrom_37 (mX2_countFrom d)  x0 x1 (v34 + 1) F)) else (some (1, F))
set_option maxRecDepth 100000 in
set_option maxHeartbeats 4000000 in
theorem cX2_countFrom_ok {l : Launch} {D : va_G} {cy : Nat → ClassId} : ∀ (d : Nat) {F : Mem} {x0 : Nat} {x1 : Int32} {res : Int64 × Mem} (_ : mX2_countFrom d F x0 x1 = some res), ML l yX2_countFrom cX2_countFrom 7 (some .long) (rmX2_countFrom d) D cy F [.ref x0, .int x1] res := by
  intro d
  induction d with
  | zero =>
    intro F x0 x1 res h
    rw [mX2_countFrom.eq_1] at h
    cases h
  | succ d ihd =>
    intro F x0 x1 res h
    rw [mX2_countFrom.eq_2] at h
    refine ml_of (by decide) (Nat.le_of_ble_eq_true rfl) [(0, .ref x0), (1, .int x1)] rfl (fun C X hcd Qr => ?_)
    refine wp_iload_n X dX2_countFrom_0 1 rfl ?_
    refine wp_aload_n X dX2_countFrom_1 0 rfl ?_
    refine wp_getI X (T := TX2) (N := 6) (ci := 2) (k := 5) rfl (by decide) (by decide) inBX2 kw148 dX2_countFrom_2 h (fun v2 h => ?_)
    refine wp_icmp_lt X (tgt := 10) dX2_countFrom_5 (by decide) h (fun h => ?_) (fun h => ?_)
    · refine wp_aload_n X dX2_countFrom_10 0 rfl ?_
      refine wp_getR X (T := TX2) (N := 6) (ci := 2) (k := 1) rfl (by decide) (by decide) inBX2 kw144 dX2_countFrom_11 h (fun v11 h => ?_)
      refine wp_iload_n X dX2_countFrom_14 1 rfl ?_
      refine wp_iaload X dX2_countFrom_15 h (fun v15 h => ?_)
      refine wp_iconst X (v := -1) dX2_countFrom_16 (by decide) ?_
      refine wp_icmp_ne X (tgt := 24) dX2_countFrom_17 (by decide) h (fun h => ?_) (fun h => ?_)
      · refine wp_aload_n X dX2_countFrom_24 0 rfl ?_
        refine wp_getR X (T := TX2) (N := 6) (ci := 2) (k := 0) rfl (by decide) (by decide) inBX2 kw143 dX2_countFrom_25 h (fun v25 h => ?_)
        refine wp_aload_n X dX2_countFrom_28 0 rfl ?_
        refine wp_getR X (T := TX2) (N := 6) (ci := 2) (k := 1) rfl (by decide) (by decide) inBX2 kw144 dX2_countFrom_29 h (fun v29 h => ?_)
        refine wp_iload_n X dX2_countFrom_32 1 rfl ?_
        refine wp_iaload X dX2_countFrom_33 h (fun v33 h => ?_)
        refine wp_iaload X dX2_countFrom_34 h (fun v34 h => ?_)
        refine wp_iconst X (v := 1) dX2_countFrom_35 (by decide) ?_
        refine wp_iadd X dX2_countFrom_36 ?_
        exact tX2_countFrom_37 X hcd Qr (fun F x0 x1 q => ihd (F := F) (x0 := x0) (x1 := x1) (res := q))  _ _ _ _ h
      · refine wp_iconst X (v := 1) dX2_countFrom_20 (by decide) ?_
        refine wp_goto X (tgt := 37) dX2_countFrom_21 (by decide) ?_
        exact tX2_countFrom_37 X hcd Qr (fun F x0 x1 q => ihd (F := F) (x0 := x0) (x1 := x1) (res := q))  _ _ _ _ h
    · refine wp_lconst X (v := 1) dX2_countFrom_8 (by decide) ?_
      exact wp_lreturn X Qr rfl dX2_countFrom_9 h
/-! TableauBench$ProductCount.count(LTableauBench$Shape;LTableauBench$Shape;LTableauBench$Shape;)J -/
def rmX2_count : Room := { frames := 31, cells := 0, slots := 0, locals := 806 }
def fX2_count_143 (K43 : Nat → Nat → Nat → Int32 → Int32 → Int32 → Int32 → Mem → Option (Int64 × Mem)) (K160 : Nat → Nat → Nat → Int32 → Int32 → Mem → Option (Int64 × Mem)) (x0 : Nat) (x1 : Nat) (x3 : Nat) (x4 : Int32) (x5 : Int32) (x6 : Int32) (x7 : Int32) (s0 : Nat) (s1 : Int32) (s2 : Int32) (F : Mem) : Option (Int64 × Mem) := (wrI F s0 s1 s2).bind fun F143 => (gfI F143 x0 2 5).bind fun v146 => (pf F143 x0 2 5 (.int (v146 + 1))).bind fun F151 => K43 x0 x1 x3 x4 x5 x6 (x7 + (-1)) F151
set_option maxRecDepth 100000 in
set_option maxHeartbeats 4000000 in
theorem tX2_count_143 {l : Launch} {D : va_G} {cy : Nat → ClassId} {C : Cx} {res : Int64 × Mem} (X : Fx C cX2_count RX2 (some .long) rmX2_count 9) (hcd : CD C l D cy) (Qr : RJ C 0 0 res) {K43 : Nat → Nat → Nat → Int32 → Int32 → Int32 → Int32 → Mem → Option (Int64 × Mem)} {K160 : Nat → Nat → Nat → Int32 → Int32 → Mem → Option (Int64 × Mem)} (hK43 : ∀ (x0 : Nat) (x1 : Nat) (x3 : Nat) (x4 : Int32) (x5 : Int32) (x6 : Int32) (x7 : Int32) (F : Mem), K43 x0 x1 x3 x4 x5 x6 x7 F = some res → Wp C 0 0 43 [(0, .ref x0), (1, .ref x1), (3, .ref x3), (4, .int x4), (5, .int x5), (6, .int x6), (7, .int x7)] [] F) (hK160 : ∀ (x0 : Nat) (x1 : Nat) (x3 : Nat) (x5 : Int32) (x6 : Int32) (F : Mem), K160 x0 x1 x3 x5 x6 F = some res → Wp C 0 0 160 [(0, .ref x0), (1, .ref x1), (3, .ref x3), (5, .int x5), (6, .int x6)] [] F) (x0 : Nat) (x1 : Nat) (x3 : Nat) (x4 : Int32) (x5 : Int32) (x6 : Int32) (x7 : Int32) (s0 : Nat) (s1 : Int32) (s2 : Int32) (F : Mem) (h : fX2_count_143 K43 K160 x0 x1 x3 x4 x5 x6 x7 s0 s1 s2 F = some res) : Wp C 0 0 143 [(0, .ref x0), (1, .ref x1), (3, .ref x3), (4, .int x4), (5, .int x5), (6, .int x6), (7, .int x7)] [.int s2, .int s1, .ref s0] F := by
  unfold fX2_count_143 at h
  refine wp_iastore X dX2_count_143 h (fun F143 h => ?_)
  refine wp_aload_n X dX2_count_144 0 rfl ?_
  refine wp_dup X dX2_count_145 rfl ?_
  refine wp_getI X (T := TX2) (N := 6) (ci := 2) (k := 5) rfl (by decide) (by decide) inBX2 kw148 dX2_count_146 h (fun v146 h => ?_)
  refine wp_iconst X (v := 1) dX2_count_149 (by decide) ?_
  refine wp_iadd X dX2_count_150 ?_
  refine wp_put X (T := TX2) (N := 6) (ci := 2) (k := 5) tyX2 rfl (by decide) (by decide) inBX2 kw148 tyX2_ok nmX2 rfl rfl (vp_nar_int _) rfl dX2_count_151 h (fun F151 h => ?_)
  refine wp_iinc X (v := x7 + (-1)) (lv' := [(0, .ref x0), (1, .ref x1), (3, .ref x3), (4, .int x4), (5, .int x5), (6, .int x6), (7, .int (x7 + (-1)))]) dX2_count_154 (by decide) 6 rfl rfl [1, 2, 3, 4, 5, 6, 0] rfl ?_
  refine wp_goto X (tgt := 43) dX2_count_157 (by decide) ?_
  exact hK43 _ _ _ _ _ _ _ _ h
def fX2_count_115 (K43 : Nat → Nat → Nat → Int32 → Int32 → Int32 → Int32 → Mem → Option (Int64 × Mem)) (K160 : Nat → Nat → Nat → Int32 → Int32 → Mem → Option (Int64 × Mem)) (x0 : Nat) (x1 : Nat) (x3 : Nat) (x4 : Int32) (x5 : Int32) (x6 : Int32) (x7 : Int32) (s0 : Nat) (s1 : Int32) (s2 : Int32) (F : Mem) : Option (Int64 × Mem) := (wrI F s0 s1 s2).bind fun F115 => (gfR F115 x0 2 2).bind fun v117 => (gfI F115 x0 2 5).bind fun v121 => (gfI F115 x0 2 5).bind fun v125 => if v125 ≤ x6 then (fX2_count_143  K43 K160 x0 x1 x3 x4 x5 x6 x7 v117 v121 (-1) F115) else ((gfI F115 x0 2 5).bind fun v134 => fX2_count_143  K43 K160 x0 x1 x3 x4 x5 x6 x7 v117 v121 (v134 - 1) F115)
set_option maxRecDepth 100000 in
set_option maxHeartbeats 4000000 in
theorem tX2_count_115 {l : Launch} {D : va_G} {cy : Nat → ClassId} {C : Cx} {res : Int64 × Mem} (X : Fx C cX2_count RX2 (some .long) rmX2_count 9) (hcd : CD C l D cy) (Qr : RJ C 0 0 res) {K43 : Nat → Nat → Nat → Int32 → Int32 → Int32 → Int32 → Mem → Option (Int64 × Mem)} {K160 : Nat → Nat → Nat → Int32 → Int32 → Mem → Option (Int64 × Mem)} (hK43 : ∀ (x0 : Nat) (x1 : Nat) (x3 : Nat) (x4 : Int32) (x5 : Int32) (x6 : Int32) (x7 : Int32) (F : Mem), K43 x0 x1 x3 x4 x5 x6 x7 F = some res → Wp C 0 0 43 [(0, .ref x0), (1, .ref x1), (3, .ref x3), (4, .int x4), (5, .int x5), (6, .int x6), (7, .int x7)] [] F) (hK160 : ∀ (x0 : Nat) (x1 : Nat) (x3 : Nat) (x5 : Int32) (x6 : Int32) (F : Mem), K160 x0 x1 x3 x5 x6 F = some res → Wp C 0 0 160 [(0, .ref x0), (1, .ref x1), (3, .ref x3), (5, .int x5), (6, .int x6)] [] F) (x0 : Nat) (x1 : Nat) (x3 : Nat) (x4 : Int32) (x5 : Int32) (x6 : Int32) (x7 : Int32) (s0 : Nat) (s1 : Int32) (s2 : Int32) (F : Mem) (h : fX2_count_115 K43 K160 x0 x1 x3 x4 x5 x6 x7 s0 s1 s2 F = some res) : Wp C 0 0 115 [(0, .ref x0), (1, .ref x1), (3, .ref x3), (4, .int x4), (5, .int x5), (6, .int x6), (7, .int x7)] [.int s2, .int s1, .ref s0] F := by
  unfold fX2_count_115 at h
  refine wp_iastore X dX2_count_115 h (fun F115 h => ?_)
  refine wp_aload_n X dX2_count_116 0 rfl ?_
  refine wp_getR X (T := TX2) (N := 6) (ci := 2) (k := 2) rfl (by decide) (by decide) inBX2 kw145 dX2_count_117 h (fun v117 h => ?_)
  refine wp_aload_n X dX2_count_120 0 rfl ?_
  refine wp_getI X (T := TX2) (N := 6) (ci := 2) (k := 5) rfl (by decide) (by decide) inBX2 kw148 dX2_count_121 h (fun v121 h => ?_)
  refine wp_aload_n X dX2_count_124 0 rfl ?_
  refine wp_getI X (T := TX2) (N := 6) (ci := 2) (k := 5) rfl (by decide) (by decide) inBX2 kw148 dX2_count_125 h (fun v125 h => ?_)
  refine wp_iload X dX2_count_128 5 rfl ?_
  refine wp_icmp_le X (tgt := 142) dX2_count_130 (by decide) h (fun h => ?_) (fun h => ?_)
  · refine wp_iconst X (v := -1) dX2_count_142 (by decide) ?_
    exact tX2_count_143 X hcd Qr  hK43 hK160 _ _ _ _ _ _ _ _ _ _ _ h
  · refine wp_aload_n X dX2_count_133 0 rfl ?_
    refine wp_getI X (T := TX2) (N := 6) (ci := 2) (k := 5) rfl (by decide) (by decide) inBX2 kw148 dX2_count_134 h (fun v134 h => ?_)
    refine wp_iconst X (v := 1) dX2_count_137 (by decide) ?_
    refine wp_isub X dX2_count_138 ?_
    refine wp_goto X (tgt := 143) dX2_count_139 (by decide) ?_
    exact tX2_count_143 X hcd Qr  hK43 hK160 _ _ _ _ _ _ _ _ _ _ _ h
def fX2_count_79 (K43 : Nat → Nat → Nat → Int32 → Int32 → Int32 → Int32 → Mem → Option (Int64 × Mem)) (K160 : Nat → Nat → Nat → Int32 → Int32 → Mem → Option (Int64 × Mem)) (x0 : Nat) (x1 : Nat) (x3 : Nat) (x4 : Int32) (x5 : Int32) (x6 : Int32) (x7 : Int32) (s0 : Int32) (F : Mem) : Option (Int64 × Mem) := (gfR F x0 2 1).bind fun v82 => (gfI F x0 2 5).bind fun v86 => if s0 = 0 then (fX2_count_115  K43 K160 x0 x1 x3 x4 x5 x6 x7 v82 v86 (-1) F) else ((gfR F x3 3 0).bind fun v97 => (rdI F 0 v97 (x5 - 1)).bind fun v104 => fX2_count_115  K43 K160 x0 x1 x3 x4 x5 x6 x7 v82 v86 (((x4 + v104) - 1) - x7) F)
set_option maxRecDepth 100000 in
set_option maxHeartbeats 4000000 in
theorem tX2_count_79 {l : Launch} {D : va_G} {cy : Nat → ClassId} {C : Cx} {res : Int64 × Mem} (X : Fx C cX2_count RX2 (some .long) rmX2_count 9) (hcd : CD C l D cy) (Qr : RJ C 0 0 res) {K43 : Nat → Nat → Nat → Int32 → Int32 → Int32 → Int32 → Mem → Option (Int64 × Mem)} {K160 : Nat → Nat → Nat → Int32 → Int32 → Mem → Option (Int64 × Mem)} (hK43 : ∀ (x0 : Nat) (x1 : Nat) (x3 : Nat) (x4 : Int32) (x5 : Int32) (x6 : Int32) (x7 : Int32) (F : Mem), K43 x0 x1 x3 x4 x5 x6 x7 F = some res → Wp C 0 0 43 [(0, .ref x0), (1, .ref x1), (3, .ref x3), (4, .int x4), (5, .int x5), (6, .int x6), (7, .int x7)] [] F) (hK160 : ∀ (x0 : Nat) (x1 : Nat) (x3 : Nat) (x5 : Int32) (x6 : Int32) (F : Mem), K160 x0 x1 x3 x5 x6 F = some res → Wp C 0 0 160 [(0, .ref x0), (1, .ref x1), (3, .ref x3), (5, .int x5), (6, .int x6)] [] F) (x0 : Nat) (x1 : Nat) (x3 : Nat) (x4 : Int32) (x5 : Int32) (x6 : Int32) (x7 : Int32) (s0 : Int32) (F : Mem) (h : fX2_count_79 K43 K160 x0 x1 x3 x4 x5 x6 x7 s0 F = some res) : Wp C 0 0 79 [(0, .ref x0), (1, .ref x1), (3, .ref x3), (4, .int x4), (5, .int x5), (6, .int x6), (7, .int x7)] [.int s0] F := by
  unfold fX2_count_79 at h
  refine wp_istore X (lv' := [(0, .ref x0), (1, .ref x1), (3, .ref x3), (4, .int x4), (5, .int x5), (6, .int x6), (7, .int x7), (8, .int s0)]) dX2_count_79 (by decide) [1, 2, 3, 4, 5, 6, 7, 0] rfl ?_
  refine wp_aload_n X dX2_count_81 0 rfl ?_
  refine wp_getR X (T := TX2) (N := 6) (ci := 2) (k := 1) rfl (by decide) (by decide) inBX2 kw144 dX2_count_82 h (fun v82 h => ?_)
  refine wp_aload_n X dX2_count_85 0 rfl ?_
  refine wp_getI X (T := TX2) (N := 6) (ci := 2) (k := 5) rfl (by decide) (by decide) inBX2 kw148 dX2_count_86 h (fun v86 h => ?_)
  refine wp_iload X dX2_count_89 7 rfl ?_
  refine wp_if_eq X (tgt := 114) dX2_count_91 (by decide) h (fun h => ?_) (fun h => ?_)
  · refine wp_iconst X (v := -1) dX2_count_114 (by decide) ?_
    refine wp_sub (lv' := [(0, .ref x0), (1, .ref x1), (3, .ref x3), (4, .int x4), (5, .int x5), (6, .int x6), (7, .int x7)]) [0, 1, 2, 3, 4, 5, 6] rfl ?_
    exact tX2_count_115 X hcd Qr  hK43 hK160 _ _ _ _ _ _ _ _ _ _ _ h
  · refine wp_iload X dX2_count_94 3 rfl ?_
    refine wp_aload_n X dX2_count_96 2 rfl ?_
    refine wp_getR X (T := TX4) (N := 1) (ci := 3) (k := 0) rfl (by decide) (by decide) inBX4 kw58 dX2_count_97 h (fun v97 h => ?_)
    refine wp_iload X dX2_count_100 4 rfl ?_
    refine wp_iconst X (v := 1) dX2_count_102 (by decide) ?_
    refine wp_isub X dX2_count_103 ?_
    refine wp_iaload X dX2_count_104 h (fun v104 h => ?_)
    refine wp_iadd X dX2_count_105 ?_
    refine wp_iconst X (v := 1) dX2_count_106 (by decide) ?_
    refine wp_isub X dX2_count_107 ?_
    refine wp_iload X dX2_count_108 6 rfl ?_
    refine wp_isub X dX2_count_110 ?_
    refine wp_goto X (tgt := 115) dX2_count_111 (by decide) ?_
    refine wp_sub (lv' := [(0, .ref x0), (1, .ref x1), (3, .ref x3), (4, .int x4), (5, .int x5), (6, .int x6), (7, .int x7)]) [0, 1, 2, 3, 4, 5, 6] rfl ?_
    exact tX2_count_115 X hcd Qr  hK43 hK160 _ _ _ _ _ _ _ _ _ _ _ h
def fX2_count_43 (K160 : Nat → Nat → Nat → Int32 → Int32 → Mem → Option (Int64 × Mem)) : Nat → Nat → Nat → Nat → Int32 → Int32 → Int32 → Int32 → Mem → Option (Int64 × Mem)
  | 0, _, _, _, _, _, _, _, _ => none
  | n + 1, x0, x1, x3, x4, x5, x6, x7, F => (gfR F x1 3 0).bind fun v46 => (rdI F 0 v46 x5).bind fun v51 => if x7 < v51 then (K160 x0 x1 x3 x5 x6 F) else (if x5 ≤ 0 then (fX2_count_79  (fX2_count_43  K160 n) K160 x0 x1 x3 x4 x5 x6 x7 0 F) else ((gfR F x1 3 0).bind fun v63 => (rdI F 0 v63 (x5 - 1)).bind fun v70 => if x7 < v70 then (fX2_count_79  (fX2_count_43  K160 n) K160 x0 x1 x3 x4 x5 x6 x7 0 F) else (fX2_count_79  (fX2_count_43  K160 n) K160 x0 x1 x3 x4 x5 x6 x7 1 F)))
set_option maxRecDepth 100000 in
set_option maxHeartbeats 4000000 in
theorem tX2_count_43 {l : Launch} {D : va_G} {cy : Nat → ClassId} {C : Cx} {res : Int64 × Mem} (X : Fx C cX2_count RX2 (some .long) rmX2_count 9) (hcd : CD C l D cy) (Qr : RJ C 0 0 res) {K160 : Nat → Nat → Nat → Int32 → Int32 → Mem → Option (Int64 × Mem)} (hK160 : ∀ (x0 : Nat) (x1 : Nat) (x3 : Nat) (x5 : Int32) (x6 : Int32) (F : Mem), K160 x0 x1 x3 x5 x6 F = some res → Wp C 0 0 160 [(0, .ref x0), (1, .ref x1), (3, .ref x3), (5, .int x5), (6, .int x6)] [] F) : ∀ (n : Nat) (x0 : Nat) (x1 : Nat) (x3 : Nat) (x4 : Int32) (x5 : Int32) (x6 : Int32) (x7 : Int32) (F : Mem), fX2_count_43 K160 n x0 x1 x3 x4 x5 x6 x7 F = some res → Wp C 0 0 43 [(0, .ref x0), (1, .ref x1), (3, .ref x3), (4, .int x4), (5, .int x5), (6, .int x6), (7, .int x7)] [] F := by
  intro n
  induction n with
  | zero =>
    intro x0 x1 x3 x4 x5 x6 x7 F h
    rw [fX2_count_43.eq_1] at h
    cases h
  | succ n ih =>
    intro x0 x1 x3 x4 x5 x6 x7 F h
    rw [fX2_count_43.eq_2] at h
    refine wp_iload X dX2_count_43 6 rfl ?_
    refine wp_aload_n X dX2_count_45 1 rfl ?_
    refine wp_getR X (T := TX4) (N := 1) (ci := 3) (k := 0) rfl (by decide) (by decide) inBX4 kw58 dX2_count_46 h (fun v46 h => ?_)
    refine wp_iload X dX2_count_49 4 rfl ?_
    refine wp_iaload X dX2_count_51 h (fun v51 h => ?_)
    refine wp_icmp_lt X (tgt := 160) dX2_count_52 (by decide) h (fun h => ?_) (fun h => ?_)
    · refine wp_sub (lv' := [(0, .ref x0), (1, .ref x1), (3, .ref x3), (5, .int x5), (6, .int x6)]) [0, 1, 2, 4, 5] rfl ?_
      exact hK160 _ _ _ _ _ _ h
    · refine wp_iload X dX2_count_55 4 rfl ?_
      refine wp_if_le X (tgt := 78) dX2_count_57 (by decide) h (fun h => ?_) (fun h => ?_)
      · refine wp_iconst X (v := 0) dX2_count_78 (by decide) ?_
        exact tX2_count_79 X hcd Qr  ih hK160 _ _ _ _ _ _ _ _ _ h
      · refine wp_iload X dX2_count_60 6 rfl ?_
        refine wp_aload_n X dX2_count_62 1 rfl ?_
        refine wp_getR X (T := TX4) (N := 1) (ci := 3) (k := 0) rfl (by decide) (by decide) inBX4 kw58 dX2_count_63 h (fun v63 h => ?_)
        refine wp_iload X dX2_count_66 4 rfl ?_
        refine wp_iconst X (v := 1) dX2_count_68 (by decide) ?_
        refine wp_isub X dX2_count_69 ?_
        refine wp_iaload X dX2_count_70 h (fun v70 h => ?_)
        refine wp_icmp_lt X (tgt := 78) dX2_count_71 (by decide) h (fun h => ?_) (fun h => ?_)
        · refine wp_iconst X (v := 0) dX2_count_78 (by decide) ?_
          exact tX2_count_79 X hcd Qr  ih hK160 _ _ _ _ _ _ _ _ _ h
        · refine wp_iconst X (v := 1) dX2_count_74 (by decide) ?_
          refine wp_goto X (tgt := 79) dX2_count_75 (by decide) ?_
          exact tX2_count_79 X hcd Qr  ih hK160 _ _ _ _ _ _ _ _ _ h
def fX2_count_19 (K170 : Nat → Mem → Option (Int64 × Mem)) : Nat → Nat → Nat → Nat → Int32 → Int32 → Mem → Option (Int64 × Mem)
  | 0, _, _, _, _, _, _ => none
  | n + 1, x0, x1, x3, x4, x5, F => if 8 ≤ x5 then (K170 x0 F) else ((gfI F x0 2 5).bind fun v27 => (gfR F x3 3 0).bind fun v33 => (rdI F 0 v33 x5).bind fun v38 => fX2_count_43  (fun (x0 : Nat) (x1 : Nat) (x3 : Nat) (x5 : Int32) (x6 : Int32) (F : Mem) => (fX2_count_19  K170 n) x0 x1 x3 x6 (x5 + 1) F) FU x0 x1 x3 x4 x5 v27 (v38 - 1) F)
set_option maxRecDepth 100000 in
set_option maxHeartbeats 4000000 in
theorem tX2_count_19 {l : Launch} {D : va_G} {cy : Nat → ClassId} {C : Cx} {res : Int64 × Mem} (X : Fx C cX2_count RX2 (some .long) rmX2_count 9) (hcd : CD C l D cy) (Qr : RJ C 0 0 res) {K170 : Nat → Mem → Option (Int64 × Mem)} (hK170 : ∀ (x0 : Nat) (F : Mem), K170 x0 F = some res → Wp C 0 0 170 [(0, .ref x0)] [] F) : ∀ (n : Nat) (x0 : Nat) (x1 : Nat) (x3 : Nat) (x4 : Int32) (x5 : Int32) (F : Mem), fX2_count_19 K170 n x0 x1 x3 x4 x5 F = some res → Wp C 0 0 19 [(0, .ref x0), (1, .ref x1), (3, .ref x3), (4, .int x4), (5, .int x5)] [] F := by
  intro n
  induction n with
  | zero =>
    intro x0 x1 x3 x4 x5 F h
    rw [fX2_count_19.eq_1] at h
    cases h
  | succ n ih =>
    intro x0 x1 x3 x4 x5 F h
    rw [fX2_count_19.eq_2] at h
    refine wp_iload X dX2_count_19 4 rfl ?_
    refine wp_bipush X (v := 8) dX2_count_21 (by decide) ?_
    refine wp_icmp_ge X (tgt := 170) dX2_count_23 (by decide) h (fun h => ?_) (fun h => ?_)
    · refine wp_sub (lv' := [(0, .ref x0)]) [0] rfl ?_
      exact hK170 _ _ h
    · refine wp_aload_n X dX2_count_26 0 rfl ?_
      refine wp_getI X (T := TX2) (N := 6) (ci := 2) (k := 5) rfl (by decide) (by decide) inBX2 kw148 dX2_count_27 h (fun v27 h => ?_)
      refine wp_istore X (lv' := [(0, .ref x0), (1, .ref x1), (3, .ref x3), (4, .int x4), (5, .int x5), (6, .int v27)]) dX2_count_30 (by decide) [1, 2, 3, 4, 5, 0] rfl ?_
      refine wp_aload_n X dX2_count_32 2 rfl ?_
      refine wp_getR X (T := TX4) (N := 1) (ci := 3) (k := 0) rfl (by decide) (by decide) inBX4 kw58 dX2_count_33 h (fun v33 h => ?_)
      refine wp_iload X dX2_count_36 4 rfl ?_
      refine wp_iaload X dX2_count_38 h (fun v38 h => ?_)
      refine wp_iconst X (v := 1) dX2_count_39 (by decide) ?_
      refine wp_isub X dX2_count_40 ?_
      refine wp_istore X (lv' := [(0, .ref x0), (1, .ref x1), (3, .ref x3), (4, .int x4), (5, .int x5), (6, .int v27), (7, .int (v38 - 1))]) dX2_count_41 (by decide) [1, 2, 3, 4, 5, 6, 0] rfl ?_
      refine tX2_count_43 X hcd Qr  ?_ FU _ _ _ _ _ _ _ _ h
      · intro x0 x1 x3 x5 x6 F h
        refine wp_iload X dX2_count_160 4 rfl ?_
        refine wp_istore X (lv' := [(0, .ref x0), (1, .ref x1), (3, .ref x3), (4, .int x6), (5, .int x5)]) dX2_count_162 (by decide) [1, 2, 3, 0, 4] rfl ?_
        refine wp_iinc X (v := x5 + 1) (lv' := [(0, .ref x0), (1, .ref x1), (3, .ref x3), (4, .int x6), (5, .int (x5 + 1))]) dX2_count_164 (by decide) 4 rfl rfl [1, 2, 3, 4, 0] rfl ?_
        refine wp_goto X (tgt := 19) dX2_count_167 (by decide) ?_
        exact ih _ _ _ _ _ _ h
def mX2_count (F : Mem) (x0 : Nat) (x1 : Nat) (x2 : Nat) (x3 : Nat) : Option (Int64 × Mem) := (gfR F x0 2 4).bind fun v1 => (obj F v1 3).bind fun _ => (mX4_copyFrom F v1 x2).bind fun v5 => (pf v5 x0 2 5 (.int 0)).bind fun F10 => fX2_count_19  (fun (x0 : Nat) (F : Mem) => (gfR F x0 2 3).bind fun v171 => (mJ7_fill_53178 F v171 0).bind fun v175 => (gfR v175 x0 2 3).bind fun v179 => (wrI v175 v179 0 24).bind fun F185 => (obj F185 x0 2).bind fun _ => (mX2_countFrom 30 F185 x0 0).bind fun v188 => some (v188.1, v188.2)) FU x0 x1 x3 0 0 F10
set_option maxRecDepth 100000 in
set_option maxHeartbeats 4000000 in
theorem cX2_count_ok {l : Launch} {D : va_G} {cy : Nat → ClassId} {F : Mem} {x0 : Nat} {x1 : Nat} {x2 : Nat} {x3 : Nat} {res : Int64 × Mem} (h : mX2_count F x0 x1 x2 x3 = some res) : ML l yX2_count cX2_count 9 (some .long) rmX2_count D cy F [.ref x0, .ref x1, .ref x2, .ref x3] res := by
  refine ml_of (by decide) (Nat.le_of_ble_eq_true rfl) [(0, .ref x0), (1, .ref x1), (2, .ref x2), (3, .ref x3)] rfl (fun C X hcd Qr => ?_)
  unfold mX2_count at h
  refine wp_aload_n X dX2_count_0 0 rfl ?_
  refine wp_getR X (T := TX2) (N := 6) (ci := 2) (k := 4) rfl (by decide) (by decide) inBX2 kw147 dX2_count_1 h (fun v1 h => ?_)
  refine wp_aload_n X dX2_count_4 2 rfl ?_
  refine wp_callVV X (rm := rmX4_copyFrom) (T := TX4) (N := 1) (ci := 3) (n := 1) [.ref x2] hcd (fun q hq => cX4_copyFrom_ok hq) kw775 kw370 kw371 kw3 kw372 (by decide +kernel) (by decide) (by decide) (cs2 := 0) (sl2 := 0) rfl rfl rfl (by decide) rfl rfl (Nat.le_of_ble_eq_true rfl) dX2_count_5 h (fun v5 h => ?_)
  refine wp_aload_n X dX2_count_8 0 rfl ?_
  refine wp_iconst X (v := 0) dX2_count_9 (by decide) ?_
  refine wp_put X (T := TX2) (N := 6) (ci := 2) (k := 5) tyX2 rfl (by decide) (by decide) inBX2 kw148 tyX2_ok nmX2 rfl rfl (vp_nar_int _) rfl dX2_count_10 h (fun F10 h => ?_)
  refine wp_iconst X (v := 0) dX2_count_13 (by decide) ?_
  refine wp_istore X (lv' := [(0, .ref x0), (1, .ref x1), (3, .ref x3), (4, .int 0)]) dX2_count_14 (by decide) [1, 2, 4, 0] rfl ?_
  refine wp_iconst X (v := 0) dX2_count_16 (by decide) ?_
  refine wp_istore X (lv' := [(0, .ref x0), (1, .ref x1), (3, .ref x3), (4, .int 0), (5, .int 0)]) dX2_count_17 (by decide) [1, 2, 3, 4, 0] rfl ?_
  refine tX2_count_19 X hcd Qr  ?_ FU _ _ _ _ _ _ h
  · intro x0 F h
    refine wp_aload_n X dX2_count_170 0 rfl ?_
    refine wp_getR X (T := TX2) (N := 6) (ci := 2) (k := 3) rfl (by decide) (by decide) inBX2 kw146 dX2_count_171 h (fun v171 h => ?_)
    refine wp_iconst X (v := 0) dX2_count_174 (by decide) ?_
    refine wp_callSV X (rm := rmJ7_fill_53178) (n := 2) [.ref v171, .int 0] hcd (fun q hq => cJ7_fill_53178_ok hq) kw776 kw244 kw20 kw245 (by decide +kernel) (by decide) (by decide) (cs2 := 0) (sl2 := 0) rfl rfl rfl rfl (Nat.le_of_ble_eq_true rfl) dX2_count_175 h (fun v175 h => ?_)
    refine wp_aload_n X dX2_count_178 0 rfl ?_
    refine wp_getR X (T := TX2) (N := 6) (ci := 2) (k := 3) rfl (by decide) (by decide) inBX2 kw146 dX2_count_179 h (fun v179 h => ?_)
    refine wp_iconst X (v := 0) dX2_count_182 (by decide) ?_
    refine wp_bipush X (v := 24) dX2_count_183 (by decide) ?_
    refine wp_iastore X dX2_count_185 h (fun F185 h => ?_)
    refine wp_aload_n X dX2_count_186 0 rfl ?_
    refine wp_iconst X (v := 0) dX2_count_187 (by decide) ?_
    refine wp_callVL X (rm := (rmX2_countFrom 30)) (T := TX2) (N := 6) (ci := 2) (n := 1) [.int 0] hcd (fun q hq => cX2_countFrom_ok 30 hq) kw777 kw779 ks18 kw8 kw780 (by decide +kernel) (by decide) (by decide) (cs2 := 0) (sl2 := 0) rfl rfl rfl (by decide) rfl rfl (Nat.le_of_ble_eq_true rfl) dX2_count_188 h (fun v188 h => ?_)
    exact wp_lreturn X Qr rfl dX2_count_191 h
/-! TableauBench$RimHooks.beadsOf(LTableauBench$Shape;)I -/
def rmX3_beadsOf : Room := { frames := 0, cells := 0, slots := 0, locals := 0 }
def fX3_beadsOf_4  : Nat → Nat → Int32 → Int32 → Mem → Option (Int32 × Mem)
  | 0, _, _, _, _ => none
  | n + 1, x0, x1, x2, F => if 8 ≤ x2 then (some (x1, F)) else ((gfR F x0 3 0).bind fun v13 => (rdI F 0 v13 x2).bind fun v17 => (fX3_beadsOf_4   n) x0 (x1 ||| (1 <<< ((((v17 + 8) - 1) - x2) &&& 31))) (x2 + 1) F)
set_option maxRecDepth 100000 in
set_option maxHeartbeats 4000000 in
theorem tX3_beadsOf_4 {l : Launch} {D : va_G} {cy : Nat → ClassId} {C : Cx} {res : Int32 × Mem} (X : Fx C cX3_beadsOf RX3 (some .int) rmX3_beadsOf 3) (hcd : CD C l D cy) (Qr : RI C 0 0 res)   : ∀ (n : Nat) (x0 : Nat) (x1 : Int32) (x2 : Int32) (F : Mem), fX3_beadsOf_4  n x0 x1 x2 F = some res → Wp C 0 0 4 [(0, .ref x0), (1, .int x1), (2, .int x2)] [] F := by
  intro n
  induction n with
  | zero =>
    intro x0 x1 x2 F h
    rw [fX3_beadsOf_4.eq_1] at h
    cases h
  | succ n ih =>
    intro x0 x1 x2 F h
    rw [fX3_beadsOf_4.eq_2] at h
    refine wp_iload_n X dX3_beadsOf_4 2 rfl ?_
    refine wp_bipush X (v := 8) dX3_beadsOf_5 (by decide) ?_
    refine wp_icmp_ge X (tgt := 34) dX3_beadsOf_7 (by decide) h (fun h => ?_) (fun h => ?_)
    · refine wp_iload_n X dX3_beadsOf_34 1 rfl ?_
      exact wp_ireturn X Qr rfl (vp_nar_int _) dX3_beadsOf_35 h
    · refine wp_iload_n X dX3_beadsOf_10 1 rfl ?_
      refine wp_iconst X (v := 1) dX3_beadsOf_11 (by decide) ?_
      refine wp_aload_n X dX3_beadsOf_12 0 rfl ?_
      refine wp_getR X (T := TX4) (N := 1) (ci := 3) (k := 0) rfl (by decide) (by decide) inBX4 kw60 dX3_beadsOf_13 h (fun v13 h => ?_)
      refine wp_iload_n X dX3_beadsOf_16 2 rfl ?_
      refine wp_iaload X dX3_beadsOf_17 h (fun v17 h => ?_)
      refine wp_bipush X (v := 8) dX3_beadsOf_18 (by decide) ?_
      refine wp_iadd X dX3_beadsOf_20 ?_
      refine wp_iconst X (v := 1) dX3_beadsOf_21 (by decide) ?_
      refine wp_isub X dX3_beadsOf_22 ?_
      refine wp_iload_n X dX3_beadsOf_23 2 rfl ?_
      refine wp_isub X dX3_beadsOf_24 ?_
      refine wp_ishl X dX3_beadsOf_25 ?_
      refine wp_ior X dX3_beadsOf_26 ?_
      refine wp_istore_n X (lv' := [(0, .ref x0), (1, .int (x1 ||| (1 <<< ((((v17 + 8) - 1) - x2) &&& 31)))), (2, .int x2)]) dX3_beadsOf_27 (by decide) [1, 0, 2] rfl ?_
      refine wp_iinc X (v := x2 + 1) (lv' := [(0, .ref x0), (1, .int (x1 ||| (1 <<< ((((v17 + 8) - 1) - x2) &&& 31)))), (2, .int (x2 + 1))]) dX3_beadsOf_28 (by decide) 2 rfl rfl [1, 2, 0] rfl ?_
      refine wp_goto X (tgt := 4) dX3_beadsOf_31 (by decide) ?_
      exact ih _ _ _ _ h
def mX3_beadsOf (F : Mem) (x0 : Nat) : Option (Int32 × Mem) := fX3_beadsOf_4   FU x0 0 0 F
set_option maxRecDepth 100000 in
set_option maxHeartbeats 4000000 in
theorem cX3_beadsOf_ok {l : Launch} {D : va_G} {cy : Nat → ClassId} {F : Mem} {x0 : Nat} {res : Int32 × Mem} (h : mX3_beadsOf F x0 = some res) : MI l yX3_beadsOf cX3_beadsOf 3 (some .int) rmX3_beadsOf D cy F [.ref x0] res := by
  refine mi_of (by decide) (Nat.le_of_ble_eq_true rfl) [(0, .ref x0)] rfl (fun C X hcd Qr => ?_)
  unfold mX3_beadsOf at h
  refine wp_iconst X (v := 0) dX3_beadsOf_0 (by decide) ?_
  refine wp_istore_n X (lv' := [(0, .ref x0), (1, .int 0)]) dX3_beadsOf_1 (by decide) [1, 0] rfl ?_
  refine wp_iconst X (v := 0) dX3_beadsOf_2 (by decide) ?_
  refine wp_istore_n X (lv' := [(0, .ref x0), (1, .int 0), (2, .int 0)]) dX3_beadsOf_3 (by decide) [1, 2, 0] rfl ?_
  refine tX3_beadsOf_4 X hcd Qr   FU _ _ _ _ h
/-! TableauBench$RimHooks.sumFrom(IILTableauBench$Shape;)J -/
def rmX3_sumFrom (d : Nat) : Room := { frames := 1 + d, cells := 0, slots := 0, locals := 21 + 31 * d }
def fX3_sumFrom_101 (rc : Mem → Int32 → Int32 → Nat → Option (Int64 × Mem)) (K18 : Int32 → Int32 → Nat → Int32 → Int64 → Int32 → Mem → Option (Int64 × Mem)) (x0 : Int32) (x1 : Int32) (x2 : Nat) (x3 : Int32) (x4 : Int64) (x6 : Int32) (F : Mem) : Option (Int64 × Mem) := K18 x0 x1 x2 x3 x4 (x6 + 1) F
set_option maxRecDepth 100000 in
set_option maxHeartbeats 4000000 in
theorem tX3_sumFrom_101 {l : Launch} {D : va_G} {cy : Nat → ClassId} {C : Cx} {d : Nat} {rc : Mem → Int32 → Int32 → Nat → Option (Int64 × Mem)} {res : Int64 × Mem} (X : Fx C cX3_sumFrom RX3 (some .long) (rmX3_sumFrom (d + 1)) 12) (hcd : CD C l D cy) (Qr : RJ C 0 0 res) (hrc : ∀ (F : Mem) (x0 : Int32) (x1 : Int32) (x2 : Nat) (q : Int64 × Mem), rc F x0 x1 x2 = some q → ML l yX3_sumFrom cX3_sumFrom 12 (some .long) (rmX3_sumFrom d) D cy F [.int x0, .int x1, .ref x2] q) {K18 : Int32 → Int32 → Nat → Int32 → Int64 → Int32 → Mem → Option (Int64 × Mem)} (hK18 : ∀ (x0 : Int32) (x1 : Int32) (x2 : Nat) (x3 : Int32) (x4 : Int64) (x6 : Int32) (F : Mem), K18 x0 x1 x2 x3 x4 x6 F = some res → Wp C 0 0 18 [(0, .int x0), (1, .int x1), (2, .ref x2), (3, .int x3), (4, .long x4), (6, .int x6)] [] F) (x0 : Int32) (x1 : Int32) (x2 : Nat) (x3 : Int32) (x4 : Int64) (x6 : Int32) (F : Mem) (h : fX3_sumFrom_101 rc K18 x0 x1 x2 x3 x4 x6 F = some res) : Wp C 0 0 101 [(0, .int x0), (1, .int x1), (2, .ref x2), (3, .int x3), (4, .long x4), (6, .int x6)] [] F := by
  unfold fX3_sumFrom_101 at h
  refine wp_iinc X (v := x6 + 1) (lv' := [(0, .int x0), (1, .int x1), (2, .ref x2), (3, .int x3), (4, .long x4), (6, .int (x6 + 1))]) dX3_sumFrom_101 (by decide) 5 rfl rfl [1, 2, 3, 4, 5, 0] rfl ?_
  refine wp_goto X (tgt := 18) dX3_sumFrom_104 (by decide) ?_
  exact hK18 _ _ _ _ _ _ _ h
def fX3_sumFrom_98 (rc : Mem → Int32 → Int32 → Nat → Option (Int64 × Mem)) (K18 : Int32 → Int32 → Nat → Int32 → Int64 → Int32 → Mem → Option (Int64 × Mem)) (x0 : Int32) (x1 : Int32) (x2 : Nat) (x3 : Int32) (x6 : Int32) (s0 : Int64) (s1 : Int64) (F : Mem) : Option (Int64 × Mem) := fX3_sumFrom_101 rc K18 x0 x1 x2 x3 (s0 + s1) x6 F
set_option maxRecDepth 100000 in
set_option maxHeartbeats 4000000 in
theorem tX3_sumFrom_98 {l : Launch} {D : va_G} {cy : Nat → ClassId} {C : Cx} {d : Nat} {rc : Mem → Int32 → Int32 → Nat → Option (Int64 × Mem)} {res : Int64 × Mem} (X : Fx C cX3_sumFrom RX3 (some .long) (rmX3_sumFrom (d + 1)) 12) (hcd : CD C l D cy) (Qr : RJ C 0 0 res) (hrc : ∀ (F : Mem) (x0 : Int32) (x1 : Int32) (x2 : Nat) (q : Int64 × Mem), rc F x0 x1 x2 = some q → ML l yX3_sumFrom cX3_sumFrom 12 (some .long) (rmX3_sumFrom d) D cy F [.int x0, .int x1, .ref x2] q) {K18 : Int32 → Int32 → Nat → Int32 → Int64 → Int32 → Mem → Option (Int64 × Mem)} (hK18 : ∀ (x0 : Int32) (x1 : Int32) (x2 : Nat) (x3 : Int32) (x4 : Int64) (x6 : Int32) (F : Mem), K18 x0 x1 x2 x3 x4 x6 F = some res → Wp C 0 0 18 [(0, .int x0), (1, .int x1), (2, .ref x2), (3, .int x3), (4, .long x4), (6, .int x6)] [] F) (x0 : Int32) (x1 : Int32) (x2 : Nat) (x3 : Int32) (x6 : Int32) (s0 : Int64) (s1 : Int64) (F : Mem) (h : fX3_sumFrom_98 rc K18 x0 x1 x2 x3 x6 s0 s1 F = some res) : Wp C 0 0 98 [(0, .int x0), (1, .int x1), (2, .ref x2), (3, .int x3), (6, .int x6)] [.long s1, .long s0] F := by
  unfold fX3_sumFrom_98 at h
  refine wp_ladd X dX3_sumFrom_98 ?_
  refine wp_lstore X (lv' := [(0, .int x0), (1, .int x1), (2, .ref x2), (3, .int x3), (4, .long (s0 + s1)), (6, .int x6)]) dX3_sumFrom_99 (by decide) [1, 2, 3, 4, 0, 5] rfl ?_
  exact tX3_sumFrom_101 X hcd Qr hrc hK18 _ _ _ _ _ _ _ h
def fX3_sumFrom_18 (rc : Mem → Int32 → Int32 → Nat → Option (Int64 × Mem))  : Nat → Int32 → Int32 → Nat → Int32 → Int64 → Int32 → Mem → Option (Int64 × Mem)
  | 0, _, _, _, _, _, _, _ => none
  | n + 1, x0, x1, x2, x3, x4, x6, F => if 22 ≤ x6 then (some (x4, F)) else (if (x1 &&& (1 <<< (x6 &&& 31))) = 0 then (fX3_sumFrom_101 rc (fX3_sumFrom_18 rc  n) x0 x1 x2 x3 x4 x6 F) else (if (x1 &&& (1 <<< ((x6 - x3) &&& 31))) = 0 then ((mJ6_bitCount_0f7a4 F (x1 &&& ((1 <<< (x6 &&& 31)) - (1 <<< ((x6 - x3) &&& 31))))).bind fun v60 => (rc v60.2 (x0 + 1) ((x1 - (1 <<< (x6 &&& 31))) + (1 <<< ((x6 - x3) &&& 31))) x2).bind fun v76 => (irem0 v60.1 2).bind fun v86 => if v86 = 0 then (fX3_sumFrom_98 rc (fX3_sumFrom_18 rc  n) x0 x1 x2 x3 x6 x4 v76.1 v76.2) else (fX3_sumFrom_98 rc (fX3_sumFrom_18 rc  n) x0 x1 x2 x3 x6 x4 (-v76.1) v76.2)) else (fX3_sumFrom_101 rc (fX3_sumFrom_18 rc  n) x0 x1 x2 x3 x4 x6 F)))
set_option maxRecDepth 100000 in
set_option maxHeartbeats 4000000 in
theorem tX3_sumFrom_18 {l : Launch} {D : va_G} {cy : Nat → ClassId} {C : Cx} {d : Nat} {rc : Mem → Int32 → Int32 → Nat → Option (Int64 × Mem)} {res : Int64 × Mem} (X : Fx C cX3_sumFrom RX3 (some .long) (rmX3_sumFrom (d + 1)) 12) (hcd : CD C l D cy) (Qr : RJ C 0 0 res) (hrc : ∀ (F : Mem) (x0 : Int32) (x1 : Int32) (x2 : Nat) (q : Int64 × Mem), rc F x0 x1 x2 = some q → ML l yX3_sumFrom cX3_sumFrom 12 (some .long) (rmX3_sumFrom d) D cy F [.int x0, .int x1, .ref x2] q)   : ∀ (n : Nat) (x0 : Int32) (x1 : Int32) (x2 : Nat) (x3 : Int32) (x4 : Int64) (x6 : Int32) (F : Mem), fX3_sumFrom_18 rc  n x0 x1 x2 x3 x4 x6 F = some res → Wp C 0 0 18 [(0, .int x0), (1, .int x1), (2, .ref x2), (3, .int x3), (4, .long x4), (6, .int x6)] [] F := by
  intro n
  induction n with
  | zero =>
    intro x0 x1 x2 x3 x4 x6 F h
    rw [fX3_sumFrom_18.eq_1] at h
    cases h
  | succ n ih =>
    intro x0 x1 x2 x3 x4 x6 F h
    rw [fX3_sumFrom_18.eq_2] at h
    refine wp_iload X dX3_sumFrom_18 5 rfl ?_
    refine wp_bipush X (v := 22) dX3_sumFrom_20 (by decide) ?_
    refine wp_icmp_ge X (tgt := 107) dX3_sumFrom_22 (by decide) h (fun h => ?_) (fun h => ?_)
    · refine wp_lload X dX3_sumFrom_107 4 rfl ?_
      exact wp_lreturn X Qr rfl dX3_sumFrom_109 h
    · refine wp_iconst X (v := 1) dX3_sumFrom_25 (by decide) ?_
      refine wp_iload X dX3_sumFrom_26 5 rfl ?_
      refine wp_ishl X dX3_sumFrom_28 ?_
      refine wp_istore X (lv' := [(0, .int x0), (1, .int x1), (2, .ref x2), (3, .int x3), (4, .long x4), (6, .int x6), (7, .int (1 <<< (x6 &&& 31)))]) dX3_sumFrom_29 (by decide) [1, 2, 3, 4, 5, 6, 0] rfl ?_
      refine wp_iconst X (v := 1) dX3_sumFrom_31 (by decide) ?_
      refine wp_iload X dX3_sumFrom_32 5 rfl ?_
      refine wp_iload_n X dX3_sumFrom_34 3 rfl ?_
      refine wp_isub X dX3_sumFrom_35 ?_
      refine wp_ishl X dX3_sumFrom_36 ?_
      refine wp_istore X (lv' := [(0, .int x0), (1, .int x1), (2, .ref x2), (3, .int x3), (4, .long x4), (6, .int x6), (7, .int (1 <<< (x6 &&& 31))), (8, .int (1 <<< ((x6 - x3) &&& 31)))]) dX3_sumFrom_37 (by decide) [1, 2, 3, 4, 5, 6, 7, 0] rfl ?_
      refine wp_iload_n X dX3_sumFrom_39 1 rfl ?_
      refine wp_iload X dX3_sumFrom_40 6 rfl ?_
      refine wp_iand X dX3_sumFrom_42 ?_
      refine wp_if_eq X (tgt := 101) dX3_sumFrom_43 (by decide) h (fun h => ?_) (fun h => ?_)
      · refine wp_sub (lv' := [(0, .int x0), (1, .int x1), (2, .ref x2), (3, .int x3), (4, .long x4), (6, .int x6)]) [0, 1, 2, 3, 4, 5] rfl ?_
        exact tX3_sumFrom_101 X hcd Qr hrc ih _ _ _ _ _ _ _ h
      · refine wp_iload_n X dX3_sumFrom_46 1 rfl ?_
        refine wp_iload X dX3_sumFrom_47 7 rfl ?_
        refine wp_iand X dX3_sumFrom_49 ?_
        refine wp_if_ne X (tgt := 101) dX3_sumFrom_50 (by decide) h (fun h => ?_) (fun h => ?_)
        · refine wp_sub (lv' := [(0, .int x0), (1, .int x1), (2, .ref x2), (3, .int x3), (4, .long x4), (6, .int x6)]) [0, 1, 2, 3, 4, 5] rfl ?_
          exact tX3_sumFrom_101 X hcd Qr hrc ih _ _ _ _ _ _ _ h
        · refine wp_iload_n X dX3_sumFrom_53 1 rfl ?_
          refine wp_iload X dX3_sumFrom_54 6 rfl ?_
          refine wp_iload X dX3_sumFrom_56 7 rfl ?_
          refine wp_isub X dX3_sumFrom_58 ?_
          refine wp_iand X dX3_sumFrom_59 ?_
          refine wp_callSI X (rm := rmJ6_bitCount_0f7a4) (n := 1) [.int (x1 &&& ((1 <<< (x6 &&& 31)) - (1 <<< ((x6 - x3) &&& 31))))] hcd (fun q hq => cJ6_bitCount_0f7a4_ok hq) kw800 kw801 kw23 kw802 (by decide +kernel) ⟨by simp only [rmJ6_bitCount_0f7a4, rmX3_sumFrom]; omega, by simp only [rmJ6_bitCount_0f7a4, rmX3_sumFrom]; omega⟩ ⟨by simp only [rmJ6_bitCount_0f7a4, rmX3_sumFrom]; omega, by simp only [rmJ6_bitCount_0f7a4, rmX3_sumFrom]; omega⟩ (cs2 := 0) (sl2 := 0) rfl rfl rfl rfl (Nat.le_of_ble_eq_true rfl) dX3_sumFrom_60 h (fun v60 h => ?_)
          refine wp_istore X (lv' := [(0, .int x0), (1, .int x1), (2, .ref x2), (3, .int x3), (4, .long x4), (6, .int x6), (7, .int (1 <<< (x6 &&& 31))), (8, .int (1 <<< ((x6 - x3) &&& 31))), (9, .int v60.1)]) dX3_sumFrom_63 (by decide) [1, 2, 3, 4, 5, 6, 7, 8, 0] rfl ?_
          refine wp_iload_n X dX3_sumFrom_65 0 rfl ?_
          refine wp_iconst X (v := 1) dX3_sumFrom_66 (by decide) ?_
          refine wp_iadd X dX3_sumFrom_67 ?_
          refine wp_iload_n X dX3_sumFrom_68 1 rfl ?_
          refine wp_iload X dX3_sumFrom_69 6 rfl ?_
          refine wp_isub X dX3_sumFrom_71 ?_
          refine wp_iload X dX3_sumFrom_72 7 rfl ?_
          refine wp_iadd X dX3_sumFrom_74 ?_
          refine wp_aload_n X dX3_sumFrom_75 2 rfl ?_
          refine wp_callSL X (rm := (rmX3_sumFrom d)) (n := 3) [.int (x0 + 1), .int ((x1 - (1 <<< (x6 &&& 31))) + (1 <<< ((x6 - x3) &&& 31))), .ref x2] hcd (fun q hq => hrc _ _ _ _ _ hq) kw796 kw797 kw22 kw798 (by decide +kernel) ⟨by simp only [rmX3_sumFrom]; omega, by simp only [rmX3_sumFrom]; omega⟩ ⟨by simp only [rmX3_sumFrom]; omega, by simp only [rmX3_sumFrom]; omega⟩ (cs2 := 0) (sl2 := 0) rfl rfl rfl rfl (Nat.le_of_ble_eq_true rfl) dX3_sumFrom_76 h (fun v76 h => ?_)
          refine wp_lstore X (lv' := [(0, .int x0), (1, .int x1), (2, .ref x2), (3, .int x3), (4, .long x4), (6, .int x6), (9, .int v60.1), (10, .long v76.1)]) dX3_sumFrom_79 (by decide) [1, 2, 3, 4, 5, 6, 9, 0] rfl ?_
          refine wp_lload X dX3_sumFrom_81 4 rfl ?_
          refine wp_iload X dX3_sumFrom_83 6 rfl ?_
          refine wp_iconst X (v := 2) dX3_sumFrom_85 (by decide) ?_
          refine wp_irem X dX3_sumFrom_86 h (fun v86 h => ?_)
          refine wp_if_ne X (tgt := 95) dX3_sumFrom_87 (by decide) h (fun h => ?_) (fun h => ?_)
          · refine wp_lload X dX3_sumFrom_95 7 rfl ?_
            refine wp_lneg X dX3_sumFrom_97 ?_
            refine wp_sub (lv' := [(0, .int x0), (1, .int x1), (2, .ref x2), (3, .int x3), (6, .int x6)]) [0, 1, 2, 3, 5] rfl ?_
            exact tX3_sumFrom_98 X hcd Qr hrc ih _ _ _ _ _ _ _ _ h
          · refine wp_lload X dX3_sumFrom_90 7 rfl ?_
            refine wp_goto X (tgt := 98) dX3_sumFrom_92 (by decide) ?_
            refine wp_sub (lv' := [(0, .int x0), (1, .int x1), (2, .ref x2), (3, .int x3), (6, .int x6)]) [0, 1, 2, 3, 5] rfl ?_
            exact tX3_sumFrom_98 X hcd Qr hrc ih _ _ _ _ _ _ _ _ h
def mX3_sumFrom : Nat → Mem → Int32 → Int32 → Nat → Option (Int64 × Mem)
  | 0, _, _, _, _ => none
  | d + 1, F, x0, x1, x2 => (obj F x2 3).bind fun _ => (mX4_rowLength F x2 x0).bind fun v2 => if v2.1 = 0 then (some (1, v2.2)) else (fX3_sumFrom_18 (mX3_sumFrom d)  FU x0 x1 x2 v2.1 0 v2.1 v2.2)
set_option maxRecDepth 100000 in
set_option maxHeartbeats 4000000 in
theorem cX3_sumFrom_ok {l : Launch} {D : va_G} {cy : Nat → ClassId} : ∀ (d : Nat) {F : Mem} {x0 : Int32} {x1 : Int32} {x2 : Nat} {res : Int64 × Mem} (_ : mX3_sumFrom d F x0 x1 x2 = some res), ML l yX3_sumFrom cX3_sumFrom 12 (some .long) (rmX3_sumFrom d) D cy F [.int x0, .int x1, .ref x2] res := by
  intro d
  induction d with
  | zero =>
    intro F x0 x1 x2 res h
    rw [mX3_sumFrom.eq_1] at h
    cases h
  | succ d ihd =>
    intro F x0 x1 x2 res h
    rw [mX3_sumFrom.eq_2] at h
    refine ml_of (by decide) (Nat.le_of_ble_eq_true rfl) [(0, .int x0), (1, .int x1), (2, .ref x2)] rfl (fun C X hcd Qr => ?_)
    refine wp_aload_n X dX3_sumFrom_0 2 rfl ?_
    refine wp_iload_n X dX3_sumFrom_1 0 rfl ?_
    refine wp_callVI X (rm := rmX4_rowLength) (T := TX4) (N := 1) (ci := 3) (n := 1) [.int x0] hcd (fun q hq => cX4_rowLength_ok hq) kw799 kw384 kw385 kw3 kw386 (by decide +kernel) ⟨by simp only [rmX4_rowLength, rmX3_sumFrom]; omega, by simp only [rmX4_rowLength, rmX3_sumFrom]; omega⟩ ⟨by simp only [rmX4_rowLength, rmX3_sumFrom]; omega, by simp only [rmX4_rowLength, rmX3_sumFrom]; omega⟩ (cs2 := 0) (sl2 := 0) rfl rfl rfl (by decide) rfl rfl (Nat.le_of_ble_eq_true rfl) dX3_sumFrom_2 h (fun v2 h => ?_)
    refine wp_istore_n X (lv' := [(0, .int x0), (1, .int x1), (2, .ref x2), (3, .int v2.1)]) dX3_sumFrom_5 (by decide) [1, 2, 3, 0] rfl ?_
    refine wp_iload_n X dX3_sumFrom_6 3 rfl ?_
    refine wp_if_ne X (tgt := 12) dX3_sumFrom_7 (by decide) h (fun h => ?_) (fun h => ?_)
    · refine wp_lconst X (v := 0) dX3_sumFrom_12 (by decide) ?_
      refine wp_lstore X (lv' := [(0, .int x0), (1, .int x1), (2, .ref x2), (3, .int v2.1), (4, .long 0)]) dX3_sumFrom_13 (by decide) [1, 2, 3, 4, 0] rfl ?_
      refine wp_iload_n X dX3_sumFrom_15 3 rfl ?_
      refine wp_istore X (lv' := [(0, .int x0), (1, .int x1), (2, .ref x2), (3, .int v2.1), (4, .long 0), (6, .int v2.1)]) dX3_sumFrom_16 (by decide) [1, 2, 3, 4, 5, 0] rfl ?_
      refine tX3_sumFrom_18 X hcd Qr (fun F x0 x1 x2 q => ihd (F := F) (x0 := x0) (x1 := x1) (x2 := x2) (res := q))  FU _ _ _ _ _ _ _ h
    · refine wp_lconst X (v := 1) dX3_sumFrom_10 (by decide) ?_
      exact wp_lreturn X Qr rfl dX3_sumFrom_11 h
/-! TableauBench$RimHooks.characterOf(LTableauBench$Shape;LTableauBench$Shape;)J -/
def rmX3_characterOf : Room := { frames := 32, cells := 0, slots := 0, locals := 982 }
def mX3_characterOf (F : Mem) (x0 : Nat) (x1 : Nat) : Option (Int64 × Mem) := (mX3_beadsOf F x0).bind fun v2 => (mX3_sumFrom 30 v2.2 0 v2.1 x1).bind fun v6 => some (v6.1, v6.2)
set_option maxRecDepth 100000 in
set_option maxHeartbeats 4000000 in
theorem cX3_characterOf_ok {l : Launch} {D : va_G} {cy : Nat → ClassId} {F : Mem} {x0 : Nat} {x1 : Nat} {res : Int64 × Mem} (h : mX3_characterOf F x0 x1 = some res) : ML l yX3_characterOf cX3_characterOf 2 (some .long) rmX3_characterOf D cy F [.ref x0, .ref x1] res := by
  refine ml_of (by decide) (Nat.le_of_ble_eq_true rfl) [(0, .ref x0), (1, .ref x1)] rfl (fun C X hcd Qr => ?_)
  unfold mX3_characterOf at h
  refine wp_iconst X (v := 0) dX3_characterOf_0 (by decide) ?_
  refine wp_aload_n X dX3_characterOf_1 0 rfl ?_
  refine wp_callSI X (rm := rmX3_beadsOf) (n := 1) [.ref x0] hcd (fun q hq => cX3_beadsOf_ok hq) kw793 kw794 kw22 kw795 (by decide +kernel) (by decide) (by decide) (cs2 := 0) (sl2 := 0) rfl rfl rfl rfl (Nat.le_of_ble_eq_true rfl) dX3_characterOf_2 h (fun v2 h => ?_)
  refine wp_aload_n X dX3_characterOf_5 1 rfl ?_
  refine wp_callSL X (rm := (rmX3_sumFrom 30)) (n := 3) [.int 0, .int v2.1, .ref x1] hcd (fun q hq => cX3_sumFrom_ok 30 hq) kw796 kw797 kw22 kw798 (by decide +kernel) (by decide) (by decide) (cs2 := 0) (sl2 := 0) rfl rfl rfl rfl (Nat.le_of_ble_eq_true rfl) dX3_characterOf_6 h (fun v6 h => ?_)
  exact wp_lreturn X Qr rfl dX3_characterOf_9 h
