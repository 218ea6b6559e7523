/-! java/util/Arrays.fill([II)V -/
def rmJ7_fill_53178 : Room := { frames := 0, cells := 0, slots := 0, locals := 0 }
def fJ7_fill_53178_5  : Nat → Nat → Int32 → Int32 → Int32 → Mem → Option (Mem)
  | 0, _, _, _, _, _ => none
  | n + 1, x0, x1, x2, x3, F => if x3 ≤ x2 then (some F) else ((wrI F x0 x2 x1).bind fun F13 => (fJ7_fill_53178_5   n) x0 x1 (x2 + 1) x3 F13)
set_option maxRecDepth 100000 in
set_option maxHeartbeats 4000000 in
theorem tJ7_fill_53178_5 {l : Launch} {D : va_G} {cy : Nat → ClassId} {C : Cx} {res : Mem} (X : Fx C cJ7_fill_53178 RJ7 none rmJ7_fill_53178 4) (hcd : CD C l D cy) (Qr : RV C 0 0 res)   : ∀ (n : Nat) (x0 : Nat) (x1 : Int32) (x2 : Int32) (x3 : Int32) (F : Mem), fJ7_fill_53178_5  n x0 x1 x2 x3 F = some res → Wp C 0 0 5 [(0, .ref x0), (1, .int x1), (2, .int x2), (3, .int x3)] [] F := by
  intro n
  induction n with
  | zero =>
    intro x0 x1 x2 x3 F h
    rw [fJ7_fill_53178_5.eq_1] at h
    cases h
  | succ n ih =>
    intro x0 x1 x2 x3 F h
    rw [fJ7_fill_53178_5.eq_2] at h
    refine wp_iload_n X dJ7_fill_53178_5 2 rfl ?_
    refine wp_iload_n X dJ7_fill_53178_6 3 rfl ?_
    refine wp_icmp_ge X (tgt := 20) dJ7_fill_53178_7 (by decide) h (fun h => ?_) (fun h => ?_)
    · exact wp_return X Qr rfl dJ7_fill_53178_20 h
    · refine wp_aload_n X dJ7_fill_53178_10 0 rfl ?_
      refine wp_iload_n X dJ7_fill_53178_11 2 rfl ?_
      refine wp_iload_n X dJ7_fill_53178_12 1 rfl ?_
      refine wp_iastore X dJ7_fill_53178_13 h (fun F13 h => ?_)
      refine wp_iinc X (v := x2 + 1) (lv' := [(0, .ref x0), (1, .int x1), (2, .int (x2 + 1)), (3, .int x3)]) dJ7_fill_53178_14 (by decide) 2 rfl rfl [1, 2, 0, 3] rfl ?_
      refine wp_goto X (tgt := 5) dJ7_fill_53178_17 (by decide) ?_
      exact ih _ _ _ _ _ h
def mJ7_fill_53178 (F : Mem) (x0 : Nat) (x1 : Int32) : Option (Mem) := (alI F 0 x0).bind fun v3 => fJ7_fill_53178_5   FU x0 x1 0 v3 F
set_option maxRecDepth 100000 in
set_option maxHeartbeats 4000000 in
theorem cJ7_fill_53178_ok {l : Launch} {D : va_G} {cy : Nat → ClassId} {F : Mem} {x0 : Nat} {x1 : Int32} {res : Mem} (h : mJ7_fill_53178 F x0 x1 = some res) : MV l yJ7_fill_53178 cJ7_fill_53178 4 none rmJ7_fill_53178 D cy F [.ref x0, .int x1] res := by
  refine mv_of (by decide) (Nat.le_of_ble_eq_true rfl) [(0, .ref x0), (1, .int x1)] rfl (fun C X hcd Qr => ?_)
  unfold mJ7_fill_53178 at h
  refine wp_iconst X (v := 0) dJ7_fill_53178_0 (by decide) ?_
  refine wp_istore_n X (lv' := [(0, .ref x0), (1, .int x1), (2, .int 0)]) dJ7_fill_53178_1 (by decide) [1, 2, 0] rfl ?_
  refine wp_aload_n X dJ7_fill_53178_2 0 rfl ?_
  refine wp_alen X 0 (fun _ => rfl) dJ7_fill_53178_3 h (fun v3 h => ?_)
  refine wp_istore_n X (lv' := [(0, .ref x0), (1, .int x1), (2, .int 0), (3, .int v3)]) dJ7_fill_53178_4 (by decide) [1, 2, 3, 0] rfl ?_
  refine tJ7_fill_53178_5 X hcd Qr   FU _ _ _ _ _ h
/-! java/lang/Integer.bitCount(I)I -/
def rmJ6_bitCount_0f7a4 : Room := { frames := 0, cells := 0, slots := 0, locals := 0 }
def mJ6_bitCount_0f7a4 (F : Mem) (x0 : Int32) : Option (Int32 × Mem) := some (((((((((x0 - ((iush x0 1) &&& 1431655765)) &&& 858993459) + ((iush (x0 - ((iush x0 1) &&& 1431655765)) 2) &&& 858993459)) + (iush (((x0 - ((iush x0 1) &&& 1431655765)) &&& 858993459) + ((iush (x0 - ((iush x0 1) &&& 1431655765)) 2) &&& 858993459)) 4)) &&& 252645135) + (iush (((((x0 - ((iush x0 1) &&& 1431655765)) &&& 858993459) + ((iush (x0 - ((iush x0 1) &&& 1431655765)) 2) &&& 858993459)) + (iush (((x0 - ((iush x0 1) &&& 1431655765)) &&& 858993459) + ((iush (x0 - ((iush x0 1) &&& 1431655765)) 2) &&& 858993459)) 4)) &&& 252645135) 8)) + (iush ((((((x0 - ((iush x0 1) &&& 1431655765)) &&& 858993459) + ((iush (x0 - ((iush x0 1) &&& 1431655765)) 2) &&& 858993459)) + (iush (((x0 - ((iush x0 1) &&& 1431655765)) &&& 858993459) + ((iush (x0 - ((iush x0 1) &&& 1431655765)) 2) &&& 858993459)) 4)) &&& 252645135) + (iush (((((x0 - ((iush x0 1) &&& 1431655765)) &&& 858993459) + ((iush (x0 - ((iush x0 1) &&& 1431655765)) 2) &&& 858993459)) + (iush (((x0 - ((iush x0 1) &&& 1431655765)) &&& 858993459) + ((iush (x0 - ((iush x0 1) &&& 1431655765)) 2) &&& 858993459)) 4)) &&& 252645135) 8)) 16)) &&& 63), F)
set_option maxRecDepth 100000 in
set_option maxHeartbeats 4000000 in
theorem cJ6_bitCount_0f7a4_ok {l : Launch} {D : va_G} {cy : Nat → ClassId} {F : Mem} {x0 : Int32} {res : Int32 × Mem} (h : mJ6_bitCount_0f7a4 F x0 = some res) : MI l yJ6_bitCount_0f7a4 cJ6_bitCount_0f7a4 1 (some .int) rmJ6_bitCount_0f7a4 D cy F [.int x0] res := by
  refine mi_of (by decide) (Nat.le_of_ble_eq_true rfl) [(0, .int x0)] rfl (fun C X hcd Qr => ?_)
  unfold mJ6_bitCount_0f7a4 at h
  refine wp_iload_n X dJ6_bitCount_0f7a4_0 0 rfl ?_
  refine wp_iload_n X dJ6_bitCount_0f7a4_1 0 rfl ?_
  refine wp_iconst X (v := 1) dJ6_bitCount_0f7a4_2 (by decide) ?_
  refine wp_iushr X dJ6_bitCount_0f7a4_3 ?_
  refine wp_ldcw X dJ6_bitCount_0f7a4_4 (v := 1431655765) kw803 ?_
  refine wp_iand X dJ6_bitCount_0f7a4_7 ?_
  refine wp_isub X dJ6_bitCount_0f7a4_8 ?_
  refine wp_istore_n X (lv' := [(0, .int (x0 - ((iush x0 1) &&& 1431655765)))]) dJ6_bitCount_0f7a4_9 (by decide) [0] rfl ?_
  refine wp_iload_n X dJ6_bitCount_0f7a4_10 0 rfl ?_
  refine wp_ldcw X dJ6_bitCount_0f7a4_11 (v := 858993459) kw804 ?_
  refine wp_iand X dJ6_bitCount_0f7a4_14 ?_
  refine wp_iload_n X dJ6_bitCount_0f7a4_15 0 rfl ?_
  refine wp_iconst X (v := 2) dJ6_bitCount_0f7a4_16 (by decide) ?_
  refine wp_iushr X dJ6_bitCount_0f7a4_17 ?_
  refine wp_ldcw X dJ6_bitCount_0f7a4_18 (v := 858993459) kw804 ?_
  refine wp_iand X dJ6_bitCount_0f7a4_21 ?_
  refine wp_iadd X dJ6_bitCount_0f7a4_22 ?_
  refine wp_istore_n X (lv' := [(0, .int (((x0 - ((iush x0 1) &&& 1431655765)) &&& 858993459) + ((iush (x0 - ((iush x0 1) &&& 1431655765)) 2) &&& 858993459)))]) dJ6_bitCount_0f7a4_23 (by decide) [0] rfl ?_
  refine wp_iload_n X dJ6_bitCount_0f7a4_24 0 rfl ?_
  refine wp_iload_n X dJ6_bitCount_0f7a4_25 0 rfl ?_
  refine wp_iconst X (v := 4) dJ6_bitCount_0f7a4_26 (by decide) ?_
  refine wp_iushr X dJ6_bitCount_0f7a4_27 ?_
  refine wp_iadd X dJ6_bitCount_0f7a4_28 ?_
  refine wp_ldcw X dJ6_bitCount_0f7a4_29 (v := 252645135) kw805 ?_
  refine wp_iand X dJ6_bitCount_0f7a4_32 ?_
  refine wp_istore_n X (lv' := [(0, .int (((((x0 - ((iush x0 1) &&& 1431655765)) &&& 858993459) + ((iush (x0 - ((iush x0 1) &&& 1431655765)) 2) &&& 858993459)) + (iush (((x0 - ((iush x0 1) &&& 1431655765)) &&& 858993459) + ((iush (x0 - ((iush x0 1) &&& 1431655765)) 2) &&& 858993459)) 4)) &&& 252645135))]) dJ6_bitCount_0f7a4_33 (by decide) [0] rfl ?_
  refine wp_iload_n X dJ6_bitCount_0f7a4_34 0 rfl ?_
  refine wp_iload_n X dJ6_bitCount_0f7a4_35 0 rfl ?_
  refine wp_bipush X (v := 8) dJ6_bitCount_0f7a4_36 (by decide) ?_
  refine wp_iushr X dJ6_bitCount_0f7a4_38 ?_
  refine wp_iadd X dJ6_bitCount_0f7a4_39 ?_
  refine wp_istore_n X (lv' := [(0, .int ((((((x0 - ((iush x0 1) &&& 1431655765)) &&& 858993459) + ((iush (x0 - ((iush x0 1) &&& 1431655765)) 2) &&& 858993459)) + (iush (((x0 - ((iush x0 1) &&& 1431655765)) &&& 858993459) + ((iush (x0 - ((iush x0 1) &&& 1431655765)) 2) &&& 858993459)) 4)) &&& 252645135) + (iush (((((x0 - ((iush x0 1) &&& 1431655765)) &&& 858993459) + ((iush (x0 - ((iush x0 1) &&& 1431655765)) 2) &&& 858993459)) + (iush (((x0 - ((iush x0 1) &&& 1431655765)) &&& 858993459) + ((iush (x0 - ((iush x0 1) &&& 1431655765)) 2) &&& 858993459)) 4)) &&& 252645135) 8)))]) dJ6_bitCount_0f7a4_40 (by decide) [0] rfl ?_
  refine wp_iload_n X dJ6_bitCount_0f7a4_41 0 rfl ?_
  refine wp_iload_n X dJ6_bitCount_0f7a4_42 0 rfl ?_
  refine wp_bipush X (v := 16) dJ6_bitCount_0f7a4_43 (by decide) ?_
  refine wp_iushr X dJ6_bitCount_0f7a4_45 ?_
  refine wp_iadd X dJ6_bitCount_0f7a4_46 ?_
  refine wp_istore_n X (lv' := [(0, .int (((((((x0 - ((iush x0 1) &&& 1431655765)) &&& 858993459) + ((iush (x0 - ((iush x0 1) &&& 1431655765)) 2) &&& 858993459)) + (iush (((x0 - ((iush x0 1) &&& 1431655765)) &&& 858993459) + ((iush (x0 - ((iush x0 1) &&& 1431655765)) 2) &&& 858993459)) 4)) &&& 252645135) + (iush (((((x0 - ((iush x0 1) &&& 1431655765)) &&& 858993459) + ((iush (x0 - ((iush x0 1) &&& 1431655765)) 2) &&& 858993459)) + (iush (((x0 - ((iush x0 1) &&& 1431655765)) &&& 858993459) + ((iush (x0 - ((iush x0 1) &&& 1431655765)) 2) &&& 858993459)) 4)) &&& 252645135) 8)) + (iush ((((((x0 - ((iush x0 1) &&& 1431655765)) &&& 858993459) + ((iush (x0 - ((iush x0 1) &&& 1431655765)) 2) &&& 858993459)) + (iush (((x0 - ((iush x0 1) &&& 1431655765)) &&& 858993459) + ((iush (x0 - ((iush x0 1) &&& 1431655765)) 2) &&& 858993459)) 4)) &&& 252645135) + (iush (((((x0 - ((iush x0 1) &&& 1431655765)) &&& 858993459) + ((iush (x0 - ((iush x0 1) &&& 1431655765)) 2) &&& 858993459)) + (iush (((x0 - ((iush x0 1) &&& 1431655765)) &&& 858993459) + ((iush (x0 - ((iush x0 1) &&& 1431655765)) 2) &&& 858993459)) 4)) &&& 252645135) 8)) 16)))]) dJ6_bitCount_0f7a4_47 (by decide) [0] rfl ?_
  refine wp_iload_n X dJ6_bitCount_0f7a4_48 0 rfl ?_
  refine wp_bipush X (v := 63) dJ6_bitCount_0f7a4_49 (by decide) ?_
  refine wp_iand X dJ6_bitCount_0f7a4_51 ?_
  exact wp_ireturn X Qr rfl (vp_nar_int _) dJ6_bitCount_0f7a4_52 h
