/-! TableauBench$ShapeOrder.<init>()V -/
def rmX5_init : Room := { frames := 1, cells := 1, slots := 625, locals := 24 }
def fX5_init_15 (Post : Mem → Prop) (K34 : Nat → Mem → Prop) : Nat → Nat → Int32 → Mem → Prop
  | 0, _, _, _ => False
  | n + 1, x0, x1, F => ((25 ≤ x1) → (K34 x0 F)) ∧ (¬ (25 ≤ x1) → (∃ v22, gfR F x0 4 0 = some v22 ∧ (∃ F27, wrI F v22 x1 1 = some F27 ∧ ((fX5_init_15 Post K34 n) x0 (x1 + 1) F27))))
set_option maxRecDepth 100000 in
set_option maxHeartbeats 4000000 in
theorem tX5_init_15 {l : Launch} {D : va_G} {cy : Nat → ClassId} {C : Cx} {Post : Mem → Prop} (X : Fx C cX5_init RX5 none rmX5_init 4) (hcd : CD C l D cy) (Ns : NSC C) (Qr : RP C 1 625 Post) {K34 : Nat → Mem → Prop} (hK34 : ∀ (x0 : Nat) (F : Mem), K34 x0 F → Wp C 1 625 34 [(0, .ref x0)] [] F) : ∀ (n : Nat) (x0 : Nat) (x1 : Int32) (F : Mem), fX5_init_15 Post K34 n x0 x1 F → Wp C 1 625 15 [(0, .ref x0), (1, .int x1)] [] F := by
  intro n
  induction n with
  | zero =>
    intro x0 x1 F h
    rw [fX5_init_15.eq_1] at h
    cases h
  | succ n ih =>
    intro x0 x1 F h
    rw [fX5_init_15.eq_2] at h
    refine wp_iload_n X dX5_init_15 1 rfl ?_
    refine wp_bipush X (v := 25) dX5_init_16 (by decide) ?_
    refine wq_icmp_ge X (tgt := 34) dX5_init_18 (by decide) h (fun h => ?_) (fun h => ?_)
    · refine wp_sub (lv' := [(0, .ref x0)]) [0] rfl ?_
      exact hK34 _ _ h
    · refine wp_aload_n X dX5_init_21 0 rfl ?_
      refine wq_getR X (T := TX5) (N := 1) (ci := 4) (k := 0) rfl (by decide) (by decide) inBX5 kw98 dX5_init_22 h (fun v22 h => ?_)
      refine wp_iload_n X dX5_init_25 1 rfl ?_
      refine wp_iconst X (v := 1) dX5_init_26 (by decide) ?_
      refine wq_iastore X dX5_init_27 h (fun F27 h => ?_)
      refine wp_iinc X (v := x1 + 1) (lv' := [(0, .ref x0), (1, .int (x1 + 1))]) dX5_init_28 (by decide) 1 rfl rfl [1, 0] rfl ?_
      refine wp_goto X (tgt := 15) dX5_init_31 (by decide) ?_
      exact ih _ _ _ h
def fX5_init_72 (Post : Mem → Prop) (K44 : Nat → Int32 → Int32 → Mem → Prop) (K105 : Nat → Int32 → Mem → Prop) (x0 : Nat) (x1 : Int32) (x2 : Int32) (s0 : Int32) (F : Mem) : Prop := ∃ v74, gfR F x0 4 0 = some v74 ∧ (∃ v84, gfR F x0 4 0 = some v84 ∧ (∃ v95, rdI F 0 v84 (((x1 * 25) + x2) - 1) = some v95 ∧ (∃ F98, wrI F v74 ((x1 * 25) + x2) (v95 + s0) = some F98 ∧ (K44 x0 x1 (x2 + 1) F98))))
set_option maxRecDepth 100000 in
set_option maxHeartbeats 4000000 in
theorem tX5_init_72 {l : Launch} {D : va_G} {cy : Nat → ClassId} {C : Cx} {Post : Mem → Prop} (X : Fx C cX5_init RX5 none rmX5_init 4) (hcd : CD C l D cy) (Ns : NSC C) (Qr : RP C 1 625 Post) {K44 : Nat → Int32 → Int32 → Mem → Prop} {K105 : Nat → Int32 → Mem → Prop} (hK44 : ∀ (x0 : Nat) (x1 : Int32) (x2 : Int32) (F : Mem), K44 x0 x1 x2 F → Wp C 1 625 44 [(0, .ref x0), (1, .int x1), (2, .int x2)] [] F) (hK105 : ∀ (x0 : Nat) (x1 : Int32) (F : Mem), K105 x0 x1 F → Wp C 1 625 105 [(0, .ref x0), (1, .int x1)] [] F) (x0 : Nat) (x1 : Int32) (x2 : Int32) (s0 : Int32) (F : Mem) (h : fX5_init_72 Post K44 K105 x0 x1 x2 s0 F) : Wp C 1 625 72 [(0, .ref x0), (1, .int x1), (2, .int x2)] [.int s0] F := by
  unfold fX5_init_72 at h
  refine wp_istore_n X (lv' := [(0, .ref x0), (1, .int x1), (2, .int x2), (3, .int s0)]) dX5_init_72 (by decide) [1, 2, 3, 0] rfl ?_
  refine wp_aload_n X dX5_init_73 0 rfl ?_
  refine wq_getR X (T := TX5) (N := 1) (ci := 4) (k := 0) rfl (by decide) (by decide) inBX5 kw98 dX5_init_74 h (fun v74 h => ?_)
  refine wp_iload_n X dX5_init_77 1 rfl ?_
  refine wp_bipush X (v := 25) dX5_init_78 (by decide) ?_
  refine wp_imul X dX5_init_80 ?_
  refine wp_iload_n X dX5_init_81 2 rfl ?_
  refine wp_iadd X dX5_init_82 ?_
  refine wp_aload_n X dX5_init_83 0 rfl ?_
  refine wq_getR X (T := TX5) (N := 1) (ci := 4) (k := 0) rfl (by decide) (by decide) inBX5 kw98 dX5_init_84 h (fun v84 h => ?_)
  refine wp_iload_n X dX5_init_87 1 rfl ?_
  refine wp_bipush X (v := 25) dX5_init_88 (by decide) ?_
  refine wp_imul X dX5_init_90 ?_
  refine wp_iload_n X dX5_init_91 2 rfl ?_
  refine wp_iadd X dX5_init_92 ?_
  refine wp_iconst X (v := 1) dX5_init_93 (by decide) ?_
  refine wp_isub X dX5_init_94 ?_
  refine wq_iaload X dX5_init_95 h (fun v95 h => ?_)
  refine wp_iload_n X dX5_init_96 3 rfl ?_
  refine wp_iadd X dX5_init_97 ?_
  refine wq_iastore X dX5_init_98 h (fun F98 h => ?_)
  refine wp_iinc X (v := x2 + 1) (lv' := [(0, .ref x0), (1, .int x1), (2, .int (x2 + 1))]) dX5_init_99 (by decide) 2 rfl rfl [1, 2, 0] rfl ?_
  refine wp_goto X (tgt := 44) dX5_init_102 (by decide) ?_
  exact hK44 _ _ _ _ h
def fX5_init_44 (Post : Mem → Prop) (K105 : Nat → Int32 → Mem → Prop) : Nat → Nat → Int32 → Int32 → Mem → Prop
  | 0, _, _, _, _ => False
  | n + 1, x0, x1, x2, F => ((25 ≤ x2) → (K105 x0 x1 F)) ∧ (¬ (25 ≤ x2) → (((x2 ≤ x1) → (∃ v60, gfR F x0 4 0 = some v60 ∧ (∃ v71, rdI F 0 v60 (((x1 - x2) * 25) + x2) = some v71 ∧ (fX5_init_72 Post (fX5_init_44 Post K105 n) K105 x0 x1 x2 v71 F)))) ∧ (¬ (x2 ≤ x1) → (fX5_init_72 Post (fX5_init_44 Post K105 n) K105 x0 x1 x2 0 F))))
set_option maxRecDepth 100000 in
set_option maxHeartbeats 4000000 in
theorem tX5_init_44 {l : Launch} {D : va_G} {cy : Nat → ClassId} {C : Cx} {Post : Mem → Prop} (X : Fx C cX5_init RX5 none rmX5_init 4) (hcd : CD C l D cy) (Ns : NSC C) (Qr : RP C 1 625 Post) {K105 : Nat → Int32 → Mem → Prop} (hK105 : ∀ (x0 : Nat) (x1 : Int32) (F : Mem), K105 x0 x1 F → Wp C 1 625 105 [(0, .ref x0), (1, .int x1)] [] F) : ∀ (n : Nat) (x0 : Nat) (x1 : Int32) (x2 : Int32) (F : Mem), fX5_init_44 Post K105 n x0 x1 x2 F → Wp C 1 625 44 [(0, .ref x0), (1, .int x1), (2, .int x2)] [] F := by
  intro n
  induction n with
  | zero =>
    intro x0 x1 x2 F h
    rw [fX5_init_44.eq_1] at h
    cases h
  | succ n ih =>
    intro x0 x1 x2 F h
    rw [fX5_init_44.eq_2] at h
    refine wp_iload_n X dX5_init_44 2 rfl ?_
    refine wp_bipush X (v := 25) dX5_init_45 (by decide) ?_
    refine wq_icmp_ge X (tgt := 105) dX5_init_47 (by decide) h (fun h => ?_) (fun h => ?_)
    · refine wp_sub (lv' := [(0, .ref x0), (1, .int x1)]) [0, 1] rfl ?_
      exact hK105 _ _ _ h
    · refine wp_iload_n X dX5_init_50 1 rfl ?_
      refine wp_iload_n X dX5_init_51 2 rfl ?_
      refine wq_icmp_ge X (tgt := 59) dX5_init_52 (by decide) h (fun h => ?_) (fun h => ?_)
      · refine wp_aload_n X dX5_init_59 0 rfl ?_
        refine wq_getR X (T := TX5) (N := 1) (ci := 4) (k := 0) rfl (by decide) (by decide) inBX5 kw98 dX5_init_60 h (fun v60 h => ?_)
        refine wp_iload_n X dX5_init_63 1 rfl ?_
        refine wp_iload_n X dX5_init_64 2 rfl ?_
        refine wp_isub X dX5_init_65 ?_
        refine wp_bipush X (v := 25) dX5_init_66 (by decide) ?_
        refine wp_imul X dX5_init_68 ?_
        refine wp_iload_n X dX5_init_69 2 rfl ?_
        refine wp_iadd X dX5_init_70 ?_
        refine wq_iaload X dX5_init_71 h (fun v71 h => ?_)
        exact tX5_init_72 X hcd Ns Qr  ih hK105 _ _ _ _ _ h
      · refine wp_iconst X (v := 0) dX5_init_55 (by decide) ?_
        refine wp_goto X (tgt := 72) dX5_init_56 (by decide) ?_
        exact tX5_init_72 X hcd Ns Qr  ih hK105 _ _ _ _ _ h
def fX5_init_36 (Post : Mem → Prop)  : Nat → Nat → Int32 → Mem → Prop
  | 0, _, _, _ => False
  | n + 1, x0, x1, F => ((25 ≤ x1) → (Post F)) ∧ (¬ (25 ≤ x1) → (fX5_init_44 Post (fun (x0 : Nat) (x1 : Int32) (F : Mem) => (fX5_init_36 Post  n) x0 (x1 + 1) F) FU x0 x1 1 F))
set_option maxRecDepth 100000 in
set_option maxHeartbeats 4000000 in
theorem tX5_init_36 {l : Launch} {D : va_G} {cy : Nat → ClassId} {C : Cx} {Post : Mem → Prop} (X : Fx C cX5_init RX5 none rmX5_init 4) (hcd : CD C l D cy) (Ns : NSC C) (Qr : RP C 1 625 Post)   : ∀ (n : Nat) (x0 : Nat) (x1 : Int32) (F : Mem), fX5_init_36 Post  n x0 x1 F → Wp C 1 625 36 [(0, .ref x0), (1, .int x1)] [] F := by
  intro n
  induction n with
  | zero =>
    intro x0 x1 F h
    rw [fX5_init_36.eq_1] at h
    cases h
  | succ n ih =>
    intro x0 x1 F h
    rw [fX5_init_36.eq_2] at h
    refine wp_iload_n X dX5_init_36 1 rfl ?_
    refine wp_bipush X (v := 25) dX5_init_37 (by decide) ?_
    refine wq_icmp_ge X (tgt := 111) dX5_init_39 (by decide) h (fun h => ?_) (fun h => ?_)
    · exact wq_return X Qr (by decide) (by decide) rfl dX5_init_111 h
    · refine wp_iconst X (v := 1) dX5_init_42 (by decide) ?_
      refine wp_istore_n X (lv' := [(0, .ref x0), (1, .int x1), (2, .int 1)]) dX5_init_43 (by decide) [1, 2, 0] rfl ?_
      refine tX5_init_44 X hcd Ns Qr  ?_ FU _ _ _ _ h
      · intro x0 x1 F h
        refine wp_iinc X (v := x1 + 1) (lv' := [(0, .ref x0), (1, .int (x1 + 1))]) dX5_init_105 (by decide) 1 rfl rfl [1, 0] rfl ?_
        refine wp_goto X (tgt := 36) dX5_init_108 (by decide) ?_
        exact ih _ _ _ h
def pX5_init (Post : Mem → Prop) (F : Mem) (x0 : Nat) : Prop := ∀ q8_4, F q8_4 = jk → (∃ F10_5, pf (va_up F q8_4 (.inl (0, (625, .inl (fun _ => 0))))) x0 4 0 (.ref q8_4) = some F10_5 ∧ (fX5_init_15 Post (fun (x0 : Nat) (F : Mem) => fX5_init_36 Post  FU x0 1 F) FU x0 0 F10_5))
set_option maxRecDepth 100000 in
set_option maxHeartbeats 4000000 in
theorem cX5_init_ok {l : Launch} {D : va_G} {cy : Nat → ClassId} {F : Mem} {x0 : Nat} {Post : Mem → Prop} (h : pX5_init Post F x0) : MP l yX5_init cX5_init 4 rmX5_init D cy F [.ref x0] Post := by
  refine mp_of (by decide) rfl (Nat.le_of_ble_eq_true rfl) [(0, .ref x0)] rfl (fun C X hcd Ns Qr => ?_)
  unfold pX5_init at h
  refine wp_aload_n X dX5_init_0 0 rfl ?_
  refine wq_objInit X kw97 kw30 kwO (by decide) (by decide) dX5_init_1 ?_
  refine wp_aload_n X dX5_init_4 0 rfl ?_
  refine wp_sipush X (v := 625) dX5_init_5 (by decide) ?_
  refine wq_newarr X (atype := .int) 0 (ty := .int) (n := 625) (N := 625) (625, .inl (fun _ => 0)) rfl (fun _ => rfl) (fun _ _ h9 => h9) (fun _ => rfl) kwA0 (by decide) (by decide) (by decide) (by decide) (by decide) (cs2 := 1) (sl2 := 625) rfl rfl dX5_init_8 h (fun q8_4 hq8_4 h => ?_)
  refine wq_putF X Ns (T := TX5) (N := 1) (ci := 4) (k := 0) tyX5 rfl (by decide) (by decide) inBX5 kw98 tyX5_ok nmX5 rfl rfl rfl rfl rfl dX5_init_10 h (fun F10_5 h => ?_)
  refine wp_iconst X (v := 0) dX5_init_13 (by decide) ?_
  refine wp_istore_n X (lv' := [(0, .ref x0), (1, .int 0)]) dX5_init_14 (by decide) [1, 0] rfl ?_
  refine tX5_init_15 X hcd Ns Qr  ?_ FU _ _ _ h
  · intro x0 F h
    refine wp_iconst X (v := 1) dX5_init_34 (by decide) ?_
    refine wp_istore_n X (lv' := [(0, .ref x0), (1, .int 1)]) dX5_init_35 (by decide) [1, 0] rfl ?_
    refine tX5_init_36 X hcd Ns Qr   FU _ _ _ h
