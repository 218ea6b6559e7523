/-! TableauBenchModel.<init>()V -/
def rmX10_init : Room := { frames := 1, cells := 16, slots := 10599, locals := 24 }
def fX10_init_144 (Post : Mem → Prop) (K163 : Nat → Mem → Prop) : Nat → Nat → Int32 → Mem → Prop
  | 0, _, _, _ => False
  | n + 1, x0, x1, F => ((25 ≤ x1) → (K163 x0 F)) ∧ (¬ (25 ≤ x1) → (∃ v151, gfR F x0 9 8 = some v151 ∧ (∃ F156, wrI F v151 x1 1 = some F156 ∧ ((fX10_init_144 Post K163 n) x0 (x1 + 1) F156))))
set_option maxRecDepth 100000 in
set_option maxHeartbeats 4000000 in
theorem tX10_init_144 {l : Launch} {D : va_G} {cy : Nat → ClassId} {C : Cx} {Post : Mem → Prop} (X : Fx C cX10_init RX10 none rmX10_init 3) (hcd : CD C l D cy) (Ns : NSC C) (Qr : RP C 16 10599 Post) {K163 : Nat → Mem → Prop} (hK163 : ∀ (x0 : Nat) (F : Mem), K163 x0 F → Wp C 16 10599 163 [(0, .ref x0)] [] F) : ∀ (n : Nat) (x0 : Nat) (x1 : Int32) (F : Mem), fX10_init_144 Post K163 n x0 x1 F → Wp C 16 10599 144 [(0, .ref x0), (1, .int x1)] [] F := by
  intro n
  induction n with
  | zero =>
    intro x0 x1 F h
    rw [fX10_init_144.eq_1] at h
    cases h
  | succ n ih =>
    intro x0 x1 F h
    rw [fX10_init_144.eq_2] at h
    refine wp_iload_n X dX10_init_144 1 rfl ?_
    refine wp_bipush X (v := 25) dX10_init_145 (by decide) ?_
    refine wq_icmp_ge X (tgt := 163) dX10_init_147 (by decide) h (fun h => ?_) (fun h => ?_)
    · refine wp_sub (lv' := [(0, .ref x0)]) [0] rfl ?_
      exact hK163 _ _ h
    · refine wp_aload_n X dX10_init_150 0 rfl ?_
      refine wq_getR X (T := TX10) (N := 20) (ci := 9) (k := 8) rfl (by decide) (by decide) inBX10 kw820 dX10_init_151 h (fun v151 h => ?_)
      refine wp_iload_n X dX10_init_154 1 rfl ?_
      refine wp_iconst X (v := 1) dX10_init_155 (by decide) ?_
      refine wq_iastore X dX10_init_156 h (fun F156 h => ?_)
      refine wp_iinc X (v := x1 + 1) (lv' := [(0, .ref x0), (1, .int (x1 + 1))]) dX10_init_157 (by decide) 1 rfl rfl [1, 0] rfl ?_
      refine wp_goto X (tgt := 144) dX10_init_160 (by decide) ?_
      exact ih _ _ _ h
def fX10_init_224 (Post : Mem → Prop) (K173 : Nat → Int32 → Int32 → Mem → Prop) (K232 : Nat → Int32 → Mem → Prop) (x0 : Nat) (x1 : Int32) (x2 : Int32) (s0 : Nat) (s1 : Int32) (s2 : Int32) (s3 : Int32) (F : Mem) : Prop := ∃ F225, wrI F s0 s1 (s2 + s3) = some F225 ∧ (K173 x0 x1 (x2 + 1) F225)
set_option maxRecDepth 100000 in
set_option maxHeartbeats 4000000 in
theorem tX10_init_224 {l : Launch} {D : va_G} {cy : Nat → ClassId} {C : Cx} {Post : Mem → Prop} (X : Fx C cX10_init RX10 none rmX10_init 3) (hcd : CD C l D cy) (Ns : NSC C) (Qr : RP C 16 10599 Post) {K173 : Nat → Int32 → Int32 → Mem → Prop} {K232 : Nat → Int32 → Mem → Prop} (hK173 : ∀ (x0 : Nat) (x1 : Int32) (x2 : Int32) (F : Mem), K173 x0 x1 x2 F → Wp C 16 10599 173 [(0, .ref x0), (1, .int x1), (2, .int x2)] [] F) (hK232 : ∀ (x0 : Nat) (x1 : Int32) (F : Mem), K232 x0 x1 F → Wp C 16 10599 232 [(0, .ref x0), (1, .int x1)] [] F) (x0 : Nat) (x1 : Int32) (x2 : Int32) (s0 : Nat) (s1 : Int32) (s2 : Int32) (s3 : Int32) (F : Mem) (h : fX10_init_224 Post K173 K232 x0 x1 x2 s0 s1 s2 s3 F) : Wp C 16 10599 224 [(0, .ref x0), (1, .int x1), (2, .int x2)] [.int s3, .int s2, .int s1, .ref s0] F := by
  unfold fX10_init_224 at h
  refine wp_iadd X dX10_init_224 ?_
  refine wq_iastore X dX10_init_225 h (fun F225 h => ?_)
  refine wp_iinc X (v := x2 + 1) (lv' := [(0, .ref x0), (1, .int x1), (2, .int (x2 + 1))]) dX10_init_226 (by decide) 2 rfl rfl [1, 2, 0] rfl ?_
  refine wp_goto X (tgt := 173) dX10_init_229 (by decide) ?_
  exact hK173 _ _ _ _ h
def fX10_init_173 (Post : Mem → Prop) (K232 : Nat → Int32 → Mem → Prop) : Nat → Nat → Int32 → Int32 → Mem → Prop
  | 0, _, _, _, _ => False
  | n + 1, x0, x1, x2, F => ((25 ≤ x2) → (K232 x0 x1 F)) ∧ (¬ (25 ≤ x2) → (∃ v180, gfR F x0 9 8 = some v180 ∧ (∃ v190, gfR F x0 9 8 = some v190 ∧ (∃ v201, rdI F 0 v190 (((25 * x1) + x2) - 1) = some v201 ∧ (((x1 < x2) → (fX10_init_224 Post (fX10_init_173 Post K232 n) K232 x0 x1 x2 v180 ((25 * x1) + x2) v201 0 F)) ∧ (¬ (x1 < x2) → (∃ v208, gfR F x0 9 8 = some v208 ∧ (∃ v219, rdI F 0 v208 ((25 * (x1 - x2)) + x2) = some v219 ∧ (fX10_init_224 Post (fX10_init_173 Post K232 n) K232 x0 x1 x2 v180 ((25 * x1) + x2) v201 v219 F)))))))))
set_option maxRecDepth 100000 in
set_option maxHeartbeats 4000000 in
theorem tX10_init_173 {l : Launch} {D : va_G} {cy : Nat → ClassId} {C : Cx} {Post : Mem → Prop} (X : Fx C cX10_init RX10 none rmX10_init 3) (hcd : CD C l D cy) (Ns : NSC C) (Qr : RP C 16 10599 Post) {K232 : Nat → Int32 → Mem → Prop} (hK232 : ∀ (x0 : Nat) (x1 : Int32) (F : Mem), K232 x0 x1 F → Wp C 16 10599 232 [(0, .ref x0), (1, .int x1)] [] F) : ∀ (n : Nat) (x0 : Nat) (x1 : Int32) (x2 : Int32) (F : Mem), fX10_init_173 Post K232 n x0 x1 x2 F → Wp C 16 10599 173 [(0, .ref x0), (1, .int x1), (2, .int x2)] [] F := by
  intro n
  induction n with
  | zero =>
    intro x0 x1 x2 F h
    rw [fX10_init_173.eq_1] at h
    cases h
  | succ n ih =>
    intro x0 x1 x2 F h
    rw [fX10_init_173.eq_2] at h
    refine wp_iload_n X dX10_init_173 2 rfl ?_
    refine wp_bipush X (v := 25) dX10_init_174 (by decide) ?_
    refine wq_icmp_ge X (tgt := 232) dX10_init_176 (by decide) h (fun h => ?_) (fun h => ?_)
    · refine wp_sub (lv' := [(0, .ref x0), (1, .int x1)]) [0, 1] rfl ?_
      exact hK232 _ _ _ h
    · refine wp_aload_n X dX10_init_179 0 rfl ?_
      refine wq_getR X (T := TX10) (N := 20) (ci := 9) (k := 8) rfl (by decide) (by decide) inBX10 kw820 dX10_init_180 h (fun v180 h => ?_)
      refine wp_bipush X (v := 25) dX10_init_183 (by decide) ?_
      refine wp_iload_n X dX10_init_185 1 rfl ?_
      refine wp_imul X dX10_init_186 ?_
      refine wp_iload_n X dX10_init_187 2 rfl ?_
      refine wp_iadd X dX10_init_188 ?_
      refine wp_aload_n X dX10_init_189 0 rfl ?_
      refine wq_getR X (T := TX10) (N := 20) (ci := 9) (k := 8) rfl (by decide) (by decide) inBX10 kw820 dX10_init_190 h (fun v190 h => ?_)
      refine wp_bipush X (v := 25) dX10_init_193 (by decide) ?_
      refine wp_iload_n X dX10_init_195 1 rfl ?_
      refine wp_imul X dX10_init_196 ?_
      refine wp_iload_n X dX10_init_197 2 rfl ?_
      refine wp_iadd X dX10_init_198 ?_
      refine wp_iconst X (v := 1) dX10_init_199 (by decide) ?_
      refine wp_isub X dX10_init_200 ?_
      refine wq_iaload X dX10_init_201 h (fun v201 h => ?_)
      refine wp_iload_n X dX10_init_202 2 rfl ?_
      refine wp_iload_n X dX10_init_203 1 rfl ?_
      refine wq_icmp_gt X (tgt := 223) dX10_init_204 (by decide) h (fun h => ?_) (fun h => ?_)
      · refine wp_iconst X (v := 0) dX10_init_223 (by decide) ?_
        exact tX10_init_224 X hcd Ns Qr  ih hK232 _ _ _ _ _ _ _ _ h
      · refine wp_aload_n X dX10_init_207 0 rfl ?_
        refine wq_getR X (T := TX10) (N := 20) (ci := 9) (k := 8) rfl (by decide) (by decide) inBX10 kw820 dX10_init_208 h (fun v208 h => ?_)
        refine wp_bipush X (v := 25) dX10_init_211 (by decide) ?_
        refine wp_iload_n X dX10_init_213 1 rfl ?_
        refine wp_iload_n X dX10_init_214 2 rfl ?_
        refine wp_isub X dX10_init_215 ?_
        refine wp_imul X dX10_init_216 ?_
        refine wp_iload_n X dX10_init_217 2 rfl ?_
        refine wp_iadd X dX10_init_218 ?_
        refine wq_iaload X dX10_init_219 h (fun v219 h => ?_)
        refine wp_goto X (tgt := 224) dX10_init_220 (by decide) ?_
        exact tX10_init_224 X hcd Ns Qr  ih hK232 _ _ _ _ _ _ _ _ h
def fX10_init_165 (Post : Mem → Prop)  : Nat → Nat → Int32 → Mem → Prop
  | 0, _, _, _ => False
  | n + 1, x0, x1, F => ((25 ≤ x1) → (Post F)) ∧ (¬ (25 ≤ x1) → (fX10_init_173 Post (fun (x0 : Nat) (x1 : Int32) (F : Mem) => (fX10_init_165 Post  n) x0 (x1 + 1) F) FU x0 x1 1 F))
set_option maxRecDepth 100000 in
set_option maxHeartbeats 4000000 in
theorem tX10_init_165 {l : Launch} {D : va_G} {cy : Nat → ClassId} {C : Cx} {Post : Mem → Prop} (X : Fx C cX10_init RX10 none rmX10_init 3) (hcd : CD C l D cy) (Ns : NSC C) (Qr : RP C 16 10599 Post)   : ∀ (n : Nat) (x0 : Nat) (x1 : Int32) (F : Mem), fX10_init_165 Post  n x0 x1 F → Wp C 16 10599 165 [(0, .ref x0), (1, .int x1)] [] F := by
  intro n
  induction n with
  | zero =>
    intro x0 x1 F h
    rw [fX10_init_165.eq_1] at h
    cases h
  | succ n ih =>
    intro x0 x1 F h
    rw [fX10_init_165.eq_2] at h
    refine wp_iload_n X dX10_init_165 1 rfl ?_
    refine wp_bipush X (v := 25) dX10_init_166 (by decide) ?_
    refine wq_icmp_ge X (tgt := 238) dX10_init_168 (by decide) h (fun h => ?_) (fun h => ?_)
    · exact wq_return X Qr (by decide) (by decide) rfl dX10_init_238 h
    · refine wp_iconst X (v := 1) dX10_init_171 (by decide) ?_
      refine wp_istore_n X (lv' := [(0, .ref x0), (1, .int x1), (2, .int 1)]) dX10_init_172 (by decide) [1, 2, 0] rfl ?_
      refine tX10_init_173 X hcd Ns Qr  ?_ FU _ _ _ _ h
      · intro x0 x1 F h
        refine wp_iinc X (v := x1 + 1) (lv' := [(0, .ref x0), (1, .int (x1 + 1))]) dX10_init_232 (by decide) 1 rfl rfl [1, 0] rfl ?_
        refine wp_goto X (tgt := 165) dX10_init_235 (by decide) ?_
        exact ih _ _ _ h
def pX10_init (Post : Mem → Prop) (F : Mem) (x0 : Nat) : Prop := ∀ q7_4, F q7_4 = jk → (∃ F9_5, pf (va_up F q7_4 (.inl (0, (32, .inl (fun _ => 0))))) x0 9 1 (.ref q7_4) = some F9_5 ∧ (∀ q15_8, F9_5 q15_8 = jk → (∃ F17_9, pf (va_up F9_5 q15_8 (.inl (0, (32, .inl (fun _ => 0))))) x0 9 2 (.ref q15_8) = some F17_9 ∧ (∀ q22_12, F17_9 q22_12 = jk → (∃ F24_13, pf (va_up F17_9 q22_12 (.inl (0, (2, .inl (fun _ => 0))))) x0 9 3 (.ref q22_12) = some F24_13 ∧ (∀ q31_16, F24_13 q31_16 = jk → (∃ F33_17, pf (va_up F24_13 q31_16 (.inl (0, (1728, .inl (fun _ => 0))))) x0 9 4 (.ref q31_16) = some F33_17 ∧ (∀ q39_20, F33_17 q39_20 = jk → (∃ F41_21, pf (va_up F33_17 q39_20 (.inl (0, (72, .inl (fun _ => 0))))) x0 9 5 (.ref q39_20) = some F41_21 ∧ (∃ F46_24, pf F41_21 x0 9 6 (.int 1) = some F46_24 ∧ (∀ q52_27, F46_24 q52_27 = jk → (∃ F54_28, pf (va_up F46_24 q52_27 (.inl (0, (24, .inl (fun _ => 0))))) x0 9 7 (.ref q52_27) = some F54_28 ∧ (∀ q61_31, F54_28 q61_31 = jk → (∃ F63_32, pf (va_up F54_28 q61_31 (.inl (0, (625, .inl (fun _ => 0))))) x0 9 8 (.ref q61_31) = some F63_32 ∧ (∀ q69_35, F63_32 q69_35 = jk → (∃ F71_36, pf (va_up F63_32 q69_35 (.inl (0, (9, .inl (fun _ => 0))))) x0 9 9 (.ref q69_35) = some F71_36 ∧ (∀ q77_39, F71_36 q77_39 = jk → (∃ F79_40, pf (va_up F71_36 q77_39 (.inl (0, (9, .inl (fun _ => 0))))) x0 9 10 (.ref q77_39) = some F79_40 ∧ (∀ q85_43, F79_40 q85_43 = jk → (∃ F87_44, pf (va_up F79_40 q85_43 (.inl (0, (9, .inl (fun _ => 0))))) x0 9 11 (.ref q85_43) = some F87_44 ∧ (∀ q93_47, F87_44 q93_47 = jk → (∃ F95_48, pf (va_up F87_44 q93_47 (.inl (0, (17, .inl (fun _ => 0))))) x0 9 12 (.ref q93_47) = some F95_48 ∧ (∀ q102_51, F95_48 q102_51 = jk → (∃ F104_52, pf (va_up F95_48 q102_51 (.inl (1, (2000, .inr (.inl (fun _ => 0)))))) x0 9 14 (.ref q102_51) = some F104_52 ∧ (∀ q111_55, F104_52 q111_55 = jk → (∃ F113_56, pf (va_up F104_52 q111_55 (.inl (1, (2000, .inr (.inl (fun _ => 0)))))) x0 9 15 (.ref q111_55) = some F113_56 ∧ (∀ q120_59, F113_56 q120_59 = jk → (∃ F122_60, pf (va_up F113_56 q120_59 (.inl (1, (2000, .inr (.inl (fun _ => 0)))))) x0 9 17 (.ref q120_59) = some F122_60 ∧ (∀ q129_63, F122_60 q129_63 = jk → (∃ F131_64, pf (va_up F122_60 q129_63 (.inl (1, (2000, .inr (.inl (fun _ => 0)))))) x0 9 18 (.ref q129_63) = some F131_64 ∧ (∀ q137_67, F131_64 q137_67 = jk → (∃ F139_68, pf (va_up F131_64 q137_67 (.inl (0, (40, .inl (fun _ => 0))))) x0 9 19 (.ref q137_67) = some F139_68 ∧ (fX10_init_144 Post (fun (x0 : Nat) (F : Mem) => fX10_init_165 Post  FU x0 1 F) FU x0 0 F139_68)))))))))))))))))))))))))))))))))
set_option maxRecDepth 100000 in
set_option maxHeartbeats 4000000 in
theorem cX10_init_ok {l : Launch} {D : va_G} {cy : Nat → ClassId} {F : Mem} {x0 : Nat} {Post : Mem → Prop} (h : pX10_init Post F x0) : MP l yX10_init cX10_init 3 rmX10_init D cy F [.ref x0] Post := by
  refine mp_of (by decide) rfl (Nat.le_of_ble_eq_true rfl) [(0, .ref x0)] rfl (fun C X hcd Ns Qr => ?_)
  unfold pX10_init at h
  refine wp_aload_n X dX10_init_0 0 rfl ?_
  refine wq_objInit X kw811 kw30 kwO (by decide) (by decide) dX10_init_1 ?_
  refine wp_aload_n X dX10_init_4 0 rfl ?_
  refine wp_bipush X (v := 32) dX10_init_5 (by decide) ?_
  refine wq_newarr X (atype := .int) 0 (ty := .int) (n := 32) (N := 32) (32, .inl (fun _ => 0)) rfl (fun _ => rfl) (fun _ _ h9 => h9) (fun _ => rfl) kwA0 (by decide) (by decide) (by decide) (by decide) (by decide) (cs2 := 1) (sl2 := 32) rfl rfl dX10_init_7 h (fun q7_4 hq7_4 h => ?_)
  refine wq_putF X Ns (T := TX10) (N := 20) (ci := 9) (k := 1) tyX10 rfl (by decide) (by decide) inBX10 kw813 tyX10_ok nmX10 rfl rfl rfl rfl rfl dX10_init_9 h (fun F9_5 h => ?_)
  refine wp_aload_n X dX10_init_12 0 rfl ?_
  refine wp_bipush X (v := 32) dX10_init_13 (by decide) ?_
  refine wq_newarr X (atype := .int) 0 (ty := .int) (n := 32) (N := 32) (32, .inl (fun _ => 0)) rfl (fun _ => rfl) (fun _ _ h9 => h9) (fun _ => rfl) kwA0 (by decide) (by decide) (by decide) (by decide) (by decide) (cs2 := 2) (sl2 := 64) rfl rfl dX10_init_15 h (fun q15_8 hq15_8 h => ?_)
  refine wq_putF X Ns (T := TX10) (N := 20) (ci := 9) (k := 2) tyX10 rfl (by decide) (by decide) inBX10 kw814 tyX10_ok nmX10 rfl rfl rfl rfl rfl dX10_init_17 h (fun F17_9 h => ?_)
  refine wp_aload_n X dX10_init_20 0 rfl ?_
  refine wp_iconst X (v := 2) dX10_init_21 (by decide) ?_
  refine wq_newarr X (atype := .int) 0 (ty := .int) (n := 2) (N := 2) (2, .inl (fun _ => 0)) rfl (fun _ => rfl) (fun _ _ h9 => h9) (fun _ => rfl) kwA0 (by decide) (by decide) (by decide) (by decide) (by decide) (cs2 := 3) (sl2 := 66) rfl rfl dX10_init_22 h (fun q22_12 hq22_12 h => ?_)
  refine wq_putF X Ns (T := TX10) (N := 20) (ci := 9) (k := 3) tyX10 rfl (by decide) (by decide) inBX10 kw815 tyX10_ok nmX10 rfl rfl rfl rfl rfl dX10_init_24 h (fun F24_13 h => ?_)
  refine wp_aload_n X dX10_init_27 0 rfl ?_
  refine wp_sipush X (v := 1728) dX10_init_28 (by decide) ?_
  refine wq_newarr X (atype := .int) 0 (ty := .int) (n := 1728) (N := 1728) (1728, .inl (fun _ => 0)) rfl (fun _ => rfl) (fun _ _ h9 => h9) (fun _ => rfl) kwA0 (by decide) (by decide) (by decide) (by decide) (by decide) (cs2 := 4) (sl2 := 1794) rfl rfl dX10_init_31 h (fun q31_16 hq31_16 h => ?_)
  refine wq_putF X Ns (T := TX10) (N := 20) (ci := 9) (k := 4) tyX10 rfl (by decide) (by decide) inBX10 kw816 tyX10_ok nmX10 rfl rfl rfl rfl rfl dX10_init_33 h (fun F33_17 h => ?_)
  refine wp_aload_n X dX10_init_36 0 rfl ?_
  refine wp_bipush X (v := 72) dX10_init_37 (by decide) ?_
  refine wq_newarr X (atype := .int) 0 (ty := .int) (n := 72) (N := 72) (72, .inl (fun _ => 0)) rfl (fun _ => rfl) (fun _ _ h9 => h9) (fun _ => rfl) kwA0 (by decide) (by decide) (by decide) (by decide) (by decide) (cs2 := 5) (sl2 := 1866) rfl rfl dX10_init_39 h (fun q39_20 hq39_20 h => ?_)
  refine wq_putF X Ns (T := TX10) (N := 20) (ci := 9) (k := 5) tyX10 rfl (by decide) (by decide) inBX10 kw817 tyX10_ok nmX10 rfl rfl rfl rfl rfl dX10_init_41 h (fun F41_21 h => ?_)
  refine wp_aload_n X dX10_init_44 0 rfl ?_
  refine wp_iconst X (v := 1) dX10_init_45 (by decide) ?_
  refine wq_put X (T := TX10) (N := 20) (ci := 9) (k := 6) tyX10 rfl (by decide) (by decide) inBX10 kw818 tyX10_ok nmX10 rfl rfl rfl rfl dX10_init_46 h (fun F46_24 h => ?_)
  refine wp_aload_n X dX10_init_49 0 rfl ?_
  refine wp_bipush X (v := 24) dX10_init_50 (by decide) ?_
  refine wq_newarr X (atype := .int) 0 (ty := .int) (n := 24) (N := 24) (24, .inl (fun _ => 0)) rfl (fun _ => rfl) (fun _ _ h9 => h9) (fun _ => rfl) kwA0 (by decide) (by decide) (by decide) (by decide) (by decide) (cs2 := 6) (sl2 := 1890) rfl rfl dX10_init_52 h (fun q52_27 hq52_27 h => ?_)
  refine wq_putF X Ns (T := TX10) (N := 20) (ci := 9) (k := 7) tyX10 rfl (by decide) (by decide) inBX10 kw819 tyX10_ok nmX10 rfl rfl rfl rfl rfl dX10_init_54 h (fun F54_28 h => ?_)
  refine wp_aload_n X dX10_init_57 0 rfl ?_
  refine wp_sipush X (v := 625) dX10_init_58 (by decide) ?_
  refine wq_newarr X (atype := .int) 0 (ty := .int) (n := 625) (N := 625) (625, .inl (fun _ => 0)) rfl (fun _ => rfl) (fun _ _ h9 => h9) (fun _ => rfl) kwA0 (by decide) (by decide) (by decide) (by decide) (by decide) (cs2 := 7) (sl2 := 2515) rfl rfl dX10_init_61 h (fun q61_31 hq61_31 h => ?_)
  refine wq_putF X Ns (T := TX10) (N := 20) (ci := 9) (k := 8) tyX10 rfl (by decide) (by decide) inBX10 kw820 tyX10_ok nmX10 rfl rfl rfl rfl rfl dX10_init_63 h (fun F63_32 h => ?_)
  refine wp_aload_n X dX10_init_66 0 rfl ?_
  refine wp_bipush X (v := 9) dX10_init_67 (by decide) ?_
  refine wq_newarr X (atype := .int) 0 (ty := .int) (n := 9) (N := 9) (9, .inl (fun _ => 0)) rfl (fun _ => rfl) (fun _ _ h9 => h9) (fun _ => rfl) kwA0 (by decide) (by decide) (by decide) (by decide) (by decide) (cs2 := 8) (sl2 := 2524) rfl rfl dX10_init_69 h (fun q69_35 hq69_35 h => ?_)
  refine wq_putF X Ns (T := TX10) (N := 20) (ci := 9) (k := 9) tyX10 rfl (by decide) (by decide) inBX10 kw821 tyX10_ok nmX10 rfl rfl rfl rfl rfl dX10_init_71 h (fun F71_36 h => ?_)
  refine wp_aload_n X dX10_init_74 0 rfl ?_
  refine wp_bipush X (v := 9) dX10_init_75 (by decide) ?_
  refine wq_newarr X (atype := .int) 0 (ty := .int) (n := 9) (N := 9) (9, .inl (fun _ => 0)) rfl (fun _ => rfl) (fun _ _ h9 => h9) (fun _ => rfl) kwA0 (by decide) (by decide) (by decide) (by decide) (by decide) (cs2 := 9) (sl2 := 2533) rfl rfl dX10_init_77 h (fun q77_39 hq77_39 h => ?_)
  refine wq_putF X Ns (T := TX10) (N := 20) (ci := 9) (k := 10) tyX10 rfl (by decide) (by decide) inBX10 kw822 tyX10_ok nmX10 rfl rfl rfl rfl rfl dX10_init_79 h (fun F79_40 h => ?_)
  refine wp_aload_n X dX10_init_82 0 rfl ?_
  refine wp_bipush X (v := 9) dX10_init_83 (by decide) ?_
  refine wq_newarr X (atype := .int) 0 (ty := .int) (n := 9) (N := 9) (9, .inl (fun _ => 0)) rfl (fun _ => rfl) (fun _ _ h9 => h9) (fun _ => rfl) kwA0 (by decide) (by decide) (by decide) (by decide) (by decide) (cs2 := 10) (sl2 := 2542) rfl rfl dX10_init_85 h (fun q85_43 hq85_43 h => ?_)
  refine wq_putF X Ns (T := TX10) (N := 20) (ci := 9) (k := 11) tyX10 rfl (by decide) (by decide) inBX10 kw823 tyX10_ok nmX10 rfl rfl rfl rfl rfl dX10_init_87 h (fun F87_44 h => ?_)
  refine wp_aload_n X dX10_init_90 0 rfl ?_
  refine wp_bipush X (v := 17) dX10_init_91 (by decide) ?_
  refine wq_newarr X (atype := .int) 0 (ty := .int) (n := 17) (N := 17) (17, .inl (fun _ => 0)) rfl (fun _ => rfl) (fun _ _ h9 => h9) (fun _ => rfl) kwA0 (by decide) (by decide) (by decide) (by decide) (by decide) (cs2 := 11) (sl2 := 2559) rfl rfl dX10_init_93 h (fun q93_47 hq93_47 h => ?_)
  refine wq_putF X Ns (T := TX10) (N := 20) (ci := 9) (k := 12) tyX10 rfl (by decide) (by decide) inBX10 kw824 tyX10_ok nmX10 rfl rfl rfl rfl rfl dX10_init_95 h (fun F95_48 h => ?_)
  refine wp_aload_n X dX10_init_98 0 rfl ?_
  refine wp_sipush X (v := 2000) dX10_init_99 (by decide) ?_
  refine wq_newarr X (atype := .long) 1 (ty := .long) (n := 2000) (N := 2000) (2000, .inr (.inl (fun _ => 0))) rfl (fun _ => rfl) (fun _ _ h9 => h9) (fun _ => rfl) kwA1 (by decide) (by decide) (by decide) (by decide) (by decide) (cs2 := 12) (sl2 := 4559) rfl rfl dX10_init_102 h (fun q102_51 hq102_51 h => ?_)
  refine wq_putF X Ns (T := TX10) (N := 20) (ci := 9) (k := 14) tyX10 rfl (by decide) (by decide) inBX10 kw826 tyX10_ok nmX10 rfl rfl rfl rfl rfl dX10_init_104 h (fun F104_52 h => ?_)
  refine wp_aload_n X dX10_init_107 0 rfl ?_
  refine wp_sipush X (v := 2000) dX10_init_108 (by decide) ?_
  refine wq_newarr X (atype := .long) 1 (ty := .long) (n := 2000) (N := 2000) (2000, .inr (.inl (fun _ => 0))) rfl (fun _ => rfl) (fun _ _ h9 => h9) (fun _ => rfl) kwA1 (by decide) (by decide) (by decide) (by decide) (by decide) (cs2 := 13) (sl2 := 6559) rfl rfl dX10_init_111 h (fun q111_55 hq111_55 h => ?_)
  refine wq_putF X Ns (T := TX10) (N := 20) (ci := 9) (k := 15) tyX10 rfl (by decide) (by decide) inBX10 kw827 tyX10_ok nmX10 rfl rfl rfl rfl rfl dX10_init_113 h (fun F113_56 h => ?_)
  refine wp_aload_n X dX10_init_116 0 rfl ?_
  refine wp_sipush X (v := 2000) dX10_init_117 (by decide) ?_
  refine wq_newarr X (atype := .long) 1 (ty := .long) (n := 2000) (N := 2000) (2000, .inr (.inl (fun _ => 0))) rfl (fun _ => rfl) (fun _ _ h9 => h9) (fun _ => rfl) kwA1 (by decide) (by decide) (by decide) (by decide) (by decide) (cs2 := 14) (sl2 := 8559) rfl rfl dX10_init_120 h (fun q120_59 hq120_59 h => ?_)
  refine wq_putF X Ns (T := TX10) (N := 20) (ci := 9) (k := 17) tyX10 rfl (by decide) (by decide) inBX10 kw829 tyX10_ok nmX10 rfl rfl rfl rfl rfl dX10_init_122 h (fun F122_60 h => ?_)
  refine wp_aload_n X dX10_init_125 0 rfl ?_
  refine wp_sipush X (v := 2000) dX10_init_126 (by decide) ?_
  refine wq_newarr X (atype := .long) 1 (ty := .long) (n := 2000) (N := 2000) (2000, .inr (.inl (fun _ => 0))) rfl (fun _ => rfl) (fun _ _ h9 => h9) (fun _ => rfl) kwA1 (by decide) (by decide) (by decide) (by decide) (by decide) (cs2 := 15) (sl2 := 10559) rfl rfl dX10_init_129 h (fun q129_63 hq129_63 h => ?_)
  refine wq_putF X Ns (T := TX10) (N := 20) (ci := 9) (k := 18) tyX10 rfl (by decide) (by decide) inBX10 kw830 tyX10_ok nmX10 rfl rfl rfl rfl rfl dX10_init_131 h (fun F131_64 h => ?_)
  refine wp_aload_n X dX10_init_134 0 rfl ?_
  refine wp_bipush X (v := 40) dX10_init_135 (by decide) ?_
  refine wq_newarr X (atype := .int) 0 (ty := .int) (n := 40) (N := 40) (40, .inl (fun _ => 0)) rfl (fun _ => rfl) (fun _ _ h9 => h9) (fun _ => rfl) kwA0 (by decide) (by decide) (by decide) (by decide) (by decide) (cs2 := 16) (sl2 := 10599) rfl rfl dX10_init_137 h (fun q137_67 hq137_67 h => ?_)
  refine wq_putF X Ns (T := TX10) (N := 20) (ci := 9) (k := 19) tyX10 rfl (by decide) (by decide) inBX10 kw831 tyX10_ok nmX10 rfl rfl rfl rfl rfl dX10_init_139 h (fun F139_68 h => ?_)
  refine wp_iconst X (v := 0) dX10_init_142 (by decide) ?_
  refine wp_istore_n X (lv' := [(0, .ref x0), (1, .int 0)]) dX10_init_143 (by decide) [1, 0] rfl ?_
  refine tX10_init_144 X hcd Ns Qr  ?_ FU _ _ _ h
  · intro x0 F h
    refine wp_iconst X (v := 1) dX10_init_163 (by decide) ?_
    refine wp_istore_n X (lv' := [(0, .ref x0), (1, .int 1)]) dX10_init_164 (by decide) [1, 0] rfl ?_
    refine tX10_init_165 X hcd Ns Qr   FU _ _ _ h
