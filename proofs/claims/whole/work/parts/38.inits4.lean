/-! TableauBench.<init>()V -/
def rmX9_init : Room := { frames := 3, cells := 48, slots := 4086, locals := 64 }
def pX9_init (Post : Mem → Prop) (F : Mem) (x0 : Nat) : Prop := ∀ q6_4, F q6_4 = jk → (∃ F9_5, pf (va_up F q6_4 (.inl (3, (4, .inr (.inr (.inr (.inr (fun _ => none)))))))) x0 8 0 (.ref q6_4) = some F9_5 ∧ (∀ q14_8, F9_5 q14_8 = jk → (∃ F17_9, pf (va_up F9_5 q14_8 (.inl (4, (2, .inr (.inr (.inr (.inr (fun _ => none)))))))) x0 8 1 (.ref q14_8) = some F17_9 ∧ (∀ q21_11, F17_9 q21_11 = jk → (pX7_init (fun F25_13 => ∃ F28_14, pf F25_13 x0 8 2 (.ref q21_11) = some F28_14 ∧ (∀ q32_16, F28_14 q32_16 = jk → (pX7_init (fun F36_18 => ∃ F39_19, pf F36_18 x0 8 3 (.ref q32_16) = some F39_19 ∧ (∃ F44_22, pf F39_19 x0 8 4 (.int 1) = some F44_22 ∧ (∀ q48_24, F44_22 q48_24 = jk → (pX7_init (fun F52_26 => ∃ F55_27, pf F52_26 x0 8 5 (.ref q48_24) = some F55_27 ∧ (∀ q59_29, F55_27 q59_29 = jk → (pX7_init (fun F63_31 => ∃ F66_32, pf F63_31 x0 8 6 (.ref q59_29) = some F66_32 ∧ (∀ q70_34, F66_32 q70_34 = jk → (pX4_init (fun F74_36 => ∃ F77_37, pf F74_36 x0 8 7 (.ref q70_34) = some F77_37 ∧ (∀ q81_39, F77_37 q81_39 = jk → (pX1_init (fun F85_41 => ∃ F88_42, pf F85_41 x0 8 8 (.ref q81_39) = some F88_42 ∧ (∀ q92_44, F88_42 q92_44 = jk → (pX5_init (fun F96_46 => ∃ F99_47, pf F96_46 x0 8 9 (.ref q92_44) = some F99_47 ∧ (∀ q103_49, F99_47 q103_49 = jk → (pX6_init (fun F107_51 => ∃ F110_52, pf F107_51 x0 8 10 (.ref q103_49) = some F110_52 ∧ (∀ q114_54, F110_52 q114_54 = jk → (pX0_init (fun F118_56 => ∃ F121_57, pf F118_56 x0 8 11 (.ref q114_54) = some F121_57 ∧ (∀ q125_59, F121_57 q125_59 = jk → (pX2_init (fun F129_61 => ∃ F132_62, pf F129_61 x0 8 12 (.ref q125_59) = some F132_62 ∧ (∃ v143, gfR F132_62 x0 8 0 = some v143 ∧ (∀ q147_71, F132_62 q147_71 = jk → (pX4_init (fun F151_73 => ∃ F154_74, wrQ F151_73 3 v143 0 q147_71 3 = some F154_74 ∧ (∃ v143, gfR F154_74 x0 8 0 = some v143 ∧ (∀ q147_83, F154_74 q147_83 = jk → (pX4_init (fun F151_85 => ∃ F154_86, wrQ F151_85 3 v143 (1) q147_83 3 = some F154_86 ∧ (∃ v143, gfR F154_86 x0 8 0 = some v143 ∧ (∀ q147_95, F154_86 q147_95 = jk → (pX4_init (fun F151_97 => ∃ F154_98, wrQ F151_97 3 v143 (2) q147_95 3 = some F154_98 ∧ (∃ v143, gfR F154_98 x0 8 0 = some v143 ∧ (∀ q147_107, F154_98 q147_107 = jk → (pX4_init (fun F151_109 => ∃ F154_110, wrQ F151_109 3 v143 (3) q147_107 3 = some F154_110 ∧ (∃ v169, gfR F154_110 x0 8 1 = some v169 ∧ (∀ q173_124, F154_110 q173_124 = jk → (pX8_init (fun F177_126 => ∃ F180_127, wrQ F177_126 4 v169 0 q173_124 7 = some F180_127 ∧ (∃ v169, gfR F180_127 x0 8 1 = some v169 ∧ (∀ q173_136, F180_127 q173_136 = jk → (pX8_init (fun F177_138 => ∃ F180_139, wrQ F177_138 4 v169 (1) q173_136 7 = some F180_139 ∧ (Post F180_139)) (va_up F180_127 q173_136 (.inr (7, [.null, .int 0]))) q173_136)))) (va_up F154_110 q173_124 (.inr (7, [.null, .int 0]))) q173_124)))) (va_up F154_98 q147_107 (.inr (3, [.null]))) q147_107)))) (va_up F154_86 q147_95 (.inr (3, [.null]))) q147_95)))) (va_up F154_74 q147_83 (.inr (3, [.null]))) q147_83)))) (va_up F132_62 q147_71 (.inr (3, [.null]))) q147_71)))) (va_up F121_57 q125_59 (.inr (2, [.null, .null, .null, .null, .null, .int 0]))) q125_59))) (va_up F110_52 q114_54 (.inr (0, [.null, .null, .null, .null]))) q114_54))) (va_up F99_47 q103_49 (.inr (5, [.null]))) q103_49))) (va_up F88_42 q92_44 (.inr (4, [.null]))) q92_44))) (va_up F77_37 q81_39 (.inr (1, [.null, .long 0, .int 0, .int 0]))) q81_39))) (va_up F66_32 q70_34 (.inr (3, [.null]))) q70_34))) (va_up F55_27 q59_29 (.inr (6, [.null, .null]))) q59_29))) (va_up F44_22 q48_24 (.inr (6, [.null, .null]))) q48_24)))) (va_up F28_14 q32_16 (.inr (6, [.null, .null]))) q32_16))) (va_up F17_9 q21_11 (.inr (6, [.null, .null]))) q21_11)))))
set_option maxRecDepth 100000 in
set_option maxHeartbeats 4000000 in
theorem cX9_init_ok {l : Launch} {D : va_G} {cy : Nat → ClassId} {F : Mem} {x0 : Nat} {Post : Mem → Prop} (h : pX9_init Post F x0) : MP l yX9_init cX9_init 2 rmX9_init D cy F [.ref x0] Post := by
  refine mp_of (by decide) rfl (Nat.le_of_ble_eq_true rfl) [(0, .ref x0)] rfl (fun C X hcd Ns Qr => ?_)
  unfold pX9_init at h
  refine wp_aload_n X dX9_init_0 0 rfl ?_
  refine wq_objInit X kw29 kw30 kwO (by decide) (by decide) dX9_init_1 ?_
  refine wp_aload_n X dX9_init_4 0 rfl ?_
  refine wp_iconst X (v := 4) dX9_init_5 (by decide) ?_
  refine wq_anewarr X Ns 3 (n := 4) (N := 4) (fun _ => rfl) (fun _ h9 => h9.1) kw32 (by decide) (by decide) (by decide) (by decide) (by decide) (cs2 := 1) (sl2 := 4) rfl rfl dX9_init_6 h (fun q6_4 hq6_4 h => ?_)
  refine wq_putF X Ns (T := TX9) (N := 13) (ci := 8) (k := 0) tyX9 rfl (by decide) (by decide) inBX9 kw179 tyX9_ok nmX9 rfl rfl rfl rfl rfl dX9_init_9 h (fun F9_5 h => ?_)
  refine wp_aload_n X dX9_init_12 0 rfl ?_
  refine wp_iconst X (v := 2) dX9_init_13 (by decide) ?_
  refine wq_anewarr X Ns 4 (n := 2) (N := 2) (fun _ => rfl) (fun _ h9 => h9.2.1) kw34 (by decide) (by decide) (by decide) (by decide) (by decide) (cs2 := 2) (sl2 := 6) rfl rfl dX9_init_14 h (fun q14_8 hq14_8 h => ?_)
  refine wq_putF X Ns (T := TX9) (N := 13) (ci := 8) (k := 1) tyX9 rfl (by decide) (by decide) inBX9 kw180 tyX9_ok nmX9 rfl rfl rfl rfl rfl dX9_init_17 h (fun F17_9 h => ?_)
  refine wp_aload_n X dX9_init_20 0 rfl ?_
  refine wq_new X (T := TX7) (N := 2) (ci := 6) (fs := [.null, .null]) tyX7 rfl inBX7 tyX7_ok kw36 kw37 kw2 dfX7 (by decide) (by decide) (cs2 := 3) (sl2 := 8) rfl rfl dX9_init_21 h (fun q21_11 hq21_11 h => ?_)
  refine wp_dup X dX9_init_24 rfl ?_
  refine wq_initN X Ns.l (rm := rmX7_init) (n := 0) [] hcd (cX7_init_ok h) (by decide) kw39 kw2 kw40 rfl (by decide +kernel) (by decide) (by decide) (cs2 := 5) (sl2 := 408) rfl rfl rfl rfl (Nat.le_of_ble_eq_true rfl) dX9_init_25 (fun F25_13 h => ?_)
  refine wq_putF X Ns (T := TX9) (N := 13) (ci := 8) (k := 2) tyX9 rfl (by decide) (by decide) inBX9 kw181 tyX9_ok nmX9 rfl rfl rfl rfl rfl dX9_init_28 h (fun F28_14 h => ?_)
  refine wp_aload_n X dX9_init_31 0 rfl ?_
  refine wq_new X (T := TX7) (N := 2) (ci := 6) (fs := [.null, .null]) tyX7 rfl inBX7 tyX7_ok kw36 kw37 kw2 dfX7 (by decide) (by decide) (cs2 := 6) (sl2 := 410) rfl rfl dX9_init_32 h (fun q32_16 hq32_16 h => ?_)
  refine wp_dup X dX9_init_35 rfl ?_
  refine wq_initN X Ns.l (rm := rmX7_init) (n := 0) [] hcd (cX7_init_ok h) (by decide) kw39 kw2 kw40 rfl (by decide +kernel) (by decide) (by decide) (cs2 := 8) (sl2 := 810) rfl rfl rfl rfl (Nat.le_of_ble_eq_true rfl) dX9_init_36 (fun F36_18 h => ?_)
  refine wq_putF X Ns (T := TX9) (N := 13) (ci := 8) (k := 3) tyX9 rfl (by decide) (by decide) inBX9 kw182 tyX9_ok nmX9 rfl rfl rfl rfl rfl dX9_init_39 h (fun F39_19 h => ?_)
  refine wp_aload_n X dX9_init_42 0 rfl ?_
  refine wp_iconst X (v := 1) dX9_init_43 (by decide) ?_
  refine wq_put X (T := TX9) (N := 13) (ci := 8) (k := 4) tyX9 rfl (by decide) (by decide) inBX9 kw183 tyX9_ok nmX9 rfl rfl rfl rfl dX9_init_44 h (fun F44_22 h => ?_)
  refine wp_aload_n X dX9_init_47 0 rfl ?_
  refine wq_new X (T := TX7) (N := 2) (ci := 6) (fs := [.null, .null]) tyX7 rfl inBX7 tyX7_ok kw36 kw37 kw2 dfX7 (by decide) (by decide) (cs2 := 9) (sl2 := 812) rfl rfl dX9_init_48 h (fun q48_24 hq48_24 h => ?_)
  refine wp_dup X dX9_init_51 rfl ?_
  refine wq_initN X Ns.l (rm := rmX7_init) (n := 0) [] hcd (cX7_init_ok h) (by decide) kw39 kw2 kw40 rfl (by decide +kernel) (by decide) (by decide) (cs2 := 11) (sl2 := 1212) rfl rfl rfl rfl (Nat.le_of_ble_eq_true rfl) dX9_init_52 (fun F52_26 h => ?_)
  refine wq_putF X Ns (T := TX9) (N := 13) (ci := 8) (k := 5) tyX9 rfl (by decide) (by decide) inBX9 kw184 tyX9_ok nmX9 rfl rfl rfl rfl rfl dX9_init_55 h (fun F55_27 h => ?_)
  refine wp_aload_n X dX9_init_58 0 rfl ?_
  refine wq_new X (T := TX7) (N := 2) (ci := 6) (fs := [.null, .null]) tyX7 rfl inBX7 tyX7_ok kw36 kw37 kw2 dfX7 (by decide) (by decide) (cs2 := 12) (sl2 := 1214) rfl rfl dX9_init_59 h (fun q59_29 hq59_29 h => ?_)
  refine wp_dup X dX9_init_62 rfl ?_
  refine wq_initN X Ns.l (rm := rmX7_init) (n := 0) [] hcd (cX7_init_ok h) (by decide) kw39 kw2 kw40 rfl (by decide +kernel) (by decide) (by decide) (cs2 := 14) (sl2 := 1614) rfl rfl rfl rfl (Nat.le_of_ble_eq_true rfl) dX9_init_63 (fun F63_31 h => ?_)
  refine wq_putF X Ns (T := TX9) (N := 13) (ci := 8) (k := 6) tyX9 rfl (by decide) (by decide) inBX9 kw185 tyX9_ok nmX9 rfl rfl rfl rfl rfl dX9_init_66 h (fun F66_32 h => ?_)
  refine wp_aload_n X dX9_init_69 0 rfl ?_
  refine wq_new X (T := TX4) (N := 1) (ci := 3) (fs := [.null]) tyX4 rfl inBX4 tyX4_ok kw32 kw51 kw3 dfX4 (by decide) (by decide) (cs2 := 15) (sl2 := 1615) rfl rfl dX9_init_70 h (fun q70_34 hq70_34 h => ?_)
  refine wp_dup X dX9_init_73 rfl ?_
  refine wq_initN X Ns.l (rm := rmX4_init) (n := 0) [] hcd (cX4_init_ok h) (by decide) kw53 kw3 kw54 rfl (by decide +kernel) (by decide) (by decide) (cs2 := 16) (sl2 := 1623) rfl rfl rfl rfl (Nat.le_of_ble_eq_true rfl) dX9_init_74 (fun F74_36 h => ?_)
  refine wq_putF X Ns (T := TX9) (N := 13) (ci := 8) (k := 7) tyX9 rfl (by decide) (by decide) inBX9 kw186 tyX9_ok nmX9 rfl rfl rfl rfl rfl dX9_init_77 h (fun F77_37 h => ?_)
  refine wp_aload_n X dX9_init_80 0 rfl ?_
  refine wq_new X (T := TX1) (N := 4) (ci := 1) (fs := [.null, .long 0, .int 0, .int 0]) tyX1 rfl inBX1 tyX1_ok kw68 kw69 kw4 dfX1 (by decide) (by decide) (cs2 := 17) (sl2 := 1627) rfl rfl dX9_init_81 h (fun q81_39 hq81_39 h => ?_)
  refine wp_dup X dX9_init_84 rfl ?_
  refine wq_initN X Ns.l (rm := rmX1_init) (n := 0) [] hcd (cX1_init_ok h) (by decide) kw71 kw4 kw72 rfl (by decide +kernel) (by decide) (by decide) (cs2 := 19) (sl2 := 1636) rfl rfl rfl rfl (Nat.le_of_ble_eq_true rfl) dX9_init_85 (fun F85_41 h => ?_)
  refine wq_putF X Ns (T := TX9) (N := 13) (ci := 8) (k := 8) tyX9 rfl (by decide) (by decide) inBX9 kw187 tyX9_ok nmX9 rfl rfl rfl rfl rfl dX9_init_88 h (fun F88_42 h => ?_)
  refine wp_aload_n X dX9_init_91 0 rfl ?_
  refine wq_new X (T := TX5) (N := 1) (ci := 4) (fs := [.null]) tyX5 rfl inBX5 tyX5_ok kw92 kw93 kw5 dfX5 (by decide) (by decide) (cs2 := 20) (sl2 := 1637) rfl rfl dX9_init_92 h (fun q92_44 hq92_44 h => ?_)
  refine wp_dup X dX9_init_95 rfl ?_
  refine wq_init X Ns.l (rm := rmX5_init) (n := 0) [] hcd (cX5_init_ok h) kw94 kw95 kw5 kw96 rfl (by decide +kernel) (by decide) (by decide) (cs2 := 21) (sl2 := 2262) rfl rfl rfl rfl (Nat.le_of_ble_eq_true rfl) dX9_init_96 (fun F96_46 h => ?_)
  refine wq_putF X Ns (T := TX9) (N := 13) (ci := 8) (k := 9) tyX9 rfl (by decide) (by decide) inBX9 kw188 tyX9_ok nmX9 rfl rfl rfl rfl rfl dX9_init_99 h (fun F99_47 h => ?_)
  refine wp_aload_n X dX9_init_102 0 rfl ?_
  refine wq_new X (T := TX6) (N := 1) (ci := 5) (fs := [.null]) tyX6 rfl inBX6 tyX6_ok kw102 kw103 kw6 dfX6 (by decide) (by decide) (cs2 := 22) (sl2 := 2263) rfl rfl dX9_init_103 h (fun q103_49 hq103_49 h => ?_)
  refine wp_dup X dX9_init_106 rfl ?_
  refine wq_initN X Ns.l (rm := rmX6_init) (n := 0) [] hcd (cX6_init_ok h) (by decide) kw105 kw6 kw106 rfl (by decide +kernel) (by decide) (by decide) (cs2 := 23) (sl2 := 2288) rfl rfl rfl rfl (Nat.le_of_ble_eq_true rfl) dX9_init_107 (fun F107_51 h => ?_)
  refine wq_putF X Ns (T := TX9) (N := 13) (ci := 8) (k := 10) tyX9 rfl (by decide) (by decide) inBX9 kw189 tyX9_ok nmX9 rfl rfl rfl rfl rfl dX9_init_110 h (fun F110_52 h => ?_)
  refine wp_aload_n X dX9_init_113 0 rfl ?_
  refine wq_new X (T := TX0) (N := 4) (ci := 0) (fs := [.null, .null, .null, .null]) tyX0 rfl inBX0 tyX0_ok kw112 kw113 kw7 dfX0 (by decide) (by decide) (cs2 := 24) (sl2 := 2292) rfl rfl dX9_init_114 h (fun q114_54 hq114_54 h => ?_)
  refine wp_dup X dX9_init_117 rfl ?_
  refine wq_initN X Ns.l (rm := rmX0_init) (n := 0) [] hcd (cX0_init_ok h) (by decide) kw115 kw7 kw116 rfl (by decide +kernel) (by decide) (by decide) (cs2 := 29) (sl2 := 3918) rfl rfl rfl rfl (Nat.le_of_ble_eq_true rfl) dX9_init_118 (fun F118_56 h => ?_)
  refine wq_putF X Ns (T := TX9) (N := 13) (ci := 8) (k := 11) tyX9 rfl (by decide) (by decide) inBX9 kw190 tyX9_ok nmX9 rfl rfl rfl rfl rfl dX9_init_121 h (fun F121_57 h => ?_)
  refine wp_aload_n X dX9_init_124 0 rfl ?_
  refine wq_new X (T := TX2) (N := 6) (ci := 2) (fs := [.null, .null, .null, .null, .null, .int 0]) tyX2 rfl inBX2 tyX2_ok kw135 kw136 kw8 dfX2 (by decide) (by decide) (cs2 := 30) (sl2 := 3924) rfl rfl dX9_init_125 h (fun q125_59 hq125_59 h => ?_)
  refine wp_dup X dX9_init_128 rfl ?_
  refine wq_initN X Ns.l (rm := rmX2_init) (n := 0) [] hcd (cX2_init_ok h) (by decide) kw138 kw8 kw139 rfl (by decide +kernel) (by decide) (by decide) (cs2 := 36) (sl2 := 4014) rfl rfl rfl rfl (Nat.le_of_ble_eq_true rfl) dX9_init_129 (fun F129_61 h => ?_)
  refine wq_putF X Ns (T := TX9) (N := 13) (ci := 8) (k := 12) tyX9 rfl (by decide) (by decide) inBX9 kw191 tyX9_ok nmX9 rfl rfl rfl rfl rfl dX9_init_132 h (fun F132_62 h => ?_)
  refine wp_iconst X (v := 0) dX9_init_135 (by decide) ?_
  refine wp_istore_n X (lv' := [(0, .ref x0), (1, .int 0)]) dX9_init_136 (by decide) [1, 0] rfl ?_
  refine wp_iload_n X dX9_init_137 1 rfl ?_
  refine wp_iconst X (v := 4) dX9_init_138 (by decide) ?_
  refine wq_icmp_ge X (fT := False) (fE := True) (tgt := 161) dX9_init_139 (by decide) ⟨fun h9 => absurd h9 (by decide), fun _ => trivial⟩ (fun h9 => h9.elim) (fun _ => ?_)
  refine wp_aload_n X dX9_init_142 0 rfl ?_
  refine wq_getR X (T := TX9) (N := 13) (ci := 8) (k := 0) rfl (by decide) (by decide) inBX9 kw179 dX9_init_143 h (fun v143 h => ?_)
  refine wp_iload_n X dX9_init_146 1 rfl ?_
  refine wq_new X (T := TX4) (N := 1) (ci := 3) (fs := [.null]) tyX4 rfl inBX4 tyX4_ok kw32 kw51 kw3 dfX4 (by decide) (by decide) (cs2 := 37) (sl2 := 4015) rfl rfl dX9_init_147 h (fun q147_71 hq147_71 h => ?_)
  refine wp_dup X dX9_init_150 rfl ?_
  refine wq_initN X Ns.l (rm := rmX4_init) (n := 0) [] hcd (cX4_init_ok h) (by decide) kw53 kw3 kw54 rfl (by decide +kernel) (by decide) (by decide) (cs2 := 38) (sl2 := 4023) rfl rfl rfl rfl (Nat.le_of_ble_eq_true rfl) dX9_init_151 (fun F151_73 h => ?_)
  refine wq_aastore X 3 (T := TX4) (N := 1) (ci := 3) (fun _ => rfl) rfl (by decide) dX9_init_154 h (fun F154_74 h => ?_)
  refine wp_iinc X (v := 1) (lv' := [(0, .ref x0), (1, .int (1))]) dX9_init_155 (by decide) 1 rfl rfl [1, 0] rfl ?_
  refine wp_goto X (tgt := 137) dX9_init_158 (by decide) ?_
  refine wp_iload_n X dX9_init_137 1 rfl ?_
  refine wp_iconst X (v := 4) dX9_init_138 (by decide) ?_
  refine wq_icmp_ge X (fT := False) (fE := True) (tgt := 161) dX9_init_139 (by decide) ⟨fun h9 => absurd h9 (by decide), fun _ => trivial⟩ (fun h9 => h9.elim) (fun _ => ?_)
  refine wp_aload_n X dX9_init_142 0 rfl ?_
  refine wq_getR X (T := TX9) (N := 13) (ci := 8) (k := 0) rfl (by decide) (by decide) inBX9 kw179 dX9_init_143 h (fun v143 h => ?_)
  refine wp_iload_n X dX9_init_146 1 rfl ?_
  refine wq_new X (T := TX4) (N := 1) (ci := 3) (fs := [.null]) tyX4 rfl inBX4 tyX4_ok kw32 kw51 kw3 dfX4 (by decide) (by decide) (cs2 := 39) (sl2 := 4024) rfl rfl dX9_init_147 h (fun q147_83 hq147_83 h => ?_)
  refine wp_dup X dX9_init_150 rfl ?_
  refine wq_initN X Ns.l (rm := rmX4_init) (n := 0) [] hcd (cX4_init_ok h) (by decide) kw53 kw3 kw54 rfl (by decide +kernel) (by decide) (by decide) (cs2 := 40) (sl2 := 4032) rfl rfl rfl rfl (Nat.le_of_ble_eq_true rfl) dX9_init_151 (fun F151_85 h => ?_)
  refine wq_aastore X 3 (T := TX4) (N := 1) (ci := 3) (fun _ => rfl) rfl (by decide) dX9_init_154 h (fun F154_86 h => ?_)
  refine wp_iinc X (v := 2) (lv' := [(0, .ref x0), (1, .int (2))]) dX9_init_155 (by decide) 1 rfl rfl [1, 0] rfl ?_
  refine wp_goto X (tgt := 137) dX9_init_158 (by decide) ?_
  refine wp_iload_n X dX9_init_137 1 rfl ?_
  refine wp_iconst X (v := 4) dX9_init_138 (by decide) ?_
  refine wq_icmp_ge X (fT := False) (fE := True) (tgt := 161) dX9_init_139 (by decide) ⟨fun h9 => absurd h9 (by decide), fun _ => trivial⟩ (fun h9 => h9.elim) (fun _ => ?_)
  refine wp_aload_n X dX9_init_142 0 rfl ?_
  refine wq_getR X (T := TX9) (N := 13) (ci := 8) (k := 0) rfl (by decide) (by decide) inBX9 kw179 dX9_init_143 h (fun v143 h => ?_)
  refine wp_iload_n X dX9_init_146 1 rfl ?_
  refine wq_new X (T := TX4) (N := 1) (ci := 3) (fs := [.null]) tyX4 rfl inBX4 tyX4_ok kw32 kw51 kw3 dfX4 (by decide) (by decide) (cs2 := 41) (sl2 := 4033) rfl rfl dX9_init_147 h (fun q147_95 hq147_95 h => ?_)
  refine wp_dup X dX9_init_150 rfl ?_
  refine wq_initN X Ns.l (rm := rmX4_init) (n := 0) [] hcd (cX4_init_ok h) (by decide) kw53 kw3 kw54 rfl (by decide +kernel) (by decide) (by decide) (cs2 := 42) (sl2 := 4041) rfl rfl rfl rfl (Nat.le_of_ble_eq_true rfl) dX9_init_151 (fun F151_97 h => ?_)
  refine wq_aastore X 3 (T := TX4) (N := 1) (ci := 3) (fun _ => rfl) rfl (by decide) dX9_init_154 h (fun F154_98 h => ?_)
  refine wp_iinc X (v := 3) (lv' := [(0, .ref x0), (1, .int (3))]) dX9_init_155 (by decide) 1 rfl rfl [1, 0] rfl ?_
  refine wp_goto X (tgt := 137) dX9_init_158 (by decide) ?_
  refine wp_iload_n X dX9_init_137 1 rfl ?_
  refine wp_iconst X (v := 4) dX9_init_138 (by decide) ?_
  refine wq_icmp_ge X (fT := False) (fE := True) (tgt := 161) dX9_init_139 (by decide) ⟨fun h9 => absurd h9 (by decide), fun _ => trivial⟩ (fun h9 => h9.elim) (fun _ => ?_)
  refine wp_aload_n X dX9_init_142 0 rfl ?_
  refine wq_getR X (T := TX9) (N := 13) (ci := 8) (k := 0) rfl (by decide) (by decide) inBX9 kw179 dX9_init_143 h (fun v143 h => ?_)
  refine wp_iload_n X dX9_init_146 1 rfl ?_
  refine wq_new X (T := TX4) (N := 1) (ci := 3) (fs := [.null]) tyX4 rfl inBX4 tyX4_ok kw32 kw51 kw3 dfX4 (by decide) (by decide) (cs2 := 43) (sl2 := 4042) rfl rfl dX9_init_147 h (fun q147_107 hq147_107 h => ?_)
  refine wp_dup X dX9_init_150 rfl ?_
  refine wq_initN X Ns.l (rm := rmX4_init) (n := 0) [] hcd (cX4_init_ok h) (by decide) kw53 kw3 kw54 rfl (by decide +kernel) (by decide) (by decide) (cs2 := 44) (sl2 := 4050) rfl rfl rfl rfl (Nat.le_of_ble_eq_true rfl) dX9_init_151 (fun F151_109 h => ?_)
  refine wq_aastore X 3 (T := TX4) (N := 1) (ci := 3) (fun _ => rfl) rfl (by decide) dX9_init_154 h (fun F154_110 h => ?_)
  refine wp_iinc X (v := 4) (lv' := [(0, .ref x0), (1, .int (4))]) dX9_init_155 (by decide) 1 rfl rfl [1, 0] rfl ?_
  refine wp_goto X (tgt := 137) dX9_init_158 (by decide) ?_
  refine wp_iload_n X dX9_init_137 1 rfl ?_
  refine wp_iconst X (v := 4) dX9_init_138 (by decide) ?_
  refine wq_icmp_ge X (fT := True) (fE := False) (tgt := 161) dX9_init_139 (by decide) ⟨fun _ => trivial, fun h9 => absurd (by decide) h9⟩ (fun _ => ?_) (fun h9 => h9.elim)
  refine wp_iconst X (v := 0) dX9_init_161 (by decide) ?_
  refine wp_istore_n X (lv' := [(0, .ref x0), (1, .int 0)]) dX9_init_162 (by decide) [1, 0] rfl ?_
  refine wp_iload_n X dX9_init_163 1 rfl ?_
  refine wp_iconst X (v := 2) dX9_init_164 (by decide) ?_
  refine wq_icmp_ge X (fT := False) (fE := True) (tgt := 187) dX9_init_165 (by decide) ⟨fun h9 => absurd h9 (by decide), fun _ => trivial⟩ (fun h9 => h9.elim) (fun _ => ?_)
  refine wp_aload_n X dX9_init_168 0 rfl ?_
  refine wq_getR X (T := TX9) (N := 13) (ci := 8) (k := 1) rfl (by decide) (by decide) inBX9 kw180 dX9_init_169 h (fun v169 h => ?_)
  refine wp_iload_n X dX9_init_172 1 rfl ?_
  refine wq_new X (T := TX8) (N := 2) (ci := 7) (fs := [.null, .int 0]) tyX8 rfl inBX8 tyX8_ok kw34 kw162 kw9 dfX8 (by decide) (by decide) (cs2 := 45) (sl2 := 4052) rfl rfl dX9_init_173 h (fun q173_124 hq173_124 h => ?_)
  refine wp_dup X dX9_init_176 rfl ?_
  refine wq_initN X Ns.l (rm := rmX8_init) (n := 0) [] hcd (cX8_init_ok h) (by decide) kw164 kw9 kw165 rfl (by decide +kernel) (by decide) (by decide) (cs2 := 46) (sl2 := 4068) rfl rfl rfl rfl (Nat.le_of_ble_eq_true rfl) dX9_init_177 (fun F177_126 h => ?_)
  refine wq_aastore X 4 (T := TX8) (N := 2) (ci := 7) (fun _ => rfl) rfl (by decide) dX9_init_180 h (fun F180_127 h => ?_)
  refine wp_iinc X (v := 1) (lv' := [(0, .ref x0), (1, .int (1))]) dX9_init_181 (by decide) 1 rfl rfl [1, 0] rfl ?_
  refine wp_goto X (tgt := 163) dX9_init_184 (by decide) ?_
  refine wp_iload_n X dX9_init_163 1 rfl ?_
  refine wp_iconst X (v := 2) dX9_init_164 (by decide) ?_
  refine wq_icmp_ge X (fT := False) (fE := True) (tgt := 187) dX9_init_165 (by decide) ⟨fun h9 => absurd h9 (by decide), fun _ => trivial⟩ (fun h9 => h9.elim) (fun _ => ?_)
  refine wp_aload_n X dX9_init_168 0 rfl ?_
  refine wq_getR X (T := TX9) (N := 13) (ci := 8) (k := 1) rfl (by decide) (by decide) inBX9 kw180 dX9_init_169 h (fun v169 h => ?_)
  refine wp_iload_n X dX9_init_172 1 rfl ?_
  refine wq_new X (T := TX8) (N := 2) (ci := 7) (fs := [.null, .int 0]) tyX8 rfl inBX8 tyX8_ok kw34 kw162 kw9 dfX8 (by decide) (by decide) (cs2 := 47) (sl2 := 4070) rfl rfl dX9_init_173 h (fun q173_136 hq173_136 h => ?_)
  refine wp_dup X dX9_init_176 rfl ?_
  refine wq_initN X Ns.l (rm := rmX8_init) (n := 0) [] hcd (cX8_init_ok h) (by decide) kw164 kw9 kw165 rfl (by decide +kernel) (by decide) (by decide) (cs2 := 48) (sl2 := 4086) rfl rfl rfl rfl (Nat.le_of_ble_eq_true rfl) dX9_init_177 (fun F177_138 h => ?_)
  refine wq_aastore X 4 (T := TX8) (N := 2) (ci := 7) (fun _ => rfl) rfl (by decide) dX9_init_180 h (fun F180_139 h => ?_)
  refine wp_iinc X (v := 2) (lv' := [(0, .ref x0), (1, .int (2))]) dX9_init_181 (by decide) 1 rfl rfl [1, 0] rfl ?_
  refine wp_goto X (tgt := 163) dX9_init_184 (by decide) ?_
  refine wp_iload_n X dX9_init_163 1 rfl ?_
  refine wp_iconst X (v := 2) dX9_init_164 (by decide) ?_
  refine wq_icmp_ge X (fT := True) (fE := False) (tgt := 187) dX9_init_165 (by decide) ⟨fun _ => trivial, fun h9 => absurd (by decide) h9⟩ (fun _ => ?_) (fun h9 => h9.elim)
  exact wq_return X Qr (by decide) (by decide) rfl dX9_init_187 h
