def fL_law_1481 (xs : Nat → Int32) (Ls : Nat) (K23 : Nat → Nat → Nat → Int32 → Mem → Option (Int32 × Mem)) (x1 : Nat) (x2 : Nat) (x3 : Nat) (x4 : Int32) (F : Mem) : Option (Int32 × Mem) := K23 x1 x2 x3 (x4 + 5) F
set_option maxRecDepth 100000 in
set_option maxHeartbeats 4000000 in
theorem tL_law_1481 {l : Launch} {D : va_G} {cy : Nat → ClassId} (hst0 : l.stackTraces = false) {b Ls : Nat} {xs : Nat → Int32} {C : Cx} {res : Int32 × Mem} (X : Fx C cL_law RL (some .boolean) room_1 8) (hcd : CD C l D cy) (Tl : LT C) (Lq : LQ C b Ls xs) (hres : res.1 = 1) {cs sl : Nat} (hcs : cs + 16 ≤ 600128) (hsl : sl + 96 ≤ 7301098) {K23 : Nat → Nat → Nat → Int32 → Mem → Option (Int32 × Mem)} (hK23 : ∀ (x1 : Nat) (x2 : Nat) (x3 : Nat) (x4 : Int32) (F : Mem), K23 x1 x2 x3 x4 F = some res → Wp C (cs + 4) (sl + 24) 23 [(0, .ref b), (1, .ref x1), (2, .ref x2), (3, .ref x3), (4, .int x4)] [] F) (x1 : Nat) (x2 : Nat) (x3 : Nat) (x4 : Int32) (F : Mem) (h : fL_law_1481 xs Ls K23 x1 x2 x3 x4 F = some res) : Wp C (cs + 4) (sl + 24) 1481 [(0, .ref b), (1, .ref x1), (2, .ref x2), (3, .ref x3), (4, .int x4)] [] F := by
  unfold fL_law_1481 at h
  refine wp_iinc X (v := x4 + 5) (lv' := [(0, .ref b), (1, .ref x1), (2, .ref x2), (3, .ref x3), (4, .int (x4 + 5))]) dL_law_1481 (by decide) 4 rfl rfl [1, 2, 3, 4, 0] rfl ?_
  refine wp_goto X (tgt := 23) dL_law_1484 (by decide) ?_
  exact hK23 _ _ _ _ _ h
def fL_law_234 (xs : Nat → Int32) (Ls : Nat) (K23 : Nat → Nat → Nat → Int32 → Mem → Option (Int32 × Mem)) (x1 : Nat) (x2 : Nat) (x3 : Nat) (x4 : Int32) (s0 : Int64) (s1 : Int64) (F : Mem) : Option (Int32 × Mem) := if (lg_cmp s0 s1) = 0 then (fL_law_1481 xs Ls K23 x1 x2 x3 x4 F) else (some (0, F))
set_option maxRecDepth 100000 in
set_option maxHeartbeats 4000000 in
theorem tL_law_234 {l : Launch} {D : va_G} {cy : Nat → ClassId} (hst0 : l.stackTraces = false) {b Ls : Nat} {xs : Nat → Int32} {C : Cx} {res : Int32 × Mem} (X : Fx C cL_law RL (some .boolean) room_1 8) (hcd : CD C l D cy) (Tl : LT C) (Lq : LQ C b Ls xs) (hres : res.1 = 1) {cs sl : Nat} (hcs : cs + 16 ≤ 600128) (hsl : sl + 96 ≤ 7301098) {K23 : Nat → Nat → Nat → Int32 → Mem → Option (Int32 × Mem)} (hK23 : ∀ (x1 : Nat) (x2 : Nat) (x3 : Nat) (x4 : Int32) (F : Mem), K23 x1 x2 x3 x4 F = some res → Wp C (cs + 4) (sl + 24) 23 [(0, .ref b), (1, .ref x1), (2, .ref x2), (3, .ref x3), (4, .int x4)] [] F) (x1 : Nat) (x2 : Nat) (x3 : Nat) (x4 : Int32) (s0 : Int64) (s1 : Int64) (F : Mem) (h : fL_law_234 xs Ls K23 x1 x2 x3 x4 s0 s1 F = some res) : Wp C (cs + 1) (sl + 6) 234 [(0, .ref b), (1, .ref x1), (2, .ref x2), (3, .ref x3), (4, .int x4)] [.long s1, .long s0] F := by
  unfold fL_law_234 at h
  refine wp_lcmp X dL_law_234 ?_
  refine wp_if_eq X (tgt := 240) dL_law_235 (by decide) h (fun h => ?_) (fun h => ?_)
  · refine wp_goto X (tgt := 1481) dL_law_240 (by decide) ?_
    refine wp_widen (cs' := cs + 4) (sl' := sl + 24) (by omega) (by omega) ?_
    exact tL_law_1481 hst0 X hcd Tl Lq hres hcs hsl  hK23 _ _ _ _ _ h
  · refine wp_iconst X (v := 0) dL_law_238 (by decide) ?_
    exact wp_lawret X Lq (by omega) (by omega) dL_law_239 ((congrArg Prod.fst (Option.some.inj h)).trans hres)
def fL_law_365 (xs : Nat → Int32) (Ls : Nat) (K23 : Nat → Nat → Nat → Int32 → Mem → Option (Int32 × Mem)) (x1 : Nat) (x2 : Nat) (x3 : Nat) (x4 : Int32) (s0 : Int64) (s1 : Int64) (F : Mem) : Option (Int32 × Mem) := if (lg_cmp s0 s1) = 0 then (fL_law_1481 xs Ls K23 x1 x2 x3 x4 F) else (some (0, F))
set_option maxRecDepth 100000 in
set_option maxHeartbeats 4000000 in
theorem tL_law_365 {l : Launch} {D : va_G} {cy : Nat → ClassId} (hst0 : l.stackTraces = false) {b Ls : Nat} {xs : Nat → Int32} {C : Cx} {res : Int32 × Mem} (X : Fx C cL_law RL (some .boolean) room_1 8) (hcd : CD C l D cy) (Tl : LT C) (Lq : LQ C b Ls xs) (hres : res.1 = 1) {cs sl : Nat} (hcs : cs + 16 ≤ 600128) (hsl : sl + 96 ≤ 7301098) {K23 : Nat → Nat → Nat → Int32 → Mem → Option (Int32 × Mem)} (hK23 : ∀ (x1 : Nat) (x2 : Nat) (x3 : Nat) (x4 : Int32) (F : Mem), K23 x1 x2 x3 x4 F = some res → Wp C (cs + 4) (sl + 24) 23 [(0, .ref b), (1, .ref x1), (2, .ref x2), (3, .ref x3), (4, .int x4)] [] F) (x1 : Nat) (x2 : Nat) (x3 : Nat) (x4 : Int32) (s0 : Int64) (s1 : Int64) (F : Mem) (h : fL_law_365 xs Ls K23 x1 x2 x3 x4 s0 s1 F = some res) : Wp C (cs + 1) (sl + 6) 365 [(0, .ref b), (1, .ref x1), (2, .ref x2), (3, .ref x3), (4, .int x4)] [.long s1, .long s0] F := by
  unfold fL_law_365 at h
  refine wp_lcmp X dL_law_365 ?_
  refine wp_if_eq X (tgt := 371) dL_law_366 (by decide) h (fun h => ?_) (fun h => ?_)
  · refine wp_goto X (tgt := 1481) dL_law_371 (by decide) ?_
    refine wp_widen (cs' := cs + 4) (sl' := sl + 24) (by omega) (by omega) ?_
    exact tL_law_1481 hst0 X hcd Tl Lq hres hcs hsl  hK23 _ _ _ _ _ h
  · refine wp_iconst X (v := 0) dL_law_369 (by decide) ?_
    exact wp_lawret X Lq (by omega) (by omega) dL_law_370 ((congrArg Prod.fst (Option.some.inj h)).trans hres)
def fL_law_556 (xs : Nat → Int32) (Ls : Nat) (K23 : Nat → Nat → Nat → Int32 → Mem → Option (Int32 × Mem)) (x1 : Nat) (x2 : Nat) (x3 : Nat) (x4 : Int32) (s0 : Int64) (s1 : Int64) (F : Mem) : Option (Int32 × Mem) := if (lg_cmp s0 s1) = 0 then (fL_law_1481 xs Ls K23 x1 x2 x3 x4 F) else (some (0, F))
set_option maxRecDepth 100000 in
set_option maxHeartbeats 4000000 in
theorem tL_law_556 {l : Launch} {D : va_G} {cy : Nat → ClassId} (hst0 : l.stackTraces = false) {b Ls : Nat} {xs : Nat → Int32} {C : Cx} {res : Int32 × Mem} (X : Fx C cL_law RL (some .boolean) room_1 8) (hcd : CD C l D cy) (Tl : LT C) (Lq : LQ C b Ls xs) (hres : res.1 = 1) {cs sl : Nat} (hcs : cs + 16 ≤ 600128) (hsl : sl + 96 ≤ 7301098) {K23 : Nat → Nat → Nat → Int32 → Mem → Option (Int32 × Mem)} (hK23 : ∀ (x1 : Nat) (x2 : Nat) (x3 : Nat) (x4 : Int32) (F : Mem), K23 x1 x2 x3 x4 F = some res → Wp C (cs + 4) (sl + 24) 23 [(0, .ref b), (1, .ref x1), (2, .ref x2), (3, .ref x3), (4, .int x4)] [] F) (x1 : Nat) (x2 : Nat) (x3 : Nat) (x4 : Int32) (s0 : Int64) (s1 : Int64) (F : Mem) (h : fL_law_556 xs Ls K23 x1 x2 x3 x4 s0 s1 F = some res) : Wp C (cs + 1) (sl + 6) 556 [(0, .ref b), (1, .ref x1), (2, .ref x2), (3, .ref x3), (4, .int x4)] [.long s1, .long s0] F := by
  unfold fL_law_556 at h
  refine wp_lcmp X dL_law_556 ?_
  refine wp_if_eq X (tgt := 562) dL_law_557 (by decide) h (fun h => ?_) (fun h => ?_)
  · refine wp_goto X (tgt := 1481) dL_law_562 (by decide) ?_
    refine wp_widen (cs' := cs + 4) (sl' := sl + 24) (by omega) (by omega) ?_
    exact tL_law_1481 hst0 X hcd Tl Lq hres hcs hsl  hK23 _ _ _ _ _ h
  · refine wp_iconst X (v := 0) dL_law_560 (by decide) ?_
    exact wp_lawret X Lq (by omega) (by omega) dL_law_561 ((congrArg Prod.fst (Option.some.inj h)).trans hres)
def fL_law_631 (xs : Nat → Int32) (Ls : Nat) (K23 : Nat → Nat → Nat → Int32 → Mem → Option (Int32 × Mem)) (x1 : Nat) (x2 : Nat) (x3 : Nat) (x4 : Int32) (s0 : Int64) (s1 : Int64) (F : Mem) : Option (Int32 × Mem) := if (lg_cmp s0 s1) = 0 then (fL_law_1481 xs Ls K23 x1 x2 x3 x4 F) else (some (0, F))
set_option maxRecDepth 100000 in
set_option maxHeartbeats 4000000 in
theorem tL_law_631 {l : Launch} {D : va_G} {cy : Nat → ClassId} (hst0 : l.stackTraces = false) {b Ls : Nat} {xs : Nat → Int32} {C : Cx} {res : Int32 × Mem} (X : Fx C cL_law RL (some .boolean) room_1 8) (hcd : CD C l D cy) (Tl : LT C) (Lq : LQ C b Ls xs) (hres : res.1 = 1) {cs sl : Nat} (hcs : cs + 16 ≤ 600128) (hsl : sl + 96 ≤ 7301098) {K23 : Nat → Nat → Nat → Int32 → Mem → Option (Int32 × Mem)} (hK23 : ∀ (x1 : Nat) (x2 : Nat) (x3 : Nat) (x4 : Int32) (F : Mem), K23 x1 x2 x3 x4 F = some res → Wp C (cs + 4) (sl + 24) 23 [(0, .ref b), (1, .ref x1), (2, .ref x2), (3, .ref x3), (4, .int x4)] [] F) (x1 : Nat) (x2 : Nat) (x3 : Nat) (x4 : Int32) (s0 : Int64) (s1 : Int64) (F : Mem) (h : fL_law_631 xs Ls K23 x1 x2 x3 x4 s0 s1 F = some res) : Wp C (cs + 1) (sl + 6) 631 [(0, .ref b), (1, .ref x1), (2, .ref x2), (3, .ref x3), (4, .int x4)] [.long s1, .long s0] F := by
  unfold fL_law_631 at h
  refine wp_lcmp X dL_law_631 ?_
  refine wp_if_eq X (tgt := 637) dL_law_632 (by decide) h (fun h => ?_) (fun h => ?_)
  · refine wp_goto X (tgt := 1481) dL_law_637 (by decide) ?_
    refine wp_widen (cs' := cs + 4) (sl' := sl + 24) (by omega) (by omega) ?_
    exact tL_law_1481 hst0 X hcd Tl Lq hres hcs hsl  hK23 _ _ _ _ _ h
  · refine wp_iconst X (v := 0) dL_law_635 (by decide) ?_
    exact wp_lawret X Lq (by omega) (by omega) dL_law_636 ((congrArg Prod.fst (Option.some.inj h)).trans hres)
def fL_law_812 (xs : Nat → Int32) (Ls : Nat) (K23 : Nat → Nat → Nat → Int32 → Mem → Option (Int32 × Mem)) (x1 : Nat) (x2 : Nat) (x3 : Nat) (x4 : Int32) (x5 : Int32) (s0 : Nat) (s1 : Int32) (s2 : Int32) (F : Mem) : Option (Int32 × Mem) := (obj F s0 9).bind fun _ => (mX10_insert F s0 s1 s2).bind fun v812 => (obj v812.2 x2 9).bind fun _ => (mX10_thrown v812.2 x2).bind fun v818 => if v818.1 = x5 then (if x5 = 0 then ((rdJ v818.2 x3 0).bind fun v835 => if (lg_cmp v835 (Int32.toInt64 v812.1)) = 0 then (fL_law_1481 xs Ls K23 x1 x2 x3 x4 v818.2) else (some (0, v818.2))) else (fL_law_1481 xs Ls K23 x1 x2 x3 x4 v818.2)) else (some (0, v818.2))
set_option maxRecDepth 100000 in
set_option maxHeartbeats 4000000 in
theorem tL_law_812 {l : Launch} {D : va_G} {cy : Nat → ClassId} (hst0 : l.stackTraces = false) {b Ls : Nat} {xs : Nat → Int32} {C : Cx} {res : Int32 × Mem} (X : Fx C cL_law RL (some .boolean) room_1 8) (hcd : CD C l D cy) (Tl : LT C) (Lq : LQ C b Ls xs) (hres : res.1 = 1) {cs sl : Nat} (hcs : cs + 16 ≤ 600128) (hsl : sl + 96 ≤ 7301098) {K23 : Nat → Nat → Nat → Int32 → Mem → Option (Int32 × Mem)} (hK23 : ∀ (x1 : Nat) (x2 : Nat) (x3 : Nat) (x4 : Int32) (F : Mem), K23 x1 x2 x3 x4 F = some res → Wp C (cs + 4) (sl + 24) 23 [(0, .ref b), (1, .ref x1), (2, .ref x2), (3, .ref x3), (4, .int x4)] [] F) (x1 : Nat) (x2 : Nat) (x3 : Nat) (x4 : Int32) (x5 : Int32) (s0 : Nat) (s1 : Int32) (s2 : Int32) (F : Mem) (h : fL_law_812 xs Ls K23 x1 x2 x3 x4 x5 s0 s1 s2 F = some res) : Wp C (cs + 1) (sl + 6) 812 [(0, .ref b), (1, .ref x1), (2, .ref x2), (3, .ref x3), (4, .int x4), (5, .int x5)] [.int s2, .int s1, .ref s0] F := by
  unfold fL_law_812 at h
  refine wp_callVI X (rm := rmX10_insert) (T := TX10) (N := 20) (ci := 9) (n := 2) [.int s1, .int s2] hcd (fun q hq => cX10_insert_ok hq) kw928 kw929 kw930 kw10 kw931 (by decide +kernel) (by decide) ⟨by show cs + 1 + 0 ≤ 600128; omega, by show sl + 6 + 0 ≤ 7301098; omega⟩ (cs2 := cs + 1) (sl2 := sl + 6) (by show cs + 1 + 0 = cs + 1; omega) (by show sl + 6 + 0 = sl + 6; omega) rfl (by decide) rfl rfl (Nat.le_of_ble_eq_true rfl) dL_law_812 h (fun v812 h => ?_)
  refine wp_istore X (lv' := [(0, .ref b), (1, .ref x1), (2, .ref x2), (3, .ref x3), (4, .int x4), (5, .int x5), (6, .int v812.1)]) dL_law_815 (by decide) [1, 2, 3, 4, 5, 6, 0] rfl ?_
  refine wp_aload_n X dL_law_817 2 rfl ?_
  refine wp_callVI X (rm := rmX10_thrown) (T := TX10) (N := 20) (ci := 9) (n := 0) [] hcd (fun q hq => cX10_thrown_ok hq) kw873 kw874 kw875 kw10 kw876 (by decide +kernel) (by decide) ⟨by show cs + 1 + 0 ≤ 600128; omega, by show sl + 6 + 0 ≤ 7301098; omega⟩ (cs2 := cs + 1) (sl2 := sl + 6) (by show cs + 1 + 0 = cs + 1; omega) (by show sl + 6 + 0 = sl + 6; omega) rfl (by decide) rfl rfl (Nat.le_of_ble_eq_true rfl) dL_law_818 h (fun v818 h => ?_)
  refine wp_iload X dL_law_821 5 rfl ?_
  refine wp_icmp_eq X (tgt := 828) dL_law_823 (by decide) h (fun h => ?_) (fun h => ?_)
  · refine wp_iload X dL_law_828 5 rfl ?_
    refine wp_if_ne X (tgt := 845) dL_law_830 (by decide) h (fun h => ?_) (fun h => ?_)
    · refine wp_goto X (tgt := 1481) dL_law_845 (by decide) ?_
      refine wp_widen (cs' := cs + 4) (sl' := sl + 24) (by omega) (by omega) ?_
      refine wp_sub (lv' := [(0, .ref b), (1, .ref x1), (2, .ref x2), (3, .ref x3), (4, .int x4)]) [0, 1, 2, 3, 4] rfl ?_
      exact tL_law_1481 hst0 X hcd Tl Lq hres hcs hsl  hK23 _ _ _ _ _ h
    · refine wp_aload_n X dL_law_833 3 rfl ?_
      refine wp_iconst X (v := 0) dL_law_834 (by decide) ?_
      refine wp_laload X dL_law_835 h (fun v835 h => ?_)
      refine wp_iload X dL_law_836 6 rfl ?_
      refine wp_i2l X dL_law_838 ?_
      refine wp_lcmp X dL_law_839 ?_
      refine wp_if_eq X (tgt := 845) dL_law_840 (by decide) h (fun h => ?_) (fun h => ?_)
      · refine wp_goto X (tgt := 1481) dL_law_845 (by decide) ?_
        refine wp_widen (cs' := cs + 4) (sl' := sl + 24) (by omega) (by omega) ?_
        refine wp_sub (lv' := [(0, .ref b), (1, .ref x1), (2, .ref x2), (3, .ref x3), (4, .int x4)]) [0, 1, 2, 3, 4] rfl ?_
        exact tL_law_1481 hst0 X hcd Tl Lq hres hcs hsl  hK23 _ _ _ _ _ h
      · refine wp_iconst X (v := 0) dL_law_843 (by decide) ?_
        exact wp_lawret X Lq (by omega) (by omega) dL_law_844 ((congrArg Prod.fst (Option.some.inj h)).trans hres)
  · refine wp_iconst X (v := 0) dL_law_826 (by decide) ?_
    exact wp_lawret X Lq (by omega) (by omega) dL_law_827 ((congrArg Prod.fst (Option.some.inj h)).trans hres)
def fL_law_785 (xs : Nat → Int32) (Ls : Nat) (K23 : Nat → Nat → Nat → Int32 → Mem → Option (Int32 × Mem)) (x1 : Nat) (x2 : Nat) (x3 : Nat) (x4 : Int32) (s0 : Nat) (s1 : Int32) (s2 : Int32) (F : Mem) : Option (Int32 × Mem) := (mL_insert F s0 s1 s2 x3).bind fun v786 => (scr xs Ls (x4 + 1)).bind fun v797 => (scr xs Ls (x4 + 2)).bind fun v803 => if v803 = 0 then (fL_law_812 xs Ls K23 x1 x2 x3 x4 v786.1 x2 v797 0 v786.2) else (fL_law_812 xs Ls K23 x1 x2 x3 x4 v786.1 x2 v797 1 v786.2)
set_option maxRecDepth 100000 in
set_option maxHeartbeats 4000000 in
theorem tL_law_785 {l : Launch} {D : va_G} {cy : Nat → ClassId} (hst0 : l.stackTraces = false) {b Ls : Nat} {xs : Nat → Int32} {C : Cx} {res : Int32 × Mem} (X : Fx C cL_law RL (some .boolean) room_1 8) (hcd : CD C l D cy) (Tl : LT C) (Lq : LQ C b Ls xs) (hres : res.1 = 1) {cs sl : Nat} (hcs : cs + 16 ≤ 600128) (hsl : sl + 96 ≤ 7301098) {K23 : Nat → Nat → Nat → Int32 → Mem → Option (Int32 × Mem)} (hK23 : ∀ (x1 : Nat) (x2 : Nat) (x3 : Nat) (x4 : Int32) (F : Mem), K23 x1 x2 x3 x4 F = some res → Wp C (cs + 4) (sl + 24) 23 [(0, .ref b), (1, .ref x1), (2, .ref x2), (3, .ref x3), (4, .int x4)] [] F) (x1 : Nat) (x2 : Nat) (x3 : Nat) (x4 : Int32) (s0 : Nat) (s1 : Int32) (s2 : Int32) (F : Mem) (h : fL_law_785 xs Ls K23 x1 x2 x3 x4 s0 s1 s2 F = some res) : Wp C cs sl 785 [(0, .ref b), (1, .ref x1), (2, .ref x2), (3, .ref x3), (4, .int x4)] [.int s2, .int s1, .ref s0] F := by
  unfold fL_law_785 at h
  refine wp_aload_n X dL_law_785 3 rfl ?_
  refine wp_callH X Tl (rm := rmL_insert) (n := 4) [.ref s0, .int s1, .int s2, .ref x3] hcd (fun q hq => cL_insert_ok hst0 hq) kw518 kw519 kw0 kw520 (by decide +kernel) (by decide) ⟨by show cs + 1 ≤ 600128; omega, by show sl + 6 ≤ 7301098; omega⟩ (cs2 := cs + 1) (sl2 := sl + 6) (by show cs + 1 = cs + 1; omega) (by show sl + 6 = sl + 6; omega) rfl rfl (Nat.le_of_ble_eq_true rfl) dL_law_786 h (fun v786 h => ?_)
  refine wp_istore X (lv' := [(0, .ref b), (1, .ref x1), (2, .ref x2), (3, .ref x3), (4, .int x4), (5, .int v786.1)]) dL_law_789 (by decide) [1, 2, 3, 4, 5, 0] rfl ?_
  refine wp_aload_n X dL_law_791 2 rfl ?_
  refine wp_aload_n X dL_law_792 0 rfl ?_
  refine wp_iload X dL_law_793 4 rfl ?_
  refine wp_iconst X (v := 1) dL_law_795 (by decide) ?_
  refine wp_iadd X dL_law_796 ?_
  refine wp_sld X Lq dL_law_797 h (fun v797 h => ?_)
  refine wp_aload_n X dL_law_798 0 rfl ?_
  refine wp_iload X dL_law_799 4 rfl ?_
  refine wp_iconst X (v := 2) dL_law_801 (by decide) ?_
  refine wp_iadd X dL_law_802 ?_
  refine wp_sld X Lq dL_law_803 h (fun v803 h => ?_)
  refine wp_if_eq X (tgt := 811) dL_law_804 (by decide) h (fun h => ?_) (fun h => ?_)
  · refine wp_iconst X (v := 0) dL_law_811 (by decide) ?_
    exact tL_law_812 hst0 X hcd Tl Lq hres hcs hsl  hK23 _ _ _ _ _ _ _ _ _ h
  · refine wp_iconst X (v := 1) dL_law_807 (by decide) ?_
    refine wp_goto X (tgt := 812) dL_law_808 (by decide) ?_
    exact tL_law_812 hst0 X hcd Tl Lq hres hcs hsl  hK23 _ _ _ _ _ _ _ _ _ h
def fL_law_893 (xs : Nat → Int32) (Ls : Nat) (K23 : Nat → Nat → Nat → Int32 → Mem → Option (Int32 × Mem)) (x1 : Nat) (x2 : Nat) (x3 : Nat) (x4 : Int32) (s0 : Int32) (s1 : Nat) (s2 : Int32) (F : Mem) : Option (Int32 × Mem) := (scr xs Ls (x4 + 2)).bind fun v898 => (scr xs Ls (x4 + 3)).bind fun v904 => (obj F s1 9).bind fun _ => (mX10_entry F s1 s2 v898 v904).bind fun v905 => if s0 = v905.1 then (fL_law_1481 xs Ls K23 x1 x2 x3 x4 v905.2) else (some (0, v905.2))
set_option maxRecDepth 100000 in
set_option maxHeartbeats 4000000 in
theorem tL_law_893 {l : Launch} {D : va_G} {cy : Nat → ClassId} (hst0 : l.stackTraces = false) {b Ls : Nat} {xs : Nat → Int32} {C : Cx} {res : Int32 × Mem} (X : Fx C cL_law RL (some .boolean) room_1 8) (hcd : CD C l D cy) (Tl : LT C) (Lq : LQ C b Ls xs) (hres : res.1 = 1) {cs sl : Nat} (hcs : cs + 16 ≤ 600128) (hsl : sl + 96 ≤ 7301098) {K23 : Nat → Nat → Nat → Int32 → Mem → Option (Int32 × Mem)} (hK23 : ∀ (x1 : Nat) (x2 : Nat) (x3 : Nat) (x4 : Int32) (F : Mem), K23 x1 x2 x3 x4 F = some res → Wp C (cs + 4) (sl + 24) 23 [(0, .ref b), (1, .ref x1), (2, .ref x2), (3, .ref x3), (4, .int x4)] [] F) (x1 : Nat) (x2 : Nat) (x3 : Nat) (x4 : Int32) (s0 : Int32) (s1 : Nat) (s2 : Int32) (F : Mem) (h : fL_law_893 xs Ls K23 x1 x2 x3 x4 s0 s1 s2 F = some res) : Wp C cs sl 893 [(0, .ref b), (1, .ref x1), (2, .ref x2), (3, .ref x3), (4, .int x4)] [.int s2, .ref s1, .int s0] F := by
  unfold fL_law_893 at h
  refine wp_aload_n X dL_law_893 0 rfl ?_
  refine wp_iload X dL_law_894 4 rfl ?_
  refine wp_iconst X (v := 2) dL_law_896 (by decide) ?_
  refine wp_iadd X dL_law_897 ?_
  refine wp_sld X Lq dL_law_898 h (fun v898 h => ?_)
  refine wp_aload_n X dL_law_899 0 rfl ?_
  refine wp_iload X dL_law_900 4 rfl ?_
  refine wp_iconst X (v := 3) dL_law_902 (by decide) ?_
  refine wp_iadd X dL_law_903 ?_
  refine wp_sld X Lq dL_law_904 h (fun v904 h => ?_)
  refine wp_callVI X (rm := rmX10_entry) (T := TX10) (N := 20) (ci := 9) (n := 3) [.int s2, .int v898, .int v904] hcd (fun q hq => cX10_entry_ok hq) kw951 kw952 kw953 kw10 kw954 (by decide +kernel) (by decide) ⟨by show cs + 0 ≤ 600128; omega, by show sl + 0 ≤ 7301098; omega⟩ (cs2 := cs) (sl2 := sl) (by show cs + 0 = cs; omega) (by show sl + 0 = sl; omega) rfl (by decide) rfl rfl (Nat.le_of_ble_eq_true rfl) dL_law_905 h (fun v905 h => ?_)
  refine wp_icmp_eq X (tgt := 1481) dL_law_908 (by decide) h (fun h => ?_) (fun h => ?_)
  · refine wp_widen (cs' := cs + 4) (sl' := sl + 24) (by omega) (by omega) ?_
    exact tL_law_1481 hst0 X hcd Tl Lq hres hcs hsl  hK23 _ _ _ _ _ h
  · refine wp_iconst X (v := 0) dL_law_911 (by decide) ?_
    exact wp_lawret X Lq (by omega) (by omega) dL_law_912 ((congrArg Prod.fst (Option.some.inj h)).trans hres)
def fL_law_863 (xs : Nat → Int32) (Ls : Nat) (K23 : Nat → Nat → Nat → Int32 → Mem → Option (Int32 × Mem)) (x1 : Nat) (x2 : Nat) (x3 : Nat) (x4 : Int32) (s0 : Nat) (s1 : Int32) (F : Mem) : Option (Int32 × Mem) := (scr xs Ls (x4 + 2)).bind fun v868 => (scr xs Ls (x4 + 3)).bind fun v874 => (obj F s0 8).bind fun _ => (mX9_entry F s0 s1 v868 v874).bind fun v875 => (scr xs Ls (x4 + 1)).bind fun v884 => if v884 = 0 then (fL_law_893 xs Ls K23 x1 x2 x3 x4 v875.1 x2 0 v875.2) else (fL_law_893 xs Ls K23 x1 x2 x3 x4 v875.1 x2 1 v875.2)
set_option maxRecDepth 100000 in
set_option maxHeartbeats 4000000 in
theorem tL_law_863 {l : Launch} {D : va_G} {cy : Nat → ClassId} (hst0 : l.stackTraces = false) {b Ls : Nat} {xs : Nat → Int32} {C : Cx} {res : Int32 × Mem} (X : Fx C cL_law RL (some .boolean) room_1 8) (hcd : CD C l D cy) (Tl : LT C) (Lq : LQ C b Ls xs) (hres : res.1 = 1) {cs sl : Nat} (hcs : cs + 16 ≤ 600128) (hsl : sl + 96 ≤ 7301098) {K23 : Nat → Nat → Nat → Int32 → Mem → Option (Int32 × Mem)} (hK23 : ∀ (x1 : Nat) (x2 : Nat) (x3 : Nat) (x4 : Int32) (F : Mem), K23 x1 x2 x3 x4 F = some res → Wp C (cs + 4) (sl + 24) 23 [(0, .ref b), (1, .ref x1), (2, .ref x2), (3, .ref x3), (4, .int x4)] [] F) (x1 : Nat) (x2 : Nat) (x3 : Nat) (x4 : Int32) (s0 : Nat) (s1 : Int32) (F : Mem) (h : fL_law_863 xs Ls K23 x1 x2 x3 x4 s0 s1 F = some res) : Wp C cs sl 863 [(0, .ref b), (1, .ref x1), (2, .ref x2), (3, .ref x3), (4, .int x4)] [.int s1, .ref s0] F := by
  unfold fL_law_863 at h
  refine wp_aload_n X dL_law_863 0 rfl ?_
  refine wp_iload X dL_law_864 4 rfl ?_
  refine wp_iconst X (v := 2) dL_law_866 (by decide) ?_
  refine wp_iadd X dL_law_867 ?_
  refine wp_sld X Lq dL_law_868 h (fun v868 h => ?_)
  refine wp_aload_n X dL_law_869 0 rfl ?_
  refine wp_iload X dL_law_870 4 rfl ?_
  refine wp_iconst X (v := 3) dL_law_872 (by decide) ?_
  refine wp_iadd X dL_law_873 ?_
  refine wp_sld X Lq dL_law_874 h (fun v874 h => ?_)
  refine wp_callVI X (rm := rmX9_entry) (T := TX9) (N := 13) (ci := 8) (n := 3) [.int s1, .int v868, .int v874] hcd (fun q hq => cX9_entry_ok hq) kw219 kw220 kw221 kw1 kw222 (by decide +kernel) (by decide) ⟨by show cs + 0 ≤ 600128; omega, by show sl + 0 ≤ 7301098; omega⟩ (cs2 := cs) (sl2 := sl) (by show cs + 0 = cs; omega) (by show sl + 0 = sl; omega) rfl (by decide) rfl rfl (Nat.le_of_ble_eq_true rfl) dL_law_875 h (fun v875 h => ?_)
  refine wp_aload_n X dL_law_878 2 rfl ?_
  refine wp_aload_n X dL_law_879 0 rfl ?_
  refine wp_iload X dL_law_880 4 rfl ?_
  refine wp_iconst X (v := 1) dL_law_882 (by decide) ?_
  refine wp_iadd X dL_law_883 ?_
  refine wp_sld X Lq dL_law_884 h (fun v884 h => ?_)
  refine wp_if_eq X (tgt := 892) dL_law_885 (by decide) h (fun h => ?_) (fun h => ?_)
  · refine wp_iconst X (v := 0) dL_law_892 (by decide) ?_
    exact tL_law_893 hst0 X hcd Tl Lq hres hcs hsl  hK23 _ _ _ _ _ _ _ _ h
  · refine wp_iconst X (v := 1) dL_law_888 (by decide) ?_
    refine wp_goto X (tgt := 893) dL_law_889 (by decide) ?_
    exact tL_law_893 hst0 X hcd Tl Lq hres hcs hsl  hK23 _ _ _ _ _ _ _ _ h
def fL_law_23 (xs : Nat → Int32) (Ls : Nat)  : Nat → Nat → Nat → Nat → Int32 → Mem → Option (Int32 × Mem)
  | 0, _, _, _, _, _ => none
  | n + 1, x1, x2, x3, x4, F => if ((Int32.ofNat Ls) - 5) < x4 then (some (1, F)) else ((scr xs Ls x4).bind fun v35 => if (v35 &&& 31) = 0 then ((scr xs Ls (x4 + 1)).bind fun v142 => (scr xs Ls (x4 + 2)).bind fun v148 => (scr xs Ls (x4 + 3)).bind fun v158 => (mL_shape F x1 v142 (((Int32.toInt64 v148) <<< (Int32.toInt64 32 &&& 63)) ||| ((Int32.toInt64 v158) &&& 4294967295)) x3).bind fun v166 => (scr xs Ls (x4 + 1)).bind fun v177 => (scr xs Ls (x4 + 2)).bind fun v183 => (scr xs Ls (x4 + 3)).bind fun v193 => (obj v166.2 x2 9).bind fun _ => (mX10_shape v166.2 x2 v177 (((Int32.toInt64 v183) <<< (Int32.toInt64 32 &&& 63)) ||| ((Int32.toInt64 v193) &&& 4294967295))).bind fun v200 => (obj v200.2 x2 9).bind fun _ => (mX10_thrown v200.2 x2).bind fun v206 => if v206.1 = v166.1 then (if v166.1 = 0 then ((rdJ v206.2 x3 0).bind fun v223 => if v200.1 = 0 then (fL_law_234 xs Ls (fL_law_23 xs Ls n) x1 x2 x3 x4 v223 0 v206.2) else (fL_law_234 xs Ls (fL_law_23 xs Ls n) x1 x2 x3 x4 v223 1 v206.2)) else (fL_law_1481 xs Ls (fL_law_23 xs Ls n) x1 x2 x3 x4 v206.2)) else (some (0, v206.2))) else (if (v35 &&& 31) = 1 then ((scr xs Ls (x4 + 1)).bind fun v249 => (scr xs Ls (x4 + 2)).bind fun v255 => (mL_row F x1 v249 v255 x3).bind fun v257 => (scr xs Ls (x4 + 1)).bind fun v268 => (scr xs Ls (x4 + 2)).bind fun v274 => (obj v257.2 x2 9).bind fun _ => (mX10_row v257.2 x2 v268 v274).bind fun v275 => (obj v275.2 x2 9).bind fun _ => (mX10_thrown v275.2 x2).bind fun v281 => if v281.1 = v257.1 then (if v257.1 = 0 then ((rdJ v281.2 x3 0).bind fun v298 => if (lg_cmp v298 (Int32.toInt64 v275.1)) = 0 then (fL_law_1481 xs Ls (fL_law_23 xs Ls n) x1 x2 x3 x4 v281.2) else (some (0, v281.2))) else (fL_law_1481 xs Ls (fL_law_23 xs Ls n) x1 x2 x3 x4 v281.2)) else (some (0, v281.2))) else (if (v35 &&& 31) = 2 then ((scr xs Ls (x4 + 1)).bind fun v317 => (mL_conjugate F x1 v317 x3).bind fun v319 => (scr xs Ls (x4 + 1)).bind fun v330 => (obj v319.2 x2 9).bind fun _ => (mX10_conjugate v319.2 x2 v330).bind fun v331 => (obj v331.2 x2 9).bind fun _ => (mX10_thrown v331.2 x2).bind fun v337 => if v337.1 = v319.1 then (if v319.1 = 0 then ((rdJ v337.2 x3 0).bind fun v354 => if v331.1 = 0 then (fL_law_365 xs Ls (fL_law_23 xs Ls n) x1 x2 x3 x4 v354 0 v337.2) else (fL_law_365 xs Ls (fL_law_23 xs Ls n) x1 x2 x3 x4 v354 1 v337.2)) else (fL_law_1481 xs Ls (fL_law_23 xs Ls n) x1 x2 x3 x4 v337.2)) else (some (0, v337.2))) else (if (v35 &&& 31) = 3 then ((scr xs Ls (x4 + 1)).bind fun v380 => (mL_rank F x1 v380 x3).bind fun v382 => (scr xs Ls (x4 + 1)).bind fun v393 => (obj v382.2 x2 9).bind fun _ => (mX10_rank v382.2 x2 v393).bind fun v394 => (obj v394.2 x2 9).bind fun _ => (mX10_thrown v394.2 x2).bind fun v400 => if v400.1 = v382.1 then (if v382.1 = 0 then ((rdJ v400.2 x3 0).bind fun v417 => if (lg_cmp v417 (Int32.toInt64 v394.1)) = 0 then (fL_law_1481 xs Ls (fL_law_23 xs Ls n) x1 x2 x3 x4 v400.2) else (some (0, v400.2))) else (fL_law_1481 xs Ls (fL_law_23 xs Ls n) x1 x2 x3 x4 v400.2)) else (some (0, v400.2))) else (if (v35 &&& 31) = 4 then ((scr xs Ls (x4 + 1)).bind fun v436 => (scr xs Ls (x4 + 2)).bind fun v442 => (scr xs Ls (x4 + 3)).bind fun v448 => (mL_unrank F x1 v436 v442 v448).bind fun v449 => (scr xs Ls (x4 + 1)).bind fun v460 => (scr xs Ls (x4 + 2)).bind fun v466 => (scr xs Ls (x4 + 3)).bind fun v472 => (obj v449.2 x2 9).bind fun _ => (mX10_unrank v449.2 x2 v460 v466 v472).bind fun v473 => (obj v473 x2 9).bind fun _ => (mX10_thrown v473 x2).bind fun v477 => if v477.1 = v449.1 then (fL_law_1481 xs Ls (fL_law_23 xs Ls n) x1 x2 x3 x4 v477.2) else (some (0, v477.2))) else (if (v35 &&& 31) = 5 then ((scr xs Ls (x4 + 1)).bind fun v496 => (scr xs Ls (x4 + 2)).bind fun v502 => (mL_letter F x1 v496 v502 x3).bind fun v504 => (scr xs Ls (x4 + 1)).bind fun v515 => (scr xs Ls (x4 + 2)).bind fun v521 => (obj v504.2 x2 9).bind fun _ => (mX10_letter v504.2 x2 v515 v521).bind fun v522 => (obj v522.2 x2 9).bind fun _ => (mX10_thrown v522.2 x2).bind fun v528 => if v528.1 = v504.1 then (if v504.1 = 0 then ((rdJ v528.2 x3 0).bind fun v545 => if v522.1 = 0 then (fL_law_556 xs Ls (fL_law_23 xs Ls n) x1 x2 x3 x4 v545 0 v528.2) else (fL_law_556 xs Ls (fL_law_23 xs Ls n) x1 x2 x3 x4 v545 1 v528.2)) else (fL_law_1481 xs Ls (fL_law_23 xs Ls n) x1 x2 x3 x4 v528.2)) else (some (0, v528.2))) else (if (v35 &&& 31) = 6 then ((scr xs Ls (x4 + 1)).bind fun v571 => (scr xs Ls (x4 + 2)).bind fun v577 => (mL_cut F x1 v571 v577 x3).bind fun v579 => (scr xs Ls (x4 + 1)).bind fun v590 => (scr xs Ls (x4 + 2)).bind fun v596 => (obj v579.2 x2 9).bind fun _ => (mX10_cut v579.2 x2 v590 v596).bind fun v597 => (obj v597.2 x2 9).bind fun _ => (mX10_thrown v597.2 x2).bind fun v603 => if v603.1 = v579.1 then (if v579.1 = 0 then ((rdJ v603.2 x3 0).bind fun v620 => if v597.1 = 0 then (fL_law_631 xs Ls (fL_law_23 xs Ls n) x1 x2 x3 x4 v620 0 v603.2) else (fL_law_631 xs Ls (fL_law_23 xs Ls n) x1 x2 x3 x4 v620 1 v603.2)) else (fL_law_1481 xs Ls (fL_law_23 xs Ls n) x1 x2 x3 x4 v603.2)) else (some (0, v603.2))) else (if (v35 &&& 31) = 7 then ((scr xs Ls (x4 + 1)).bind fun v646 => (mL_length F x1 v646 x3).bind fun v648 => (scr xs Ls (x4 + 1)).bind fun v659 => (obj v648.2 x2 9).bind fun _ => (mX10_length v648.2 x2 v659).bind fun v660 => (obj v660.2 x2 9).bind fun _ => (mX10_thrown v660.2 x2).bind fun v666 => if v666.1 = v648.1 then (if v648.1 = 0 then ((rdJ v666.2 x3 0).bind fun v683 => if (lg_cmp v683 (Int32.toInt64 v660.1)) = 0 then (fL_law_1481 xs Ls (fL_law_23 xs Ls n) x1 x2 x3 x4 v666.2) else (some (0, v666.2))) else (fL_law_1481 xs Ls (fL_law_23 xs Ls n) x1 x2 x3 x4 v666.2)) else (some (0, v666.2))) else (if (v35 &&& 31) = 8 then ((scr xs Ls (x4 + 1)).bind fun v702 => (scr xs Ls (x4 + 2)).bind fun v708 => (mL_at F x1 v702 v708 x3).bind fun v710 => (scr xs Ls (x4 + 1)).bind fun v721 => (scr xs Ls (x4 + 2)).bind fun v727 => (obj v710.2 x2 9).bind fun _ => (mX10_at v710.2 x2 v721 v727).bind fun v728 => (obj v728.2 x2 9).bind fun _ => (mX10_thrown v728.2 x2).bind fun v734 => if v734.1 = v710.1 then (if v710.1 = 0 then ((rdJ v734.2 x3 0).bind fun v751 => if (lg_cmp v751 (Int32.toInt64 v728.1)) = 0 then (fL_law_1481 xs Ls (fL_law_23 xs Ls n) x1 x2 x3 x4 v734.2) else (some (0, v734.2))) else (fL_law_1481 xs Ls (fL_law_23 xs Ls n) x1 x2 x3 x4 v734.2)) else (some (0, v734.2))) else (if (v35 &&& 31) = 9 then ((scr xs Ls (x4 + 1)).bind fun v770 => (scr xs Ls (x4 + 2)).bind fun v776 => if v776 = 0 then (fL_law_785 xs Ls (fL_law_23 xs Ls n) x1 x2 x3 x4 x1 v770 0 F) else (fL_law_785 xs Ls (fL_law_23 xs Ls n) x1 x2 x3 x4 x1 v770 1 F)) else (if (v35 &&& 31) = 10 then ((scr xs Ls (x4 + 1)).bind fun v854 => if v854 = 0 then (fL_law_863 xs Ls (fL_law_23 xs Ls n) x1 x2 x3 x4 x1 0 F) else (fL_law_863 xs Ls (fL_law_23 xs Ls n) x1 x2 x3 x4 x1 1 F)) else (if (v35 &&& 31) = 11 then ((scr xs Ls (x4 + 1)).bind fun v919 => (mL_recover F x1 v919).bind fun v920 => (scr xs Ls (x4 + 1)).bind fun v931 => (obj v920.2 x2 9).bind fun _ => (mX10_recover v920.2 x2 v931).bind fun v932 => (obj v932 x2 9).bind fun _ => (mX10_thrown v932 x2).bind fun v936 => if v936.1 = v920.1 then (fL_law_1481 xs Ls (fL_law_23 xs Ls n) x1 x2 x3 x4 v936.2) else (some (0, v936.2))) else (if (v35 &&& 31) = 12 then ((scr xs Ls (x4 + 1)).bind fun v955 => (mL_read F x1 v955).bind fun v956 => (scr xs Ls (x4 + 1)).bind fun v967 => (obj v956.2 x2 9).bind fun _ => (mX10_read v956.2 x2 v967).bind fun v968 => (obj v968 x2 9).bind fun _ => (mX10_thrown v968 x2).bind fun v972 => if v972.1 = v956.1 then (fL_law_1481 xs Ls (fL_law_23 xs Ls n) x1 x2 x3 x4 v972.2) else (some (0, v972.2))) else (if (v35 &&& 31) = 13 then ((obj F x1 8).bind fun _ => (mX9_equivalent F x1).bind fun v986 => (obj v986.2 x2 9).bind fun _ => (mX10_equivalent v986.2 x2).bind fun v990 => if v986.1 = v990.1 then (fL_law_1481 xs Ls (fL_law_23 xs Ls n) x1 x2 x3 x4 v990.2) else (some (0, v990.2))) else (if (v35 &&& 31) = 14 then ((scr xs Ls (x4 + 1)).bind fun v1004 => (scr xs Ls (x4 + 2)).bind fun v1010 => (scr xs Ls (x4 + 3)).bind fun v1016 => (scr xs Ls (x4 + 4)).bind fun v1022 => (mL_rectify F x1 v1004 v1010 v1016 v1022 x3).bind fun v1024 => (scr xs Ls (x4 + 1)).bind fun v1035 => (scr xs Ls (x4 + 2)).bind fun v1041 => (scr xs Ls (x4 + 3)).bind fun v1047 => (scr xs Ls (x4 + 4)).bind fun v1053 => (obj v1024.2 x2 9).bind fun _ => (mX10_rectify v1024.2 x2 v1035 v1041 v1047 v1053).bind fun v1054 => (obj v1054.2 x2 9).bind fun _ => (mX10_thrown v1054.2 x2).bind fun v1060 => if v1060.1 = v1024.1 then (if v1024.1 = 0 then ((rdJ v1060.2 x3 0).bind fun v1077 => if (lg_cmp v1077 (Int32.toInt64 v1054.1)) = 0 then (fL_law_1481 xs Ls (fL_law_23 xs Ls n) x1 x2 x3 x4 v1060.2) else (some (0, v1060.2))) else (fL_law_1481 xs Ls (fL_law_23 xs Ls n) x1 x2 x3 x4 v1060.2)) else (some (0, v1060.2))) else (if (v35 &&& 31) = 15 then ((mL_turn F x1).bind fun v1091 => (obj v1091.2 x2 9).bind fun _ => (mX10_turn v1091.2 x2).bind fun v1097 => (obj v1097 x2 9).bind fun _ => (mX10_thrown v1097 x2).bind fun v1101 => if v1101.1 = v1091.1 then (fL_law_1481 xs Ls (fL_law_23 xs Ls n) x1 x2 x3 x4 v1101.2) else (some (0, v1101.2))) else (if (v35 &&& 31) = 16 then ((scr xs Ls (x4 + 1)).bind fun v1120 => (scr xs Ls (x4 + 2)).bind fun v1126 => (scr xs Ls (x4 + 3)).bind fun v1136 => (mL_draw F x1 v1120 (((Int32.toInt64 v1126) <<< (Int32.toInt64 32 &&& 63)) ||| ((Int32.toInt64 v1136) &&& 4294967295)) x3).bind fun v1144 => (scr xs Ls (x4 + 1)).bind fun v1155 => (scr xs Ls (x4 + 2)).bind fun v1161 => (scr xs Ls (x4 + 3)).bind fun v1171 => (obj v1144.2 x2 9).bind fun _ => (mX10_draw v1144.2 x2 v1155 (((Int32.toInt64 v1161) <<< (Int32.toInt64 32 &&& 63)) ||| ((Int32.toInt64 v1171) &&& 4294967295))).bind fun v1178 => (obj v1178.2 x2 9).bind fun _ => (mX10_thrown v1178.2 x2).bind fun v1184 => if v1184.1 = v1144.1 then (if v1144.1 = 0 then ((rdJ v1184.2 x3 0).bind fun v1201 => if (lg_cmp v1201 v1178.1) = 0 then (fL_law_1481 xs Ls (fL_law_23 xs Ls n) x1 x2 x3 x4 v1184.2) else (some (0, v1184.2))) else (fL_law_1481 xs Ls (fL_law_23 xs Ls n) x1 x2 x3 x4 v1184.2)) else (some (0, v1184.2))) else (if (v35 &&& 31) = 17 then ((scr xs Ls (x4 + 1)).bind fun v1219 => (mL_standard F x1 v1219 x3).bind fun v1221 => (scr xs Ls (x4 + 1)).bind fun v1232 => (obj v1221.2 x2 9).bind fun _ => (mX10_standard v1221.2 x2 v1232).bind fun v1233 => (obj v1233.2 x2 9).bind fun _ => (mX10_thrown v1233.2 x2).bind fun v1239 => if v1239.1 = v1221.1 then (if v1221.1 = 0 then ((rdJ v1239.2 x3 0).bind fun v1256 => if (lg_cmp v1256 v1233.1) = 0 then (fL_law_1481 xs Ls (fL_law_23 xs Ls n) x1 x2 x3 x4 v1239.2) else (some (0, v1239.2))) else (fL_law_1481 xs Ls (fL_law_23 xs Ls n) x1 x2 x3 x4 v1239.2)) else (some (0, v1239.2))) else (if (v35 &&& 31) = 18 then ((scr xs Ls (x4 + 1)).bind fun v1274 => (scr xs Ls (x4 + 2)).bind fun v1280 => (mL_fillings F x1 v1274 v1280 x3).bind fun v1282 => (scr xs Ls (x4 + 1)).bind fun v1293 => (scr xs Ls (x4 + 2)).bind fun v1299 => (obj v1282.2 x2 9).bind fun _ => (mX10_fillings v1282.2 x2 v1293 v1299).bind fun v1300 => (obj v1300.2 x2 9).bind fun _ => (mX10_thrown v1300.2 x2).bind fun v1306 => if v1306.1 = v1282.1 then (if v1282.1 = 0 then ((rdJ v1306.2 x3 0).bind fun v1323 => if (lg_cmp v1323 v1300.1) = 0 then (fL_law_1481 xs Ls (fL_law_23 xs Ls n) x1 x2 x3 x4 v1306.2) else (some (0, v1306.2))) else (fL_law_1481 xs Ls (fL_law_23 xs Ls n) x1 x2 x3 x4 v1306.2)) else (some (0, v1306.2))) else (if (v35 &&& 31) = 19 then ((scr xs Ls (x4 + 1)).bind fun v1341 => (scr xs Ls (x4 + 2)).bind fun v1347 => (scr xs Ls (x4 + 3)).bind fun v1353 => (mL_coefficient F x1 v1341 v1347 v1353 x3).bind fun v1355 => (scr xs Ls (x4 + 1)).bind fun v1366 => (scr xs Ls (x4 + 2)).bind fun v1372 => (scr xs Ls (x4 + 3)).bind fun v1378 => (obj v1355.2 x2 9).bind fun _ => (mX10_coefficient v1355.2 x2 v1366 v1372 v1378).bind fun v1379 => (obj v1379.2 x2 9).bind fun _ => (mX10_thrown v1379.2 x2).bind fun v1385 => if v1385.1 = v1355.1 then (if v1355.1 = 0 then ((rdJ v1385.2 x3 0).bind fun v1402 => if (lg_cmp v1402 v1379.1) = 0 then (fL_law_1481 xs Ls (fL_law_23 xs Ls n) x1 x2 x3 x4 v1385.2) else (some (0, v1385.2))) else (fL_law_1481 xs Ls (fL_law_23 xs Ls n) x1 x2 x3 x4 v1385.2)) else (some (0, v1385.2))) else (if (v35 &&& 31) = 20 then ((scr xs Ls (x4 + 1)).bind fun v1420 => (scr xs Ls (x4 + 2)).bind fun v1426 => (mL_character F x1 v1420 v1426 x3).bind fun v1428 => (scr xs Ls (x4 + 1)).bind fun v1439 => (scr xs Ls (x4 + 2)).bind fun v1445 => (obj v1428.2 x2 9).bind fun _ => (mX10_character v1428.2 x2 v1439 v1445).bind fun v1446 => (obj v1446.2 x2 9).bind fun _ => (mX10_thrown v1446.2 x2).bind fun v1452 => if v1452.1 = v1428.1 then (if v1428.1 = 0 then ((rdJ v1452.2 x3 0).bind fun v1469 => if (lg_cmp v1469 v1446.1) = 0 then (fL_law_1481 xs Ls (fL_law_23 xs Ls n) x1 x2 x3 x4 v1452.2) else (some (0, v1452.2))) else (fL_law_1481 xs Ls (fL_law_23 xs Ls n) x1 x2 x3 x4 v1452.2)) else (some (0, v1452.2))) else (fL_law_1481 xs Ls (fL_law_23 xs Ls n) x1 x2 x3 x4 F))))))))))))))))))))))
set_option maxRecDepth 100000 in
set_option maxHeartbeats 4000000 in
theorem tL_law_23 {l : Launch} {D : va_G} {cy : Nat → ClassId} (hst0 : l.stackTraces = false) {b Ls : Nat} {xs : Nat → Int32} {C : Cx} {res : Int32 × Mem} (X : Fx C cL_law RL (some .boolean) room_1 8) (hcd : CD C l D cy) (Tl : LT C) (Lq : LQ C b Ls xs) (hres : res.1 = 1) : ∀ (n cs sl : Nat) (_ : cs + 16 * n ≤ 600128) (_ : sl + 96 * n ≤ 7301098) (x1 : Nat) (x2 : Nat) (x3 : Nat) (x4 : Int32) (F : Mem), fL_law_23 xs Ls n x1 x2 x3 x4 F = some res → Wp C cs sl 23 [(0, .ref b), (1, .ref x1), (2, .ref x2), (3, .ref x3), (4, .int x4)] [] F := by
  intro n
  induction n with
  | zero =>
    intro cs sl hcs hsl x1 x2 x3 x4 F h
    rw [fL_law_23.eq_1] at h
    cases h
  | succ n ih =>
    intro cs sl hcs1 hsl1 x1 x2 x3 x4 F h
    have hcs : cs + 16 ≤ 600128 := by omega
    have hsl : sl + 96 ≤ 7301098 := by omega
    have ihh := ih (cs + 4) (sl + 24) (by omega) (by omega)
    rw [fL_law_23.eq_2] at h
    refine wp_iload X dL_law_23 4 rfl ?_
    refine wp_aload_n X dL_law_25 0 rfl ?_
    refine wp_slen X Lq dL_law_26 ?_
    refine wp_iconst X (v := 5) dL_law_27 (by decide) ?_
    refine wp_isub X dL_law_28 ?_
    refine wp_icmp_gt X (tgt := 1487) dL_law_29 (by decide) h (fun h => ?_) (fun h => ?_)
    · refine wp_iconst X (v := 1) dL_law_1487 (by decide) ?_
      exact wp_lawret X Lq (by omega) (by omega) dL_law_1488 ((congrArg Prod.fst (Option.some.inj h)).trans hres)
    · refine wp_aload_n X dL_law_32 0 rfl ?_
      refine wp_iload X dL_law_33 4 rfl ?_
      refine wp_sld X Lq dL_law_35 h (fun v35 h => ?_)
      refine wp_bipush X (v := 31) dL_law_36 (by decide) ?_
      refine wp_iand X dL_law_38 ?_
      by_cases e0 : (v35 &&& 31) = 0
      · rw [if_pos e0] at h
        rw [e0]
        refine wp_tswIn X (tgt := 136) dL_law_39 (by decide) (by decide) (by rfl) (by decide) ?_
        refine wp_aload_n X dL_law_136 1 rfl ?_
        refine wp_aload_n X dL_law_137 0 rfl ?_
        refine wp_iload X dL_law_138 4 rfl ?_
        refine wp_iconst X (v := 1) dL_law_140 (by decide) ?_
        refine wp_iadd X dL_law_141 ?_
        refine wp_sld X Lq dL_law_142 h (fun v142 h => ?_)
        refine wp_aload_n X dL_law_143 0 rfl ?_
        refine wp_iload X dL_law_144 4 rfl ?_
        refine wp_iconst X (v := 2) dL_law_146 (by decide) ?_
        refine wp_iadd X dL_law_147 ?_
        refine wp_sld X Lq dL_law_148 h (fun v148 h => ?_)
        refine wp_i2l X dL_law_149 ?_
        refine wp_bipush X (v := 32) dL_law_150 (by decide) ?_
        refine wp_lshl X dL_law_152 ?_
        refine wp_aload_n X dL_law_153 0 rfl ?_
        refine wp_iload X dL_law_154 4 rfl ?_
        refine wp_iconst X (v := 3) dL_law_156 (by decide) ?_
        refine wp_iadd X dL_law_157 ?_
        refine wp_sld X Lq dL_law_158 h (fun v158 h => ?_)
        refine wp_i2l X dL_law_159 ?_
        refine wp_ldc2 X dL_law_160 (v := 4294967295) kw1077 ?_
        refine wp_land X dL_law_163 ?_
        refine wp_lor X dL_law_164 ?_
        refine wp_aload_n X dL_law_165 3 rfl ?_
        refine wp_callH X Tl (rm := rmL_shape) (n := 4) [.ref x1, .int v142, .long (((Int32.toInt64 v148) <<< (Int32.toInt64 32 &&& 63)) ||| ((Int32.toInt64 v158) &&& 4294967295)), .ref x3] hcd (fun q hq => cL_shape_ok hst0 hq) kw275 kw276 kw0 kw277 (by decide +kernel) (by decide) ⟨by show cs + 1 ≤ 600128; omega, by show sl + 6 ≤ 7301098; omega⟩ (cs2 := cs + 1) (sl2 := sl + 6) (by show cs + 1 = cs + 1; omega) (by show sl + 6 = sl + 6; omega) rfl rfl (Nat.le_of_ble_eq_true rfl) dL_law_166 h (fun v166 h => ?_)
        refine wp_istore X (lv' := [(0, .ref b), (1, .ref x1), (2, .ref x2), (3, .ref x3), (4, .int x4), (5, .int v166.1)]) dL_law_169 (by decide) [1, 2, 3, 4, 5, 0] rfl ?_
        refine wp_aload_n X dL_law_171 2 rfl ?_
        refine wp_aload_n X dL_law_172 0 rfl ?_
        refine wp_iload X dL_law_173 4 rfl ?_
        refine wp_iconst X (v := 1) dL_law_175 (by decide) ?_
        refine wp_iadd X dL_law_176 ?_
        refine wp_sld X Lq dL_law_177 h (fun v177 h => ?_)
        refine wp_aload_n X dL_law_178 0 rfl ?_
        refine wp_iload X dL_law_179 4 rfl ?_
        refine wp_iconst X (v := 2) dL_law_181 (by decide) ?_
        refine wp_iadd X dL_law_182 ?_
        refine wp_sld X Lq dL_law_183 h (fun v183 h => ?_)
        refine wp_i2l X dL_law_184 ?_
        refine wp_bipush X (v := 32) dL_law_185 (by decide) ?_
        refine wp_lshl X dL_law_187 ?_
        refine wp_aload_n X dL_law_188 0 rfl ?_
        refine wp_iload X dL_law_189 4 rfl ?_
        refine wp_iconst X (v := 3) dL_law_191 (by decide) ?_
        refine wp_iadd X dL_law_192 ?_
        refine wp_sld X Lq dL_law_193 h (fun v193 h => ?_)
        refine wp_i2l X dL_law_194 ?_
        refine wp_ldc2 X dL_law_195 (v := 4294967295) kw1077 ?_
        refine wp_land X dL_law_198 ?_
        refine wp_lor X dL_law_199 ?_
        refine wp_callVI X (rm := rmX10_shape) (T := TX10) (N := 20) (ci := 9) (n := 2) [.int v177, .long (((Int32.toInt64 v183) <<< (Int32.toInt64 32 &&& 63)) ||| ((Int32.toInt64 v193) &&& 4294967295))] hcd (fun q hq => cX10_shape_ok hq) kw877 kw878 kw879 kw10 kw880 (by decide +kernel) (by decide) ⟨by show cs + 1 + 0 ≤ 600128; omega, by show sl + 6 + 0 ≤ 7301098; omega⟩ (cs2 := cs + 1) (sl2 := sl + 6) (by show cs + 1 + 0 = cs + 1; omega) (by show sl + 6 + 0 = sl + 6; omega) rfl (by decide) rfl rfl (Nat.le_of_ble_eq_true rfl) dL_law_200 h (fun v200 h => ?_)
        refine wp_istore X (lv' := [(0, .ref b), (1, .ref x1), (2, .ref x2), (3, .ref x3), (4, .int x4), (5, .int v166.1), (6, .int v200.1)]) dL_law_203 (by decide) [1, 2, 3, 4, 5, 6, 0] rfl ?_
        refine wp_aload_n X dL_law_205 2 rfl ?_
        refine wp_callVI X (rm := rmX10_thrown) (T := TX10) (N := 20) (ci := 9) (n := 0) [] hcd (fun q hq => cX10_thrown_ok hq) kw873 kw874 kw875 kw10 kw876 (by decide +kernel) (by decide) ⟨by show cs + 1 + 0 ≤ 600128; omega, by show sl + 6 + 0 ≤ 7301098; omega⟩ (cs2 := cs + 1) (sl2 := sl + 6) (by show cs + 1 + 0 = cs + 1; omega) (by show sl + 6 + 0 = sl + 6; omega) rfl (by decide) rfl rfl (Nat.le_of_ble_eq_true rfl) dL_law_206 h (fun v206 h => ?_)
        refine wp_iload X dL_law_209 5 rfl ?_
        refine wp_icmp_eq X (tgt := 216) dL_law_211 (by decide) h (fun h => ?_) (fun h => ?_)
        · refine wp_iload X dL_law_216 5 rfl ?_
          refine wp_if_ne X (tgt := 240) dL_law_218 (by decide) h (fun h => ?_) (fun h => ?_)
          · refine wp_goto X (tgt := 1481) dL_law_240 (by decide) ?_
            refine wp_widen (cs' := cs + 4) (sl' := sl + 24) (by omega) (by omega) ?_
            refine wp_sub (lv' := [(0, .ref b), (1, .ref x1), (2, .ref x2), (3, .ref x3), (4, .int x4)]) [0, 1, 2, 3, 4] rfl ?_
            exact tL_law_1481 hst0 X hcd Tl Lq hres hcs hsl  ihh _ _ _ _ _ h
          · refine wp_aload_n X dL_law_221 3 rfl ?_
            refine wp_iconst X (v := 0) dL_law_222 (by decide) ?_
            refine wp_laload X dL_law_223 h (fun v223 h => ?_)
            refine wp_iload X dL_law_224 6 rfl ?_
            refine wp_if_eq X (tgt := 233) dL_law_226 (by decide) h (fun h => ?_) (fun h => ?_)
            · refine wp_lconst X (v := 0) dL_law_233 (by decide) ?_
              refine wp_sub (lv' := [(0, .ref b), (1, .ref x1), (2, .ref x2), (3, .ref x3), (4, .int x4)]) [0, 1, 2, 3, 4] rfl ?_
              exact tL_law_234 hst0 X hcd Tl Lq hres hcs hsl  ihh _ _ _ _ _ _ _ h
            · refine wp_lconst X (v := 1) dL_law_229 (by decide) ?_
              refine wp_goto X (tgt := 234) dL_law_230 (by decide) ?_
              refine wp_sub (lv' := [(0, .ref b), (1, .ref x1), (2, .ref x2), (3, .ref x3), (4, .int x4)]) [0, 1, 2, 3, 4] rfl ?_
              exact tL_law_234 hst0 X hcd Tl Lq hres hcs hsl  ihh _ _ _ _ _ _ _ h
        · refine wp_iconst X (v := 0) dL_law_214 (by decide) ?_
          exact wp_lawret X Lq (by omega) (by omega) dL_law_215 ((congrArg Prod.fst (Option.some.inj h)).trans hres)
      · rw [if_neg e0] at h
        by_cases e1 : (v35 &&& 31) = 1
        · rw [if_pos e1] at h
          rw [e1]
          refine wp_tswIn X (tgt := 243) dL_law_39 (by decide) (by decide) (by rfl) (by decide) ?_
          refine wp_aload_n X dL_law_243 1 rfl ?_
          refine wp_aload_n X dL_law_244 0 rfl ?_
          refine wp_iload X dL_law_245 4 rfl ?_
          refine wp_iconst X (v := 1) dL_law_247 (by decide) ?_
          refine wp_iadd X dL_law_248 ?_
          refine wp_sld X Lq dL_law_249 h (fun v249 h => ?_)
          refine wp_aload_n X dL_law_250 0 rfl ?_
          refine wp_iload X dL_law_251 4 rfl ?_
          refine wp_iconst X (v := 2) dL_law_253 (by decide) ?_
          refine wp_iadd X dL_law_254 ?_
          refine wp_sld X Lq dL_law_255 h (fun v255 h => ?_)
          refine wp_aload_n X dL_law_256 3 rfl ?_
          refine wp_callH X Tl (rm := rmL_row) (n := 4) [.ref x1, .int v249, .int v255, .ref x3] hcd (fun q hq => cL_row_ok hst0 hq) kw376 kw377 kw0 kw378 (by decide +kernel) (by decide) ⟨by show cs + 1 ≤ 600128; omega, by show sl + 6 ≤ 7301098; omega⟩ (cs2 := cs + 1) (sl2 := sl + 6) (by show cs + 1 = cs + 1; omega) (by show sl + 6 = sl + 6; omega) rfl rfl (Nat.le_of_ble_eq_true rfl) dL_law_257 h (fun v257 h => ?_)
          refine wp_istore X (lv' := [(0, .ref b), (1, .ref x1), (2, .ref x2), (3, .ref x3), (4, .int x4), (5, .int v257.1)]) dL_law_260 (by decide) [1, 2, 3, 4, 5, 0] rfl ?_
          refine wp_aload_n X dL_law_262 2 rfl ?_
          refine wp_aload_n X dL_law_263 0 rfl ?_
          refine wp_iload X dL_law_264 4 rfl ?_
          refine wp_iconst X (v := 1) dL_law_266 (by decide) ?_
          refine wp_iadd X dL_law_267 ?_
          refine wp_sld X Lq dL_law_268 h (fun v268 h => ?_)
          refine wp_aload_n X dL_law_269 0 rfl ?_
          refine wp_iload X dL_law_270 4 rfl ?_
          refine wp_iconst X (v := 2) dL_law_272 (by decide) ?_
          refine wp_iadd X dL_law_273 ?_
          refine wp_sld X Lq dL_law_274 h (fun v274 h => ?_)
          refine wp_callVI X (rm := rmX10_row) (T := TX10) (N := 20) (ci := 9) (n := 2) [.int v268, .int v274] hcd (fun q hq => cX10_row_ok hq) kw885 kw886 kw887 kw10 kw888 (by decide +kernel) (by decide) ⟨by show cs + 1 + 0 ≤ 600128; omega, by show sl + 6 + 0 ≤ 7301098; omega⟩ (cs2 := cs + 1) (sl2 := sl + 6) (by show cs + 1 + 0 = cs + 1; omega) (by show sl + 6 + 0 = sl + 6; omega) rfl (by decide) rfl rfl (Nat.le_of_ble_eq_true rfl) dL_law_275 h (fun v275 h => ?_)
          refine wp_istore X (lv' := [(0, .ref b), (1, .ref x1), (2, .ref x2), (3, .ref x3), (4, .int x4), (5, .int v257.1), (6, .int v275.1)]) dL_law_278 (by decide) [1, 2, 3, 4, 5, 6, 0] rfl ?_
          refine wp_aload_n X dL_law_280 2 rfl ?_
          refine wp_callVI X (rm := rmX10_thrown) (T := TX10) (N := 20) (ci := 9) (n := 0) [] hcd (fun q hq => cX10_thrown_ok hq) kw873 kw874 kw875 kw10 kw876 (by decide +kernel) (by decide) ⟨by show cs + 1 + 0 ≤ 600128; omega, by show sl + 6 + 0 ≤ 7301098; omega⟩ (cs2 := cs + 1) (sl2 := sl + 6) (by show cs + 1 + 0 = cs + 1; omega) (by show sl + 6 + 0 = sl + 6; omega) rfl (by decide) rfl rfl (Nat.le_of_ble_eq_true rfl) dL_law_281 h (fun v281 h => ?_)
          refine wp_iload X dL_law_284 5 rfl ?_
          refine wp_icmp_eq X (tgt := 291) dL_law_286 (by decide) h (fun h => ?_) (fun h => ?_)
          · refine wp_iload X dL_law_291 5 rfl ?_
            refine wp_if_ne X (tgt := 308) dL_law_293 (by decide) h (fun h => ?_) (fun h => ?_)
            · refine wp_goto X (tgt := 1481) dL_law_308 (by decide) ?_
              refine wp_widen (cs' := cs + 4) (sl' := sl + 24) (by omega) (by omega) ?_
              refine wp_sub (lv' := [(0, .ref b), (1, .ref x1), (2, .ref x2), (3, .ref x3), (4, .int x4)]) [0, 1, 2, 3, 4] rfl ?_
              exact tL_law_1481 hst0 X hcd Tl Lq hres hcs hsl  ihh _ _ _ _ _ h
            · refine wp_aload_n X dL_law_296 3 rfl ?_
              refine wp_iconst X (v := 0) dL_law_297 (by decide) ?_
              refine wp_laload X dL_law_298 h (fun v298 h => ?_)
              refine wp_iload X dL_law_299 6 rfl ?_
              refine wp_i2l X dL_law_301 ?_
              refine wp_lcmp X dL_law_302 ?_
              refine wp_if_eq X (tgt := 308) dL_law_303 (by decide) h (fun h => ?_) (fun h => ?_)
              · refine wp_goto X (tgt := 1481) dL_law_308 (by decide) ?_
                refine wp_widen (cs' := cs + 4) (sl' := sl + 24) (by omega) (by omega) ?_
                refine wp_sub (lv' := [(0, .ref b), (1, .ref x1), (2, .ref x2), (3, .ref x3), (4, .int x4)]) [0, 1, 2, 3, 4] rfl ?_
                exact tL_law_1481 hst0 X hcd Tl Lq hres hcs hsl  ihh _ _ _ _ _ h
              · refine wp_iconst X (v := 0) dL_law_306 (by decide) ?_
                exact wp_lawret X Lq (by omega) (by omega) dL_law_307 ((congrArg Prod.fst (Option.some.inj h)).trans hres)
          · refine wp_iconst X (v := 0) dL_law_289 (by decide) ?_
            exact wp_lawret X Lq (by omega) (by omega) dL_law_290 ((congrArg Prod.fst (Option.some.inj h)).trans hres)
        · rw [if_neg e1] at h
          by_cases e2 : (v35 &&& 31) = 2
          · rw [if_pos e2] at h
            rw [e2]
            refine wp_tswIn X (tgt := 311) dL_law_39 (by decide) (by decide) (by rfl) (by decide) ?_
            refine wp_aload_n X dL_law_311 1 rfl ?_
            refine wp_aload_n X dL_law_312 0 rfl ?_
            refine wp_iload X dL_law_313 4 rfl ?_
            refine wp_iconst X (v := 1) dL_law_315 (by decide) ?_
            refine wp_iadd X dL_law_316 ?_
            refine wp_sld X Lq dL_law_317 h (fun v317 h => ?_)
            refine wp_aload_n X dL_law_318 3 rfl ?_
            refine wp_callH X Tl (rm := rmL_conjugate) (n := 3) [.ref x1, .int v317, .ref x3] hcd (fun q hq => cL_conjugate_ok hst0 hq) kw387 kw388 kw0 kw389 (by decide +kernel) (by decide) ⟨by show cs + 1 ≤ 600128; omega, by show sl + 6 ≤ 7301098; omega⟩ (cs2 := cs + 1) (sl2 := sl + 6) (by show cs + 1 = cs + 1; omega) (by show sl + 6 = sl + 6; omega) rfl rfl (Nat.le_of_ble_eq_true rfl) dL_law_319 h (fun v319 h => ?_)
            refine wp_istore X (lv' := [(0, .ref b), (1, .ref x1), (2, .ref x2), (3, .ref x3), (4, .int x4), (5, .int v319.1)]) dL_law_322 (by decide) [1, 2, 3, 4, 5, 0] rfl ?_
            refine wp_aload_n X dL_law_324 2 rfl ?_
            refine wp_aload_n X dL_law_325 0 rfl ?_
            refine wp_iload X dL_law_326 4 rfl ?_
            refine wp_iconst X (v := 1) dL_law_328 (by decide) ?_
            refine wp_iadd X dL_law_329 ?_
            refine wp_sld X Lq dL_law_330 h (fun v330 h => ?_)
            refine wp_callVI X (rm := rmX10_conjugate) (T := TX10) (N := 20) (ci := 9) (n := 1) [.int v330] hcd (fun q hq => cX10_conjugate_ok hq) kw893 kw894 kw895 kw10 kw896 (by decide +kernel) (by decide) ⟨by show cs + 1 + 0 ≤ 600128; omega, by show sl + 6 + 0 ≤ 7301098; omega⟩ (cs2 := cs + 1) (sl2 := sl + 6) (by show cs + 1 + 0 = cs + 1; omega) (by show sl + 6 + 0 = sl + 6; omega) rfl (by decide) rfl rfl (Nat.le_of_ble_eq_true rfl) dL_law_331 h (fun v331 h => ?_)
            refine wp_istore X (lv' := [(0, .ref b), (1, .ref x1), (2, .ref x2), (3, .ref x3), (4, .int x4), (5, .int v319.1), (6, .int v331.1)]) dL_law_334 (by decide) [1, 2, 3, 4, 5, 6, 0] rfl ?_
            refine wp_aload_n X dL_law_336 2 rfl ?_
            refine wp_callVI X (rm := rmX10_thrown) (T := TX10) (N := 20) (ci := 9) (n := 0) [] hcd (fun q hq => cX10_thrown_ok hq) kw873 kw874 kw875 kw10 kw876 (by decide +kernel) (by decide) ⟨by show cs + 1 + 0 ≤ 600128; omega, by show sl + 6 + 0 ≤ 7301098; omega⟩ (cs2 := cs + 1) (sl2 := sl + 6) (by show cs + 1 + 0 = cs + 1; omega) (by show sl + 6 + 0 = sl + 6; omega) rfl (by decide) rfl rfl (Nat.le_of_ble_eq_true rfl) dL_law_337 h (fun v337 h => ?_)
            refine wp_iload X dL_law_340 5 rfl ?_
            refine wp_icmp_eq X (tgt := 347) dL_law_342 (by decide) h (fun h => ?_) (fun h => ?_)
            · refine wp_iload X dL_law_347 5 rfl ?_
              refine wp_if_ne X (tgt := 371) dL_law_349 (by decide) h (fun h => ?_) (fun h => ?_)
              · refine wp_goto X (tgt := 1481) dL_law_371 (by decide) ?_
                refine wp_widen (cs' := cs + 4) (sl' := sl + 24) (by omega) (by omega) ?_
                refine wp_sub (lv' := [(0, .ref b), (1, .ref x1), (2, .ref x2), (3, .ref x3), (4, .int x4)]) [0, 1, 2, 3, 4] rfl ?_
                exact tL_law_1481 hst0 X hcd Tl Lq hres hcs hsl  ihh _ _ _ _ _ h
              · refine wp_aload_n X dL_law_352 3 rfl ?_
                refine wp_iconst X (v := 0) dL_law_353 (by decide) ?_
                refine wp_laload X dL_law_354 h (fun v354 h => ?_)
                refine wp_iload X dL_law_355 6 rfl ?_
                refine wp_if_eq X (tgt := 364) dL_law_357 (by decide) h (fun h => ?_) (fun h => ?_)
                · refine wp_lconst X (v := 0) dL_law_364 (by decide) ?_
                  refine wp_sub (lv' := [(0, .ref b), (1, .ref x1), (2, .ref x2), (3, .ref x3), (4, .int x4)]) [0, 1, 2, 3, 4] rfl ?_
                  exact tL_law_365 hst0 X hcd Tl Lq hres hcs hsl  ihh _ _ _ _ _ _ _ h
                · refine wp_lconst X (v := 1) dL_law_360 (by decide) ?_
                  refine wp_goto X (tgt := 365) dL_law_361 (by decide) ?_
                  refine wp_sub (lv' := [(0, .ref b), (1, .ref x1), (2, .ref x2), (3, .ref x3), (4, .int x4)]) [0, 1, 2, 3, 4] rfl ?_
                  exact tL_law_365 hst0 X hcd Tl Lq hres hcs hsl  ihh _ _ _ _ _ _ _ h
            · refine wp_iconst X (v := 0) dL_law_345 (by decide) ?_
              exact wp_lawret X Lq (by omega) (by omega) dL_law_346 ((congrArg Prod.fst (Option.some.inj h)).trans hres)
          · rw [if_neg e2] at h
            by_cases e3 : (v35 &&& 31) = 3
            · rw [if_pos e3] at h
              rw [e3]
              refine wp_tswIn X (tgt := 374) dL_law_39 (by decide) (by decide) (by rfl) (by decide) ?_
              refine wp_aload_n X dL_law_374 1 rfl ?_
              refine wp_aload_n X dL_law_375 0 rfl ?_
              refine wp_iload X dL_law_376 4 rfl ?_
              refine wp_iconst X (v := 1) dL_law_378 (by decide) ?_
              refine wp_iadd X dL_law_379 ?_
              refine wp_sld X Lq dL_law_380 h (fun v380 h => ?_)
              refine wp_aload_n X dL_law_381 3 rfl ?_
              refine wp_callH X Tl (rm := rmL_rank) (n := 3) [.ref x1, .int v380, .ref x3] hcd (fun q hq => cL_rank_ok hst0 hq) kw398 kw399 kw0 kw400 (by decide +kernel) (by decide) ⟨by show cs + 1 ≤ 600128; omega, by show sl + 6 ≤ 7301098; omega⟩ (cs2 := cs + 1) (sl2 := sl + 6) (by show cs + 1 = cs + 1; omega) (by show sl + 6 = sl + 6; omega) rfl rfl (Nat.le_of_ble_eq_true rfl) dL_law_382 h (fun v382 h => ?_)
              refine wp_istore X (lv' := [(0, .ref b), (1, .ref x1), (2, .ref x2), (3, .ref x3), (4, .int x4), (5, .int v382.1)]) dL_law_385 (by decide) [1, 2, 3, 4, 5, 0] rfl ?_
              refine wp_aload_n X dL_law_387 2 rfl ?_
              refine wp_aload_n X dL_law_388 0 rfl ?_
              refine wp_iload X dL_law_389 4 rfl ?_
              refine wp_iconst X (v := 1) dL_law_391 (by decide) ?_
              refine wp_iadd X dL_law_392 ?_
              refine wp_sld X Lq dL_law_393 h (fun v393 h => ?_)
              refine wp_callVI X (rm := rmX10_rank) (T := TX10) (N := 20) (ci := 9) (n := 1) [.int v393] hcd (fun q hq => cX10_rank_ok hq) kw897 kw898 kw899 kw10 kw900 (by decide +kernel) (by decide) ⟨by show cs + 1 + 0 ≤ 600128; omega, by show sl + 6 + 0 ≤ 7301098; omega⟩ (cs2 := cs + 1) (sl2 := sl + 6) (by show cs + 1 + 0 = cs + 1; omega) (by show sl + 6 + 0 = sl + 6; omega) rfl (by decide) rfl rfl (Nat.le_of_ble_eq_true rfl) dL_law_394 h (fun v394 h => ?_)
              refine wp_istore X (lv' := [(0, .ref b), (1, .ref x1), (2, .ref x2), (3, .ref x3), (4, .int x4), (5, .int v382.1), (6, .int v394.1)]) dL_law_397 (by decide) [1, 2, 3, 4, 5, 6, 0] rfl ?_
              refine wp_aload_n X dL_law_399 2 rfl ?_
              refine wp_callVI X (rm := rmX10_thrown) (T := TX10) (N := 20) (ci := 9) (n := 0) [] hcd (fun q hq => cX10_thrown_ok hq) kw873 kw874 kw875 kw10 kw876 (by decide +kernel) (by decide) ⟨by show cs + 1 + 0 ≤ 600128; omega, by show sl + 6 + 0 ≤ 7301098; omega⟩ (cs2 := cs + 1) (sl2 := sl + 6) (by show cs + 1 + 0 = cs + 1; omega) (by show sl + 6 + 0 = sl + 6; omega) rfl (by decide) rfl rfl (Nat.le_of_ble_eq_true rfl) dL_law_400 h (fun v400 h => ?_)
              refine wp_iload X dL_law_403 5 rfl ?_
              refine wp_icmp_eq X (tgt := 410) dL_law_405 (by decide) h (fun h => ?_) (fun h => ?_)
              · refine wp_iload X dL_law_410 5 rfl ?_
                refine wp_if_ne X (tgt := 427) dL_law_412 (by decide) h (fun h => ?_) (fun h => ?_)
                · refine wp_goto X (tgt := 1481) dL_law_427 (by decide) ?_
                  refine wp_widen (cs' := cs + 4) (sl' := sl + 24) (by omega) (by omega) ?_
                  refine wp_sub (lv' := [(0, .ref b), (1, .ref x1), (2, .ref x2), (3, .ref x3), (4, .int x4)]) [0, 1, 2, 3, 4] rfl ?_
                  exact tL_law_1481 hst0 X hcd Tl Lq hres hcs hsl  ihh _ _ _ _ _ h
                · refine wp_aload_n X dL_law_415 3 rfl ?_
                  refine wp_iconst X (v := 0) dL_law_416 (by decide) ?_
                  refine wp_laload X dL_law_417 h (fun v417 h => ?_)
                  refine wp_iload X dL_law_418 6 rfl ?_
                  refine wp_i2l X dL_law_420 ?_
                  refine wp_lcmp X dL_law_421 ?_
                  refine wp_if_eq X (tgt := 427) dL_law_422 (by decide) h (fun h => ?_) (fun h => ?_)
                  · refine wp_goto X (tgt := 1481) dL_law_427 (by decide) ?_
                    refine wp_widen (cs' := cs + 4) (sl' := sl + 24) (by omega) (by omega) ?_
                    refine wp_sub (lv' := [(0, .ref b), (1, .ref x1), (2, .ref x2), (3, .ref x3), (4, .int x4)]) [0, 1, 2, 3, 4] rfl ?_
                    exact tL_law_1481 hst0 X hcd Tl Lq hres hcs hsl  ihh _ _ _ _ _ h
                  · refine wp_iconst X (v := 0) dL_law_425 (by decide) ?_
                    exact wp_lawret X Lq (by omega) (by omega) dL_law_426 ((congrArg Prod.fst (Option.some.inj h)).trans hres)
              · refine wp_iconst X (v := 0) dL_law_408 (by decide) ?_
                exact wp_lawret X Lq (by omega) (by omega) dL_law_409 ((congrArg Prod.fst (Option.some.inj h)).trans hres)
            · rw [if_neg e3] at h
              by_cases e4 : (v35 &&& 31) = 4
              · rw [if_pos e4] at h
                rw [e4]
                refine wp_tswIn X (tgt := 430) dL_law_39 (by decide) (by decide) (by rfl) (by decide) ?_
                refine wp_aload_n X dL_law_430 1 rfl ?_
                refine wp_aload_n X dL_law_431 0 rfl ?_
                refine wp_iload X dL_law_432 4 rfl ?_
                refine wp_iconst X (v := 1) dL_law_434 (by decide) ?_
                refine wp_iadd X dL_law_435 ?_
                refine wp_sld X Lq dL_law_436 h (fun v436 h => ?_)
                refine wp_aload_n X dL_law_437 0 rfl ?_
                refine wp_iload X dL_law_438 4 rfl ?_
                refine wp_iconst X (v := 2) dL_law_440 (by decide) ?_
                refine wp_iadd X dL_law_441 ?_
                refine wp_sld X Lq dL_law_442 h (fun v442 h => ?_)
                refine wp_aload_n X dL_law_443 0 rfl ?_
                refine wp_iload X dL_law_444 4 rfl ?_
                refine wp_iconst X (v := 3) dL_law_446 (by decide) ?_
                refine wp_iadd X dL_law_447 ?_
                refine wp_sld X Lq dL_law_448 h (fun v448 h => ?_)
                refine wp_callH X Tl (rm := rmL_unrank) (n := 4) [.ref x1, .int v436, .int v442, .int v448] hcd (fun q hq => cL_unrank_ok hst0 hq) kw414 kw415 kw0 kw416 (by decide +kernel) (by decide) ⟨by show cs + 2 ≤ 600128; omega, by show sl + 12 ≤ 7301098; omega⟩ (cs2 := cs + 2) (sl2 := sl + 12) (by show cs + 2 = cs + 2; omega) (by show sl + 12 = sl + 12; omega) rfl rfl (Nat.le_of_ble_eq_true rfl) dL_law_449 h (fun v449 h => ?_)
                refine wp_istore X (lv' := [(0, .ref b), (1, .ref x1), (2, .ref x2), (3, .ref x3), (4, .int x4), (5, .int v449.1)]) dL_law_452 (by decide) [1, 2, 3, 4, 5, 0] rfl ?_
                refine wp_aload_n X dL_law_454 2 rfl ?_
                refine wp_aload_n X dL_law_455 0 rfl ?_
                refine wp_iload X dL_law_456 4 rfl ?_
                refine wp_iconst X (v := 1) dL_law_458 (by decide) ?_
                refine wp_iadd X dL_law_459 ?_
                refine wp_sld X Lq dL_law_460 h (fun v460 h => ?_)
                refine wp_aload_n X dL_law_461 0 rfl ?_
                refine wp_iload X dL_law_462 4 rfl ?_
                refine wp_iconst X (v := 2) dL_law_464 (by decide) ?_
                refine wp_iadd X dL_law_465 ?_
                refine wp_sld X Lq dL_law_466 h (fun v466 h => ?_)
                refine wp_aload_n X dL_law_467 0 rfl ?_
                refine wp_iload X dL_law_468 4 rfl ?_
                refine wp_iconst X (v := 3) dL_law_470 (by decide) ?_
                refine wp_iadd X dL_law_471 ?_
                refine wp_sld X Lq dL_law_472 h (fun v472 h => ?_)
                refine wp_callVV X (rm := rmX10_unrank) (T := TX10) (N := 20) (ci := 9) (n := 3) [.int v460, .int v466, .int v472] hcd (fun q hq => cX10_unrank_ok hq) kw905 kw906 kw907 kw10 kw908 (by decide +kernel) (by decide) ⟨by show cs + 2 + 0 ≤ 600128; omega, by show sl + 12 + 0 ≤ 7301098; omega⟩ (cs2 := cs + 2) (sl2 := sl + 12) (by show cs + 2 + 0 = cs + 2; omega) (by show sl + 12 + 0 = sl + 12; omega) rfl (by decide) rfl rfl (Nat.le_of_ble_eq_true rfl) dL_law_473 h (fun v473 h => ?_)
                refine wp_aload_n X dL_law_476 2 rfl ?_
                refine wp_callVI X (rm := rmX10_thrown) (T := TX10) (N := 20) (ci := 9) (n := 0) [] hcd (fun q hq => cX10_thrown_ok hq) kw873 kw874 kw875 kw10 kw876 (by decide +kernel) (by decide) ⟨by show cs + 2 + 0 ≤ 600128; omega, by show sl + 12 + 0 ≤ 7301098; omega⟩ (cs2 := cs + 2) (sl2 := sl + 12) (by show cs + 2 + 0 = cs + 2; omega) (by show sl + 12 + 0 = sl + 12; omega) rfl (by decide) rfl rfl (Nat.le_of_ble_eq_true rfl) dL_law_477 h (fun v477 h => ?_)
                refine wp_iload X dL_law_480 5 rfl ?_
                refine wp_icmp_eq X (tgt := 487) dL_law_482 (by decide) h (fun h => ?_) (fun h => ?_)
                · refine wp_goto X (tgt := 1481) dL_law_487 (by decide) ?_
                  refine wp_widen (cs' := cs + 4) (sl' := sl + 24) (by omega) (by omega) ?_
                  refine wp_sub (lv' := [(0, .ref b), (1, .ref x1), (2, .ref x2), (3, .ref x3), (4, .int x4)]) [0, 1, 2, 3, 4] rfl ?_
                  exact tL_law_1481 hst0 X hcd Tl Lq hres hcs hsl  ihh _ _ _ _ _ h
                · refine wp_iconst X (v := 0) dL_law_485 (by decide) ?_
                  exact wp_lawret X Lq (by omega) (by omega) dL_law_486 ((congrArg Prod.fst (Option.some.inj h)).trans hres)
              · rw [if_neg e4] at h
                by_cases e5 : (v35 &&& 31) = 5
                · rw [if_pos e5] at h
                  rw [e5]
                  refine wp_tswIn X (tgt := 490) dL_law_39 (by decide) (by decide) (by rfl) (by decide) ?_
                  refine wp_aload_n X dL_law_490 1 rfl ?_
                  refine wp_aload_n X dL_law_491 0 rfl ?_
                  refine wp_iload X dL_law_492 4 rfl ?_
                  refine wp_iconst X (v := 1) dL_law_494 (by decide) ?_
                  refine wp_iadd X dL_law_495 ?_
                  refine wp_sld X Lq dL_law_496 h (fun v496 h => ?_)
                  refine wp_aload_n X dL_law_497 0 rfl ?_
                  refine wp_iload X dL_law_498 4 rfl ?_
                  refine wp_iconst X (v := 2) dL_law_500 (by decide) ?_
                  refine wp_iadd X dL_law_501 ?_
                  refine wp_sld X Lq dL_law_502 h (fun v502 h => ?_)
                  refine wp_aload_n X dL_law_503 3 rfl ?_
                  refine wp_callH X Tl (rm := rmL_letter) (n := 4) [.ref x1, .int v496, .int v502, .ref x3] hcd (fun q hq => cL_letter_ok hst0 hq) kw480 kw481 kw0 kw482 (by decide +kernel) (by decide) ⟨by show cs + 1 ≤ 600128; omega, by show sl + 6 ≤ 7301098; omega⟩ (cs2 := cs + 1) (sl2 := sl + 6) (by show cs + 1 = cs + 1; omega) (by show sl + 6 = sl + 6; omega) rfl rfl (Nat.le_of_ble_eq_true rfl) dL_law_504 h (fun v504 h => ?_)
                  refine wp_istore X (lv' := [(0, .ref b), (1, .ref x1), (2, .ref x2), (3, .ref x3), (4, .int x4), (5, .int v504.1)]) dL_law_507 (by decide) [1, 2, 3, 4, 5, 0] rfl ?_
                  refine wp_aload_n X dL_law_509 2 rfl ?_
                  refine wp_aload_n X dL_law_510 0 rfl ?_
                  refine wp_iload X dL_law_511 4 rfl ?_
                  refine wp_iconst X (v := 1) dL_law_513 (by decide) ?_
                  refine wp_iadd X dL_law_514 ?_
                  refine wp_sld X Lq dL_law_515 h (fun v515 h => ?_)
                  refine wp_aload_n X dL_law_516 0 rfl ?_
                  refine wp_iload X dL_law_517 4 rfl ?_
                  refine wp_iconst X (v := 2) dL_law_519 (by decide) ?_
                  refine wp_iadd X dL_law_520 ?_
                  refine wp_sld X Lq dL_law_521 h (fun v521 h => ?_)
                  refine wp_callVI X (rm := rmX10_letter) (T := TX10) (N := 20) (ci := 9) (n := 2) [.int v515, .int v521] hcd (fun q hq => cX10_letter_ok hq) kw909 kw910 kw911 kw10 kw912 (by decide +kernel) (by decide) ⟨by show cs + 1 + 0 ≤ 600128; omega, by show sl + 6 + 0 ≤ 7301098; omega⟩ (cs2 := cs + 1) (sl2 := sl + 6) (by show cs + 1 + 0 = cs + 1; omega) (by show sl + 6 + 0 = sl + 6; omega) rfl (by decide) rfl rfl (Nat.le_of_ble_eq_true rfl) dL_law_522 h (fun v522 h => ?_)
                  refine wp_istore X (lv' := [(0, .ref b), (1, .ref x1), (2, .ref x2), (3, .ref x3), (4, .int x4), (5, .int v504.1), (6, .int v522.1)]) dL_law_525 (by decide) [1, 2, 3, 4, 5, 6, 0] rfl ?_
                  refine wp_aload_n X dL_law_527 2 rfl ?_
                  refine wp_callVI X (rm := rmX10_thrown) (T := TX10) (N := 20) (ci := 9) (n := 0) [] hcd (fun q hq => cX10_thrown_ok hq) kw873 kw874 kw875 kw10 kw876 (by decide +kernel) (by decide) ⟨by show cs + 1 + 0 ≤ 600128; omega, by show sl + 6 + 0 ≤ 7301098; omega⟩ (cs2 := cs + 1) (sl2 := sl + 6) (by show cs + 1 + 0 = cs + 1; omega) (by show sl + 6 + 0 = sl + 6; omega) rfl (by decide) rfl rfl (Nat.le_of_ble_eq_true rfl) dL_law_528 h (fun v528 h => ?_)
                  refine wp_iload X dL_law_531 5 rfl ?_
                  refine wp_icmp_eq X (tgt := 538) dL_law_533 (by decide) h (fun h => ?_) (fun h => ?_)
                  · refine wp_iload X dL_law_538 5 rfl ?_
                    refine wp_if_ne X (tgt := 562) dL_law_540 (by decide) h (fun h => ?_) (fun h => ?_)
                    · refine wp_goto X (tgt := 1481) dL_law_562 (by decide) ?_
                      refine wp_widen (cs' := cs + 4) (sl' := sl + 24) (by omega) (by omega) ?_
                      refine wp_sub (lv' := [(0, .ref b), (1, .ref x1), (2, .ref x2), (3, .ref x3), (4, .int x4)]) [0, 1, 2, 3, 4] rfl ?_
                      exact tL_law_1481 hst0 X hcd Tl Lq hres hcs hsl  ihh _ _ _ _ _ h
                    · refine wp_aload_n X dL_law_543 3 rfl ?_
                      refine wp_iconst X (v := 0) dL_law_544 (by decide) ?_
                      refine wp_laload X dL_law_545 h (fun v545 h => ?_)
                      refine wp_iload X dL_law_546 6 rfl ?_
                      refine wp_if_eq X (tgt := 555) dL_law_548 (by decide) h (fun h => ?_) (fun h => ?_)
                      · refine wp_lconst X (v := 0) dL_law_555 (by decide) ?_
                        refine wp_sub (lv' := [(0, .ref b), (1, .ref x1), (2, .ref x2), (3, .ref x3), (4, .int x4)]) [0, 1, 2, 3, 4] rfl ?_
                        exact tL_law_556 hst0 X hcd Tl Lq hres hcs hsl  ihh _ _ _ _ _ _ _ h
                      · refine wp_lconst X (v := 1) dL_law_551 (by decide) ?_
                        refine wp_goto X (tgt := 556) dL_law_552 (by decide) ?_
                        refine wp_sub (lv' := [(0, .ref b), (1, .ref x1), (2, .ref x2), (3, .ref x3), (4, .int x4)]) [0, 1, 2, 3, 4] rfl ?_
                        exact tL_law_556 hst0 X hcd Tl Lq hres hcs hsl  ihh _ _ _ _ _ _ _ h
                  · refine wp_iconst X (v := 0) dL_law_536 (by decide) ?_
                    exact wp_lawret X Lq (by omega) (by omega) dL_law_537 ((congrArg Prod.fst (Option.some.inj h)).trans hres)
                · rw [if_neg e5] at h
                  by_cases e6 : (v35 &&& 31) = 6
                  · rw [if_pos e6] at h
                    rw [e6]
                    refine wp_tswIn X (tgt := 565) dL_law_39 (by decide) (by decide) (by rfl) (by decide) ?_
                    refine wp_aload_n X dL_law_565 1 rfl ?_
                    refine wp_aload_n X dL_law_566 0 rfl ?_
                    refine wp_iload X dL_law_567 4 rfl ?_
                    refine wp_iconst X (v := 1) dL_law_569 (by decide) ?_
                    refine wp_iadd X dL_law_570 ?_
                    refine wp_sld X Lq dL_law_571 h (fun v571 h => ?_)
                    refine wp_aload_n X dL_law_572 0 rfl ?_
                    refine wp_iload X dL_law_573 4 rfl ?_
                    refine wp_iconst X (v := 2) dL_law_575 (by decide) ?_
                    refine wp_iadd X dL_law_576 ?_
                    refine wp_sld X Lq dL_law_577 h (fun v577 h => ?_)
                    refine wp_aload_n X dL_law_578 3 rfl ?_
                    refine wp_callH X Tl (rm := rmL_cut) (n := 4) [.ref x1, .int v571, .int v577, .ref x3] hcd (fun q hq => cL_cut_ok hst0 hq) kw496 kw497 kw0 kw498 (by decide +kernel) (by decide) ⟨by show cs + 1 ≤ 600128; omega, by show sl + 6 ≤ 7301098; omega⟩ (cs2 := cs + 1) (sl2 := sl + 6) (by show cs + 1 = cs + 1; omega) (by show sl + 6 = sl + 6; omega) rfl rfl (Nat.le_of_ble_eq_true rfl) dL_law_579 h (fun v579 h => ?_)
                    refine wp_istore X (lv' := [(0, .ref b), (1, .ref x1), (2, .ref x2), (3, .ref x3), (4, .int x4), (5, .int v579.1)]) dL_law_582 (by decide) [1, 2, 3, 4, 5, 0] rfl ?_
                    refine wp_aload_n X dL_law_584 2 rfl ?_
                    refine wp_aload_n X dL_law_585 0 rfl ?_
                    refine wp_iload X dL_law_586 4 rfl ?_
                    refine wp_iconst X (v := 1) dL_law_588 (by decide) ?_
                    refine wp_iadd X dL_law_589 ?_
                    refine wp_sld X Lq dL_law_590 h (fun v590 h => ?_)
                    refine wp_aload_n X dL_law_591 0 rfl ?_
                    refine wp_iload X dL_law_592 4 rfl ?_
                    refine wp_iconst X (v := 2) dL_law_594 (by decide) ?_
                    refine wp_iadd X dL_law_595 ?_
                    refine wp_sld X Lq dL_law_596 h (fun v596 h => ?_)
                    refine wp_callVI X (rm := rmX10_cut) (T := TX10) (N := 20) (ci := 9) (n := 2) [.int v590, .int v596] hcd (fun q hq => cX10_cut_ok hq) kw916 kw917 kw918 kw10 kw919 (by decide +kernel) (by decide) ⟨by show cs + 1 + 0 ≤ 600128; omega, by show sl + 6 + 0 ≤ 7301098; omega⟩ (cs2 := cs + 1) (sl2 := sl + 6) (by show cs + 1 + 0 = cs + 1; omega) (by show sl + 6 + 0 = sl + 6; omega) rfl (by decide) rfl rfl (Nat.le_of_ble_eq_true rfl) dL_law_597 h (fun v597 h => ?_)
                    refine wp_istore X (lv' := [(0, .ref b), (1, .ref x1), (2, .ref x2), (3, .ref x3), (4, .int x4), (5, .int v579.1), (6, .int v597.1)]) dL_law_600 (by decide) [1, 2, 3, 4, 5, 6, 0] rfl ?_
                    refine wp_aload_n X dL_law_602 2 rfl ?_
                    refine wp_callVI X (rm := rmX10_thrown) (T := TX10) (N := 20) (ci := 9) (n := 0) [] hcd (fun q hq => cX10_thrown_ok hq) kw873 kw874 kw875 kw10 kw876 (by decide +kernel) (by decide) ⟨by show cs + 1 + 0 ≤ 600128; omega, by show sl + 6 + 0 ≤ 7301098; omega⟩ (cs2 := cs + 1) (sl2 := sl + 6) (by show cs + 1 + 0 = cs + 1; omega) (by show sl + 6 + 0 = sl + 6; omega) rfl (by decide) rfl rfl (Nat.le_of_ble_eq_true rfl) dL_law_603 h (fun v603 h => ?_)
                    refine wp_iload X dL_law_606 5 rfl ?_
                    refine wp_icmp_eq X (tgt := 613) dL_law_608 (by decide) h (fun h => ?_) (fun h => ?_)
                    · refine wp_iload X dL_law_613 5 rfl ?_
                      refine wp_if_ne X (tgt := 637) dL_law_615 (by decide) h (fun h => ?_) (fun h => ?_)
                      · refine wp_goto X (tgt := 1481) dL_law_637 (by decide) ?_
                        refine wp_widen (cs' := cs + 4) (sl' := sl + 24) (by omega) (by omega) ?_
                        refine wp_sub (lv' := [(0, .ref b), (1, .ref x1), (2, .ref x2), (3, .ref x3), (4, .int x4)]) [0, 1, 2, 3, 4] rfl ?_
                        exact tL_law_1481 hst0 X hcd Tl Lq hres hcs hsl  ihh _ _ _ _ _ h
                      · refine wp_aload_n X dL_law_618 3 rfl ?_
                        refine wp_iconst X (v := 0) dL_law_619 (by decide) ?_
                        refine wp_laload X dL_law_620 h (fun v620 h => ?_)
                        refine wp_iload X dL_law_621 6 rfl ?_
                        refine wp_if_eq X (tgt := 630) dL_law_623 (by decide) h (fun h => ?_) (fun h => ?_)
                        · refine wp_lconst X (v := 0) dL_law_630 (by decide) ?_
                          refine wp_sub (lv' := [(0, .ref b), (1, .ref x1), (2, .ref x2), (3, .ref x3), (4, .int x4)]) [0, 1, 2, 3, 4] rfl ?_
                          exact tL_law_631 hst0 X hcd Tl Lq hres hcs hsl  ihh _ _ _ _ _ _ _ h
                        · refine wp_lconst X (v := 1) dL_law_626 (by decide) ?_
                          refine wp_goto X (tgt := 631) dL_law_627 (by decide) ?_
                          refine wp_sub (lv' := [(0, .ref b), (1, .ref x1), (2, .ref x2), (3, .ref x3), (4, .int x4)]) [0, 1, 2, 3, 4] rfl ?_
                          exact tL_law_631 hst0 X hcd Tl Lq hres hcs hsl  ihh _ _ _ _ _ _ _ h
                    · refine wp_iconst X (v := 0) dL_law_611 (by decide) ?_
                      exact wp_lawret X Lq (by omega) (by omega) dL_law_612 ((congrArg Prod.fst (Option.some.inj h)).trans hres)
                  · rw [if_neg e6] at h
                    by_cases e7 : (v35 &&& 31) = 7
                    · rw [if_pos e7] at h
                      rw [e7]
                      refine wp_tswIn X (tgt := 640) dL_law_39 (by decide) (by decide) (by rfl) (by decide) ?_
                      refine wp_aload_n X dL_law_640 1 rfl ?_
                      refine wp_aload_n X dL_law_641 0 rfl ?_
                      refine wp_iload X dL_law_642 4 rfl ?_
                      refine wp_iconst X (v := 1) dL_law_644 (by decide) ?_
                      refine wp_iadd X dL_law_645 ?_
                      refine wp_sld X Lq dL_law_646 h (fun v646 h => ?_)
                      refine wp_aload_n X dL_law_647 3 rfl ?_
                      refine wp_callH X Tl (rm := rmL_length) (n := 3) [.ref x1, .int v646, .ref x3] hcd (fun q hq => cL_length_ok hst0 hq) kw503 kw504 kw0 kw505 (by decide +kernel) (by decide) ⟨by show cs + 1 ≤ 600128; omega, by show sl + 6 ≤ 7301098; omega⟩ (cs2 := cs + 1) (sl2 := sl + 6) (by show cs + 1 = cs + 1; omega) (by show sl + 6 = sl + 6; omega) rfl rfl (Nat.le_of_ble_eq_true rfl) dL_law_648 h (fun v648 h => ?_)
                      refine wp_istore X (lv' := [(0, .ref b), (1, .ref x1), (2, .ref x2), (3, .ref x3), (4, .int x4), (5, .int v648.1)]) dL_law_651 (by decide) [1, 2, 3, 4, 5, 0] rfl ?_
                      refine wp_aload_n X dL_law_653 2 rfl ?_
                      refine wp_aload_n X dL_law_654 0 rfl ?_
                      refine wp_iload X dL_law_655 4 rfl ?_
                      refine wp_iconst X (v := 1) dL_law_657 (by decide) ?_
                      refine wp_iadd X dL_law_658 ?_
                      refine wp_sld X Lq dL_law_659 h (fun v659 h => ?_)
                      refine wp_callVI X (rm := rmX10_length) (T := TX10) (N := 20) (ci := 9) (n := 1) [.int v659] hcd (fun q hq => cX10_length_ok hq) kw920 kw921 kw922 kw10 kw923 (by decide +kernel) (by decide) ⟨by show cs + 1 + 0 ≤ 600128; omega, by show sl + 6 + 0 ≤ 7301098; omega⟩ (cs2 := cs + 1) (sl2 := sl + 6) (by show cs + 1 + 0 = cs + 1; omega) (by show sl + 6 + 0 = sl + 6; omega) rfl (by decide) rfl rfl (Nat.le_of_ble_eq_true rfl) dL_law_660 h (fun v660 h => ?_)
                      refine wp_istore X (lv' := [(0, .ref b), (1, .ref x1), (2, .ref x2), (3, .ref x3), (4, .int x4), (5, .int v648.1), (6, .int v660.1)]) dL_law_663 (by decide) [1, 2, 3, 4, 5, 6, 0] rfl ?_
                      refine wp_aload_n X dL_law_665 2 rfl ?_
                      refine wp_callVI X (rm := rmX10_thrown) (T := TX10) (N := 20) (ci := 9) (n := 0) [] hcd (fun q hq => cX10_thrown_ok hq) kw873 kw874 kw875 kw10 kw876 (by decide +kernel) (by decide) ⟨by show cs + 1 + 0 ≤ 600128; omega, by show sl + 6 + 0 ≤ 7301098; omega⟩ (cs2 := cs + 1) (sl2 := sl + 6) (by show cs + 1 + 0 = cs + 1; omega) (by show sl + 6 + 0 = sl + 6; omega) rfl (by decide) rfl rfl (Nat.le_of_ble_eq_true rfl) dL_law_666 h (fun v666 h => ?_)
                      refine wp_iload X dL_law_669 5 rfl ?_
                      refine wp_icmp_eq X (tgt := 676) dL_law_671 (by decide) h (fun h => ?_) (fun h => ?_)
                      · refine wp_iload X dL_law_676 5 rfl ?_
                        refine wp_if_ne X (tgt := 693) dL_law_678 (by decide) h (fun h => ?_) (fun h => ?_)
                        · refine wp_goto X (tgt := 1481) dL_law_693 (by decide) ?_
                          refine wp_widen (cs' := cs + 4) (sl' := sl + 24) (by omega) (by omega) ?_
                          refine wp_sub (lv' := [(0, .ref b), (1, .ref x1), (2, .ref x2), (3, .ref x3), (4, .int x4)]) [0, 1, 2, 3, 4] rfl ?_
                          exact tL_law_1481 hst0 X hcd Tl Lq hres hcs hsl  ihh _ _ _ _ _ h
                        · refine wp_aload_n X dL_law_681 3 rfl ?_
                          refine wp_iconst X (v := 0) dL_law_682 (by decide) ?_
                          refine wp_laload X dL_law_683 h (fun v683 h => ?_)
                          refine wp_iload X dL_law_684 6 rfl ?_
                          refine wp_i2l X dL_law_686 ?_
                          refine wp_lcmp X dL_law_687 ?_
                          refine wp_if_eq X (tgt := 693) dL_law_688 (by decide) h (fun h => ?_) (fun h => ?_)
                          · refine wp_goto X (tgt := 1481) dL_law_693 (by decide) ?_
                            refine wp_widen (cs' := cs + 4) (sl' := sl + 24) (by omega) (by omega) ?_
                            refine wp_sub (lv' := [(0, .ref b), (1, .ref x1), (2, .ref x2), (3, .ref x3), (4, .int x4)]) [0, 1, 2, 3, 4] rfl ?_
                            exact tL_law_1481 hst0 X hcd Tl Lq hres hcs hsl  ihh _ _ _ _ _ h
                          · refine wp_iconst X (v := 0) dL_law_691 (by decide) ?_
                            exact wp_lawret X Lq (by omega) (by omega) dL_law_692 ((congrArg Prod.fst (Option.some.inj h)).trans hres)
                      · refine wp_iconst X (v := 0) dL_law_674 (by decide) ?_
                        exact wp_lawret X Lq (by omega) (by omega) dL_law_675 ((congrArg Prod.fst (Option.some.inj h)).trans hres)
                    · rw [if_neg e7] at h
                      by_cases e8 : (v35 &&& 31) = 8
                      · rw [if_pos e8] at h
                        rw [e8]
                        refine wp_tswIn X (tgt := 696) dL_law_39 (by decide) (by decide) (by rfl) (by decide) ?_
                        refine wp_aload_n X dL_law_696 1 rfl ?_
                        refine wp_aload_n X dL_law_697 0 rfl ?_
                        refine wp_iload X dL_law_698 4 rfl ?_
                        refine wp_iconst X (v := 1) dL_law_700 (by decide) ?_
                        refine wp_iadd X dL_law_701 ?_
                        refine wp_sld X Lq dL_law_702 h (fun v702 h => ?_)
                        refine wp_aload_n X dL_law_703 0 rfl ?_
                        refine wp_iload X dL_law_704 4 rfl ?_
                        refine wp_iconst X (v := 2) dL_law_706 (by decide) ?_
                        refine wp_iadd X dL_law_707 ?_
                        refine wp_sld X Lq dL_law_708 h (fun v708 h => ?_)
                        refine wp_aload_n X dL_law_709 3 rfl ?_
                        refine wp_callH X Tl (rm := rmL_at) (n := 4) [.ref x1, .int v702, .int v708, .ref x3] hcd (fun q hq => cL_at_ok hst0 hq) kw510 kw511 kw0 kw512 (by decide +kernel) (by decide) ⟨by show cs + 1 ≤ 600128; omega, by show sl + 6 ≤ 7301098; omega⟩ (cs2 := cs + 1) (sl2 := sl + 6) (by show cs + 1 = cs + 1; omega) (by show sl + 6 = sl + 6; omega) rfl rfl (Nat.le_of_ble_eq_true rfl) dL_law_710 h (fun v710 h => ?_)
                        refine wp_istore X (lv' := [(0, .ref b), (1, .ref x1), (2, .ref x2), (3, .ref x3), (4, .int x4), (5, .int v710.1)]) dL_law_713 (by decide) [1, 2, 3, 4, 5, 0] rfl ?_
                        refine wp_aload_n X dL_law_715 2 rfl ?_
                        refine wp_aload_n X dL_law_716 0 rfl ?_
                        refine wp_iload X dL_law_717 4 rfl ?_
                        refine wp_iconst X (v := 1) dL_law_719 (by decide) ?_
                        refine wp_iadd X dL_law_720 ?_
                        refine wp_sld X Lq dL_law_721 h (fun v721 h => ?_)
                        refine wp_aload_n X dL_law_722 0 rfl ?_
                        refine wp_iload X dL_law_723 4 rfl ?_
                        refine wp_iconst X (v := 2) dL_law_725 (by decide) ?_
                        refine wp_iadd X dL_law_726 ?_
                        refine wp_sld X Lq dL_law_727 h (fun v727 h => ?_)
                        refine wp_callVI X (rm := rmX10_at) (T := TX10) (N := 20) (ci := 9) (n := 2) [.int v721, .int v727] hcd (fun q hq => cX10_at_ok hq) kw924 kw925 kw926 kw10 kw927 (by decide +kernel) (by decide) ⟨by show cs + 1 + 0 ≤ 600128; omega, by show sl + 6 + 0 ≤ 7301098; omega⟩ (cs2 := cs + 1) (sl2 := sl + 6) (by show cs + 1 + 0 = cs + 1; omega) (by show sl + 6 + 0 = sl + 6; omega) rfl (by decide) rfl rfl (Nat.le_of_ble_eq_true rfl) dL_law_728 h (fun v728 h => ?_)
                        refine wp_istore X (lv' := [(0, .ref b), (1, .ref x1), (2, .ref x2), (3, .ref x3), (4, .int x4), (5, .int v710.1), (6, .int v728.1)]) dL_law_731 (by decide) [1, 2, 3, 4, 5, 6, 0] rfl ?_
                        refine wp_aload_n X dL_law_733 2 rfl ?_
                        refine wp_callVI X (rm := rmX10_thrown) (T := TX10) (N := 20) (ci := 9) (n := 0) [] hcd (fun q hq => cX10_thrown_ok hq) kw873 kw874 kw875 kw10 kw876 (by decide +kernel) (by decide) ⟨by show cs + 1 + 0 ≤ 600128; omega, by show sl + 6 + 0 ≤ 7301098; omega⟩ (cs2 := cs + 1) (sl2 := sl + 6) (by show cs + 1 + 0 = cs + 1; omega) (by show sl + 6 + 0 = sl + 6; omega) rfl (by decide) rfl rfl (Nat.le_of_ble_eq_true rfl) dL_law_734 h (fun v734 h => ?_)
                        refine wp_iload X dL_law_737 5 rfl ?_
                        refine wp_icmp_eq X (tgt := 744) dL_law_739 (by decide) h (fun h => ?_) (fun h => ?_)
                        · refine wp_iload X dL_law_744 5 rfl ?_
                          refine wp_if_ne X (tgt := 761) dL_law_746 (by decide) h (fun h => ?_) (fun h => ?_)
                          · refine wp_goto X (tgt := 1481) dL_law_761 (by decide) ?_
                            refine wp_widen (cs' := cs + 4) (sl' := sl + 24) (by omega) (by omega) ?_
                            refine wp_sub (lv' := [(0, .ref b), (1, .ref x1), (2, .ref x2), (3, .ref x3), (4, .int x4)]) [0, 1, 2, 3, 4] rfl ?_
                            exact tL_law_1481 hst0 X hcd Tl Lq hres hcs hsl  ihh _ _ _ _ _ h
                          · refine wp_aload_n X dL_law_749 3 rfl ?_
                            refine wp_iconst X (v := 0) dL_law_750 (by decide) ?_
                            refine wp_laload X dL_law_751 h (fun v751 h => ?_)
                            refine wp_iload X dL_law_752 6 rfl ?_
                            refine wp_i2l X dL_law_754 ?_
                            refine wp_lcmp X dL_law_755 ?_
                            refine wp_if_eq X (tgt := 761) dL_law_756 (by decide) h (fun h => ?_) (fun h => ?_)
                            · refine wp_goto X (tgt := 1481) dL_law_761 (by decide) ?_
                              refine wp_widen (cs' := cs + 4) (sl' := sl + 24) (by omega) (by omega) ?_
                              refine wp_sub (lv' := [(0, .ref b), (1, .ref x1), (2, .ref x2), (3, .ref x3), (4, .int x4)]) [0, 1, 2, 3, 4] rfl ?_
                              exact tL_law_1481 hst0 X hcd Tl Lq hres hcs hsl  ihh _ _ _ _ _ h
                            · refine wp_iconst X (v := 0) dL_law_759 (by decide) ?_
                              exact wp_lawret X Lq (by omega) (by omega) dL_law_760 ((congrArg Prod.fst (Option.some.inj h)).trans hres)
                        · refine wp_iconst X (v := 0) dL_law_742 (by decide) ?_
                          exact wp_lawret X Lq (by omega) (by omega) dL_law_743 ((congrArg Prod.fst (Option.some.inj h)).trans hres)
                      · rw [if_neg e8] at h
                        by_cases e9 : (v35 &&& 31) = 9
                        · rw [if_pos e9] at h
                          rw [e9]
                          refine wp_tswIn X (tgt := 764) dL_law_39 (by decide) (by decide) (by rfl) (by decide) ?_
                          refine wp_aload_n X dL_law_764 1 rfl ?_
                          refine wp_aload_n X dL_law_765 0 rfl ?_
                          refine wp_iload X dL_law_766 4 rfl ?_
                          refine wp_iconst X (v := 1) dL_law_768 (by decide) ?_
                          refine wp_iadd X dL_law_769 ?_
                          refine wp_sld X Lq dL_law_770 h (fun v770 h => ?_)
                          refine wp_aload_n X dL_law_771 0 rfl ?_
                          refine wp_iload X dL_law_772 4 rfl ?_
                          refine wp_iconst X (v := 2) dL_law_774 (by decide) ?_
                          refine wp_iadd X dL_law_775 ?_
                          refine wp_sld X Lq dL_law_776 h (fun v776 h => ?_)
                          refine wp_if_eq X (tgt := 784) dL_law_777 (by decide) h (fun h => ?_) (fun h => ?_)
                          · refine wp_iconst X (v := 0) dL_law_784 (by decide) ?_
                            exact tL_law_785 hst0 X hcd Tl Lq hres hcs hsl  ihh _ _ _ _ _ _ _ _ h
                          · refine wp_iconst X (v := 1) dL_law_780 (by decide) ?_
                            refine wp_goto X (tgt := 785) dL_law_781 (by decide) ?_
                            exact tL_law_785 hst0 X hcd Tl Lq hres hcs hsl  ihh _ _ _ _ _ _ _ _ h
                        · rw [if_neg e9] at h
                          by_cases e10 : (v35 &&& 31) = 10
                          · rw [if_pos e10] at h
                            rw [e10]
                            refine wp_tswIn X (tgt := 848) dL_law_39 (by decide) (by decide) (by rfl) (by decide) ?_
                            refine wp_aload_n X dL_law_848 1 rfl ?_
                            refine wp_aload_n X dL_law_849 0 rfl ?_
                            refine wp_iload X dL_law_850 4 rfl ?_
                            refine wp_iconst X (v := 1) dL_law_852 (by decide) ?_
                            refine wp_iadd X dL_law_853 ?_
                            refine wp_sld X Lq dL_law_854 h (fun v854 h => ?_)
                            refine wp_if_eq X (tgt := 862) dL_law_855 (by decide) h (fun h => ?_) (fun h => ?_)
                            · refine wp_iconst X (v := 0) dL_law_862 (by decide) ?_
                              exact tL_law_863 hst0 X hcd Tl Lq hres hcs hsl  ihh _ _ _ _ _ _ _ h
                            · refine wp_iconst X (v := 1) dL_law_858 (by decide) ?_
                              refine wp_goto X (tgt := 863) dL_law_859 (by decide) ?_
                              exact tL_law_863 hst0 X hcd Tl Lq hres hcs hsl  ihh _ _ _ _ _ _ _ h
                          · rw [if_neg e10] at h
                            by_cases e11 : (v35 &&& 31) = 11
                            · rw [if_pos e11] at h
                              rw [e11]
                              refine wp_tswIn X (tgt := 913) dL_law_39 (by decide) (by decide) (by rfl) (by decide) ?_
                              refine wp_aload_n X dL_law_913 1 rfl ?_
                              refine wp_aload_n X dL_law_914 0 rfl ?_
                              refine wp_iload X dL_law_915 4 rfl ?_
                              refine wp_iconst X (v := 1) dL_law_917 (by decide) ?_
                              refine wp_iadd X dL_law_918 ?_
                              refine wp_sld X Lq dL_law_919 h (fun v919 h => ?_)
                              refine wp_callH X Tl (rm := rmL_recover) (n := 2) [.ref x1, .int v919] hcd (fun q hq => cL_recover_ok hst0 hq) kw540 kw541 kw0 kw542 (by decide +kernel) (by decide) ⟨by show cs + 2 ≤ 600128; omega, by show sl + 12 ≤ 7301098; omega⟩ (cs2 := cs + 2) (sl2 := sl + 12) (by show cs + 2 = cs + 2; omega) (by show sl + 12 = sl + 12; omega) rfl rfl (Nat.le_of_ble_eq_true rfl) dL_law_920 h (fun v920 h => ?_)
                              refine wp_istore X (lv' := [(0, .ref b), (1, .ref x1), (2, .ref x2), (3, .ref x3), (4, .int x4), (5, .int v920.1)]) dL_law_923 (by decide) [1, 2, 3, 4, 5, 0] rfl ?_
                              refine wp_aload_n X dL_law_925 2 rfl ?_
                              refine wp_aload_n X dL_law_926 0 rfl ?_
                              refine wp_iload X dL_law_927 4 rfl ?_
                              refine wp_iconst X (v := 1) dL_law_929 (by decide) ?_
                              refine wp_iadd X dL_law_930 ?_
                              refine wp_sld X Lq dL_law_931 h (fun v931 h => ?_)
                              refine wp_callVV X (rm := rmX10_recover) (T := TX10) (N := 20) (ci := 9) (n := 1) [.int v931] hcd (fun q hq => cX10_recover_ok hq) kw955 kw956 kw957 kw10 kw958 (by decide +kernel) (by decide) ⟨by show cs + 2 + 0 ≤ 600128; omega, by show sl + 12 + 0 ≤ 7301098; omega⟩ (cs2 := cs + 2) (sl2 := sl + 12) (by show cs + 2 + 0 = cs + 2; omega) (by show sl + 12 + 0 = sl + 12; omega) rfl (by decide) rfl rfl (Nat.le_of_ble_eq_true rfl) dL_law_932 h (fun v932 h => ?_)
                              refine wp_aload_n X dL_law_935 2 rfl ?_
                              refine wp_callVI X (rm := rmX10_thrown) (T := TX10) (N := 20) (ci := 9) (n := 0) [] hcd (fun q hq => cX10_thrown_ok hq) kw873 kw874 kw875 kw10 kw876 (by decide +kernel) (by decide) ⟨by show cs + 2 + 0 ≤ 600128; omega, by show sl + 12 + 0 ≤ 7301098; omega⟩ (cs2 := cs + 2) (sl2 := sl + 12) (by show cs + 2 + 0 = cs + 2; omega) (by show sl + 12 + 0 = sl + 12; omega) rfl (by decide) rfl rfl (Nat.le_of_ble_eq_true rfl) dL_law_936 h (fun v936 h => ?_)
                              refine wp_iload X dL_law_939 5 rfl ?_
                              refine wp_icmp_eq X (tgt := 946) dL_law_941 (by decide) h (fun h => ?_) (fun h => ?_)
                              · refine wp_goto X (tgt := 1481) dL_law_946 (by decide) ?_
                                refine wp_widen (cs' := cs + 4) (sl' := sl + 24) (by omega) (by omega) ?_
                                refine wp_sub (lv' := [(0, .ref b), (1, .ref x1), (2, .ref x2), (3, .ref x3), (4, .int x4)]) [0, 1, 2, 3, 4] rfl ?_
                                exact tL_law_1481 hst0 X hcd Tl Lq hres hcs hsl  ihh _ _ _ _ _ h
                              · refine wp_iconst X (v := 0) dL_law_944 (by decide) ?_
                                exact wp_lawret X Lq (by omega) (by omega) dL_law_945 ((congrArg Prod.fst (Option.some.inj h)).trans hres)
                            · rw [if_neg e11] at h
                              by_cases e12 : (v35 &&& 31) = 12
                              · rw [if_pos e12] at h
                                rw [e12]
                                refine wp_tswIn X (tgt := 949) dL_law_39 (by decide) (by decide) (by rfl) (by decide) ?_
                                refine wp_aload_n X dL_law_949 1 rfl ?_
                                refine wp_aload_n X dL_law_950 0 rfl ?_
                                refine wp_iload X dL_law_951 4 rfl ?_
                                refine wp_iconst X (v := 1) dL_law_953 (by decide) ?_
                                refine wp_iadd X dL_law_954 ?_
                                refine wp_sld X Lq dL_law_955 h (fun v955 h => ?_)
                                refine wp_callH X Tl (rm := rmL_read) (n := 2) [.ref x1, .int v955] hcd (fun q hq => cL_read_ok hst0 hq) kw589 kw590 kw0 kw591 (by decide +kernel) (by decide) ⟨by show cs + 2 ≤ 600128; omega, by show sl + 12 ≤ 7301098; omega⟩ (cs2 := cs + 2) (sl2 := sl + 12) (by show cs + 2 = cs + 2; omega) (by show sl + 12 = sl + 12; omega) rfl rfl (Nat.le_of_ble_eq_true rfl) dL_law_956 h (fun v956 h => ?_)
                                refine wp_istore X (lv' := [(0, .ref b), (1, .ref x1), (2, .ref x2), (3, .ref x3), (4, .int x4), (5, .int v956.1)]) dL_law_959 (by decide) [1, 2, 3, 4, 5, 0] rfl ?_
                                refine wp_aload_n X dL_law_961 2 rfl ?_
                                refine wp_aload_n X dL_law_962 0 rfl ?_
                                refine wp_iload X dL_law_963 4 rfl ?_
                                refine wp_iconst X (v := 1) dL_law_965 (by decide) ?_
                                refine wp_iadd X dL_law_966 ?_
                                refine wp_sld X Lq dL_law_967 h (fun v967 h => ?_)
                                refine wp_callVV X (rm := rmX10_read) (T := TX10) (N := 20) (ci := 9) (n := 1) [.int v967] hcd (fun q hq => cX10_read_ok hq) kw975 kw976 kw977 kw10 kw978 (by decide +kernel) (by decide) ⟨by show cs + 2 + 0 ≤ 600128; omega, by show sl + 12 + 0 ≤ 7301098; omega⟩ (cs2 := cs + 2) (sl2 := sl + 12) (by show cs + 2 + 0 = cs + 2; omega) (by show sl + 12 + 0 = sl + 12; omega) rfl (by decide) rfl rfl (Nat.le_of_ble_eq_true rfl) dL_law_968 h (fun v968 h => ?_)
                                refine wp_aload_n X dL_law_971 2 rfl ?_
                                refine wp_callVI X (rm := rmX10_thrown) (T := TX10) (N := 20) (ci := 9) (n := 0) [] hcd (fun q hq => cX10_thrown_ok hq) kw873 kw874 kw875 kw10 kw876 (by decide +kernel) (by decide) ⟨by show cs + 2 + 0 ≤ 600128; omega, by show sl + 12 + 0 ≤ 7301098; omega⟩ (cs2 := cs + 2) (sl2 := sl + 12) (by show cs + 2 + 0 = cs + 2; omega) (by show sl + 12 + 0 = sl + 12; omega) rfl (by decide) rfl rfl (Nat.le_of_ble_eq_true rfl) dL_law_972 h (fun v972 h => ?_)
                                refine wp_iload X dL_law_975 5 rfl ?_
                                refine wp_icmp_eq X (tgt := 982) dL_law_977 (by decide) h (fun h => ?_) (fun h => ?_)
                                · refine wp_goto X (tgt := 1481) dL_law_982 (by decide) ?_
                                  refine wp_widen (cs' := cs + 4) (sl' := sl + 24) (by omega) (by omega) ?_
                                  refine wp_sub (lv' := [(0, .ref b), (1, .ref x1), (2, .ref x2), (3, .ref x3), (4, .int x4)]) [0, 1, 2, 3, 4] rfl ?_
                                  exact tL_law_1481 hst0 X hcd Tl Lq hres hcs hsl  ihh _ _ _ _ _ h
                                · refine wp_iconst X (v := 0) dL_law_980 (by decide) ?_
                                  exact wp_lawret X Lq (by omega) (by omega) dL_law_981 ((congrArg Prod.fst (Option.some.inj h)).trans hres)
                              · rw [if_neg e12] at h
                                by_cases e13 : (v35 &&& 31) = 13
                                · rw [if_pos e13] at h
                                  rw [e13]
                                  refine wp_tswIn X (tgt := 985) dL_law_39 (by decide) (by decide) (by rfl) (by decide) ?_
                                  refine wp_aload_n X dL_law_985 1 rfl ?_
                                  refine wp_callVI X (rm := rmX9_equivalent) (T := TX9) (N := 13) (ci := 8) (n := 0) [] hcd (fun q hq => cX9_equivalent_ok hq) kw231 kw232 kw233 kw1 kw234 (by decide +kernel) (by decide) ⟨by show cs + 0 ≤ 600128; omega, by show sl + 0 ≤ 7301098; omega⟩ (cs2 := cs) (sl2 := sl) (by show cs + 0 = cs; omega) (by show sl + 0 = sl; omega) rfl (by decide) rfl rfl (Nat.le_of_ble_eq_true rfl) dL_law_986 h (fun v986 h => ?_)
                                  refine wp_aload_n X dL_law_989 2 rfl ?_
                                  refine wp_callVI X (rm := rmX10_equivalent) (T := TX10) (N := 20) (ci := 9) (n := 0) [] hcd (fun q hq => cX10_equivalent_ok hq) kw983 kw984 kw985 kw10 kw986 (by decide +kernel) (by decide) ⟨by show cs + 0 ≤ 600128; omega, by show sl + 0 ≤ 7301098; omega⟩ (cs2 := cs) (sl2 := sl) (by show cs + 0 = cs; omega) (by show sl + 0 = sl; omega) rfl (by decide) rfl rfl (Nat.le_of_ble_eq_true rfl) dL_law_990 h (fun v990 h => ?_)
                                  refine wp_icmp_eq X (tgt := 1481) dL_law_993 (by decide) h (fun h => ?_) (fun h => ?_)
                                  · refine wp_widen (cs' := cs + 4) (sl' := sl + 24) (by omega) (by omega) ?_
                                    exact tL_law_1481 hst0 X hcd Tl Lq hres hcs hsl  ihh _ _ _ _ _ h
                                  · refine wp_iconst X (v := 0) dL_law_996 (by decide) ?_
                                    exact wp_lawret X Lq (by omega) (by omega) dL_law_997 ((congrArg Prod.fst (Option.some.inj h)).trans hres)
                                · rw [if_neg e13] at h
                                  by_cases e14 : (v35 &&& 31) = 14
                                  · rw [if_pos e14] at h
                                    rw [e14]
                                    refine wp_tswIn X (tgt := 998) dL_law_39 (by decide) (by decide) (by rfl) (by decide) ?_
                                    refine wp_aload_n X dL_law_998 1 rfl ?_
                                    refine wp_aload_n X dL_law_999 0 rfl ?_
                                    refine wp_iload X dL_law_1000 4 rfl ?_
                                    refine wp_iconst X (v := 1) dL_law_1002 (by decide) ?_
                                    refine wp_iadd X dL_law_1003 ?_
                                    refine wp_sld X Lq dL_law_1004 h (fun v1004 h => ?_)
                                    refine wp_aload_n X dL_law_1005 0 rfl ?_
                                    refine wp_iload X dL_law_1006 4 rfl ?_
                                    refine wp_iconst X (v := 2) dL_law_1008 (by decide) ?_
                                    refine wp_iadd X dL_law_1009 ?_
                                    refine wp_sld X Lq dL_law_1010 h (fun v1010 h => ?_)
                                    refine wp_aload_n X dL_law_1011 0 rfl ?_
                                    refine wp_iload X dL_law_1012 4 rfl ?_
                                    refine wp_iconst X (v := 3) dL_law_1014 (by decide) ?_
                                    refine wp_iadd X dL_law_1015 ?_
                                    refine wp_sld X Lq dL_law_1016 h (fun v1016 h => ?_)
                                    refine wp_aload_n X dL_law_1017 0 rfl ?_
                                    refine wp_iload X dL_law_1018 4 rfl ?_
                                    refine wp_iconst X (v := 4) dL_law_1020 (by decide) ?_
                                    refine wp_iadd X dL_law_1021 ?_
                                    refine wp_sld X Lq dL_law_1022 h (fun v1022 h => ?_)
                                    refine wp_aload_n X dL_law_1023 3 rfl ?_
                                    refine wp_callH X Tl (rm := rmL_rectify) (n := 6) [.ref x1, .int v1004, .int v1010, .int v1016, .int v1022, .ref x3] hcd (fun q hq => cL_rectify_ok hst0 hq) kw601 kw602 kw0 kw603 (by decide +kernel) (by decide) ⟨by show cs + 4 ≤ 600128; omega, by show sl + 24 ≤ 7301098; omega⟩ (cs2 := cs + 4) (sl2 := sl + 24) (by show cs + 4 = cs + 4; omega) (by show sl + 24 = sl + 24; omega) rfl rfl (Nat.le_of_ble_eq_true rfl) dL_law_1024 h (fun v1024 h => ?_)
                                    refine wp_istore X (lv' := [(0, .ref b), (1, .ref x1), (2, .ref x2), (3, .ref x3), (4, .int x4), (5, .int v1024.1)]) dL_law_1027 (by decide) [1, 2, 3, 4, 5, 0] rfl ?_
                                    refine wp_aload_n X dL_law_1029 2 rfl ?_
                                    refine wp_aload_n X dL_law_1030 0 rfl ?_
                                    refine wp_iload X dL_law_1031 4 rfl ?_
                                    refine wp_iconst X (v := 1) dL_law_1033 (by decide) ?_
                                    refine wp_iadd X dL_law_1034 ?_
                                    refine wp_sld X Lq dL_law_1035 h (fun v1035 h => ?_)
                                    refine wp_aload_n X dL_law_1036 0 rfl ?_
                                    refine wp_iload X dL_law_1037 4 rfl ?_
                                    refine wp_iconst X (v := 2) dL_law_1039 (by decide) ?_
                                    refine wp_iadd X dL_law_1040 ?_
                                    refine wp_sld X Lq dL_law_1041 h (fun v1041 h => ?_)
                                    refine wp_aload_n X dL_law_1042 0 rfl ?_
                                    refine wp_iload X dL_law_1043 4 rfl ?_
                                    refine wp_iconst X (v := 3) dL_law_1045 (by decide) ?_
                                    refine wp_iadd X dL_law_1046 ?_
                                    refine wp_sld X Lq dL_law_1047 h (fun v1047 h => ?_)
                                    refine wp_aload_n X dL_law_1048 0 rfl ?_
                                    refine wp_iload X dL_law_1049 4 rfl ?_
                                    refine wp_iconst X (v := 4) dL_law_1051 (by decide) ?_
                                    refine wp_iadd X dL_law_1052 ?_
                                    refine wp_sld X Lq dL_law_1053 h (fun v1053 h => ?_)
                                    refine wp_callVI X (rm := rmX10_rectify) (T := TX10) (N := 20) (ci := 9) (n := 4) [.int v1035, .int v1041, .int v1047, .int v1053] hcd (fun q hq => cX10_rectify_ok hq) kw995 kw996 kw997 kw10 kw998 (by decide +kernel) (by decide) ⟨by show cs + 4 + 0 ≤ 600128; omega, by show sl + 24 + 0 ≤ 7301098; omega⟩ (cs2 := cs + 4) (sl2 := sl + 24) (by show cs + 4 + 0 = cs + 4; omega) (by show sl + 24 + 0 = sl + 24; omega) rfl (by decide) rfl rfl (Nat.le_of_ble_eq_true rfl) dL_law_1054 h (fun v1054 h => ?_)
                                    refine wp_istore X (lv' := [(0, .ref b), (1, .ref x1), (2, .ref x2), (3, .ref x3), (4, .int x4), (5, .int v1024.1), (6, .int v1054.1)]) dL_law_1057 (by decide) [1, 2, 3, 4, 5, 6, 0] rfl ?_
                                    refine wp_aload_n X dL_law_1059 2 rfl ?_
                                    refine wp_callVI X (rm := rmX10_thrown) (T := TX10) (N := 20) (ci := 9) (n := 0) [] hcd (fun q hq => cX10_thrown_ok hq) kw873 kw874 kw875 kw10 kw876 (by decide +kernel) (by decide) ⟨by show cs + 4 + 0 ≤ 600128; omega, by show sl + 24 + 0 ≤ 7301098; omega⟩ (cs2 := cs + 4) (sl2 := sl + 24) (by show cs + 4 + 0 = cs + 4; omega) (by show sl + 24 + 0 = sl + 24; omega) rfl (by decide) rfl rfl (Nat.le_of_ble_eq_true rfl) dL_law_1060 h (fun v1060 h => ?_)
                                    refine wp_iload X dL_law_1063 5 rfl ?_
                                    refine wp_icmp_eq X (tgt := 1070) dL_law_1065 (by decide) h (fun h => ?_) (fun h => ?_)
                                    · refine wp_iload X dL_law_1070 5 rfl ?_
                                      refine wp_if_ne X (tgt := 1087) dL_law_1072 (by decide) h (fun h => ?_) (fun h => ?_)
                                      · refine wp_goto X (tgt := 1481) dL_law_1087 (by decide) ?_
                                        refine wp_sub (lv' := [(0, .ref b), (1, .ref x1), (2, .ref x2), (3, .ref x3), (4, .int x4)]) [0, 1, 2, 3, 4] rfl ?_
                                        exact tL_law_1481 hst0 X hcd Tl Lq hres hcs hsl  ihh _ _ _ _ _ h
                                      · refine wp_aload_n X dL_law_1075 3 rfl ?_
                                        refine wp_iconst X (v := 0) dL_law_1076 (by decide) ?_
                                        refine wp_laload X dL_law_1077 h (fun v1077 h => ?_)
                                        refine wp_iload X dL_law_1078 6 rfl ?_
                                        refine wp_i2l X dL_law_1080 ?_
                                        refine wp_lcmp X dL_law_1081 ?_
                                        refine wp_if_eq X (tgt := 1087) dL_law_1082 (by decide) h (fun h => ?_) (fun h => ?_)
                                        · refine wp_goto X (tgt := 1481) dL_law_1087 (by decide) ?_
                                          refine wp_sub (lv' := [(0, .ref b), (1, .ref x1), (2, .ref x2), (3, .ref x3), (4, .int x4)]) [0, 1, 2, 3, 4] rfl ?_
                                          exact tL_law_1481 hst0 X hcd Tl Lq hres hcs hsl  ihh _ _ _ _ _ h
                                        · refine wp_iconst X (v := 0) dL_law_1085 (by decide) ?_
                                          exact wp_lawret X Lq (by omega) (by omega) dL_law_1086 ((congrArg Prod.fst (Option.some.inj h)).trans hres)
                                    · refine wp_iconst X (v := 0) dL_law_1068 (by decide) ?_
                                      exact wp_lawret X Lq (by omega) (by omega) dL_law_1069 ((congrArg Prod.fst (Option.some.inj h)).trans hres)
                                  · rw [if_neg e14] at h
                                    by_cases e15 : (v35 &&& 31) = 15
                                    · rw [if_pos e15] at h
                                      rw [e15]
                                      refine wp_tswIn X (tgt := 1090) dL_law_39 (by decide) (by decide) (by rfl) (by decide) ?_
                                      refine wp_aload_n X dL_law_1090 1 rfl ?_
                                      refine wp_callH X Tl (rm := rmL_turn) (n := 1) [.ref x1] hcd (fun q hq => cL_turn_ok hst0 hq) kw649 kw650 kw0 kw651 (by decide +kernel) (by decide) ⟨by show cs + 1 ≤ 600128; omega, by show sl + 6 ≤ 7301098; omega⟩ (cs2 := cs + 1) (sl2 := sl + 6) (by show cs + 1 = cs + 1; omega) (by show sl + 6 = sl + 6; omega) rfl rfl (Nat.le_of_ble_eq_true rfl) dL_law_1091 h (fun v1091 h => ?_)
                                      refine wp_istore X (lv' := [(0, .ref b), (1, .ref x1), (2, .ref x2), (3, .ref x3), (4, .int x4), (5, .int v1091.1)]) dL_law_1094 (by decide) [1, 2, 3, 4, 5, 0] rfl ?_
                                      refine wp_aload_n X dL_law_1096 2 rfl ?_
                                      refine wp_callVV X (rm := rmX10_turn) (T := TX10) (N := 20) (ci := 9) (n := 0) [] hcd (fun q hq => cX10_turn_ok hq) kw1011 kw1012 kw1013 kw10 kw1014 (by decide +kernel) (by decide) ⟨by show cs + 1 + 0 ≤ 600128; omega, by show sl + 6 + 0 ≤ 7301098; omega⟩ (cs2 := cs + 1) (sl2 := sl + 6) (by show cs + 1 + 0 = cs + 1; omega) (by show sl + 6 + 0 = sl + 6; omega) rfl (by decide) rfl rfl (Nat.le_of_ble_eq_true rfl) dL_law_1097 h (fun v1097 h => ?_)
                                      refine wp_aload_n X dL_law_1100 2 rfl ?_
                                      refine wp_callVI X (rm := rmX10_thrown) (T := TX10) (N := 20) (ci := 9) (n := 0) [] hcd (fun q hq => cX10_thrown_ok hq) kw873 kw874 kw875 kw10 kw876 (by decide +kernel) (by decide) ⟨by show cs + 1 + 0 ≤ 600128; omega, by show sl + 6 + 0 ≤ 7301098; omega⟩ (cs2 := cs + 1) (sl2 := sl + 6) (by show cs + 1 + 0 = cs + 1; omega) (by show sl + 6 + 0 = sl + 6; omega) rfl (by decide) rfl rfl (Nat.le_of_ble_eq_true rfl) dL_law_1101 h (fun v1101 h => ?_)
                                      refine wp_iload X dL_law_1104 5 rfl ?_
                                      refine wp_icmp_eq X (tgt := 1111) dL_law_1106 (by decide) h (fun h => ?_) (fun h => ?_)
                                      · refine wp_goto X (tgt := 1481) dL_law_1111 (by decide) ?_
                                        refine wp_widen (cs' := cs + 4) (sl' := sl + 24) (by omega) (by omega) ?_
                                        refine wp_sub (lv' := [(0, .ref b), (1, .ref x1), (2, .ref x2), (3, .ref x3), (4, .int x4)]) [0, 1, 2, 3, 4] rfl ?_
                                        exact tL_law_1481 hst0 X hcd Tl Lq hres hcs hsl  ihh _ _ _ _ _ h
                                      · refine wp_iconst X (v := 0) dL_law_1109 (by decide) ?_
                                        exact wp_lawret X Lq (by omega) (by omega) dL_law_1110 ((congrArg Prod.fst (Option.some.inj h)).trans hres)
                                    · rw [if_neg e15] at h
                                      by_cases e16 : (v35 &&& 31) = 16
                                      · rw [if_pos e16] at h
                                        rw [e16]
                                        refine wp_tswIn X (tgt := 1114) dL_law_39 (by decide) (by decide) (by rfl) (by decide) ?_
                                        refine wp_aload_n X dL_law_1114 1 rfl ?_
                                        refine wp_aload_n X dL_law_1115 0 rfl ?_
                                        refine wp_iload X dL_law_1116 4 rfl ?_
                                        refine wp_iconst X (v := 1) dL_law_1118 (by decide) ?_
                                        refine wp_iadd X dL_law_1119 ?_
                                        refine wp_sld X Lq dL_law_1120 h (fun v1120 h => ?_)
                                        refine wp_aload_n X dL_law_1121 0 rfl ?_
                                        refine wp_iload X dL_law_1122 4 rfl ?_
                                        refine wp_iconst X (v := 2) dL_law_1124 (by decide) ?_
                                        refine wp_iadd X dL_law_1125 ?_
                                        refine wp_sld X Lq dL_law_1126 h (fun v1126 h => ?_)
                                        refine wp_i2l X dL_law_1127 ?_
                                        refine wp_bipush X (v := 32) dL_law_1128 (by decide) ?_
                                        refine wp_lshl X dL_law_1130 ?_
                                        refine wp_aload_n X dL_law_1131 0 rfl ?_
                                        refine wp_iload X dL_law_1132 4 rfl ?_
                                        refine wp_iconst X (v := 3) dL_law_1134 (by decide) ?_
                                        refine wp_iadd X dL_law_1135 ?_
                                        refine wp_sld X Lq dL_law_1136 h (fun v1136 h => ?_)
                                        refine wp_i2l X dL_law_1137 ?_
                                        refine wp_ldc2 X dL_law_1138 (v := 4294967295) kw1077 ?_
                                        refine wp_land X dL_law_1141 ?_
                                        refine wp_lor X dL_law_1142 ?_
                                        refine wp_aload_n X dL_law_1143 3 rfl ?_
                                        refine wp_callH X Tl (rm := rmL_draw) (n := 4) [.ref x1, .int v1120, .long (((Int32.toInt64 v1126) <<< (Int32.toInt64 32 &&& 63)) ||| ((Int32.toInt64 v1136) &&& 4294967295)), .ref x3] hcd (fun q hq => cL_draw_ok hst0 hq) kw663 kw664 kw0 kw665 (by decide +kernel) (by decide) ⟨by show cs + 1 ≤ 600128; omega, by show sl + 6 ≤ 7301098; omega⟩ (cs2 := cs + 1) (sl2 := sl + 6) (by show cs + 1 = cs + 1; omega) (by show sl + 6 = sl + 6; omega) rfl rfl (Nat.le_of_ble_eq_true rfl) dL_law_1144 h (fun v1144 h => ?_)
                                        refine wp_istore X (lv' := [(0, .ref b), (1, .ref x1), (2, .ref x2), (3, .ref x3), (4, .int x4), (5, .int v1144.1)]) dL_law_1147 (by decide) [1, 2, 3, 4, 5, 0] rfl ?_
                                        refine wp_aload_n X dL_law_1149 2 rfl ?_
                                        refine wp_aload_n X dL_law_1150 0 rfl ?_
                                        refine wp_iload X dL_law_1151 4 rfl ?_
                                        refine wp_iconst X (v := 1) dL_law_1153 (by decide) ?_
                                        refine wp_iadd X dL_law_1154 ?_
                                        refine wp_sld X Lq dL_law_1155 h (fun v1155 h => ?_)
                                        refine wp_aload_n X dL_law_1156 0 rfl ?_
                                        refine wp_iload X dL_law_1157 4 rfl ?_
                                        refine wp_iconst X (v := 2) dL_law_1159 (by decide) ?_
                                        refine wp_iadd X dL_law_1160 ?_
                                        refine wp_sld X Lq dL_law_1161 h (fun v1161 h => ?_)
                                        refine wp_i2l X dL_law_1162 ?_
                                        refine wp_bipush X (v := 32) dL_law_1163 (by decide) ?_
                                        refine wp_lshl X dL_law_1165 ?_
                                        refine wp_aload_n X dL_law_1166 0 rfl ?_
                                        refine wp_iload X dL_law_1167 4 rfl ?_
                                        refine wp_iconst X (v := 3) dL_law_1169 (by decide) ?_
                                        refine wp_iadd X dL_law_1170 ?_
                                        refine wp_sld X Lq dL_law_1171 h (fun v1171 h => ?_)
                                        refine wp_i2l X dL_law_1172 ?_
                                        refine wp_ldc2 X dL_law_1173 (v := 4294967295) kw1077 ?_
                                        refine wp_land X dL_law_1176 ?_
                                        refine wp_lor X dL_law_1177 ?_
                                        refine wp_callVL X (rm := rmX10_draw) (T := TX10) (N := 20) (ci := 9) (n := 2) [.int v1155, .long (((Int32.toInt64 v1161) <<< (Int32.toInt64 32 &&& 63)) ||| ((Int32.toInt64 v1171) &&& 4294967295))] hcd (fun q hq => cX10_draw_ok hq) kw1019 kw1020 kw1021 kw10 kw1022 (by decide +kernel) (by decide) ⟨by show cs + 1 + 0 ≤ 600128; omega, by show sl + 6 + 0 ≤ 7301098; omega⟩ (cs2 := cs + 1) (sl2 := sl + 6) (by show cs + 1 + 0 = cs + 1; omega) (by show sl + 6 + 0 = sl + 6; omega) rfl (by decide) rfl rfl (Nat.le_of_ble_eq_true rfl) dL_law_1178 h (fun v1178 h => ?_)
                                        refine wp_lstore X (lv' := [(0, .ref b), (1, .ref x1), (2, .ref x2), (3, .ref x3), (4, .int x4), (5, .int v1144.1), (6, .long v1178.1)]) dL_law_1181 (by decide) [1, 2, 3, 4, 5, 6, 0] rfl ?_
                                        refine wp_aload_n X dL_law_1183 2 rfl ?_
                                        refine wp_callVI X (rm := rmX10_thrown) (T := TX10) (N := 20) (ci := 9) (n := 0) [] hcd (fun q hq => cX10_thrown_ok hq) kw873 kw874 kw875 kw10 kw876 (by decide +kernel) (by decide) ⟨by show cs + 1 + 0 ≤ 600128; omega, by show sl + 6 + 0 ≤ 7301098; omega⟩ (cs2 := cs + 1) (sl2 := sl + 6) (by show cs + 1 + 0 = cs + 1; omega) (by show sl + 6 + 0 = sl + 6; omega) rfl (by decide) rfl rfl (Nat.le_of_ble_eq_true rfl) dL_law_1184 h (fun v1184 h => ?_)
                                        refine wp_iload X dL_law_1187 5 rfl ?_
                                        refine wp_icmp_eq X (tgt := 1194) dL_law_1189 (by decide) h (fun h => ?_) (fun h => ?_)
                                        · refine wp_iload X dL_law_1194 5 rfl ?_
                                          refine wp_if_ne X (tgt := 1210) dL_law_1196 (by decide) h (fun h => ?_) (fun h => ?_)
                                          · refine wp_goto X (tgt := 1481) dL_law_1210 (by decide) ?_
                                            refine wp_widen (cs' := cs + 4) (sl' := sl + 24) (by omega) (by omega) ?_
                                            refine wp_sub (lv' := [(0, .ref b), (1, .ref x1), (2, .ref x2), (3, .ref x3), (4, .int x4)]) [0, 1, 2, 3, 4] rfl ?_
                                            exact tL_law_1481 hst0 X hcd Tl Lq hres hcs hsl  ihh _ _ _ _ _ h
                                          · refine wp_aload_n X dL_law_1199 3 rfl ?_
                                            refine wp_iconst X (v := 0) dL_law_1200 (by decide) ?_
                                            refine wp_laload X dL_law_1201 h (fun v1201 h => ?_)
                                            refine wp_lload X dL_law_1202 6 rfl ?_
                                            refine wp_lcmp X dL_law_1204 ?_
                                            refine wp_if_eq X (tgt := 1210) dL_law_1205 (by decide) h (fun h => ?_) (fun h => ?_)
                                            · refine wp_goto X (tgt := 1481) dL_law_1210 (by decide) ?_
                                              refine wp_widen (cs' := cs + 4) (sl' := sl + 24) (by omega) (by omega) ?_
                                              refine wp_sub (lv' := [(0, .ref b), (1, .ref x1), (2, .ref x2), (3, .ref x3), (4, .int x4)]) [0, 1, 2, 3, 4] rfl ?_
                                              exact tL_law_1481 hst0 X hcd Tl Lq hres hcs hsl  ihh _ _ _ _ _ h
                                            · refine wp_iconst X (v := 0) dL_law_1208 (by decide) ?_
                                              exact wp_lawret X Lq (by omega) (by omega) dL_law_1209 ((congrArg Prod.fst (Option.some.inj h)).trans hres)
                                        · refine wp_iconst X (v := 0) dL_law_1192 (by decide) ?_
                                          exact wp_lawret X Lq (by omega) (by omega) dL_law_1193 ((congrArg Prod.fst (Option.some.inj h)).trans hres)
                                      · rw [if_neg e16] at h
                                        by_cases e17 : (v35 &&& 31) = 17
                                        · rw [if_pos e17] at h
                                          rw [e17]
                                          refine wp_tswIn X (tgt := 1213) dL_law_39 (by decide) (by decide) (by rfl) (by decide) ?_
                                          refine wp_aload_n X dL_law_1213 1 rfl ?_
                                          refine wp_aload_n X dL_law_1214 0 rfl ?_
                                          refine wp_iload X dL_law_1215 4 rfl ?_
                                          refine wp_iconst X (v := 1) dL_law_1217 (by decide) ?_
                                          refine wp_iadd X dL_law_1218 ?_
                                          refine wp_sld X Lq dL_law_1219 h (fun v1219 h => ?_)
                                          refine wp_aload_n X dL_law_1220 3 rfl ?_
                                          refine wp_callH X Tl (rm := rmL_standard) (n := 3) [.ref x1, .int v1219, .ref x3] hcd (fun q hq => cL_standard_ok hst0 hq) kw712 kw713 kw0 kw714 (by decide +kernel) (by decide) ⟨by show cs + 1 ≤ 600128; omega, by show sl + 6 ≤ 7301098; omega⟩ (cs2 := cs + 1) (sl2 := sl + 6) (by show cs + 1 = cs + 1; omega) (by show sl + 6 = sl + 6; omega) rfl rfl (Nat.le_of_ble_eq_true rfl) dL_law_1221 h (fun v1221 h => ?_)
                                          refine wp_istore X (lv' := [(0, .ref b), (1, .ref x1), (2, .ref x2), (3, .ref x3), (4, .int x4), (5, .int v1221.1)]) dL_law_1224 (by decide) [1, 2, 3, 4, 5, 0] rfl ?_
                                          refine wp_aload_n X dL_law_1226 2 rfl ?_
                                          refine wp_aload_n X dL_law_1227 0 rfl ?_
                                          refine wp_iload X dL_law_1228 4 rfl ?_
                                          refine wp_iconst X (v := 1) dL_law_1230 (by decide) ?_
                                          refine wp_iadd X dL_law_1231 ?_
                                          refine wp_sld X Lq dL_law_1232 h (fun v1232 h => ?_)
                                          refine wp_callVL X (rm := rmX10_standard) (T := TX10) (N := 20) (ci := 9) (n := 1) [.int v1232] hcd (fun q hq => cX10_standard_ok hq) kw1033 kw1034 kw1035 kw10 kw1036 (by decide +kernel) (by decide) ⟨by show cs + 1 + 0 ≤ 600128; omega, by show sl + 6 + 0 ≤ 7301098; omega⟩ (cs2 := cs + 1) (sl2 := sl + 6) (by show cs + 1 + 0 = cs + 1; omega) (by show sl + 6 + 0 = sl + 6; omega) rfl (by decide) rfl rfl (Nat.le_of_ble_eq_true rfl) dL_law_1233 h (fun v1233 h => ?_)
                                          refine wp_lstore X (lv' := [(0, .ref b), (1, .ref x1), (2, .ref x2), (3, .ref x3), (4, .int x4), (5, .int v1221.1), (6, .long v1233.1)]) dL_law_1236 (by decide) [1, 2, 3, 4, 5, 6, 0] rfl ?_
                                          refine wp_aload_n X dL_law_1238 2 rfl ?_
                                          refine wp_callVI X (rm := rmX10_thrown) (T := TX10) (N := 20) (ci := 9) (n := 0) [] hcd (fun q hq => cX10_thrown_ok hq) kw873 kw874 kw875 kw10 kw876 (by decide +kernel) (by decide) ⟨by show cs + 1 + 0 ≤ 600128; omega, by show sl + 6 + 0 ≤ 7301098; omega⟩ (cs2 := cs + 1) (sl2 := sl + 6) (by show cs + 1 + 0 = cs + 1; omega) (by show sl + 6 + 0 = sl + 6; omega) rfl (by decide) rfl rfl (Nat.le_of_ble_eq_true rfl) dL_law_1239 h (fun v1239 h => ?_)
                                          refine wp_iload X dL_law_1242 5 rfl ?_
                                          refine wp_icmp_eq X (tgt := 1249) dL_law_1244 (by decide) h (fun h => ?_) (fun h => ?_)
                                          · refine wp_iload X dL_law_1249 5 rfl ?_
                                            refine wp_if_ne X (tgt := 1265) dL_law_1251 (by decide) h (fun h => ?_) (fun h => ?_)
                                            · refine wp_goto X (tgt := 1481) dL_law_1265 (by decide) ?_
                                              refine wp_widen (cs' := cs + 4) (sl' := sl + 24) (by omega) (by omega) ?_
                                              refine wp_sub (lv' := [(0, .ref b), (1, .ref x1), (2, .ref x2), (3, .ref x3), (4, .int x4)]) [0, 1, 2, 3, 4] rfl ?_
                                              exact tL_law_1481 hst0 X hcd Tl Lq hres hcs hsl  ihh _ _ _ _ _ h
                                            · refine wp_aload_n X dL_law_1254 3 rfl ?_
                                              refine wp_iconst X (v := 0) dL_law_1255 (by decide) ?_
                                              refine wp_laload X dL_law_1256 h (fun v1256 h => ?_)
                                              refine wp_lload X dL_law_1257 6 rfl ?_
                                              refine wp_lcmp X dL_law_1259 ?_
                                              refine wp_if_eq X (tgt := 1265) dL_law_1260 (by decide) h (fun h => ?_) (fun h => ?_)
                                              · refine wp_goto X (tgt := 1481) dL_law_1265 (by decide) ?_
                                                refine wp_widen (cs' := cs + 4) (sl' := sl + 24) (by omega) (by omega) ?_
                                                refine wp_sub (lv' := [(0, .ref b), (1, .ref x1), (2, .ref x2), (3, .ref x3), (4, .int x4)]) [0, 1, 2, 3, 4] rfl ?_
                                                exact tL_law_1481 hst0 X hcd Tl Lq hres hcs hsl  ihh _ _ _ _ _ h
                                              · refine wp_iconst X (v := 0) dL_law_1263 (by decide) ?_
                                                exact wp_lawret X Lq (by omega) (by omega) dL_law_1264 ((congrArg Prod.fst (Option.some.inj h)).trans hres)
                                          · refine wp_iconst X (v := 0) dL_law_1247 (by decide) ?_
                                            exact wp_lawret X Lq (by omega) (by omega) dL_law_1248 ((congrArg Prod.fst (Option.some.inj h)).trans hres)
                                        · rw [if_neg e17] at h
                                          by_cases e18 : (v35 &&& 31) = 18
                                          · rw [if_pos e18] at h
                                            rw [e18]
                                            refine wp_tswIn X (tgt := 1268) dL_law_39 (by decide) (by decide) (by rfl) (by decide) ?_
                                            refine wp_aload_n X dL_law_1268 1 rfl ?_
                                            refine wp_aload_n X dL_law_1269 0 rfl ?_
                                            refine wp_iload X dL_law_1270 4 rfl ?_
                                            refine wp_iconst X (v := 1) dL_law_1272 (by decide) ?_
                                            refine wp_iadd X dL_law_1273 ?_
                                            refine wp_sld X Lq dL_law_1274 h (fun v1274 h => ?_)
                                            refine wp_aload_n X dL_law_1275 0 rfl ?_
                                            refine wp_iload X dL_law_1276 4 rfl ?_
                                            refine wp_iconst X (v := 2) dL_law_1278 (by decide) ?_
                                            refine wp_iadd X dL_law_1279 ?_
                                            refine wp_sld X Lq dL_law_1280 h (fun v1280 h => ?_)
                                            refine wp_aload_n X dL_law_1281 3 rfl ?_
                                            refine wp_callH X Tl (rm := rmL_fillings) (n := 4) [.ref x1, .int v1274, .int v1280, .ref x3] hcd (fun q hq => cL_fillings_ok hst0 hq) kw734 kw735 kw0 kw736 (by decide +kernel) (by decide) ⟨by show cs + 2 ≤ 600128; omega, by show sl + 12 ≤ 7301098; omega⟩ (cs2 := cs + 2) (sl2 := sl + 12) (by show cs + 2 = cs + 2; omega) (by show sl + 12 = sl + 12; omega) rfl rfl (Nat.le_of_ble_eq_true rfl) dL_law_1282 h (fun v1282 h => ?_)
                                            refine wp_istore X (lv' := [(0, .ref b), (1, .ref x1), (2, .ref x2), (3, .ref x3), (4, .int x4), (5, .int v1282.1)]) dL_law_1285 (by decide) [1, 2, 3, 4, 5, 0] rfl ?_
                                            refine wp_aload_n X dL_law_1287 2 rfl ?_
                                            refine wp_aload_n X dL_law_1288 0 rfl ?_
                                            refine wp_iload X dL_law_1289 4 rfl ?_
                                            refine wp_iconst X (v := 1) dL_law_1291 (by decide) ?_
                                            refine wp_iadd X dL_law_1292 ?_
                                            refine wp_sld X Lq dL_law_1293 h (fun v1293 h => ?_)
                                            refine wp_aload_n X dL_law_1294 0 rfl ?_
                                            refine wp_iload X dL_law_1295 4 rfl ?_
                                            refine wp_iconst X (v := 2) dL_law_1297 (by decide) ?_
                                            refine wp_iadd X dL_law_1298 ?_
                                            refine wp_sld X Lq dL_law_1299 h (fun v1299 h => ?_)
                                            refine wp_callVL X (rm := rmX10_fillings) (T := TX10) (N := 20) (ci := 9) (n := 2) [.int v1293, .int v1299] hcd (fun q hq => cX10_fillings_ok hq) kw1045 kw1046 kw1047 kw10 kw1048 (by decide +kernel) (by decide) ⟨by show cs + 2 + 0 ≤ 600128; omega, by show sl + 12 + 0 ≤ 7301098; omega⟩ (cs2 := cs + 2) (sl2 := sl + 12) (by show cs + 2 + 0 = cs + 2; omega) (by show sl + 12 + 0 = sl + 12; omega) rfl (by decide) rfl rfl (Nat.le_of_ble_eq_true rfl) dL_law_1300 h (fun v1300 h => ?_)
                                            refine wp_lstore X (lv' := [(0, .ref b), (1, .ref x1), (2, .ref x2), (3, .ref x3), (4, .int x4), (5, .int v1282.1), (6, .long v1300.1)]) dL_law_1303 (by decide) [1, 2, 3, 4, 5, 6, 0] rfl ?_
                                            refine wp_aload_n X dL_law_1305 2 rfl ?_
                                            refine wp_callVI X (rm := rmX10_thrown) (T := TX10) (N := 20) (ci := 9) (n := 0) [] hcd (fun q hq => cX10_thrown_ok hq) kw873 kw874 kw875 kw10 kw876 (by decide +kernel) (by decide) ⟨by show cs + 2 + 0 ≤ 600128; omega, by show sl + 12 + 0 ≤ 7301098; omega⟩ (cs2 := cs + 2) (sl2 := sl + 12) (by show cs + 2 + 0 = cs + 2; omega) (by show sl + 12 + 0 = sl + 12; omega) rfl (by decide) rfl rfl (Nat.le_of_ble_eq_true rfl) dL_law_1306 h (fun v1306 h => ?_)
                                            refine wp_iload X dL_law_1309 5 rfl ?_
                                            refine wp_icmp_eq X (tgt := 1316) dL_law_1311 (by decide) h (fun h => ?_) (fun h => ?_)
                                            · refine wp_iload X dL_law_1316 5 rfl ?_
                                              refine wp_if_ne X (tgt := 1332) dL_law_1318 (by decide) h (fun h => ?_) (fun h => ?_)
                                              · refine wp_goto X (tgt := 1481) dL_law_1332 (by decide) ?_
                                                refine wp_widen (cs' := cs + 4) (sl' := sl + 24) (by omega) (by omega) ?_
                                                refine wp_sub (lv' := [(0, .ref b), (1, .ref x1), (2, .ref x2), (3, .ref x3), (4, .int x4)]) [0, 1, 2, 3, 4] rfl ?_
                                                exact tL_law_1481 hst0 X hcd Tl Lq hres hcs hsl  ihh _ _ _ _ _ h
                                              · refine wp_aload_n X dL_law_1321 3 rfl ?_
                                                refine wp_iconst X (v := 0) dL_law_1322 (by decide) ?_
                                                refine wp_laload X dL_law_1323 h (fun v1323 h => ?_)
                                                refine wp_lload X dL_law_1324 6 rfl ?_
                                                refine wp_lcmp X dL_law_1326 ?_
                                                refine wp_if_eq X (tgt := 1332) dL_law_1327 (by decide) h (fun h => ?_) (fun h => ?_)
                                                · refine wp_goto X (tgt := 1481) dL_law_1332 (by decide) ?_
                                                  refine wp_widen (cs' := cs + 4) (sl' := sl + 24) (by omega) (by omega) ?_
                                                  refine wp_sub (lv' := [(0, .ref b), (1, .ref x1), (2, .ref x2), (3, .ref x3), (4, .int x4)]) [0, 1, 2, 3, 4] rfl ?_
                                                  exact tL_law_1481 hst0 X hcd Tl Lq hres hcs hsl  ihh _ _ _ _ _ h
                                                · refine wp_iconst X (v := 0) dL_law_1330 (by decide) ?_
                                                  exact wp_lawret X Lq (by omega) (by omega) dL_law_1331 ((congrArg Prod.fst (Option.some.inj h)).trans hres)
                                            · refine wp_iconst X (v := 0) dL_law_1314 (by decide) ?_
                                              exact wp_lawret X Lq (by omega) (by omega) dL_law_1315 ((congrArg Prod.fst (Option.some.inj h)).trans hres)
                                          · rw [if_neg e18] at h
                                            by_cases e19 : (v35 &&& 31) = 19
                                            · rw [if_pos e19] at h
                                              rw [e19]
                                              refine wp_tswIn X (tgt := 1335) dL_law_39 (by decide) (by decide) (by rfl) (by decide) ?_
                                              refine wp_aload_n X dL_law_1335 1 rfl ?_
                                              refine wp_aload_n X dL_law_1336 0 rfl ?_
                                              refine wp_iload X dL_law_1337 4 rfl ?_
                                              refine wp_iconst X (v := 1) dL_law_1339 (by decide) ?_
                                              refine wp_iadd X dL_law_1340 ?_
                                              refine wp_sld X Lq dL_law_1341 h (fun v1341 h => ?_)
                                              refine wp_aload_n X dL_law_1342 0 rfl ?_
                                              refine wp_iload X dL_law_1343 4 rfl ?_
                                              refine wp_iconst X (v := 2) dL_law_1345 (by decide) ?_
                                              refine wp_iadd X dL_law_1346 ?_
                                              refine wp_sld X Lq dL_law_1347 h (fun v1347 h => ?_)
                                              refine wp_aload_n X dL_law_1348 0 rfl ?_
                                              refine wp_iload X dL_law_1349 4 rfl ?_
                                              refine wp_iconst X (v := 3) dL_law_1351 (by decide) ?_
                                              refine wp_iadd X dL_law_1352 ?_
                                              refine wp_sld X Lq dL_law_1353 h (fun v1353 h => ?_)
                                              refine wp_aload_n X dL_law_1354 3 rfl ?_
                                              refine wp_callH X Tl (rm := rmL_coefficient) (n := 5) [.ref x1, .int v1341, .int v1347, .int v1353, .ref x3] hcd (fun q hq => cL_coefficient_ok hst0 hq) kw764 kw765 kw0 kw766 (by decide +kernel) (by decide) ⟨by show cs + 3 ≤ 600128; omega, by show sl + 18 ≤ 7301098; omega⟩ (cs2 := cs + 3) (sl2 := sl + 18) (by show cs + 3 = cs + 3; omega) (by show sl + 18 = sl + 18; omega) rfl rfl (Nat.le_of_ble_eq_true rfl) dL_law_1355 h (fun v1355 h => ?_)
                                              refine wp_istore X (lv' := [(0, .ref b), (1, .ref x1), (2, .ref x2), (3, .ref x3), (4, .int x4), (5, .int v1355.1)]) dL_law_1358 (by decide) [1, 2, 3, 4, 5, 0] rfl ?_
                                              refine wp_aload_n X dL_law_1360 2 rfl ?_
                                              refine wp_aload_n X dL_law_1361 0 rfl ?_
                                              refine wp_iload X dL_law_1362 4 rfl ?_
                                              refine wp_iconst X (v := 1) dL_law_1364 (by decide) ?_
                                              refine wp_iadd X dL_law_1365 ?_
                                              refine wp_sld X Lq dL_law_1366 h (fun v1366 h => ?_)
                                              refine wp_aload_n X dL_law_1367 0 rfl ?_
                                              refine wp_iload X dL_law_1368 4 rfl ?_
                                              refine wp_iconst X (v := 2) dL_law_1370 (by decide) ?_
                                              refine wp_iadd X dL_law_1371 ?_
                                              refine wp_sld X Lq dL_law_1372 h (fun v1372 h => ?_)
                                              refine wp_aload_n X dL_law_1373 0 rfl ?_
                                              refine wp_iload X dL_law_1374 4 rfl ?_
                                              refine wp_iconst X (v := 3) dL_law_1376 (by decide) ?_
                                              refine wp_iadd X dL_law_1377 ?_
                                              refine wp_sld X Lq dL_law_1378 h (fun v1378 h => ?_)
                                              refine wp_callVL X (rm := rmX10_coefficient) (T := TX10) (N := 20) (ci := 9) (n := 3) [.int v1366, .int v1372, .int v1378] hcd (fun q hq => cX10_coefficient_ok hq) kw1065 kw1066 kw1067 kw10 kw1068 (by decide +kernel) (by decide) ⟨by show cs + 3 + 0 ≤ 600128; omega, by show sl + 18 + 0 ≤ 7301098; omega⟩ (cs2 := cs + 3) (sl2 := sl + 18) (by show cs + 3 + 0 = cs + 3; omega) (by show sl + 18 + 0 = sl + 18; omega) rfl (by decide) rfl rfl (Nat.le_of_ble_eq_true rfl) dL_law_1379 h (fun v1379 h => ?_)
                                              refine wp_lstore X (lv' := [(0, .ref b), (1, .ref x1), (2, .ref x2), (3, .ref x3), (4, .int x4), (5, .int v1355.1), (6, .long v1379.1)]) dL_law_1382 (by decide) [1, 2, 3, 4, 5, 6, 0] rfl ?_
                                              refine wp_aload_n X dL_law_1384 2 rfl ?_
                                              refine wp_callVI X (rm := rmX10_thrown) (T := TX10) (N := 20) (ci := 9) (n := 0) [] hcd (fun q hq => cX10_thrown_ok hq) kw873 kw874 kw875 kw10 kw876 (by decide +kernel) (by decide) ⟨by show cs + 3 + 0 ≤ 600128; omega, by show sl + 18 + 0 ≤ 7301098; omega⟩ (cs2 := cs + 3) (sl2 := sl + 18) (by show cs + 3 + 0 = cs + 3; omega) (by show sl + 18 + 0 = sl + 18; omega) rfl (by decide) rfl rfl (Nat.le_of_ble_eq_true rfl) dL_law_1385 h (fun v1385 h => ?_)
                                              refine wp_iload X dL_law_1388 5 rfl ?_
                                              refine wp_icmp_eq X (tgt := 1395) dL_law_1390 (by decide) h (fun h => ?_) (fun h => ?_)
                                              · refine wp_iload X dL_law_1395 5 rfl ?_
                                                refine wp_if_ne X (tgt := 1411) dL_law_1397 (by decide) h (fun h => ?_) (fun h => ?_)
                                                · refine wp_goto X (tgt := 1481) dL_law_1411 (by decide) ?_
                                                  refine wp_widen (cs' := cs + 4) (sl' := sl + 24) (by omega) (by omega) ?_
                                                  refine wp_sub (lv' := [(0, .ref b), (1, .ref x1), (2, .ref x2), (3, .ref x3), (4, .int x4)]) [0, 1, 2, 3, 4] rfl ?_
                                                  exact tL_law_1481 hst0 X hcd Tl Lq hres hcs hsl  ihh _ _ _ _ _ h
                                                · refine wp_aload_n X dL_law_1400 3 rfl ?_
                                                  refine wp_iconst X (v := 0) dL_law_1401 (by decide) ?_
                                                  refine wp_laload X dL_law_1402 h (fun v1402 h => ?_)
                                                  refine wp_lload X dL_law_1403 6 rfl ?_
                                                  refine wp_lcmp X dL_law_1405 ?_
                                                  refine wp_if_eq X (tgt := 1411) dL_law_1406 (by decide) h (fun h => ?_) (fun h => ?_)
                                                  · refine wp_goto X (tgt := 1481) dL_law_1411 (by decide) ?_
                                                    refine wp_widen (cs' := cs + 4) (sl' := sl + 24) (by omega) (by omega) ?_
                                                    refine wp_sub (lv' := [(0, .ref b), (1, .ref x1), (2, .ref x2), (3, .ref x3), (4, .int x4)]) [0, 1, 2, 3, 4] rfl ?_
                                                    exact tL_law_1481 hst0 X hcd Tl Lq hres hcs hsl  ihh _ _ _ _ _ h
                                                  · refine wp_iconst X (v := 0) dL_law_1409 (by decide) ?_
                                                    exact wp_lawret X Lq (by omega) (by omega) dL_law_1410 ((congrArg Prod.fst (Option.some.inj h)).trans hres)
                                              · refine wp_iconst X (v := 0) dL_law_1393 (by decide) ?_
                                                exact wp_lawret X Lq (by omega) (by omega) dL_law_1394 ((congrArg Prod.fst (Option.some.inj h)).trans hres)
                                            · rw [if_neg e19] at h
                                              by_cases e20 : (v35 &&& 31) = 20
                                              · rw [if_pos e20] at h
                                                rw [e20]
                                                refine wp_tswIn X (tgt := 1414) dL_law_39 (by decide) (by decide) (by rfl) (by decide) ?_
                                                refine wp_aload_n X dL_law_1414 1 rfl ?_
                                                refine wp_aload_n X dL_law_1415 0 rfl ?_
                                                refine wp_iload X dL_law_1416 4 rfl ?_
                                                refine wp_iconst X (v := 1) dL_law_1418 (by decide) ?_
                                                refine wp_iadd X dL_law_1419 ?_
                                                refine wp_sld X Lq dL_law_1420 h (fun v1420 h => ?_)
                                                refine wp_aload_n X dL_law_1421 0 rfl ?_
                                                refine wp_iload X dL_law_1422 4 rfl ?_
                                                refine wp_iconst X (v := 2) dL_law_1424 (by decide) ?_
                                                refine wp_iadd X dL_law_1425 ?_
                                                refine wp_sld X Lq dL_law_1426 h (fun v1426 h => ?_)
                                                refine wp_aload_n X dL_law_1427 3 rfl ?_
                                                refine wp_callH X Tl (rm := rmL_character) (n := 4) [.ref x1, .int v1420, .int v1426, .ref x3] hcd (fun q hq => cL_character_ok hst0 hq) kw781 kw782 kw0 kw783 (by decide +kernel) (by decide) ⟨by show cs + 3 ≤ 600128; omega, by show sl + 18 ≤ 7301098; omega⟩ (cs2 := cs + 3) (sl2 := sl + 18) (by show cs + 3 = cs + 3; omega) (by show sl + 18 = sl + 18; omega) rfl rfl (Nat.le_of_ble_eq_true rfl) dL_law_1428 h (fun v1428 h => ?_)
                                                refine wp_istore X (lv' := [(0, .ref b), (1, .ref x1), (2, .ref x2), (3, .ref x3), (4, .int x4), (5, .int v1428.1)]) dL_law_1431 (by decide) [1, 2, 3, 4, 5, 0] rfl ?_
                                                refine wp_aload_n X dL_law_1433 2 rfl ?_
                                                refine wp_aload_n X dL_law_1434 0 rfl ?_
                                                refine wp_iload X dL_law_1435 4 rfl ?_
                                                refine wp_iconst X (v := 1) dL_law_1437 (by decide) ?_
                                                refine wp_iadd X dL_law_1438 ?_
                                                refine wp_sld X Lq dL_law_1439 h (fun v1439 h => ?_)
                                                refine wp_aload_n X dL_law_1440 0 rfl ?_
                                                refine wp_iload X dL_law_1441 4 rfl ?_
                                                refine wp_iconst X (v := 2) dL_law_1443 (by decide) ?_
                                                refine wp_iadd X dL_law_1444 ?_
                                                refine wp_sld X Lq dL_law_1445 h (fun v1445 h => ?_)
                                                refine wp_callVL X (rm := rmX10_character) (T := TX10) (N := 20) (ci := 9) (n := 2) [.int v1439, .int v1445] hcd (fun q hq => cX10_character_ok hq) kw1073 kw1074 kw1075 kw10 kw1076 (by decide +kernel) (by decide) ⟨by show cs + 3 + 0 ≤ 600128; omega, by show sl + 18 + 0 ≤ 7301098; omega⟩ (cs2 := cs + 3) (sl2 := sl + 18) (by show cs + 3 + 0 = cs + 3; omega) (by show sl + 18 + 0 = sl + 18; omega) rfl (by decide) rfl rfl (Nat.le_of_ble_eq_true rfl) dL_law_1446 h (fun v1446 h => ?_)
                                                refine wp_lstore X (lv' := [(0, .ref b), (1, .ref x1), (2, .ref x2), (3, .ref x3), (4, .int x4), (5, .int v1428.1), (6, .long v1446.1)]) dL_law_1449 (by decide) [1, 2, 3, 4, 5, 6, 0] rfl ?_
                                                refine wp_aload_n X dL_law_1451 2 rfl ?_
                                                refine wp_callVI X (rm := rmX10_thrown) (T := TX10) (N := 20) (ci := 9) (n := 0) [] hcd (fun q hq => cX10_thrown_ok hq) kw873 kw874 kw875 kw10 kw876 (by decide +kernel) (by decide) ⟨by show cs + 3 + 0 ≤ 600128; omega, by show sl + 18 + 0 ≤ 7301098; omega⟩ (cs2 := cs + 3) (sl2 := sl + 18) (by show cs + 3 + 0 = cs + 3; omega) (by show sl + 18 + 0 = sl + 18; omega) rfl (by decide) rfl rfl (Nat.le_of_ble_eq_true rfl) dL_law_1452 h (fun v1452 h => ?_)
                                                refine wp_iload X dL_law_1455 5 rfl ?_
                                                refine wp_icmp_eq X (tgt := 1462) dL_law_1457 (by decide) h (fun h => ?_) (fun h => ?_)
                                                · refine wp_iload X dL_law_1462 5 rfl ?_
                                                  refine wp_if_ne X (tgt := 1478) dL_law_1464 (by decide) h (fun h => ?_) (fun h => ?_)
                                                  · refine wp_goto X (tgt := 1481) dL_law_1478 (by decide) ?_
                                                    refine wp_widen (cs' := cs + 4) (sl' := sl + 24) (by omega) (by omega) ?_
                                                    refine wp_sub (lv' := [(0, .ref b), (1, .ref x1), (2, .ref x2), (3, .ref x3), (4, .int x4)]) [0, 1, 2, 3, 4] rfl ?_
                                                    exact tL_law_1481 hst0 X hcd Tl Lq hres hcs hsl  ihh _ _ _ _ _ h
                                                  · refine wp_aload_n X dL_law_1467 3 rfl ?_
                                                    refine wp_iconst X (v := 0) dL_law_1468 (by decide) ?_
                                                    refine wp_laload X dL_law_1469 h (fun v1469 h => ?_)
                                                    refine wp_lload X dL_law_1470 6 rfl ?_
                                                    refine wp_lcmp X dL_law_1472 ?_
                                                    refine wp_if_eq X (tgt := 1478) dL_law_1473 (by decide) h (fun h => ?_) (fun h => ?_)
                                                    · refine wp_goto X (tgt := 1481) dL_law_1478 (by decide) ?_
                                                      refine wp_widen (cs' := cs + 4) (sl' := sl + 24) (by omega) (by omega) ?_
                                                      refine wp_sub (lv' := [(0, .ref b), (1, .ref x1), (2, .ref x2), (3, .ref x3), (4, .int x4)]) [0, 1, 2, 3, 4] rfl ?_
                                                      exact tL_law_1481 hst0 X hcd Tl Lq hres hcs hsl  ihh _ _ _ _ _ h
                                                    · refine wp_iconst X (v := 0) dL_law_1476 (by decide) ?_
                                                      exact wp_lawret X Lq (by omega) (by omega) dL_law_1477 ((congrArg Prod.fst (Option.some.inj h)).trans hres)
                                                · refine wp_iconst X (v := 0) dL_law_1460 (by decide) ?_
                                                  exact wp_lawret X Lq (by omega) (by omega) dL_law_1461 ((congrArg Prod.fst (Option.some.inj h)).trans hres)
                                              · rw [if_neg e20] at h
                                                refine wp_tswOut X (tgt := 1481) dL_law_39 (tsw_out (fun k9 hk9 => ?_)) (by decide) ?_
                                                · rcases (show k9 = 0 ∨ k9 = 1 ∨ k9 = 2 ∨ k9 = 3 ∨ k9 = 4 ∨ k9 = 5 ∨ k9 = 6 ∨ k9 = 7 ∨ k9 = 8 ∨ k9 = 9 ∨ k9 = 10 ∨ k9 = 11 ∨ k9 = 12 ∨ k9 = 13 ∨ k9 = 14 ∨ k9 = 15 ∨ k9 = 16 ∨ k9 = 17 ∨ k9 = 18 ∨ k9 = 19 ∨ k9 = 20 by omega) with rfl | rfl | rfl | rfl | rfl | rfl | rfl | rfl | rfl | rfl | rfl | rfl | rfl | rfl | rfl | rfl | rfl | rfl | rfl | rfl | rfl
                                                  · exact e0
                                                  · exact e1
                                                  · exact e2
                                                  · exact e3
                                                  · exact e4
                                                  · exact e5
                                                  · exact e6
                                                  · exact e7
                                                  · exact e8
                                                  · exact e9
                                                  · exact e10
                                                  · exact e11
                                                  · exact e12
                                                  · exact e13
                                                  · exact e14
                                                  · exact e15
                                                  · exact e16
                                                  · exact e17
                                                  · exact e18
                                                  · exact e19
                                                  · exact e20
                                                · refine wp_widen (cs' := cs + 4) (sl' := sl + 24) (by omega) (by omega) ?_
                                                  exact tL_law_1481 hst0 X hcd Tl Lq hres hcs hsl  ihh _ _ _ _ _ h
