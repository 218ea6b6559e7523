section DRAW2
variable {A : Nat → Nat} {F : Mem} {S W : Nat → Nat → Nat} {N : Nat → Nat} {PT : Nat → Nat → Nat} {PO : Nat → Nat} {QT : Nat → Nat → Nat} {QO : Nat → Nat} {aw : Bool} {th : Int32}
abbrev hwC (A : Nat → Nat) (s : Int64) (r c : Int32) : Cl := .inr (1, [.ref (A 18), .long s, .int r, .int c])
theorem gfJ_of {F : Mem} {a ci k : Nat} {v : Int64} {fs : List Value} (h : F a = .inr (ci, fs)) (hk : fs[k]? = some (.long v)) : gfJ F a ci k = some v := by
  simp only [gfJ, obj_of h, Option.bind_some, hk]
theorem hw_p1 {s t : Int64} {a b : Int32} (h : F (A 17) = hwC A s a b) : pf F (A 17) 1 1 (.long t) = some (va_up F (A 17) (hwC A t a b)) := pf_at h (by simp)
theorem hw_p2 {s : Int64} {a b x : Int32} (h : F (A 17) = hwC A s a b) : pf F (A 17) 1 2 (.int x) = some (va_up F (A 17) (hwC A s x b)) := pf_at h (by simp)
theorem hw_p3 {s : Int64} {a b x : Int32} (h : F (A 17) = hwC A s a b) : pf F (A 17) 1 3 (.int x) = some (va_up F (A 17) (hwC A s a x)) := pf_at h (by simp)
theorem X1_next {s : Int64} {a b : Int32} {k : Nat} (h : F (A 17) = hwC A s a b) (hk : 0 < k) (hk2 : k < 2 ^ 31) : mX1_nextBelow F (A 17) (iN k) = some (iN (pkN (sdN s) k), va_up F (A 17) (hwC A (sdN s) a b)) := by
  unfold mX1_nextBelow
  rw [gfJ_of (k := 1) (v := s) h rfl, Option.bind_some, hw_p1 h, Option.bind_some, gfJ_of (k := 1) (v := sdN s) (up_eq _ _ _) rfl, Option.bind_some, lrem_at hk hk2, Option.bind_some, toI_jN]
  rfl
theorem X1_gb10 (hA : Inj A) {V : Nat → Nat} (hV : okS V) {s : Int64} : ∀ (f n r c : Nat) (F : Mem), f + r = 8 → f < n → c + boxes V r < boxes V 8 → F (A 17) = hwC A s (iN r) (iN c) → isS F (A 18) (A 19) V → fX1_goToBox_10 n (A 17) F = some (va_up F (A 17) (hwC A s (iN (goB f V r c).1) (iN (goB f V r c).2))) := by
  intro f
  induction f with
  | zero =>
    intro n r c F h1 _ h3
    rw [show r = 8 by omega] at h3
    omega
  | succ f ih =>
    intro n r c F h1 h2 h3 hF hS
    obtain ⟨n, rfl⟩ : ∃ m, n = m + 1 := ⟨n - 1, by omega⟩
    have e : boxes V (r + 1) = boxes V r + V r := rfl
    have b24 := hV.2.2
    have v24 := okS_le hV r
    have g2 := gfI_at (k := 2) (v := iN r) hF rfl
    have g3 := gfI_at (k := 3) (v := iN c) hF rfl
    have g0 := gfR_at (k := 0) (v := A 18) hF rfl
    have s0 := gfR_at (k := 0) (v := A 19) hS.1 rfl
    have rd := rdI_at hS.2 (show r < 8 by omega) (by omega)
    have val := goB_ok (V := V) (f + 1) r c h1 h3
    unfold goB at val ⊢
    rw [fX1_goToBox_10.eq_2, g2, Option.bind_some]
    by_cases q7 : r = 7
    · subst q7
      have q : c < V 7 := by
        have e8 : boxes V 8 = boxes V 7 + V 7 := rfl
        omega
      rw [if_pos (show (7 : Int32) ≤ iN 7 by decide), if_pos q, up_self hF]
    · rw [if_neg (show ¬ (7 : Int32) ≤ iN r from fun w => by have := (iN_le (a := 7) (by omega) (by omega)).mp w; omega), g3, Option.bind_some, g0, Option.bind_some, s0, Option.bind_some, Option.bind_some, rd, Option.bind_some]
      by_cases q : c < V r
      · rw [if_pos ((iN_lt (by omega) (by omega)).mpr q), if_pos q, up_self hF]
      · rw [if_neg (fun w => q ((iN_lt (by omega) (by omega)).mp w)), if_neg q, Option.bind_some, Option.bind_some, s0, Option.bind_some, Option.bind_some, rd, Option.bind_some, iN_sub (by omega), hw_p3 hF, Option.bind_some, gfI_at (k := 2) (v := iN r) (up_eq _ _ _) rfl, Option.bind_some, hw_p2 (up_eq _ _ _), Option.bind_some, up_up, iN_one]
        rw [ih n (r + 1) (c - V r) _ (by omega) (by omega) (by omega) (up_eq _ _ _) (isS_at hA hS (by omega) (by omega) (by omega) (by omega) (by omega)), up_up]
theorem X1_oth (hA : Inj A) {V : Nat → Nat} (hV : okS V) {s : Int64} {r c : Nat} (hr : r < 8) (hc : c < V r) (h : F (A 17) = hwC A s (iN r) (iN c)) (hS : isS F (A 18) (A 19) V) : mX1_countOthers F (A 17) = some (iN (othN V r c), F) := by
  have hl := hk_le hV hr hc
  unfold mX1_countOthers
  rw [gfR_at (k := 0) (v := A 18) h rfl, Option.bind_some, gfI_at (k := 2) (v := iN r) h rfl, Option.bind_some, gfI_at (k := 3) (v := iN c) h rfl, Option.bind_some, obj_of hS.1, Option.bind_some, X4_hookOf hS hV hr hc, Option.bind_some]
  simp only
  rw [il1, iN_sub (by omega)]
  rfl
theorem X1_goOn (hA : Inj A) {V : Nat → Nat} (hV : okS V) {s : Int64} {r c x : Nat} (hr : r < 8) (hc : c < V r) (hx : x < 1000) (h : F (A 17) = hwC A s (iN r) (iN c)) (hS : isS F (A 18) (A 19) V) : mX1_goOn F (A 17) (iN x) = some (va_up F (A 17) (if x < V r - 1 - c then hwC A s (iN r) (iN (c + (x + 1))) else hwC A s (iN (r + (x - (V r - 1 - c) + 1))) (iN c))) := by
  have v24 := okS_le hV r
  have g2 := gfI_at (k := 2) (v := iN r) h rfl
  have g3 := gfI_at (k := 3) (v := iN c) h rfl
  unfold mX1_goOn mX4_armOf
  rw [gfR_at (k := 0) (v := A 18) h rfl, Option.bind_some, g2, Option.bind_some, g3, Option.bind_some, obj_of hS.1, Option.bind_some, Option.bind_some, X4_rowLength hS hV.2.1 (by omega), Option.bind_some, Option.bind_some]
  simp only
  rw [il1, iN_sub (by omega), iN_sub (by omega)]
  by_cases q : x < V r - 1 - c
  · rw [if_neg (fun w => by have := (iN_le (by omega) (by omega)).mp w; omega), if_pos q, g3, Option.bind_some, iN_add, iN_add, hw_p3 h, Option.bind_some]
  · rw [if_pos ((iN_le (by omega) (by omega)).mpr (by omega)), if_neg q, g2, Option.bind_some, iN_sub (by omega), iN_add, iN_add, hw_p2 h, Option.bind_some]
theorem X1_gc16 (hA : Inj A) {V : Nat → Nat} (hV : okS V) : ∀ (f n t : Nat) (s : Int64) (r c : Nat) (F : Mem), f + t = 24 → f < n → r < 8 → c < V r → othN V r c ≤ f → F (A 17) = hwC A s (iN r) (iN c) → isS F (A 18) (A 19) V → fX1_goToCorner_16 n (A 17) (iN (othN V r c)) (iN t) F = some (va_up F (A 17) (hwC A (wlk f V s r c).1 (iN (wlk f V s r c).2.1) (iN (wlk f V s r c).2.2))) := by
  intro f
  induction f with
  | zero =>
    intro n t s r c F h1 h2 hr hc ho hF hS
    obtain ⟨n, rfl⟩ : ∃ m, n = m + 1 := ⟨n - 1, by omega⟩
    rw [fX1_goToCorner_16.eq_2, show t = 24 by omega, if_pos (by decide)]
    exact congrArg some (up_self hF).symm
  | succ f ih =>
    intro n t s r c F h1 h2 hr hc ho hF hS
    obtain ⟨n, rfl⟩ : ∃ m, n = m + 1 := ⟨n - 1, by omega⟩
    have hl := hk_le hV hr hc
    have o24 : othN V r c ≤ 24 := by unfold othN; omega
    unfold wlk
    rw [fX1_goToCorner_16.eq_2, if_neg (show ¬ (24 : Int32) ≤ iN t from fun w => by have := (iN_le (a := 24) (by omega) (by omega)).mp w; omega)]
    by_cases q : othN V r c = 0
    · rw [if_pos q, q, if_pos (show iN 0 ≤ 0 by decide), up_self hF]
    · have pl := pkN_lt (s := sdN s) (show 0 < othN V r c by omega)
      have hS1 : ∀ x, isS (va_up F (A 17) x) (A 18) (A 19) V := fun x => isS_at hA hS (by omega) (by omega) (by omega) (by omega) (by omega)
      rw [if_neg q, if_neg (show ¬ iN (othN V r c) ≤ 0 from fun w => q (by have := (iN_le (b := 0) (by omega) (by omega)).mp w; omega)), obj_of hF, Option.bind_some, X1_next hF (by omega) (by omega), Option.bind_some]
      simp only
      rw [obj_of (up_eq _ _ _), Option.bind_some, X1_goOn hA hV hr hc (by omega) (up_eq _ _ _) (hS1 _), Option.bind_some, up_up]
      by_cases d : pkN (sdN s) (othN V r c) < V r - 1 - c
      · have w := wlk_right hV hr hc d
        rw [if_pos d, if_pos d, obj_of (up_eq _ _ _), Option.bind_some, X1_oth hA hV hr w.1 (up_eq _ _ _) (hS1 _), Option.bind_some]
        simp only
        rw [iN_one, ih n (t + 1) _ _ _ _ (by omega) (by omega) hr w.1 (by omega) (up_eq _ _ _) (hS1 _), up_up]
      · have w := wlk_down hV hr hc d pl
        rw [if_neg d, if_neg d, obj_of (up_eq _ _ _), Option.bind_some, X1_oth hA hV w.1 w.2.1 (up_eq _ _ _) (hS1 _), Option.bind_some]
        simp only
        rw [iN_one, ih n (t + 1) _ _ _ _ (by omega) (by omega) w.1 w.2.1 (by omega) (up_eq _ _ _) (hS1 _), up_up]
theorem X1_goToCorner (hA : Inj A) {V : Nat → Nat} (hV : okS V) {k : Nat} (hk : boxes V 8 = k + 1) {s : Int64} {a b : Int32} (h : F (A 17) = hwC A s a b) (hS : isS F (A 18) (A 19) V) : mX1_goToCorner F (A 17) (iN (k + 1)) = some (va_up F (A 17) (hwC A (drB k V s).1 (iN (drB k V s).2.1) (iN (drB k V s).2.2))) := by
  have b24 := hV.2.2
  have hS1 : ∀ x, isS (va_up F (A 17) x) (A 18) (A 19) V := fun x => isS_at hA hS (by omega) (by omega) (by omega) (by omega) (by omega)
  have g := drB_in hV hk s
  have hl := hk_le hV g.1 g.2
  have pl := pkN_lt (s := sdN s) (show 0 < k + 1 by omega)
  unfold mX1_goToCorner mX1_goToBox
  rw [obj_of h, Option.bind_some, X1_next h (by omega) (by omega), Option.bind_some]
  simp only
  rw [obj_of (up_eq _ _ _), Option.bind_some, hw_p2 (up_eq _ _ _), Option.bind_some, hw_p3 (up_eq _ _ _), Option.bind_some, up_up, up_up, il0]
  have FB := FU_big
  rw [X1_gb10 hA hV 8 FU 0 (pkN (sdN s) (k + 1)) _ rfl (by omega) (show _ + 0 < _ by omega) (up_eq _ _ _) (hS1 _), Option.bind_some, up_up, obj_of (up_eq _ _ _), Option.bind_some, X1_oth hA hV g.1 g.2 (up_eq _ _ _) (hS1 _), Option.bind_some]
  simp only
  rw [X1_gc16 hA hV 24 FU 0 (sdN s) _ _ _ rfl (by omega) g.1 g.2 (by unfold othN; omega) (up_eq _ _ _) (hS1 _), up_up]
  rfl
end DRAW2
