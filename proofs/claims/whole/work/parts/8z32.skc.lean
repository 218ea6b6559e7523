section SKC
variable {A : Nat → Nat} {F : Mem} {S W : Nat → Nat → Nat} {N : Nat → Nat} {PT : Nat → Nat → Nat} {PO : Nat → Nat} {QT : Nat → Nat → Nat} {QO : Nat → Nat} {aw : Bool} {th : Int32}
/-- what fillSkew reads, and what it writes -/
abbrev skE (A : Nat → Nat) (F : Mem) (i o j : Nat) (I O V : Nat → Nat) (n : Nat) (T : Nat → Nat → Nat) : Prop := isS F (A (37 + 2 * i)) (A (38 + 2 * i)) I ∧ isS F (A (37 + 2 * o)) (A (38 + 2 * o)) O ∧ isW F (A (45 + 2 * j)) (A (46 + 2 * j)) V n ∧ isT F (A 9) (A 10) (A 11) T O
theorem skE_put (hA : Inj A) {i o j n : Nat} {I O V : Nat → Nat} {T T' : Nat → Nat → Nat} (hi : i < 4) (ho : o < 4) (hj : j < 2) (h : skE A F i o j I O V n T) : skE A (va_up F (A 11) (cT T')) i o j I O V n T' := ⟨isS_at hA h.1 (by omega) (by omega) (by omega) (by omega) (by omega), isS_at hA h.2.1 (by omega) (by omega) (by omega) (by omega) (by omega), isW_at hA h.2.2.1 (by omega) (by omega) (by omega) (by omega) (by omega), isT_putT h.2.2.2⟩
theorem C_fs26 (hA : Inj A) {i o j n r : Nat} {I O V : Nat → Nat} (hi : i < 4) (ho : o < 4) (hj : j < 2) (hn : n ≤ 16) (hr : r < 8) (hO : O r ≤ 24) (K : Nat → Nat → Nat → Nat → Int32 → Int32 → Mem → Option Mem) : ∀ (m f c p : Nat) (F : Mem) (T : Nat → Nat → Nat), c + m = O r → m < f → p + m ≤ n → skE A F i o j I O V n T → ∃ T', fX7_fillSkew_26 K f (A 9) (A (37 + 2 * i)) (A (37 + 2 * o)) (A (45 + 2 * j)) (iN p) (iN r) (iN c) F = K (A 9) (A (37 + 2 * i)) (A (37 + 2 * o)) (A (45 + 2 * j)) (iN (p + m)) (iN r) (va_up F (A 11) (cT T')) ∧ (∀ s d, (s ≠ r ∨ d < c) → T' s d = T s d) ∧ ∀ d, c ≤ d → d < O r → T' r d = V (p + (d - c)) := by
  intro m
  induction m with
  | zero =>
    intro f c p F T h1 h2 h3 h
    obtain ⟨f, rfl⟩ : ∃ m, f = m + 1 := ⟨f - 1, by omega⟩
    refine ⟨T, ?_, fun s d _ => rfl, fun d a b => by omega⟩
    rw [fX7_fillSkew_26.eq_2, gfR_at (k := 0) (v := A (38 + 2 * o)) h.2.1.1 rfl, Option.bind_some, rdI_at h.2.1.2 hr (by omega), Option.bind_some, if_pos ((iN_le (by omega) (by omega)).mpr (by omega)), up_self h.2.2.2.2.2]
    rfl
  | succ m ih =>
    intro f c p F T h1 h2 h3 h
    obtain ⟨f, rfl⟩ : ∃ m, f = m + 1 := ⟨f - 1, by omega⟩
    have h' := skE_put hA (T' := upT T r c (V p)) hi ho hj h
    obtain ⟨T', e1, e2, e3⟩ := ih f (c + 1) (p + 1) _ _ (by omega) (by omega) (by omega) h'
    rw [up_up, show p + 1 + m = p + (m + 1) by omega] at e1
    refine ⟨T', ?_, fun s d w => ?_, fun d a b => ?_⟩
    · rw [fX7_fillSkew_26.eq_2, gfR_at (k := 0) (v := A (38 + 2 * o)) h.2.1.1 rfl, Option.bind_some, rdI_at h.2.1.2 hr (by omega), Option.bind_some, if_neg (fun w => by have := (iN_le (by omega) (by omega)).mp w; omega), obj_of h.2.2.1.1, Option.bind_some, X8_letterAt h.2.2.1 hn (by omega), Option.bind_some]
      simp only
      rw [obj_of h.2.2.2.1, Option.bind_some, X7_put h.2.2.2 (by omega) (by omega), Option.bind_some, iN_one, iN_one]
      exact e1
    · rw [e2 s d (by omega), upT_ne (by omega)]
    · by_cases w : d = c
      · subst w
        rw [e2 r d (by omega), upT_at, Nat.sub_self, Nat.add_zero]
      · rw [e3 d (by omega) b, show p + 1 + (d - (c + 1)) = p + (d - c) by omega]
theorem C_fs12 (hA : Inj A) {i o j : Nat} {I O V : Nat → Nat} (hi : i < 4) (ho : o < 4) (hj : j < 2) (hn : dfB I O 8 ≤ 16) (hI : ∀ s, I s ≤ O s) (hO : ∀ s, O s ≤ 24) : ∀ (m f : Nat) (F : Mem) (T : Nat → Nat → Nat), m ≤ 8 → m < f → skE A F i o j I O V (dfB I O 8) T → ∃ T', fX7_fillSkew_12 f (A 9) (A (37 + 2 * i)) (A (37 + 2 * o)) (A (45 + 2 * j)) (iN (dfB I O 8 - dfB I O m)) (iN m + (-1)) F = some (va_up F (A 11) (cT T')) ∧ (∀ s d, m ≤ s → T' s d = T s d) ∧ ∀ s d, s < m → I s ≤ d → d < O s → T' s d = skF V I O s d := by
  have FB := FU_big
  intro m
  induction m with
  | zero =>
    intro f F T h1 h2 h
    obtain ⟨f, rfl⟩ : ∃ m, f = m + 1 := ⟨f - 1, by omega⟩
    refine ⟨T, ?_, fun s d _ => rfl, fun s d a => by omega⟩
    rw [fX7_fillSkew_12.eq_2, if_pos (by decide), up_self h.2.2.2.2.2]
  | succ m ih =>
    intro f F T h1 h2 h
    obtain ⟨f, rfl⟩ : ∃ m, f = m + 1 := ⟨f - 1, by omega⟩
    have mo := dfB_mono I O (m + 1) 8 h1
    have es : dfB I O (m + 1) = dfB I O m + (O m - I m) := rfl
    have hm := hI m
    have hm2 := hO m
    obtain ⟨T1, a1, a2, a3⟩ := C_fs26 hA (r := m) hi ho hj hn (by omega) hm2 (fun (x0 : Nat) (x1 : Nat) (x2 : Nat) (x3 : Nat) (x4 : Int32) (x5 : Int32) (F : Mem) => (fX7_fillSkew_12 f) x0 x1 x2 x3 x4 (x5 + (-1)) F) (O m - I m) FU (I m) (dfB I O 8 - dfB I O (m + 1)) F T (by omega) (by omega) (by omega) h
    have h' := skE_put hA (T' := T1) hi ho hj h
    obtain ⟨T', b1, b2, b3⟩ := ih f _ _ (by omega) (by omega) h'
    rw [up_up] at b1
    refine ⟨T', ?_, fun s d hs => ?_, fun s d h4 h5 h6 => ?_⟩
    · rw [iN_pred, fX7_fillSkew_12.eq_2, if_neg (iN_neg (by omega)), gfR_at (k := 0) (v := A (38 + 2 * i)) h.1.1 rfl, Option.bind_some, rdI_at h.1.2 (by omega) (by omega), Option.bind_some]
      refine Eq.trans a1 ?_
      rw [show dfB I O 8 - dfB I O (m + 1) + (O m - I m) = dfB I O 8 - dfB I O m by omega]
      exact b1
    · rw [b2 s d (by omega), a2 s d (by omega)]
    · by_cases w : s = m
      · subst w
        rw [b2 s d (Nat.le_refl _), a3 d h5 h6]
        rfl
      · exact b3 s d (by omega) h5 h6
theorem X7_cs15 {a la ta b lb : Nat} {T : Nat → Nat → Nat} {I O : Nat → Nat} (h : isT F a la ta T O) (hb : isS F b lb I) (hO : okO O) (hp : par O) (hI : par I) (hl : letsF T I O) (hi24 : ∀ s, I s ≤ 24) {r : Nat} (hr : r < 8) (K : Nat → Nat → Int32 → Mem → Option (Int32 × Mem)) : ∀ (m f c : Nat), c + m = O r → m < f → I r ≤ c → ((∀ d, c ≤ d → d < O r → strA T I r d) → fX7_isColumnStrictOutside_15 K f a b (iN r) (iN c) F = K a b (iN r) F) ∧ (¬ (∀ d, c ≤ d → d < O r → strA T I r d) → fX7_isColumnStrictOutside_15 K f a b (iN r) (iN c) F = some (0, F)) := by
  have h24 := hO.1 r
  intro m
  induction m with
  | zero =>
    intro f c h1 h2 h3
    obtain ⟨f, rfl⟩ : ∃ m, f = m + 1 := ⟨f - 1, by omega⟩
    refine ⟨fun _ => ?_, fun q => absurd (fun d x y => by omega) q⟩
    rw [fX7_isColumnStrictOutside_15.eq_2, gfR_at (k := 0) (v := la) h.1 rfl, Option.bind_some, rdI_at h.2.1 (by omega) (by omega), Option.bind_some, if_pos ((iN_le (by omega) (by omega)).mpr (by omega))]
  | succ m ih =>
    intro f c h1 h2 h3
    obtain ⟨f, rfl⟩ : ∃ m, f = m + 1 := ⟨f - 1, by omega⟩
    obtain ⟨i1, i2⟩ := ih f (c + 1) (by omega) (by omega) (by omega)
    have hir := hi24 r
    have x100 := (hl r c h3 (by omega)).2
    have all : (∀ d, c ≤ d → d < O r → strA T I r d) ↔ strA T I r c ∧ ∀ d, c + 1 ≤ d → d < O r → strA T I r d := by
      constructor
      · intro w; exact ⟨w c (Nat.le_refl _) (by omega), fun d x y => w d (by omega) y⟩
      · intro w d x y
        by_cases e : d = c
        · subst e; exact w.1
        · exact w.2 d (by omega) y
    rw [all]
    have s58 : (((0 < r → I (r - 1) ≤ c → T (r - 1) c < T r c)) → fX7_isColumnStrictOutside_58 (fX7_isColumnStrictOutside_15 K f) K a b (iN r) (iN c) (iN (T r c)) F = fX7_isColumnStrictOutside_15 K f a b (iN r) (iN (c + 1)) F) ∧ (¬ ((0 < r → I (r - 1) ≤ c → T (r - 1) c < T r c)) → fX7_isColumnStrictOutside_58 (fX7_isColumnStrictOutside_15 K f) K a b (iN r) (iN c) (iN (T r c)) F = some (0, F)) := by
      unfold fX7_isColumnStrictOutside_58 fX7_isColumnStrictOutside_89
      rw [iN_one]
      by_cases z : r = 0
      · rw [if_pos (show iN r ≤ 0 from by rw [z]; decide)]
        exact ⟨fun _ => rfl, fun q => absurd (fun w => by omega) q⟩
      · obtain ⟨s, rfl⟩ : ∃ s, r = s + 1 := ⟨r - 1, by omega⟩
        have em : iN (s + 1) - 1 = iN s := by rw [il1, iN_sub (by omega), Nat.add_sub_cancel]
        have his := hi24 s
        have hos := hp s
        rw [if_neg (show ¬ iN (s + 1) ≤ 0 from fun w => by have := (iN_le (b := 0) (by omega) (by omega)).mp w; omega), gfR_at (k := 0) (v := lb) hb.1 rfl, Option.bind_some, em, rdI_at hb.2 (by omega) (by omega), Option.bind_some, Nat.add_sub_cancel]
        by_cases w : c < I s
        · rw [if_pos ((iN_lt (by omega) (by omega)).mpr w)]
          exact ⟨fun _ => rfl, fun q => absurd (fun _ v => by omega) q⟩
        · have y100 := (hl s c (by omega) (by omega)).2
          rw [if_neg (fun v => w ((iN_lt (by omega) (by omega)).mp v)), obj_of h.1, Option.bind_some, X7_letterAt h hO.1 hO.2 (by omega) (by omega), Option.bind_some, if_pos (show c < O s by omega)]
          simp only
          by_cases v : T s c < T (s + 1) c
          · rw [if_pos ((iN_lt (by omega) (by omega)).mpr v)]
            exact ⟨fun _ => rfl, fun q => absurd (fun _ _ => v) q⟩
          · rw [if_neg (fun u => v ((iN_lt (by omega) (by omega)).mp u))]
            exact ⟨fun q => absurd (q (by omega) (by omega)) v, fun _ => rfl⟩
    rw [fX7_isColumnStrictOutside_15.eq_2, gfR_at (k := 0) (v := la) h.1 rfl, Option.bind_some, rdI_at h.2.1 (by omega) (by omega), Option.bind_some, if_neg (fun w => by have := (iN_le (by omega) (by omega)).mp w; omega), obj_of h.1, Option.bind_some, X7_letterAt h hO.1 hO.2 (by omega) (by omega), Option.bind_some, if_pos (by omega)]
    simp only
    rw [gfR_at (k := 0) (v := lb) hb.1 rfl, Option.bind_some, rdI_at hb.2 (by omega) (by omega), Option.bind_some]
    have fin : ∀ (p : Prop), (p ↔ (I r < c → T r (c - 1) ≤ T r c)) → p → ((strA T I r c ∧ ∀ d, c + 1 ≤ d → d < O r → strA T I r d) → fX7_isColumnStrictOutside_58 (fX7_isColumnStrictOutside_15 K f) K a b (iN r) (iN c) (iN (T r c)) F = K a b (iN r) F) ∧ (¬ (strA T I r c ∧ ∀ d, c + 1 ≤ d → d < O r → strA T I r d) → fX7_isColumnStrictOutside_58 (fX7_isColumnStrictOutside_15 K f) K a b (iN r) (iN c) (iN (T r c)) F = some (0, F)) := by
      intro p hp1 hp2
      constructor
      · intro w
        rw [s58.1 w.1.2]
        exact i1 w.2
      · intro w
        by_cases v : (0 < r → I (r - 1) ≤ c → T (r - 1) c < T r c)
        · rw [s58.1 v]
          exact i2 (fun u => w ⟨⟨hp1.mp hp2, v⟩, u⟩)
        · exact s58.2 v
    by_cases w : c ≤ I r
    · rw [if_pos ((iN_le (by omega) (by omega)).mpr w)]
      exact fin True ⟨fun _ q => by omega, fun _ => trivial⟩ trivial
    · have em : iN c - 1 = iN (c - 1) := by rw [il1, iN_sub (by omega)]
      have y100 := (hl r (c - 1) (by omega) (by omega)).2
      rw [if_neg (fun v => w ((iN_le (by omega) (by omega)).mp v)), obj_of h.1, Option.bind_some, em, X7_letterAt h hO.1 hO.2 (by omega) (by omega), Option.bind_some, if_pos (show c - 1 < O r by omega)]
      simp only
      by_cases v : T r (c - 1) ≤ T r c
      · rw [if_pos ((iN_le (by omega) (by omega)).mpr v)]
        exact fin (T r (c - 1) ≤ T r c) ⟨fun q _ => q, fun q => q (by omega)⟩ v
      · rw [if_neg (fun u => v ((iN_le (by omega) (by omega)).mp u))]
        exact ⟨fun q => absurd (q.1.1 (by omega)) v, fun _ => rfl⟩
theorem X7_cs2 {a la ta b lb : Nat} {T : Nat → Nat → Nat} {I O : Nat → Nat} (h : isT F a la ta T O) (hb : isS F b lb I) (hO : okO O) (hp : par O) (hI : par I) (hIO : ∀ s, I s ≤ O s) (hl : letsF T I O) : ∀ (m f r : Nat), r + m = 8 → m < f → ∃ z : Bool, fX7_isColumnStrictOutside_2 f a b (iN r) F = some (bI z, F) ∧ (z = true ↔ ∀ s d, r ≤ s → s < 8 → I s ≤ d → d < O s → strA T I s d) := by
  have FB := FU_big
  have hi24 : ∀ s, I s ≤ 24 := fun s => Nat.le_trans (hIO s) (hO.1 s)
  intro m
  induction m with
  | zero =>
    intro f r h1 h2
    obtain ⟨f, rfl⟩ : ∃ m, f = m + 1 := ⟨f - 1, by omega⟩
    refine ⟨true, ?_, fun _ s d x y => by omega, fun _ => rfl⟩
    rw [fX7_isColumnStrictOutside_2.eq_2, show r = 8 by omega, if_pos (by decide)]
    rfl
  | succ m ih =>
    intro f r h1 h2
    obtain ⟨f, rfl⟩ : ∃ m, f = m + 1 := ⟨f - 1, by omega⟩
    have hir := hi24 r
    have hor := hIO r
    have ho24 := hO.1 r
    obtain ⟨z, z1, z2⟩ := ih f (r + 1) (by omega) (by omega)
    obtain ⟨c1, c2⟩ := X7_cs15 h hb hO hp hI hl hi24 (r := r) (by omega) (fun (x0 : Nat) (x1 : Nat) (x2 : Int32) (F : Mem) => (fX7_isColumnStrictOutside_2 f) x0 x1 (x2 + 1) F) (O r - I r) FU (I r) (by omega) (by omega) (Nat.le_refl _)
    rw [fX7_isColumnStrictOutside_2.eq_2, if_neg (show ¬ (8 : Int32) ≤ iN r from fun w => by have := (iN_le (a := 8) (by omega) (by omega)).mp w; omega), gfR_at (k := 0) (v := lb) hb.1 rfl, Option.bind_some, rdI_at hb.2 (by omega) (by omega), Option.bind_some]
    by_cases q : ∀ d, I r ≤ d → d < O r → strA T I r d
    · refine ⟨z, ?_, ?_⟩
      · rw [c1 q, iN_one]
        exact z1
      · rw [z2]
        constructor
        · intro w s d x1 x2 x3 x4
          by_cases e : s = r
          · subst e; exact q d x3 x4
          · exact w s d (by omega) x2 x3 x4
        · intro w s d x1 x2 x3 x4
          exact w s d (by omega) x2 x3 x4
    · refine ⟨false, c2 q, (fun w => by cases w), fun w => ?_⟩
      exact absurd (fun d x y => w r d (Nat.le_refl _) (by omega) x y) q
theorem X7_isColumnStrict {a la ta b lb : Nat} {T : Nat → Nat → Nat} {I O : Nat → Nat} (h : isT F a la ta T O) (hb : isS F b lb I) (hO : okO O) (hp : par O) (hI : par I) (hIO : ∀ s, I s ≤ O s) (hl : letsF T I O) : ∃ z : Bool, mX7_isColumnStrictOutside F a b = some (bI z, F) ∧ (z = true ↔ strS T I O) := by
  have FB := FU_big
  obtain ⟨z, z1, z2⟩ := X7_cs2 h hb hO hp hI hIO hl 8 FU 0 (by omega) (by omega)
  refine ⟨z, z1, ?_⟩
  rw [z2]
  exact ⟨fun w s d x y u => w s d (Nat.zero_le _) x y u, fun w s d _ x y u => w s d x y u⟩
end SKC
