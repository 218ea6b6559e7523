section DRAW4
variable {A : Nat → Nat} {F : Mem} {S W : Nat → Nat → Nat} {N : Nat → Nat} {PT : Nat → Nat → Nat} {PO : Nat → Nat} {QT : Nat → Nat → Nat} {QO : Nat → Nat} {aw : Bool} {th : Int32}
def rL57 (A : Nat → Nat) (F : Mem) (V : Nat → Nat) : Prop := ∃ g, F (A 57) = .inl (0, 9, .inl g) ∧ ∀ j, j < 9 → g j = iN (V j)
theorem rL57_rd {V : Nat → Nat} (h : rL57 A F V) {r : Nat} (hr : r < 9) : rdI F 0 (A 57) (iN r) = some (iN (V r)) := by
  obtain ⟨g, h1, h2⟩ := h
  rw [rdI_at h1 hr (by omega), h2 r hr]
theorem rL57_wr {V : Nat → Nat} (h : rL57 A F V) {r : Nat} (hr : r < 9) (x : Nat) : ∃ c, wrI F (A 57) (iN r) (iN x) = some (va_up F (A 57) c) ∧ rL57 A (va_up F (A 57) c) (upL V r x) := by
  obtain ⟨g, h1, h2⟩ := h
  refine ⟨_, wrI_at h1 hr (by omega) _, _, up_eq _ _ _, fun j hj => ?_⟩
  by_cases e : j = r
  · subst e; rw [upL_at]; simp [upd]
  · rw [upL_ne e, ← h2 j hj]; simp [upd, e]
theorem R_ts2 (hA : Inj A) {i : Nat} (hi : i < 4) (h8 : S i 8 = 0) : ∀ (m n r : Nat) (F : Mem) (g : Nat → Int32), r + m = 9 → m < n → rObj A F th aw → rShp A F S → F (A 57) = .inl (0, 9, .inl g) → (∀ j, j < r → g j = iN (S i j)) → ∃ F', fX10_takeShape_2 n (A 49) (iN i) (iN r) F = some F' ∧ rL57 A F' (S i) ∧ Agr A [57] F F' := by
  intro m
  induction m with
  | zero =>
    intro n r F g h1 h2 ho hs hF hg
    obtain ⟨n, rfl⟩ : ∃ m, n = m + 1 := ⟨n - 1, by omega⟩
    refine ⟨F, ?_, ⟨g, hF, fun j hj => hg j (by omega)⟩, Agr.refl A _ F⟩
    rw [fX10_takeShape_2.eq_2, show r = 9 by omega, if_pos (by decide)]
  | succ m ih =>
    intro n r F g h1 h2 ho hs hF hg
    obtain ⟨n, rfl⟩ : ∃ m, n = m + 1 := ⟨n - 1, by omega⟩
    obtain ⟨fs, hob⟩ := rObj_ob ho
    have ro : mX10_rowOf F (A 49) (iN i) (iN r) = some (iN (S i r), F) := by
      by_cases q : r < 8
      · exact R_rowOf ho hs hi q
      · rw [show r = 8 by omega, h8]
        exact R_rowOf_no (.inr ⟨iN_neg (by omega), (iN_le (by omega) (by omega)).mpr (by omega)⟩)
    have k1 : Agr A [57] F (va_up F (A 57) (.inl (0, 9, .inl (upd g r (iN (S i r)))))) := (Agr.refl A _ F).up hA (by omega) (by simp)
    obtain ⟨F', e1, e2, e3⟩ := ih n (r + 1) (va_up F (A 57) (.inl (0, 9, .inl (upd g r (iN (S i r)))))) (upd g r (iN (S i r))) (by omega) (by omega) (rObj_fr k1 ho (by simp)) (rShp_fr k1 hs (by simp)) (up_eq _ _ _) (fun j hj => by
      by_cases e : j = r
      · subst e; simp [upd]
      · rw [← hg j (by omega)]; simp [upd, e])
    refine ⟨F', ?_, e2, k1.trans e3⟩
    rw [fX10_takeShape_2.eq_2, if_neg (show ¬ (9 : Int32) ≤ iN r from fun w => by have := (iN_le (a := 9) (by omega) (by omega)).mp w; omega), R_g9 ho, Option.bind_some, hob, Option.bind_some, ro, Option.bind_some]
    simp only
    rw [wrI_at hF (by omega) (by omega), Option.bind_some, iN_one]
    exact e1
theorem R_dr38 (hA : Inj A) {V : Nat → Nat} {L : Nat → Nat → Nat} {x1 : Int32} {x2 : Int64} (K : Nat → Int32 → Int64 → Mem → Option (Int64 × Mem)) : ∀ (m n r : Nat) (F : Mem), r + m = 8 → m < n → rObj A F th aw → rL57 A F V → F (A 54) = cL (upK L 0 (mixL r V I0)) → fX10_draw_38 K n (A 49) x1 x2 (iN r) F = K (A 49) x1 x2 (va_up F (A 54) (cL (upK L 0 (mixL 8 V I0)))) := by
  intro m
  induction m with
  | zero =>
    intro n r F h1 h2 ho hv h54
    obtain ⟨n, rfl⟩ : ∃ m, n = m + 1 := ⟨n - 1, by omega⟩
    have : r = 8 := by omega
    subst this
    rw [fX10_draw_38.eq_2, if_pos (show (8 : Int32) ≤ iN 8 by decide), up_self h54]
  | succ m ih =>
    intro n r F h1 h2 ho hv h54
    obtain ⟨n, rfl⟩ : ∃ m, n = m + 1 := ⟨n - 1, by omega⟩
    have k1 : ∀ x, Agr A [54] F (va_up F (A 54) x) := fun x => (Agr.refl A _ F).up hA (by omega) (by simp)
    have wr : wrI F (A 54) (iN r) (iN (V r)) = some (va_up F (A 54) (cL (upK L 0 (mixL (r + 1) V I0)))) := by
      have e := updL2 (upK L 0 (mixL r V I0)) (k := 0) (r := r) (by omega) (V r)
      rw [show 24 * 0 + r = r by omega] at e
      rw [wrI_at h54 (by omega) (by omega), e]
      have e2 : upK (upK L 0 (mixL r V I0)) 0 (upL (upK L 0 (mixL r V I0) 0) r (V r)) = upK L 0 (mixL (r + 1) V I0) := by
        rw [show upK L 0 (mixL r V I0) 0 = mixL r V I0 from rfl, mixL_s]
        funext j
        unfold upK
        by_cases q : j = 0
        · rw [if_pos q, if_pos q]
        · rw [if_neg q, if_neg q, if_neg q]
      rw [e2]
    rw [fX10_draw_38.eq_2, if_neg (show ¬ (8 : Int32) ≤ iN r from fun w => by have := (iN_le (a := 8) (by omega) (by omega)).mp w; omega), R_g5 ho, Option.bind_some, R_g9 ho, Option.bind_some, rL57_rd hv (by omega), Option.bind_some, wr, Option.bind_some, iN_one]
    obtain ⟨g, g1, g2⟩ := hv
    rw [ih n (r + 1) _ (by omega) (by omega) (rObj_fr (k1 _) ho (by simp)) ⟨g, (k1 _ 57 (by omega) (by simp)).trans g1, g2⟩ (up_eq _ _ _), up_up]
theorem R_dr107 {V : Nat → Nat} (hV : okS V) (ho : rObj A F th aw) (hv : rL57 A F V) {x4 : Int64} {x6 : Int32} (K : Nat → Int64 → Int32 → Int32 → Int32 → Mem → Option (Int64 × Mem)) : ∀ (f n r c : Nat), f + r = 8 → f < n → c + boxes V r < boxes V 8 → fX10_draw_107 K n (A 49) x4 x6 (iN c) (iN r) F = K (A 49) x4 x6 (iN (goB f V r c).2) (iN (goB f V r c).1) F := by
  intro f
  induction f with
  | zero =>
    intro n r c h1 _ h3
    rw [show r = 8 by omega] at h3
    omega
  | succ f ih =>
    intro n r c h1 h2 h3
    obtain ⟨n, rfl⟩ : ∃ m, n = m + 1 := ⟨n - 1, by omega⟩
    have e : boxes V (r + 1) = boxes V r + V r := rfl
    have b24 := hV.2.2
    have v24 := okS_le hV r
    unfold goB
    rw [fX10_draw_107.eq_2, R_g9 ho, Option.bind_some, rL57_rd hv (by omega), Option.bind_some]
    by_cases q : c < V r
    · rw [if_pos ((iN_lt (by omega) (by omega)).mpr q), if_pos q]
    · rw [if_neg (fun w => q ((iN_lt (by omega) (by omega)).mp w)), if_neg q, Option.bind_some, rL57_rd hv (by omega), Option.bind_some, iN_sub (by omega), iN_one, ih n (r + 1) (c - V r) (by omega) (by omega) (by omega)]
theorem R_bl2 {V : Nat → Nat} (hV : okS V) (ho : rObj A F th aw) (hv : rL57 A F V) {r c : Nat} (hr : r < 8) (hc : c < V r) : ∀ (m n t : Nat), r + 1 + t + m = clen V c 8 → m < n → fX10_below_2 n (A 49) (iN r) (iN c) (iN t) F = some (iN (clen V c 8 - 1 - r), F) := by
  have v24 := okS_le hV r
  have cl := clen_le V c 8
  intro m
  induction m with
  | zero =>
    intro n t h1 h2
    obtain ⟨n, rfl⟩ : ∃ m, n = m + 1 := ⟨n - 1, by omega⟩
    have fin : iN t = iN (clen V c 8 - 1 - r) := by rw [show t = clen V c 8 - 1 - r by omega]
    rw [fX10_below_2.eq_2, iN_one, iN_add]
    by_cases q : 8 ≤ r + 1 + t
    · rw [if_pos (show (8 : Int32) ≤ iN (r + 1 + t) from (iN_le (a := 8) (by omega) (by omega)).mpr q), fin]
    · have w24 := okS_le hV (r + 1 + t)
      have ni := clen_iff hV.1 (r := r + 1 + t) (c := c) 8 (by omega)
      rw [if_neg (show ¬ (8 : Int32) ≤ iN (r + 1 + t) from fun w => q ((iN_le (a := 8) (by omega) (by omega)).mp w)), R_g9 ho, Option.bind_some, rL57_rd hv (by omega), Option.bind_some, if_pos ((iN_le (by omega) (by omega)).mpr (by omega)), fin]
  | succ m ih =>
    intro n t h1 h2
    obtain ⟨n, rfl⟩ : ∃ m, n = m + 1 := ⟨n - 1, by omega⟩
    have w24 := okS_le hV (r + 1 + t)
    have ni := clen_iff hV.1 (r := r + 1 + t) (c := c) 8 (by omega)
    rw [fX10_below_2.eq_2, iN_one, iN_add, if_neg (show ¬ (8 : Int32) ≤ iN (r + 1 + t) from fun w => by have := (iN_le (a := 8) (by omega) (by omega)).mp w; omega), R_g9 ho, Option.bind_some, rL57_rd hv (by omega), Option.bind_some, if_neg (fun w => by have := (iN_le (by omega) (by omega)).mp w; omega), iN_one]
    exact ih n (t + 1) (by omega) (by omega)
theorem R_below {V : Nat → Nat} (hV : okS V) (ho : rObj A F th aw) (hv : rL57 A F V) {r c : Nat} (hr : r < 8) (hc : c < V r) : mX10_below F (A 49) (iN r) (iN c) = some (iN (clen V c 8 - 1 - r), F) := by
  have q := (hk_un hV hr hc).2
  have cl := clen_le V c 8
  have FB := FU_big
  unfold mX10_below
  exact R_bl2 hV ho hv hr hc (clen V c 8 - (r + 1)) FU 0 (by omega) (by omega)
theorem R_dr236 {V : Nat → Nat} (hV : okS V) (ho : rObj A F th aw) (hv : rL57 A F V) {x4 : Int64} {x6 : Int32} {K168 : Nat → Int64 → Int32 → Int32 → Int32 → Int32 → Int32 → Mem → Option (Int64 × Mem)} {K275 : Nat → Int64 → Int32 → Int32 → Int32 → Mem → Option (Int64 × Mem)} {r d c : Nat} (hr : r + d < 8) (hc : c < V (r + d)) : fX10_draw_236 K168 K275 (A 49) x4 x6 (iN r) (iN d) (iN c) F = K168 (A 49) x4 x6 (iN (r + d)) (iN c) (iN (V (r + d) - 1 - c)) (iN (othN V (r + d) c)) F := by
  obtain ⟨fs, hob⟩ := rObj_ob ho
  have v24 := okS_le hV (r + d)
  have u := hk_un hV hr hc
  unfold fX10_draw_236
  rw [iN_add, R_g9 ho, Option.bind_some, rL57_rd hv (by omega), Option.bind_some, hob, Option.bind_some, R_below hV ho hv hr hc, Option.bind_some]
  simp only
  rw [il1, iN_sub (by omega), iN_sub (by omega), iN_add, show V (r + d) - c - 1 = V (r + d) - 1 - c by omega, show V (r + d) - 1 - c + (clen V c 8 - 1 - (r + d)) = othN V (r + d) c by unfold othN; omega]
theorem R_dr168 {V : Nat → Nat} (hV : okS V) (ho : rObj A F th aw) (hv : rL57 A F V) {x6 : Int32} (K : Nat → Int64 → Int32 → Int32 → Int32 → Mem → Option (Int64 × Mem)) : ∀ (f n : Nat) (s : Int64) (r c : Nat), f < n → f ≤ 24 → r < 8 → c < V r → othN V r c ≤ f → fX10_draw_168 K n (A 49) s x6 (iN r) (iN c) (iN (V r - 1 - c)) (iN (othN V r c)) F = K (A 49) (wlk f V s r c).1 x6 (iN (wlk f V s r c).2.1) (iN (wlk f V s r c).2.2) F := by
  intro f
  induction f with
  | zero =>
    intro n s r c h1 h24 hr hc h0
    obtain ⟨n, rfl⟩ : ∃ m, n = m + 1 := ⟨n - 1, by omega⟩
    rw [fX10_draw_168.eq_2, show othN V r c = 0 by omega, if_pos (show iN 0 ≤ 0 by decide)]
    rfl
  | succ f ih =>
    intro n s r c h1 h24 hr hc h0
    obtain ⟨n, rfl⟩ : ∃ m, n = m + 1 := ⟨n - 1, by omega⟩
    have v24 := okS_le hV r
    unfold wlk
    rw [fX10_draw_168.eq_2]
    by_cases q : othN V r c = 0
    · rw [if_pos q, q, if_pos (show iN 0 ≤ 0 by decide)]
    · have pl := pkN_lt (s := sdN s) (show 0 < othN V r c by omega)
      rw [if_neg q, if_neg (show ¬ iN (othN V r c) ≤ 0 from fun w => q (by have := (iN_le (b := 0) (by omega) (by omega)).mp w; omega)), show (s * 6364136223846793005) + 1442695040888963407 = sdN s from rfl, lrem_at (by omega) (by omega), Option.bind_some, toI_jN]
      unfold fX10_draw_215
      by_cases d : pkN (sdN s) (othN V r c) < V r - 1 - c
      · have w := wlk_right hV hr hc d
        have z := R_dr236 hV ho hv (x4 := sdN s) (x6 := x6) (K168 := fX10_draw_168 K n) (K275 := K) (r := r) (d := 0) (c := c + (pkN (sdN s) (othN V r c) + 1)) (by omega) w.1
        rw [if_pos d, if_neg (fun w => by have := (iN_le (by omega) (by omega)).mp w; omega), if_neg (fun w => by have := (iN_le (by omega) (by omega)).mp w; omega), iN_add, iN_one, il0, show c + pkN (sdN s) (othN V r c) + 1 = c + (pkN (sdN s) (othN V r c) + 1) by omega, z]
        exact ih n (sdN s) r _ (by omega) (by omega) hr w.1 (by omega)
      · have w := wlk_down hV hr hc d pl
        have z := R_dr236 hV ho hv (x4 := sdN s) (x6 := x6) (K168 := fX10_draw_168 K n) (K275 := K) (r := r) (d := pkN (sdN s) (othN V r c) - (V r - 1 - c) + 1) (c := c) w.1 w.2.1
        rw [if_neg d, if_pos ((iN_le (by omega) (by omega)).mpr (by omega)), if_pos ((iN_le (by omega) (by omega)).mpr (by omega)), iN_sub (by omega), iN_one, z]
        exact ih n (sdN s) _ c (by omega) (by omega) w.1 w.2.1 (by omega)
theorem R_dr75 (hA : Inj A) (K : Nat → Int64 → Mem → Option (Int64 × Mem)) : ∀ (k n : Nat) (V : Nat → Nat) (s : Int64) (M : Nat → Nat → Nat → Nat) (F : Mem), k < n → okS V → boxes V 8 = k → rObj A F th aw → rL57 A F V → F (A 53) = cM M → ∃ F' M' V', fX10_draw_75 K n (A 49) s (iN k) F = K (A 49) (drw k V s (M 0)).1 F' ∧ F' (A 53) = cM M' ∧ M' 0 = (drw k V s (M 0)).2 ∧ M' 2 = M 2 ∧ rL57 A F' V' ∧ Agr A [53, 57] F F' := by
  intro k
  induction k with
  | zero =>
    intro n V s M F h1 hV hb ho hv hM
    obtain ⟨n, rfl⟩ : ∃ m, n = m + 1 := ⟨n - 1, by omega⟩
    refine ⟨F, M, V, ?_, hM, rfl, rfl, hv, Agr.refl A _ F⟩
    rw [fX10_draw_75.eq_2, if_pos (show iN 0 ≤ 0 by decide)]
    rfl
  | succ k ih =>
    intro n V s M F h1 hV hb ho hv hM
    obtain ⟨n, rfl⟩ : ∃ m, n = m + 1 := ⟨n - 1, by omega⟩
    have b24 := hV.2.2
    have FB := FU_big
    have g := drB_in hV hb s
    have gl := hk_le hV g.1 g.2
    have gv := okS_le hV (goB 8 V 0 (pkN (sdN s) (k + 1))).1
    have gu := hk_un hV g.1 g.2
    have pl := pkN_lt (s := sdN s) (show 0 < k + 1 by omega)
    obtain ⟨fs, hob⟩ := rObj_ob ho
    have db := drB_ok hV hb s
    have dd := okS_drop hV db.1 db.2.1 db.2.2
    have v24 := okS_le hV (drB k V s).2.1
    have d3 : drw (k + 1) V s (M 0) = drw k (upL V (drB k V s).2.1 (drB k V s).2.2) (drB k V s).1 (upT (M 0) (drB k V s).2.1 (drB k V s).2.2 (k + 1)) := rfl
    have eM := updM M (k := 0) (r := (drB k V s).2.1) (c := (drB k V s).2.2) (by omega) (by omega) (k + 1)
    have k1 : ∀ x, Agr A [53, 57] F (va_up F (A 53) x) := fun x => (Agr.refl A _ F).up hA (by omega) (by simp)
    obtain ⟨gg, gg1, gg2⟩ := hv
    have hv1 : ∀ x, rL57 A (va_up F (A 53) x) V := fun x => ⟨gg, (up_ne (hA.ne (by omega) (by omega) (by omega))).trans gg1, gg2⟩
    have hv : rL57 A F V := ⟨gg, gg1, gg2⟩
    obtain ⟨cc, w1, w2⟩ := rL57_wr (hv1 (cM (upK M 0 (upT (M 0) (drB k V s).2.1 (drB k V s).2.2 (k + 1))))) (r := (drB k V s).2.1) (by omega) (drB k V s).2.2
    have k2 : Agr A [53, 57] F (va_up (va_up F (A 53) (cM (upK M 0 (upT (M 0) (drB k V s).2.1 (drB k V s).2.2 (k + 1))))) (A 57) cc) := (k1 _).up hA (by omega) (by simp)
    obtain ⟨F', M', V', e1, e2, e3, e4, e5, e6⟩ := ih n _ (drB k V s).1 (upK M 0 (upT (M 0) (drB k V s).2.1 (drB k V s).2.2 (k + 1))) _ (by omega) dd.1 (by omega) (rObj_fr k2 ho (by simp)) w2 ((up_ne (hA.ne (by omega) (by omega) (by omega))).trans (up_eq _ _ _))
    rw [show upK M 0 (upT (M 0) (drB k V s).2.1 (drB k V s).2.2 (k + 1)) 0 = upT (M 0) (drB k V s).2.1 (drB k V s).2.2 (k + 1) from rfl] at e1 e3
    refine ⟨F', M', V', ?_, e2, by rw [d3]; exact e3, e4, e5, k2.trans e6⟩
    rw [d3, ← e1, fX10_draw_75.eq_2, if_neg (show ¬ iN (k + 1) ≤ 0 from fun w => by have := (iN_le (b := 0) (by omega) (by omega)).mp w; omega), show (s * 6364136223846793005) + 1442695040888963407 = sdN s from rfl, lrem_at (by omega) (by omega), Option.bind_some, toI_jN, il0]
    rw [R_dr107 hV ho hv _ 8 FU 0 _ rfl (by omega) (show _ + 0 < _ by omega)]
    rw [R_g9 ho, Option.bind_some, rL57_rd hv (by omega), Option.bind_some, hob, Option.bind_some, R_below hV ho hv g.1 g.2, Option.bind_some]
    simp only
    rw [il1, iN_sub (by omega), iN_sub (by omega), iN_add, show V (goB 8 V 0 (pkN (sdN s) (k + 1))).1 - (goB 8 V 0 (pkN (sdN s) (k + 1))).2 - 1 = V (goB 8 V 0 (pkN (sdN s) (k + 1))).1 - 1 - (goB 8 V 0 (pkN (sdN s) (k + 1))).2 by omega, show V (goB 8 V 0 (pkN (sdN s) (k + 1))).1 - 1 - (goB 8 V 0 (pkN (sdN s) (k + 1))).2 + (clen V (goB 8 V 0 (pkN (sdN s) (k + 1))).2 8 - 1 - (goB 8 V 0 (pkN (sdN s) (k + 1))).1) = othN V (goB 8 V 0 (pkN (sdN s) (k + 1))).1 (goB 8 V 0 (pkN (sdN s) (k + 1))).2 by unfold othN; omega]
    rw [R_dr168 hV ho hv _ 24 FU (sdN s) _ _ (by omega) (by omega) g.1 g.2 (by unfold othN; omega)]
    rw [show wlk 24 V (sdN s) (goB 8 V 0 (pkN (sdN s) (k + 1))).1 (goB 8 V 0 (pkN (sdN s) (k + 1))).2 = drB k V s from rfl]
    rw [R_g4 ho, Option.bind_some, X10_box, Option.bind_some]
    simp only
    rw [wrI_at hM (by omega) (by omega), eM, Option.bind_some, R_g9 (rObj_fr (k1 _) ho (by simp)), Option.bind_some, rL57_rd (hv1 _) (by omega), Option.bind_some, db.2.1, iN_sub (by omega), show (drB k V s).2.2 + 1 - 1 = (drB k V s).2.2 by omega, w1, Option.bind_some, show -iN 1 = (-1 : Int32) from rfl, iN_pred]
end DRAW4
