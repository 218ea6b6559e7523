section COR
variable {A : Nat → Nat} {F : Mem} {S W : Nat → Nat → Nat} {N : Nat → Nat} {PT : Nat → Nat → Nat} {PO : Nat → Nat} {QT : Nat → Nat → Nat} {QO : Nat → Nat} {aw : Bool} {th : Int32}
def LIr (M R : Nat → Nat) (E : Nat → Nat → Nat) (r : Nat) : Prop := ∀ q, q < rowS M r 8 → ∃ l, l < 8 ∧ E r (R r - 1 - q) = l ∧ rowS M r 8 ≤ q + rowS M r (l + 1) ∧ q + rowS M r l < rowS M r 8
def PIr (a R c : Nat → Nat) (i s j : Nat) (M : Nat → Nat) (E : Nat → Nat → Nat) (fr : Nat → Int32) : Prop := i < 8 ∧ 1 ≤ j ∧ j ≤ 8 ∧ (∀ r, r < i → rowS M r 8 = R r) ∧ rowS M i 8 + s = R i ∧ (∀ n, 8 * (i + 1) ≤ n → M n = 0) ∧ (∀ y, y + 1 < j → M (8 * i + y) = 0) ∧ (rowS M i 8 = 0 → j = 8) ∧ (0 < rowS M i 8 → E i (R i - rowS M i 8) + 1 = j) ∧ (∀ r, r ≤ i → LIr M R E r) ∧ (∀ x, x < 8 → fr x = iN (a x + colS M x i + M (8 * i + x))) ∧ (∀ x, x < 8 → a x + colS M x i + M (8 * i + x) ≤ c x)
theorem PIr_add {a R c : Nat → Nat} {i s j x : Nat} {M : Nat → Nat} {E : Nat → Nat → Nat} {fr : Nat → Int32} (h : PIr a R c i (s + 1) j M E fr) (hx : x < j) (hu : a x + colS M x i + M (8 * i + x) < c x) : PIr a R c i s (x + 1) (upL M (8 * i + x) (M (8 * i + x) + 1)) (upT E i s x) (upd fr x (iN (a x + colS M x i + M (8 * i + x) + 1))) := by
  obtain ⟨h1, h2, h3, h4, h5, h6, h7, h8, h9, h10, h12, h13⟩ := h
  have zx : rowS M i x = 0 := rowS_zero (fun y hy => h7 y (by omega))
  have r8 : rowS (upL M (8 * i + x) (M (8 * i + x) + 1)) i 8 = rowS M i 8 + 1 := by
    have := rowS_up (M := M) (i := i) (x := x) (v := M (8 * i + x) + 1) (by omega) i 8 (Nat.le_refl _)
    rw [if_pos (by omega), if_pos (by omega)] at this
    omega
  have rother : ∀ r y, r ≠ i → y ≤ 8 → rowS (upL M (8 * i + x) (M (8 * i + x) + 1)) r y = rowS M r y := fun r y hr hy => by
    have := rowS_up (M := M) (i := i) (x := x) (v := M (8 * i + x) + 1) (by omega) r y hy
    rw [if_neg (by omega), if_neg (by omega)] at this
    omega
  have rlow : ∀ y, y ≤ x → rowS (upL M (8 * i + x) (M (8 * i + x) + 1)) i y = rowS M i y := fun y hy => by
    have := rowS_up (M := M) (i := i) (x := x) (v := M (8 * i + x) + 1) (by omega) i y (by omega)
    rw [if_neg (by omega), if_neg (by omega)] at this
    omega
  have rhigh : ∀ y, x < y → y ≤ 8 → rowS (upL M (8 * i + x) (M (8 * i + x) + 1)) i y = rowS M i y + 1 := fun y hy hy8 => by
    have := rowS_up (M := M) (i := i) (x := x) (v := M (8 * i + x) + 1) (by omega) i y hy8
    rw [if_pos (by omega), if_pos (by omega)] at this
    omega
  have cs : ∀ y, y < 8 → colS (upL M (8 * i + x) (M (8 * i + x) + 1)) y i = colS M y i := fun y hy => colS_cong hy (fun n hn => upL_ne (by omega))
  refine ⟨h1, by omega, by omega, fun r hr => by rw [rother r 8 (by omega) (Nat.le_refl _)]; exact h4 r hr, by rw [r8]; omega, fun n hn => by rw [upL_ne (by omega)]; exact h6 n hn, fun y hy => by rw [upL_ne (by omega)]; exact h7 y (by omega), fun e => by rw [r8] at e; omega, fun _ => ?_, fun r hr => ?_, fun y hy => ?_, fun y hy => ?_⟩
  · rw [r8, show R i - (rowS M i 8 + 1) = s by omega, upT_at]
  · intro q hq
    by_cases c : r = i
    · subst c
      rw [r8] at hq ⊢
      by_cases d : q = rowS M r 8
      · subst d
        refine ⟨x, by omega, by rw [show R r - 1 - rowS M r 8 = s by omega, upT_at], ?_, ?_⟩
        · rw [rhigh (x + 1) (by omega) (by omega)]; omega
        · rw [rlow x (Nat.le_refl _), zx]; omega
      · obtain ⟨l, l1, l2, l3, l4⟩ := h10 r (Nat.le_refl _) q (by omega)
        have lx : x ≤ l := by
          apply Nat.le_of_not_lt
          intro hl
          have : rowS M r (l + 1) = 0 := rowS_zero (fun y hy => h7 y (by omega))
          omega
        refine ⟨l, l1, ?_, ?_, ?_⟩
        · rw [upT_ne (by omega)]; exact l2
        · rw [rhigh (l + 1) (by omega) (by omega)]; omega
        · by_cases e : l = x
          · subst e; rw [rlow l (Nat.le_refl _)]; omega
          · rw [rhigh l (by omega) (by omega)]; omega
    · rw [rother r 8 c (Nat.le_refl _)] at hq ⊢
      obtain ⟨l, l1, l2, l3, l4⟩ := h10 r hr q hq
      exact ⟨l, l1, by rw [upT_ne (by omega)]; exact l2, by rw [rother r _ c (by omega)]; exact l3, by rw [rother r _ c (by omega)]; exact l4⟩
  · rw [cs y hy]
    by_cases c : y = x
    · subst c
      rw [upL_at]
      show (if y = y then iN (a y + colS M y i + M (8 * i + y) + 1) else fr y) = _
      rw [if_pos rfl, ← Nat.add_assoc]
    · rw [upL_ne (by omega)]
      simp only [upd]
      rw [if_neg c]
      exact h12 y hy
  · rw [cs y hy]
    by_cases c : y = x
    · subst c; rw [upL_at]; omega
    · rw [upL_ne (by omega)]; exact h13 y hy
theorem PIr_row {a R c : Nat → Nat} {i j : Nat} {M : Nat → Nat} {E : Nat → Nat → Nat} {fr : Nat → Int32} (h : PIr a R c i 0 j M E fr) (hi : i + 1 < 8) : PIr a R c (i + 1) (R (i + 1)) 8 M E fr := by
  obtain ⟨h1, h2, h3, h4, h5, h6, h7, h8, h9, h10, h12, h13⟩ := h
  have z : ∀ y, y ≤ 8 → rowS M (i + 1) y = 0 := fun y hy => rowS_zero (fun t ht => h6 _ (by omega))
  refine ⟨hi, by omega, by omega, fun r hr => ?_, by rw [z 8 (Nat.le_refl _)]; omega, fun n hn => h6 n (by omega), fun y hy => h6 _ (by omega), fun _ => rfl, fun e => by rw [z 8 (Nat.le_refl _)] at e; omega, fun r hr => ?_, fun x hx => ?_, fun x hx => ?_⟩
  · by_cases c : r = i
    · subst c; omega
    · exact h4 r (by omega)
  · by_cases c : r = i + 1
    · subst c; intro q hq; rw [z 8 (Nat.le_refl _)] at hq; omega
    · exact h10 r (by omega)
  · rw [colS_succ, h6 (8 * (i + 1) + x) (by omega), Nat.add_zero, ← Nat.add_assoc]; exact h12 x hx
  · rw [colS_succ, h6 (8 * (i + 1) + x) (by omega), Nat.add_zero, ← Nat.add_assoc]; exact h13 x hx
/-- entries that are there already -/
theorem PIr_E {a R c : Nat → Nat} {i s j : Nat} {M : Nat → Nat} {E E' : Nat → Nat → Nat} {fr : Nat → Int32} (h : PIr a R c i s j M E fr) (e : ∀ r q, r ≤ i → q < rowS M r 8 → E' r (R r - 1 - q) = E r (R r - 1 - q)) : PIr a R c i s j M E' fr := by
  obtain ⟨h1, h2, h3, h4, h5, h6, h7, h8, h9, h10, h12, h13⟩ := h
  refine ⟨h1, h2, h3, h4, h5, h6, h7, h8, fun q => ?_, fun r hr q hq => ?_, h12, h13⟩
  · have := e i (rowS M i 8 - 1) (Nat.le_refl _) (by omega)
    rw [show R i - 1 - (rowS M i 8 - 1) = R i - rowS M i 8 by omega] at this
    rw [this]
    exact h9 q
  · obtain ⟨l, l1, l2, l3⟩ := h10 r hr q hq
    exact ⟨l, l1, by rw [e r q hr hq]; exact l2, l3⟩
theorem allN_end {P Q R C : Nat → Nat} : ∀ (k : Nat) (M : Nat → Nat), k ≤ 8 → (∀ r, 8 - k ≤ r → r < 8 → R r = 0) → (∀ n, 8 * (8 - k) ≤ n → M n = 0) → allN P Q R C k M = 1 := by
  intro k
  induction k with
  | zero => intro M _ _ _; rfl
  | succ k ih =>
    intro M hk hR hM
    show rowN P Q C (7 - k) (allN P Q R C k) 8 (R (7 - k)) M = 1
    rw [hR (7 - k) (by omega) (by omega), rowN_zero 8 M (fun x hx => hM _ (by omega))]
    exact ih M (by omega) (fun r a b => hR r (by omega) b) (fun n hn => hM n (by omega))
/-- the reference's rooms -/
def CSr (A : Nat → Nat) (F : Mem) (th : Int32) (aw : Bool) (S : Nat → Nat → Nat) (c : Nat → Nat) (E : Nat → Nat → Nat → Nat) (fr : Nat → Int32) : Prop := rObj A F th aw ∧ rShp A F S ∧ F (A 53) = cM E ∧ F (A 58) = .inl (0, 9, .inl fr) ∧ ∃ g, F (A 59) = .inl (0, 9, .inl g) ∧ ∀ x, x < 8 → g x = iN (c x)
theorem CSr_put (hA : Inj A) {c : Nat → Nat} {E E' : Nat → Nat → Nat → Nat} {fr fr' : Nat → Int32} (h : CSr A F th aw S c E fr) : CSr A (va_up (va_up F (A 53) (cM E')) (A 58) (.inl (0, 9, .inl fr'))) th aw S c E' fr' ∧ Agr A [53, 58] F (va_up (va_up F (A 53) (cM E')) (A 58) (.inl (0, 9, .inl fr'))) := by
  have k : Agr A [53, 58] F (va_up (va_up F (A 53) (cM E')) (A 58) (.inl (0, 9, .inl fr'))) := ((Agr.refl A _ F).up hA (by omega) (by simp)).up hA (by omega) (by simp)
  obtain ⟨h1, h2, h3, h4, g, h5, h6⟩ := h
  refine ⟨⟨rObj_fr k h1 (by simp), rShp_fr k h2 (by simp), ?_, up_eq _ _ _, g, (k 59 (by omega) (by simp)).trans h5, h6⟩, k⟩
  rw [up_ne (hA.ne (by omega) (by omega) (by omega)), up_eq]
theorem R_grows {c : Nat → Nat} {E : Nat → Nat → Nat → Nat} {a R : Nat → Nat} {i s j x : Nat} {M : Nat → Nat} {fr : Nat → Int32} (h : CSr A F th aw S c E fr) (hP : PIr a R c i s j M (E 1) fr) (hc24 : ∀ k, c k ≤ 24) (hx : x < j) : mX10_grows F (A 49) (iN x) = some (bI (decide (a x + colS M x i + M (8 * i + x) < c x ∧ (x = 0 ∨ a x + colS M x i + M (8 * i + x) < a (x - 1) + colS M (x - 1) i))), F) := by
  obtain ⟨h1, h2, h3, h4, g, h5, h6⟩ := h
  obtain ⟨p1, p2, p3, p4, p5, p6, p7, p8, p9, p10, p12, p13⟩ := hP
  have ux := p12 x (by omega)
  have ub := p13 x (by omega)
  have cx := hc24 x
  unfold mX10_grows
  rw [R_g10 h1, Option.bind_some, rdI_at h4 (by omega) (by omega), Option.bind_some, R_g11 h1, Option.bind_some, rdI_at h5 (by omega) (by omega), Option.bind_some, ux, h6 x (by omega)]
  by_cases d1 : c x ≤ a x + colS M x i + M (8 * i + x)
  · rw [if_pos ((iN_le (by omega) (by omega)).mpr d1), decide_eq_false (fun q => by omega)]
    rfl
  · rw [if_neg (fun w => d1 ((iN_le (by omega) (by omega)).mp w))]
    by_cases x0 : x = 0
    · subst x0
      rw [if_pos (show iN 0 = 0 from rfl), decide_eq_true ⟨by omega, Or.inl rfl⟩]
      rfl
    · have uy := p12 (x - 1) (by omega)
      have uyb := p13 (x - 1) (by omega)
      have cy := hc24 (x - 1)
      have mz := p7 (x - 1) (by omega)
      rw [mz, Nat.add_zero] at uy uyb
      rw [if_neg (show ¬ iN x = 0 from fun q => x0 ((iN_inj (b := 0) (by omega) (by omega)).mp q)), Option.bind_some, il1, iN_sub (by omega), rdI_at h4 (by omega) (by omega), Option.bind_some, Option.bind_some, rdI_at h4 (by omega) (by omega), Option.bind_some, ux, uy]
      by_cases d2 : a (x - 1) + colS M (x - 1) i ≤ a x + colS M x i + M (8 * i + x)
      · rw [if_pos ((iN_le (by omega) (by omega)).mpr d2), decide_eq_false (fun q => by omega)]
        rfl
      · rw [if_neg (fun w => d2 ((iN_le (by omega) (by omega)).mp w)), decide_eq_true ⟨by omega, Or.inr (by omega)⟩]
        rfl
/-- the row and the place of a box -/
theorem R_co167 (ho : rObj A F th aw) (hs : rShp A F S) {jb : Nat} (hjb : jb < 4) (hR24 : ∀ k, S jb k ≤ 24) {x4 x5 x11 : Int32} {x6 : Int64} {i q : Nat} (hi : i < 8) (hq : q < S jb i) (K : Nat → Int32 → Int32 → Int32 → Int64 → Int32 → Int32 → Int32 → Mem → Option (Int64 × Mem)) (hb : boxes (S jb) 8 ≤ 24) : ∀ (m n r : Nat), r + m = i → m < n → fX10_coefficient_167 K n (A 49) (iN jb) x4 x5 x6 (iN r) (iN (boxes (S jb) i + q - boxes (S jb) r)) x11 F = K (A 49) (iN jb) x4 x5 x6 (iN i) (iN q) x11 F := by
  obtain ⟨fs, hob⟩ := rObj_ob ho
  have bt := boxes_mono (S jb) (show i + 1 ≤ 8 by omega)
  have bs : boxes (S jb) (i + 1) = boxes (S jb) i + S jb i := rfl
  intro m
  induction m with
  | zero =>
    intro n r e1 e2
    obtain ⟨n', rfl⟩ : ∃ n', n = n' + 1 := ⟨n - 1, by omega⟩
    have : r = i := by omega
    subst this
    have hi24 := hR24 r
    rw [fX10_coefficient_167.eq_2, hob, Option.bind_some, R_rowOf ho hs hjb hi, Option.bind_some, show boxes (S jb) r + q - boxes (S jb) r = q by omega, if_pos ((iN_lt (by omega) (by omega)).mpr hq)]
  | succ m ih =>
    intro n r e1 e2
    obtain ⟨n', rfl⟩ : ∃ n', n = n' + 1 := ⟨n - 1, by omega⟩
    have bm := boxes_mono (S jb) (show r + 1 ≤ i by omega)
    have br : boxes (S jb) (r + 1) = boxes (S jb) r + S jb r := rfl
    rw [fX10_coefficient_167.eq_2, hob, Option.bind_some, R_rowOf ho hs hjb (by omega), Option.bind_some, if_neg (fun w => by have := (iN_lt (by omega) (by omega)).mp w; omega)]
    dsimp only
    rw [hob, Option.bind_some, R_rowOf ho hs hjb (by omega), Option.bind_some, iN_one]
    dsimp only
    rw [iN_sub (by omega), show boxes (S jb) i + q - boxes (S jb) r - S jb r = boxes (S jb) i + q - boxes (S jb) (r + 1) by omega]
    exact ih n' (r + 1) (by omega) (by omega)
end COR
