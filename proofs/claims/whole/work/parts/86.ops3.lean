section OPS3
variable {A : Nat → Nat} {F : Mem} {S W : Nat → Nat → Nat} {N : Nat → Nat} {PT : Nat → Nat → Nat} {PO : Nat → Nat} {QT : Nat → Nat → Nat} {QO : Nat → Nat} {aw : Bool} {th : Int32}
abbrev RTs : List Nat := List.range' 49 17
theorem ne10 : ¬ ((1 : Int32) = 0) := by decide
theorem RTs_of {T : List Nat} (h : ∀ t, t ∈ T → 49 ≤ t ∧ t < 66) : ∀ t, t ∈ T → t ∈ RTs := fun t q => by have := h t q; rw [List.mem_range'_1]; omega
theorem R_g1 (h : rObj A F th aw) : gfR F (A 49) 9 1 = some (A 50) := by obtain ⟨cd, od, h⟩ := h; exact gfR_at h rfl
theorem R_g2 (h : rObj A F th aw) : gfR F (A 49) 9 2 = some (A 51) := by obtain ⟨cd, od, h⟩ := h; exact gfR_at h rfl
theorem R_g3 (h : rObj A F th aw) : gfR F (A 49) 9 3 = some (A 52) := by obtain ⟨cd, od, h⟩ := h; exact gfR_at h rfl
theorem R_g4 (h : rObj A F th aw) : gfR F (A 49) 9 4 = some (A 53) := by obtain ⟨cd, od, h⟩ := h; exact gfR_at h rfl
theorem R_g5 (h : rObj A F th aw) : gfR F (A 49) 9 5 = some (A 54) := by obtain ⟨cd, od, h⟩ := h; exact gfR_at h rfl
theorem R_g7 (h : rObj A F th aw) : gfR F (A 49) 9 7 = some (A 55) := by obtain ⟨cd, od, h⟩ := h; exact gfR_at h rfl
theorem R_g8 (h : rObj A F th aw) : gfR F (A 49) 9 8 = some (A 56) := by obtain ⟨cd, od, h⟩ := h; exact gfR_at h rfl
theorem R_g9 (h : rObj A F th aw) : gfR F (A 49) 9 9 = some (A 57) := by obtain ⟨cd, od, h⟩ := h; exact gfR_at h rfl
theorem R_g10 (h : rObj A F th aw) : gfR F (A 49) 9 10 = some (A 58) := by obtain ⟨cd, od, h⟩ := h; exact gfR_at h rfl
theorem R_g11 (h : rObj A F th aw) : gfR F (A 49) 9 11 = some (A 59) := by obtain ⟨cd, od, h⟩ := h; exact gfR_at h rfl
theorem R_g12 (h : rObj A F th aw) : gfR F (A 49) 9 12 = some (A 60) := by obtain ⟨cd, od, h⟩ := h; exact gfR_at h rfl
theorem R_g14 (h : rObj A F th aw) : gfR F (A 49) 9 14 = some (A 61) := by obtain ⟨cd, od, h⟩ := h; exact gfR_at h rfl
theorem R_g15 (h : rObj A F th aw) : gfR F (A 49) 9 15 = some (A 62) := by obtain ⟨cd, od, h⟩ := h; exact gfR_at h rfl
theorem R_g17 (h : rObj A F th aw) : gfR F (A 49) 9 17 = some (A 63) := by obtain ⟨cd, od, h⟩ := h; exact gfR_at h rfl
theorem R_g18 (h : rObj A F th aw) : gfR F (A 49) 9 18 = some (A 64) := by obtain ⟨cd, od, h⟩ := h; exact gfR_at h rfl
theorem R_g19 (h : rObj A F th aw) : gfR F (A 49) 9 19 = some (A 65) := by obtain ⟨cd, od, h⟩ := h; exact gfR_at h rfl
theorem R_rowOf (ho : rObj A F th aw) (h : rShp A F S) {i r : Nat} (hi : i < 4) (hr : r < 8) : mX10_rowOf F (A 49) (iN i) (iN r) = some (iN (S i r), F) := by
  obtain ⟨f, h1, h2⟩ := h
  unfold mX10_rowOf
  rw [if_neg (iN_neg (by omega))]
  simp (disch := omega) only [il7, il8, iN_le, if_pos, R_g1 ho, Option.bind_some, iN_mul, iN_add, rdI_at h1, h2]
theorem R_rowOf_no {x y : Int32} (hx : x < 0 ∨ (¬ x < 0 ∧ iN 8 ≤ x)) : mX10_rowOf F (A 49) y x = some (0, F) := by
  unfold mX10_rowOf
  rcases hx with q | ⟨q1, q2⟩
  · rw [if_pos q]
  · rw [if_neg q1, if_neg (show ¬ x ≤ 7 from iN_nle (iN_le' (b := 7) q2 (by omega) (by omega)))]
theorem R_bo4 (ho : rObj A F th aw) (h : rShp A F S) {i : Nat} (hi : i < 4) : ∀ (m n r : Nat), r + m = 8 → m < n → fX10_boxesOf_4 n (A 49) (iN i) (iN (boxes (S i) r)) (iN r) F = some (iN (boxes (S i) 8), F) := by
  intro m
  obtain ⟨fs, hob⟩ := rObj_ob ho
  induction m with
  | zero =>
    intro n r h1 h2
    obtain ⟨n', rfl⟩ : ∃ n', n = n' + 1 := ⟨n - 1, by omega⟩
    have : r = 8 := by omega
    subst this
    rw [fX10_boxesOf_4.eq_2, if_pos (by decide)]
  | succ m ih =>
    intro n r h1 h2
    obtain ⟨n', rfl⟩ : ∃ n', n = n' + 1 := ⟨n - 1, by omega⟩
    rw [fX10_boxesOf_4.eq_2]
    simp (disch := omega) only [il8, iN_le, if_neg, hob, Option.bind_some, R_rowOf ho h hi, iN_add, iN_one]
    exact ih n' (r + 1) (by omega) (by omega)
theorem R_boxesOf (ho : rObj A F th aw) (h : rShp A F S) {i : Nat} (hi : i < 4) : mX10_boxesOf F (A 49) (iN i) = some (iN (boxes (S i) 8), F) := by
  have := FU_big
  exact R_bo4 ho h hi 8 FU 0 (by omega) (by omega)
theorem R_row (hA : Inj A) (h : RR A F S W N PT PO QT QO aw th) {i : Nat} (hi : i < 4) (x : Int32) : ∃ F', RR A F' S W N PT PO QT QO aw 0 ∧ Agr A RTs F F' ∧ (∀ r, r < 8 → x = iN r → mX10_row F (A 49) (iN i) x = some (iN (S i r), F')) ∧ ((x < 0 ∨ (¬ x < 0 ∧ iN 8 ≤ x)) → mX10_row F (A 49) (iN i) x = some (0, F')) := by
  obtain ⟨F', e, h', k⟩ := RR_th hA h 0
  obtain ⟨fs, hob⟩ := rObj_ob h'.1
  refine ⟨F', h', k.mono (RTs_of (fun t q => by simp at q; omega)), ?_, ?_⟩
  · intro r hr hx
    unfold mX10_row
    rw [R_slot hi, Option.bind_some, if_neg ne10]
    unfold fX10_row_13
    rw [e, Option.bind_some, rObj_th h'.1, Option.bind_some, if_pos (by decide), hob, Option.bind_some, hx, R_rowOf h'.1 h'.2.1 hi hr, Option.bind_some]
  · intro hx
    unfold mX10_row
    rw [R_slot hi, Option.bind_some, if_neg ne10]
    unfold fX10_row_13
    rw [e, Option.bind_some, rObj_th h'.1, Option.bind_some, if_pos (by decide), hob, Option.bind_some, R_rowOf_no hx, Option.bind_some]
theorem R_row_no (hA : Inj A) (h : RR A F S W N PT PO QT QO aw th) {y : Int32} (hy : y < 0 ∨ (¬ y < 0 ∧ iN 4 ≤ y)) (x : Int32) : ∃ F', RR A F' S W N PT PO QT QO aw 1 ∧ Agr A RTs F F' ∧ mX10_row F (A 49) y x = some (0, F') := by
  obtain ⟨F', e, h', k⟩ := RR_th hA h 1
  refine ⟨F', h', k.mono (RTs_of (fun t q => by simp at q; omega)), ?_⟩
  unfold mX10_row
  rw [R_noslot hy, Option.bind_some, if_pos rfl]
  unfold fX10_row_13
  rw [e, Option.bind_some, rObj_th h'.1, Option.bind_some, if_neg (by decide)]
/-- what a row of bytes has before its row k -/
def bfr (w : Int64) (k : Nat) : Nat := if k = 0 then 255 else byt w (k - 1)
theorem R_sh36 {w : Int64} {x1 : Int32} {b : Nat} (K : Nat → Int32 → Int64 → Int32 → Mem → Option (Int32 × Mem)) : ∀ (m n k : Nat), k + m = 8 → m < n → ((∀ j, k ≤ j → j < 8 → byt w j ≤ bfr w j) → fX10_shape_36 K n b x1 w (iN (boxes (byt w) k)) (iN (bfr w k)) (iN k) F = K b x1 w (iN (boxes (byt w) 8)) F) ∧ (¬ (∀ j, k ≤ j → j < 8 → byt w j ≤ bfr w j) → fX10_shape_36 K n b x1 w (iN (boxes (byt w) k)) (iN (bfr w k)) (iN k) F = some (0, F)) := by
  intro m
  induction m with
  | zero =>
    intro n k h1 h2
    obtain ⟨n', rfl⟩ : ∃ n', n = n' + 1 := ⟨n - 1, by omega⟩
    have : k = 8 := by omega
    subst this
    refine ⟨fun _ => ?_, fun q => absurd (fun j a b => by omega) q⟩
    rw [fX10_shape_36.eq_2, if_pos (by decide)]
  | succ m ih =>
    intro n k h1 h2
    obtain ⟨n', rfl⟩ : ∃ n', n = n' + 1 := ⟨n - 1, by omega⟩
    have b1 := byt_lt w k
    have b2 : bfr w k < 256 := by unfold bfr; split; omega; exact byt_lt w _
    have e : fX10_shape_36 K (n' + 1) b x1 w (iN (boxes (byt w) k)) (iN (bfr w k)) (iN k) F = if byt w k ≤ bfr w k then fX10_shape_36 K n' b x1 w (iN (boxes (byt w) (k + 1))) (iN (bfr w (k + 1))) (iN (k + 1)) F else some (0, F) := by
      rw [fX10_shape_36.eq_2, (byte_ok w k (by omega)).2]
      simp (disch := omega) only [il8, iN_le, if_neg, iN_add, iN_one]
      rfl
    rw [e]
    obtain ⟨e1, e2⟩ := ih n' (k + 1) (by omega) (by omega)
    by_cases q : byt w k ≤ bfr w k
    · rw [if_pos q]
      refine ⟨fun z => e1 (fun j a b => z j (by omega) b), fun z => e2 (fun y => z (fun j a b => ?_))⟩
      by_cases jk : j = k
      · subst jk; exact q
      · exact y j (by omega) b
    · rw [if_neg q]
      exact ⟨fun z => absurd (z k (Nat.le_refl _) (by omega)) q, fun _ => rfl⟩
/-- an array of ints at o to o + k is g's, else f's -/
def fillF (o k : Nat) (g f : Nat → Int32) : Nat → Int32 := fun j => if o ≤ j ∧ j < o + k then g (j - o) else f j
theorem fillF_z (o : Nat) (g f : Nat → Int32) : fillF o 0 g f = f := by
  funext j
  unfold fillF
  rw [if_neg (by omega)]
theorem fillF_s (o k : Nat) (g f : Nat → Int32) : upd (fillF o k g f) (o + k) (g k) = fillF o (k + 1) g f := by
  funext j
  unfold upd
  by_cases h : j = o + k
  · subst h
    rw [if_pos rfl]
    unfold fillF
    rw [if_pos (by omega), show o + k - o = k by omega]
  · rw [if_neg h]
    unfold fillF
    by_cases q : o ≤ j ∧ j < o + k
    · rw [if_pos q, if_pos (by omega)]
    · rw [if_neg q, if_neg (by omega)]
theorem fillF_in {o k j : Nat} {g f : Nat → Int32} (h : o ≤ j ∧ j < o + k) : fillF o k g f j = g (j - o) := by unfold fillF; rw [if_pos h]
theorem fillF_out {o k j : Nat} {g f : Nat → Int32} (h : ¬ (o ≤ j ∧ j < o + k)) : fillF o k g f j = f j := by unfold fillF; rw [if_neg h]
theorem R_sh95 (hA : Inj A) {i : Nat} (hi : i < 4) {w : Int64} {f : Nat → Int32} : ∀ (m n k : Nat) (F : Mem), k + m = 8 → m < n → rObj A F th aw → F (A 50) = .inl (0, 32, .inl (fillF (8 * i) k (fun k => iN (byt w k)) f)) → fX10_shape_95 n (A 49) (iN i) w (iN k) F = some (1, va_up F (A 50) (.inl (0, 32, .inl (fillF (8 * i) 8 (fun k => iN (byt w k)) f)))) := by
  intro m
  induction m with
  | zero =>
    intro n k F h1 h2 ho h
    obtain ⟨n', rfl⟩ : ∃ n', n = n' + 1 := ⟨n - 1, by omega⟩
    have : k = 8 := by omega
    subst this
    rw [fX10_shape_95.eq_2, if_pos (by decide), up_self h]
  | succ m ih =>
    intro n k F h1 h2 ho h
    obtain ⟨n', rfl⟩ : ∃ n', n = n' + 1 := ⟨n - 1, by omega⟩
    have k1 : Agr A [50] F (va_up F (A 50) (.inl (0, 32, .inl (fillF (8 * i) (k + 1) (fun k => iN (byt w k)) f)))) := (Agr.refl A _ F).up hA (by omega) (by simp)
    have e := ih n' (k + 1) _ (by omega) (by omega) (rObj_fr k1 ho (by simp)) (up_eq _ _ _)
    have e2 : wrI F (A 50) (8 * iN i + iN k) (iN (byt w k)) = some (va_up F (A 50) (.inl (0, 32, .inl (fillF (8 * i) (k + 1) (fun k => iN (byt w k)) f)))) := by
      rw [il8, iN_mul, iN_add, wrI_at h (by omega) (by omega), fillF_s (8 * i) k (fun k => iN (byt w k)) f]
    rw [fX10_shape_95.eq_2, (byte_ok w k (by omega)).2, R_g1 ho, Option.bind_some, e2, Option.bind_some, iN_one, if_neg (fun q => by have := (iN_le (a := 8) (b := k) (by omega) (by omega)).mp q; omega), e, up_up]
theorem bfr_fal {w : Int64} : (∀ j, 0 ≤ j → j < 8 → byt w j ≤ bfr w j) ↔ fal (shV w) 1 := by
  constructor
  · intro h k a b
    have := h k (by omega) b
    unfold bfr at this
    rw [if_neg (by omega)] at this
    rw [shV_in w b, shV_in w (by omega)]
    exact this
  · intro h j _ b
    unfold bfr
    by_cases j0 : j = 0
    · rw [if_pos j0]; have := byt_lt w j; omega
    · rw [if_neg j0]
      have := h j (by omega) b
      rw [shV_in w b, shV_in w (by omega)] at this
      exact this
theorem boxes_shV (w : Int64) : boxes (shV w) 8 = boxes (byt w) 8 := boxes_congr (fun j hj => shV_in w hj)
theorem rShp_up {F' : Mem} {i : Nat} {V : Nat → Nat} {g f : Nat → Int32} (hi : i < 4) (h : ∀ i k, i < 4 → k < 8 → f (8 * i + k) = iN (S i k)) (hg : ∀ k, k < 8 → g k = iN (V k)) (e : F' (A 50) = .inl (0, 32, .inl (fillF (8 * i) 8 g f))) : rShp A F' (upK S i V) := by
  refine ⟨_, e, fun j k hj hk => ?_⟩
  by_cases q : j = i
  · subst q
    rw [fillF_in (by omega), upK_at, show 8 * j + k - 8 * j = k by omega, hg k hk]
  · rw [fillF_out (by omega), upK_ne q, h j k hj hk]
theorem R_shape (hA : Inj A) (h : RR A F S W N PT PO QT QO aw th) {i : Nat} (hi : i < 4) (w : Int64) : ∃ (z : Bool) (F' : Mem), mX10_shape F (A 49) (iN i) w = some (bI z, F') ∧ (z = true ↔ fal (shV w) 1 ∧ boxes (shV w) 8 ≤ 24) ∧ RR A F' (if z = true then upK S i (shV w) else S) W N PT PO QT QO aw 0 ∧ Agr A RTs F F' := by
  have := FU_big
  obtain ⟨F1, e, h', k⟩ := RR_th hA h 0
  have k' := k.mono (U := RTs) (RTs_of (fun t q => by simp at q; omega))
  have b := boxes_bd (S := byt w) (b := 255) 8 (fun s hs => by have := byt_lt w s; omega)
  have st : mX10_shape F (A 49) (iN i) w = fX10_shape_36 (fun (x0 : Nat) (x1 : Int32) (x2 : Int64) (x4 : Int32) (F : Mem) => if x4 ≤ 24 then (fX10_shape_95 FU x0 x1 x2 0 F) else (some (0, F))) FU (A 49) (iN i) w (iN (boxes (byt w) 0)) (iN (bfr w 0)) (iN 0) F1 := by
    unfold mX10_shape
    rw [R_slot hi, Option.bind_some, if_neg ne10]
    unfold fX10_shape_13
    rw [e, Option.bind_some, rObj_th h'.1, Option.bind_some, if_pos (by decide)]
    rfl
  obtain ⟨e1, e2⟩ := R_sh36 (F := F1) (w := w) (x1 := iN i) (b := A 49) (fun (x0 : Nat) (x1 : Int32) (x2 : Int64) (x4 : Int32) (F : Mem) => if x4 ≤ 24 then (fX10_shape_95 FU x0 x1 x2 0 F) else (some (0, F))) 8 FU 0 (by omega) (by omega)
  rw [bfr_fal] at e1 e2
  by_cases q : fal (shV w) 1
  · have e3 := e1 q
    by_cases q2 : boxes (byt w) 8 ≤ 24
    · rw [if_pos (show iN (boxes (byt w) 8) ≤ 24 from (iN_le (b := 24) (by omega) (by omega)).mpr q2)] at e3
      obtain ⟨f, f1, f2⟩ := h'.2.1
      have e4 := R_sh95 hA hi (w := w) (f := f) 8 FU 0 F1 (by omega) (by omega) h'.1 (by rw [fillF_z]; exact f1)
      have k2 : Agr A [50] F1 (va_up F1 (A 50) (.inl (0, 32, .inl (fillF (8 * i) 8 (fun k => iN (byt w k)) f)))) := (Agr.refl A _ F1).up hA (by omega) (by simp)
      refine ⟨true, _, by rw [st, e3]; exact e4, by rw [boxes_shV]; simp [q, q2], ?_, k'.trans (k2.mono (RTs_of (fun t q => by simp at q; omega)))⟩
      rw [if_pos rfl]
      exact ⟨rObj_fr k2 h'.1 (by simp), rShp_up hi f2 (fun k hk => by rw [shV_in w hk]) (up_eq _ _ _), rWrd_fr k2 h'.2.2.1 (by simp), rTab_fr k2 h'.2.2.2.1 (by simp), rWk_fr k2 h'.2.2.2.2 (fun t q => by simp at q; omega)⟩
    · rw [if_neg (show ¬ iN (boxes (byt w) 8) ≤ 24 from fun z => q2 ((iN_le (b := 24) (by omega) (by omega)).mp z))] at e3
      refine ⟨false, F1, by rw [st, e3]; rfl, by rw [boxes_shV]; simp [q2], ?_, k'⟩
      simpa using h'
  · refine ⟨false, F1, by rw [st, e2 q]; rfl, by simp [q], ?_, k'⟩
    simpa using h'
theorem R_shape_no (hA : Inj A) (h : RR A F S W N PT PO QT QO aw th) {y : Int32} (hy : y < 0 ∨ (¬ y < 0 ∧ iN 4 ≤ y)) (w : Int64) : ∃ F', RR A F' S W N PT PO QT QO aw 1 ∧ Agr A RTs F F' ∧ mX10_shape F (A 49) y w = some (0, F') := by
  obtain ⟨F', e, h', k⟩ := RR_th hA h 1
  refine ⟨F', h', k.mono (RTs_of (fun t q => by simp at q; omega)), ?_⟩
  unfold mX10_shape
  rw [R_noslot hy, Option.bind_some, if_pos rfl]
  unfold fX10_shape_13
  rw [e, Option.bind_some, rObj_th h'.1, Option.bind_some, if_neg (by decide)]
end OPS3
