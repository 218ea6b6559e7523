section OPS1
variable {A : Nat → Nat} {F : Mem} {S W : Nat → Nat → Nat} {N : Nat → Nat} {PT : Nat → Nat → Nat} {PO : Nat → Nat} {QT : Nat → Nat → Nat} {QO : Nat → Nat} {aw : Bool} {th : Int32}
abbrev CTs : List Nat := List.range 49
abbrev IOOB : String := "java/lang/IndexOutOfBoundsException"
theorem CTs_of {T : List Nat} (h : ∀ t, t ∈ T → t < 49) : ∀ t, t ∈ T → t ∈ CTs := fun t q => List.mem_range.mpr (h t q)
theorem rdQ_at {F : Mem} {t a n i v : Nat} {f : Nat → Option Nat} (h : F a = .inl (t, n, .inr (.inr (.inr (.inr f))))) (hi : i < n) (hn : n ≤ 2 ^ 31) (hv : f i = some v) : rdQ F t a (iN i) = some v := by
  simp only [rdQ, arQ_of h, Option.bind_some, iN_inb (show i < 2 ^ 31 by omega), hi, decide_true, if_true, iN_nat (show i < 2 ^ 31 by omega), hv]
theorem C_slot (h : gB A F aw) {i : Nat} (hi : i < 4) : mX9_slotNumbered F (A 0) (iN i) = some (.inr (A (37 + 2 * i)), F) := by
  unfold mX9_slotNumbered
  rw [if_neg (iN_neg (by omega))]
  simp (disch := omega) only [il4, iN_lt, if_pos, gfR_at (k := 0) (v := A 1) h.1 rfl, Option.bind_some, rdQ_at h.2.1 (by omega) (by omega) (if_pos hi)]
theorem C_noslot {x : Int32} (hx : x < 0 ∨ (¬ x < 0 ∧ iN 4 ≤ x)) : mX9_slotNumbered F (A 0) x = some (.inl IOOB, F) := by
  unfold mX9_slotNumbered
  rcases hx with h | ⟨h1, h2⟩
  · rw [if_pos h]; rfl
  · rw [if_neg h1, if_neg (fun q => by rw [Int32.lt_iff_toInt_lt] at q; rw [Int32.le_iff_toInt_le] at h2; have e1 : (4 : Int32).toInt = (iN 4).toInt := rfl; omega)]; rfl
theorem C_word (h : gB A F aw) {i : Nat} (hi : i < 2) : mX9_wordNumbered F (A 0) (iN i) = some (.inr (A (45 + 2 * i)), F) := by
  unfold mX9_wordNumbered
  rw [if_neg (iN_neg (by omega))]
  simp (disch := omega) only [il2, iN_lt, if_pos, gfR_at (k := 1) (v := A 2) h.1 rfl, Option.bind_some, rdQ_at h.2.2 (by omega) (by omega) (if_pos hi)]
theorem C_noword {x : Int32} (hx : x < 0 ∨ (¬ x < 0 ∧ iN 2 ≤ x)) : mX9_wordNumbered F (A 0) x = some (.inl IOOB, F) := by
  unfold mX9_wordNumbered
  rcases hx with h | ⟨h1, h2⟩
  · rw [if_pos h]; rfl
  · rw [if_neg h1, if_neg (fun q => by rw [Int32.lt_iff_toInt_lt] at q; rw [Int32.le_iff_toInt_le] at h2; have e1 : (2 : Int32).toInt = (iN 2).toInt := rfl; omega)]; rfl
theorem R_slot {i : Nat} (hi : i < 4) : mX10_isSlot F (iN i) = some (1, F) := by
  unfold mX10_isSlot
  rw [if_neg (iN_neg (by omega))]
  simp (disch := omega) only [il4, iN_le, if_neg]
theorem R_noslot {x : Int32} (hx : x < 0 ∨ (¬ x < 0 ∧ iN 4 ≤ x)) : mX10_isSlot F x = some (0, F) := by
  unfold mX10_isSlot
  rcases hx with h | ⟨h1, h2⟩
  · rw [if_pos h]
  · rw [if_neg h1]; exact if_pos h2
theorem R_word {i : Nat} (hi : i < 2) : mX10_isWord F (iN i) = some (1, F) := by
  unfold mX10_isWord
  by_cases h : i = 0
  · subst h; rfl
  · have : i = 1 := by omega
    subst this; rfl
theorem R_noword {x : Int32} (hx : x < 0 ∨ (¬ x < 0 ∧ iN 2 ≤ x)) : mX10_isWord F x = some (0, F) := by
  unfold mX10_isWord
  have h0 : x ≠ 0 := by
    intro e; subst e
    rcases hx with h | h
    · exact absurd h (by decide)
    · exact absurd h.2 (by decide)
  have h1 : x ≠ 1 := by
    intro e; subst e
    rcases hx with h | h
    · exact absurd h (by decide)
    · exact absurd h.2 (by decide)
  rw [if_neg h0, if_neg h1]
/-- the new shape of a slot -/
theorem gS_up (hA : Inj A) {F' : Mem} {i : Nat} {V : Nat → Nat} {T : List Nat} (h : gS A F S) (hi : i < 4) (k : Agr A T F F') (d : ∀ t, t ∈ T → t < 37 ∨ 45 ≤ t ∨ t = 38 + 2 * i) (e : F' (A (38 + 2 * i)) = cS V) : gS A F' (upK S i V) := by
  intro j hj
  by_cases q : j = i
  · subst q
    rw [upK_at]
    exact ⟨(k _ (by omega) (fun w => by have := d _ w; omega)).trans (h j hj).1, e⟩
  · rw [upK_ne q]
    exact isS_fr (h j hj) (k _ (by omega) (fun w => by have := d _ w; omega)) (k _ (by omega) (fun w => by have := d _ w; omega))
theorem isS_at (hA : Inj A) {a b c : Nat} {V : Nat → Nat} {x : Cl} (h : isS F (A a) (A b) V) (ha : a < 67) (hb : b < 67) (hc : c < 67) (h1 : a ≠ c) (h2 : b ≠ c) : isS (va_up F (A c) x) (A a) (A b) V := isS_fr h (up_ne (hA.ne ha hc h1)) (up_ne (hA.ne hb hc h2))
theorem CC_shape2 (hA : Inj A) {F' : Mem} {i : Nat} {V U : Nat → Nat} (h : CC A F S W N PT PO QT QO aw) (hi : i < 4) (k : Agr A [15, 16, 38 + 2 * i] F F') (hU : isS F' (A 15) (A 16) U) (hU8 : ∀ s, 8 ≤ s → U s = 0) (e : F' (A (38 + 2 * i)) = cS V) : CC A F' (upK S i V) W N PT PO QT QO aw ∧ Agr A CTs F F' := by
  obtain ⟨h1, h2, h3, h4, h5, h6, h7, h8, h9, h10, h11, h12, h13⟩ := h
  have n : ∀ t, t ≠ 15 → t ≠ 16 → (t < 37 ∨ 45 ≤ t) → t ∉ [15, 16, 38 + 2 * i] := fun t a b c q => by
    simp at q
    omega
  refine ⟨⟨gB_fr k h1 ⟨n _ (by omega) (by omega) (by omega), n _ (by omega) (by omega) (by omega), n _ (by omega) (by omega) (by omega)⟩, isT_fr h2 (k _ (by omega) (n _ (by omega) (by omega) (by omega))) (k _ (by omega) (n _ (by omega) (by omega) (by omega))) (k _ (by omega) (n _ (by omega) (by omega) (by omega))), isT_fr h3 (k _ (by omega) (n _ (by omega) (by omega) (by omega))) (k _ (by omega) (n _ (by omega) (by omega) (by omega))) (k _ (by omega) (n _ (by omega) (by omega) (by omega))), gS_up hA h4 hi k (fun t q => by simp at q; omega) e, gW_fr k h5 (fun t q => by simp at q; omega), gT_fr k h6 (by omega) ⟨n _ (by omega) (by omega) (by omega), n _ (by omega) (by omega) (by omega), n _ (by omega) (by omega) (by omega)⟩, gT_fr k h7 (by omega) ⟨n _ (by omega) (by omega) (by omega), n _ (by omega) (by omega) (by omega), n _ (by omega) (by omega) (by omega)⟩, ⟨U, hU, hU8⟩, gH_fr k h9 ⟨n _ (by omega) (by omega) (by omega), n _ (by omega) (by omega) (by omega), n _ (by omega) (by omega) (by omega)⟩, gO_fr k h10 ⟨n _ (by omega) (by omega) (by omega), n _ (by omega) (by omega) (by omega)⟩, gC_fr k h11 ⟨n _ (by omega) (by omega) (by omega), n _ (by omega) (by omega) (by omega)⟩, gF_fr k h12 ⟨n _ (by omega) (by omega) (by omega), n _ (by omega) (by omega) (by omega), n _ (by omega) (by omega) (by omega), n _ (by omega) (by omega) (by omega), n _ (by omega) (by omega) (by omega), n _ (by omega) (by omega) (by omega)⟩, gP_fr k h13 ⟨n _ (by omega) (by omega) (by omega), n _ (by omega) (by omega) (by omega), n _ (by omega) (by omega) (by omega), n _ (by omega) (by omega) (by omega), n _ (by omega) (by omega) (by omega), n _ (by omega) (by omega) (by omega), n _ (by omega) (by omega) (by omega)⟩⟩, k.mono (CTs_of (fun t q => by simp at q; omega))⟩
theorem upK_same (S : Nat → Nat → Nat) (i : Nat) : upK S i (S i) = S := by
  funext j
  by_cases h : j = i
  · subst h; rw [upK_at]
  · rw [upK_ne h]
/-- only the working shape has changed -/
theorem CC_shape1 (hA : Inj A) {F' : Mem} {U : Nat → Nat} (h : CC A F S W N PT PO QT QO aw) (k : Agr A [15, 16] F F') (hU : isS F' (A 15) (A 16) U) (hU8 : ∀ s, 8 ≤ s → U s = 0) : CC A F' S W N PT PO QT QO aw ∧ Agr A CTs F F' := by
  have e : F' (A 38) = cS (S 0) := (k 38 (by omega) (by simp)).trans (h.2.2.2.1 0 (by omega)).2
  have := CC_shape2 hA (i := 0) (V := S 0) h (by omega) (k.mono (fun t q => by simp at q ⊢; omega)) hU hU8 e
  rwa [upK_same] at this
abbrev shV (w : Int64) : Nat → Nat := mixL 8 (byt w) (fun _ => 0)
theorem shV_in (w : Int64) {s : Nat} (h : s < 8) : shV w s = byt w s := by simp [mixL, h]
theorem shV_out (w : Int64) {s : Nat} (h : 8 ≤ s) : shV w s = 0 := by simp only [mixL]; rw [if_neg (by omega)]
theorem mix8 {U : Nat → Nat} (w : Int64) (hU : ∀ s, 8 ≤ s → U s = 0) : mixL 8 (byt w) U = shV w := by
  funext s
  by_cases h : s < 8
  · rw [shV_in w h]; unfold mixL; rw [if_pos h]
  · rw [shV_out w (by omega)]; unfold mixL; rw [if_neg h, hU s (by omega)]
theorem C_shape (hA : Inj A) (h : CC A F S W N PT PO QT QO aw) (h8 : ∀ i, i < 4 → ∀ k, 8 ≤ k → S i k = 0) {i : Nat} (hi : i < 4) (w : Int64) : ∃ (z : Bool) (F' : Mem), mX9_shape F (A 0) (iN i) w = some (.inr (bI z), F') ∧ (z = true ↔ fal (shV w) 1 ∧ boxes (shV w) 8 ≤ 24) ∧ CC A F' (if z = true then upK S i (shV w) else S) W N PT PO QT QO aw ∧ Agr A CTs F F' := by
  obtain ⟨U, hU, hU8⟩ := h.2.2.2.2.2.2.2.1
  have hB := h.1
  have e1 := X4_unpack hU w
  rw [mix8 w hU8] at e1
  have hV : isS (va_up F (A 16) (cS (shV w))) (A 15) (A 16) (shV w) := isS_up hU
  have k1 : Agr A [15, 16] F (va_up F (A 16) (cS (shV w))) := (Agr.refl A _ F).up hA (by omega) (by simp)
  have hB1 := gB_fr k1 hB (by simp)
  obtain ⟨z, e2, e3⟩ := X4_isAllowed hV (fun s hs => by rw [shV_in w hs]; exact byt_lt w s)
  unfold mX9_shape
  rw [obj_of hB.1, Option.bind_some, C_slot hB hi, thn_r]
  simp only [gfR_at (k := 7) (v := A 15) hB.1 rfl, Option.bind_some, obj_of hU.1, e1, gfR_at (k := 7) (v := A 15) hB1.1 rfl, obj_of hV.1, e2]
  cases z with
  | false =>
    refine ⟨false, va_up F (A 16) (cS (shV w)), rfl, e3, ?_⟩
    have := CC_shape1 hA h k1 hV (fun s hs => shV_out w hs)
    simpa using this
  | true =>
    have ht := (h.2.2.2.1 i hi)
    have ht' := isS_at hA (c := 16) (x := cS (shV w)) ht (by omega) (by omega) (by omega) (by omega) (by omega)
    have k2 : Agr A [15, 16, 38 + 2 * i] F (va_up (va_up F (A 16) (cS (shV w))) (A (38 + 2 * i)) (cS (shV w))) := (k1.mono (fun t q => by simp at q ⊢; omega)).up hA (by omega) (by simp)
    refine ⟨true, va_up (va_up F (A 16) (cS (shV w))) (A (38 + 2 * i)) (cS (shV w)), ?_, e3, ?_⟩
    · rw [bI_t, if_neg (by decide), obj_of ht'.1, Option.bind_some, X4_copyFrom hV ht' (fun s hs => shV_out w hs) (h8 i hi), Option.bind_some]
    · rw [if_pos rfl]
      exact CC_shape2 hA h hi k2 (isS_at hA hV (by omega) (by omega) (by omega) (by omega) (by omega)) (fun s hs => shV_out w hs) (up_eq _ _ _)
theorem isTA_fr {T : List Nat} {F' : Mem} {j : Nat} {TT : Nat → Nat → Nat} {O : Nat → Nat} (k : Agr A T F F') (h : isT F (A j) (A (j + 1)) (A (j + 2)) TT O) (hj : j + 2 < 67) (d : j ∉ T ∧ j + 1 ∉ T ∧ j + 2 ∉ T) : isT F' (A j) (A (j + 1)) (A (j + 2)) TT O := isT_fr h (k _ (by omega) d.1) (k _ (by omega) d.2.1) (k _ (by omega) d.2.2)
theorem C_row (h : CC A F S W N PT PO QT QO aw) (hS : ∀ i, i < 4 → okS (S i)) {i : Nat} (hi : i < 4) (x : Int32) : (∃ r, r < 8 ∧ x = iN r ∧ mX9_row F (A 0) (iN i) x = some (.inr (iN (S i r)), F)) ∨ ((x < 0 ∨ (¬ x < 0 ∧ iN 8 ≤ x)) ∧ mX9_row F (A 0) (iN i) x = some (.inr 0, F)) := by
  have ht := h.2.2.2.1 i hi
  unfold mX9_row
  rw [obj_of h.1.1, Option.bind_some, C_slot h.1 hi, thn_r, obj_of ht.1, Option.bind_some]
  rcases i32_cases x 8 (by omega) with q | ⟨r, q1, q2⟩ | q
  · right
    refine ⟨Or.inl q, ?_⟩
    unfold mX4_rowLength
    rw [if_pos q]
    rfl
  · left
    refine ⟨r, q1, q2, ?_⟩
    rw [q2, X4_rowLength ht (hS i hi).2.1 (by omega)]
    rfl
  · right
    refine ⟨Or.inr q, ?_⟩
    unfold mX4_rowLength
    rw [if_neg q.1, if_neg (fun w => by rw [Int32.lt_iff_toInt_lt] at w; have := Int32.le_iff_toInt_le.mp q.2; have e1 : (8 : Int32).toInt = (iN 8).toInt := rfl; omega)]
    rfl
theorem okS_le {V : Nat → Nat} (h : okS V) : ∀ s, V s ≤ 24 := by
  have h0 : V 0 ≤ 24 := by
    have := h.2.2
    simp only [boxes] at this
    omega
  intro s
  induction s with
  | zero => exact h0
  | succ s ih => have := h.1 s; omega
theorem C_cj28 (hA : Inj A) {i : Nat} (hi : i < 4) {V : Nat → Nat} (hV : ∀ s, V s ≤ 24) {U : Nat → Nat} (hU : ∀ s, 8 ≤ s → U s = 0) : ∀ (m n c : Nat) (F : Mem), c + m = 8 → m < n → gB A F aw → isS F (A 15) (A 16) V → isS F (A (37 + 2 * i)) (A (38 + 2 * i)) (mixL c (fun c => clen V c 8) U) → fX9_conjugate_28 n (A 0) (A (37 + 2 * i)) (iN c) F = some (.inr 1, va_up F (A (38 + 2 * i)) (cS (mixL 8 (fun c => clen V c 8) U))) := by
  intro m
  induction m with
  | zero =>
    intro n c F h1 h2 hB hV1 hT
    obtain ⟨n', rfl⟩ : ∃ n', n = n' + 1 := ⟨n - 1, by omega⟩
    have : c = 8 := by omega
    subst this
    rw [fX9_conjugate_28.eq_2, if_pos (by decide), up_self hT.2]
  | succ m ih =>
    intro n c F h1 h2 hB hV1 hT
    obtain ⟨n', rfl⟩ : ∃ n', n = n' + 1 := ⟨n - 1, by omega⟩
    have k1 : Agr A [38 + 2 * i] F (va_up F (A (38 + 2 * i)) (cS (mixL (c + 1) (fun c => clen V c 8) U))) := (Agr.refl A _ F).up hA (by omega) (by simp)
    have e := ih n' (c + 1) (va_up F (A (38 + 2 * i)) (cS (mixL (c + 1) (fun c => clen V c 8) U))) (by omega) (by omega) (gB_fr k1 hB (by simp; omega)) (isS_at hA hV1 (by omega) (by omega) (by omega) (by omega) (by omega)) (isS_up hT)
    rw [fX9_conjugate_28.eq_2]
    simp (disch := omega) only [il8, iN_le, if_neg, gfR_at (k := 0) (v := A (38 + 2 * i)) hT.1 rfl, gfR_at (k := 7) (v := A 15) hB.1 rfl, obj_of hV1.1, X4_columnLength hV1 hV, Option.bind_some, wrI_at hT.2, iN_one, updO]
    rw [mixL_s c (fun c => clen V c 8) U, e, up_up]
/-- the conjugate shape -/
abbrev cjV (V : Nat → Nat) : Nat → Nat := mixL 8 (fun c => clen V c 8) (fun _ => 0)
theorem cjV_eq {V U : Nat → Nat} (hU : ∀ s, 8 ≤ s → U s = 0) : mixL 8 (fun c => clen V c 8) U = cjV V := by
  funext s
  unfold mixL
  by_cases h : s < 8
  · rw [if_pos h]; show _ = mixL 8 _ _ s; unfold mixL; rw [if_pos h]
  · rw [if_neg h, hU s (by omega)]; show _ = mixL 8 _ _ s; unfold mixL; rw [if_neg h]
theorem C_conjugate (hA : Inj A) (h : CC A F S W N PT PO QT QO aw) (hS : ∀ i, i < 4 → okS (S i)) {i : Nat} (hi : i < 4) : ∃ (z : Bool) (F' : Mem), mX9_conjugate F (A 0) (iN i) = some (.inr (bI z), F') ∧ (z = true ↔ S i 0 ≤ 8) ∧ CC A F' (if z = true then upK S i (cjV (S i)) else S) W N PT PO QT QO aw ∧ Agr A CTs F F' := by
  have := FU_big
  obtain ⟨U, hU, hU8⟩ := h.2.2.2.2.2.2.2.1
  have hB := h.1
  have ht := h.2.2.2.1 i hi
  have hV := okS_le (hS i hi)
  have hV0 := hV 0
  have h8 := (hS i hi).2.1
  unfold mX9_conjugate
  rw [obj_of hB.1, Option.bind_some, C_slot hB hi, thn_r, obj_of ht.1, Option.bind_some, il0, X4_rowLength ht h8 (by omega), Option.bind_some]
  simp (disch := omega) only [il8, iN_le]
  by_cases q : S i 0 ≤ 8
  · have k1 : Agr A [15, 16, 38 + 2 * i] F (va_up F (A 16) (cS (S i))) := (Agr.refl A _ F).up hA (by omega) (by simp)
    have k2 : Agr A [15, 16, 38 + 2 * i] F (va_up (va_up F (A 16) (cS (S i))) (A (38 + 2 * i)) (cS (cjV (S i)))) := k1.up hA (by omega) (by simp)
    have hB1 := gB_fr k1 hB (by simp; omega)
    have hW : isS (va_up F (A 16) (cS (S i))) (A 15) (A 16) (S i) := isS_up hU
    have hT := isS_at hA (c := 16) (x := cS (S i)) ht (by omega) (by omega) (by omega) (by omega) (by omega)
    have e := C_cj28 hA hi hV h8 8 FU 0 _ (by omega) (by omega) hB1 hW (by rw [mixL_z]; exact hT)
    rw [cjV_eq h8] at e
    refine ⟨true, va_up (va_up F (A 16) (cS (S i))) (A (38 + 2 * i)) (cS (cjV (S i))), ?_, by simp [q], ?_⟩
    rotate_left 1
    · rw [if_pos rfl]
      exact CC_shape2 hA h hi k2 (isS_at hA hW (by omega) (by omega) (by omega) (by omega) (by omega)) h8 (up_eq _ _ _)
    · rw [if_pos q, gfR_at (k := 7) (v := A 15) hB.1 rfl, Option.bind_some, obj_of hU.1, Option.bind_some, X4_copyFrom ht hU h8 hU8, Option.bind_some]
      exact e
  · refine ⟨false, F, by rw [if_neg q]; rfl, by simp [q], ?_⟩
    simpa using ⟨h, Agr.refl A CTs F⟩
end OPS1
