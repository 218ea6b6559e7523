section OPS2
variable {A : Nat → Nat} {F : Mem} {S W : Nat → Nat → Nat} {N : Nat → Nat} {PT : Nat → Nat → Nat} {PO : Nat → Nat} {QT : Nat → Nat → Nat} {QO : Nat → Nat} {aw : Bool} {th : Int32}
theorem iN_le' {v : Int32} {a b : Nat} (h : iN a ≤ v) (hab : b < a) (ha : a < 2 ^ 31) : iN b < v := by
  rw [Int32.lt_iff_toInt_lt, iN_int (by omega)]
  rw [Int32.le_iff_toInt_le, iN_int ha] at h
  omega
theorem iN_nlt {v : Int32} {a : Nat} (h : iN a ≤ v) : ¬ v < iN a := by
  rw [Int32.lt_iff_toInt_lt]
  rw [Int32.le_iff_toInt_le] at h
  omega
theorem iN_nle {v : Int32} {a : Nat} (h : iN a < v) : ¬ v ≤ iN a := by
  rw [Int32.le_iff_toInt_le]
  rw [Int32.lt_iff_toInt_lt] at h
  omega
theorem neg_lt {v : Int32} {a : Nat} (h : v < 0) (ha : a < 2 ^ 31) : v < iN a := by
  rw [Int32.lt_iff_toInt_lt, iN_int ha]
  rw [Int32.lt_iff_toInt_lt] at h
  have : (0 : Int32).toInt = 0 := rfl
  omega
theorem let_cases (v : Int32) : (v < iN 1 ∨ (¬ v < iN 1 ∧ iN 16 < v)) ∨ ∃ x, 1 ≤ x ∧ x ≤ 16 ∧ v = iN x := by
  rcases i32_cases v 17 (by omega) with q | ⟨k, q1, q2⟩ | ⟨q1, q2⟩
  · exact Or.inl (Or.inl (neg_lt q (by omega)))
  · by_cases k0 : k = 0
    · subst k0; subst q2; exact Or.inl (Or.inl (by decide))
    · exact Or.inr ⟨k, by omega, by omega, q2⟩
  · left
    right
    exact ⟨iN_nlt (a := 1) (Int32.le_of_lt (iN_le' q2 (by omega) (by omega))), iN_le' q2 (by omega) (by omega)⟩
theorem gW_up (hA : Inj A) {F' : Mem} {i n : Nat} {V : Nat → Nat} {T : List Nat} (h : gW A F W N) (hi : i < 2) (k : Agr A T F F') (d : ∀ t, t ∈ T → t < 45 ∨ 49 ≤ t ∨ t = 45 + 2 * i ∨ t = 46 + 2 * i) (e : isW F' (A (45 + 2 * i)) (A (46 + 2 * i)) V n) : gW A F' (upK W i V) (upL N i n) := by
  intro j hj
  by_cases q : j = i
  · subst q
    rw [upK_at, upL_at]
    exact e
  · rw [upK_ne q, upL_ne q]
    exact isW_fr (h j hj) (k _ (by omega) (fun w => by have := d _ w; omega)) (k _ (by omega) (fun w => by have := d _ w; omega))
theorem CC_word (hA : Inj A) {F' : Mem} {i n : Nat} {V : Nat → Nat} (h : CC A F S W N PT PO QT QO aw) (hi : i < 2) (k : Agr A [45 + 2 * i, 46 + 2 * i] F F') (e : isW F' (A (45 + 2 * i)) (A (46 + 2 * i)) V n) : CC A F' S (upK W i V) (upL N i n) PT PO QT QO aw ∧ Agr A CTs F F' := by
  obtain ⟨h1, h2, h3, h4, h5, h6, h7, h8, h9, h10, h11, h12, h13⟩ := h
  refine ⟨⟨gB_fr k h1 (by simp; omega), isTA_fr (j := 3) k h2 (by omega) (by simp; omega), isTA_fr (j := 6) k h3 (by omega) (by simp; omega), gS_fr k h4 (fun t q => by simp at q; omega), gW_up hA h5 hi k (fun t q => by simp at q; omega) e, gT_fr k h6 (by omega) (by simp; omega), gT_fr k h7 (by omega) (by simp; omega), gU_fr k h8 (by omega) (by simp; omega), gH_fr k h9 (by simp; omega), gO_fr k h10 (by simp; omega), gC_fr k h11 (by simp; omega), gF_fr k h12 (by simp; omega), gP_fr k h13 (by simp; omega)⟩, k.mono (CTs_of (fun t q => by simp at q; omega))⟩
theorem isW_letter {a wa n x : Nat} {V : Nat → Nat} (h : isW F a wa V n) : isW (va_up (va_up F wa (cO (upL V n x))) a (.inr (7, [.ref wa, .int (iN (n + 1))]))) a wa (upL V n x) (n + 1) := by
  have ne : wa ≠ a := fun q => by have := h.1; rw [← q, h.2] at this; cases this
  exact ⟨up_eq _ _ _, by rw [up_ne ne, up_eq]⟩
theorem X8_add {a wa n x : Nat} {V : Nat → Nat} (h : isW F a wa V n) (hn : n < 16) : mX8_add F a (iN x) = some (va_up (va_up F wa (cO (upL V n x))) a (.inr (7, [.ref wa, .int (iN (n + 1))]))) := by
  have ne : a ≠ wa := fun q => by have := h.1; rw [q, h.2] at this; cases this
  have h1 : va_up F wa (cO (upL V n x)) a = .inr (7, [.ref wa, .int (iN n)]) := by rw [up_ne ne]; exact h.1
  unfold mX8_add
  simp (disch := omega) only [gfI_at (k := 1) (v := iN n) h.1 rfl, Option.bind_some, il16, iN_le, if_neg, gfR_at (k := 0) (v := wa) h.1 rfl, wrI_at h.2, updO, gfI_at (k := 1) (v := iN n) h1 rfl, iN_one]
  rw [pf_at h1 (by simp)]
  rfl
theorem C_letter (hA : Inj A) (h : CC A F S W N PT PO QT QO aw) (hN : ∀ i, i < 2 → N i ≤ 16) {i : Nat} (hi : i < 2) (v : Int32) : ((v < iN 1 ∨ (¬ v < iN 1 ∧ iN 16 < v) ∨ N i = 16) ∧ mX9_letter F (A 0) (iN i) v = some (.inr 0, F)) ∨ (∃ x F', 1 ≤ x ∧ x ≤ 16 ∧ v = iN x ∧ N i < 16 ∧ mX9_letter F (A 0) (iN i) v = some (.inr 1, F') ∧ CC A F' S (upK W i (upL (W i) (N i) x)) (upL N i (N i + 1)) PT PO QT QO aw ∧ Agr A CTs F F') := by
  have hw := h.2.2.2.2.1 i hi
  have hn := hN i hi
  unfold mX9_letter
  rw [obj_of h.1.1, Option.bind_some, C_word h.1 hi, thn_r, il1]
  rcases let_cases v with q | ⟨x, q1, q2, q3⟩
  · left
    refine ⟨by rcases q with q | q; exact Or.inl q; exact Or.inr (Or.inl q), ?_⟩
    rcases q with q | ⟨q, q'⟩
    · rw [if_pos q]
    · rw [if_neg q, il16, if_pos q']
  · subst q3
    simp (disch := omega) only [iN_lt, if_neg, il16, gfI_at (k := 1) (v := iN (N i)) hw.1 rfl, Option.bind_some]
    by_cases k : N i < 16
    · right
      have k2 : Agr A [45 + 2 * i, 46 + 2 * i] F (va_up (va_up F (A (46 + 2 * i)) (cO (upL (W i) (N i) x))) (A (45 + 2 * i)) (.inr (7, [.ref (A (46 + 2 * i)), .int (iN (N i + 1))]))) := ((Agr.refl A _ F).up hA (by omega) (by simp)).up hA (by omega) (by simp)
      refine ⟨x, _, q1, q2, rfl, k, ?_, CC_word hA h hi k2 (isW_letter hw)⟩
      rw [if_pos k, obj_of hw.1, Option.bind_some, X8_add hw k, Option.bind_some]
    · left
      refine ⟨Or.inr (Or.inr (by omega)), ?_⟩
      rw [if_neg k]
theorem isW_cut {a wa n m : Nat} {V : Nat → Nat} (h : isW F a wa V n) : isW (va_up F a (.inr (7, [.ref wa, .int (iN m)]))) a wa V m := by
  have ne : wa ≠ a := fun q => by have := h.1; rw [← q, h.2] at this; cases this
  exact ⟨up_eq _ _ _, by rw [up_ne ne]; exact h.2⟩
theorem C_cut (hA : Inj A) (h : CC A F S W N PT PO QT QO aw) (hN : ∀ i, i < 2 → N i ≤ 16) {i : Nat} (hi : i < 2) (v : Int32) : ((v < 0 ∨ (¬ v < 0 ∧ ¬ v ≤ iN (N i))) ∧ mX9_cut F (A 0) (iN i) v = some (.inr 0, F)) ∨ (∃ m F', m ≤ N i ∧ v = iN m ∧ mX9_cut F (A 0) (iN i) v = some (.inr 1, F') ∧ CC A F' S W (upL N i m) PT PO QT QO aw ∧ Agr A CTs F F') := by
  have hw := h.2.2.2.2.1 i hi
  have hn := hN i hi
  unfold mX9_cut
  rw [obj_of h.1.1, Option.bind_some, C_word h.1 hi, thn_r]
  rcases i32_cases v (N i + 1) (by omega) with q | ⟨m, q1, q2⟩ | ⟨q1, q2⟩
  · left
    exact ⟨Or.inl q, by rw [if_pos q]⟩
  · right
    subst q2
    have k2 : Agr A [45 + 2 * i, 46 + 2 * i] F (va_up F (A (45 + 2 * i)) (.inr (7, [.ref (A (46 + 2 * i)), .int (iN m)]))) := (Agr.refl A _ F).up hA (by omega) (by simp)
    have := CC_word hA h hi k2 (isW_cut hw)
    rw [upK_same] at this
    refine ⟨m, _, by omega, rfl, ?_, this⟩
    rw [if_neg (iN_neg (by omega))]
    simp (disch := omega) only [gfI_at (k := 1) (v := iN (N i)) hw.1 rfl, Option.bind_some, iN_le, if_pos]
    rw [pf_at hw.1 (by simp)]
    rfl
  · left
    have q3 : ¬ v ≤ iN (N i) := iN_nle (iN_le' q2 (by omega) (by omega))
    refine ⟨Or.inr ⟨q1, q3⟩, ?_⟩
    rw [if_neg q1]
    simp (disch := omega) only [gfI_at (k := 1) (v := iN (N i)) hw.1 rfl, Option.bind_some]
    rw [if_neg q3]
theorem C_length (h : CC A F S W N PT PO QT QO aw) {i : Nat} (hi : i < 2) : mX9_length F (A 0) (iN i) = some (.inr (iN (N i)), F) := by
  have hw := h.2.2.2.2.1 i hi
  unfold mX9_length
  rw [obj_of h.1.1, Option.bind_some, C_word h.1 hi, thn_r]
  simp only [gfI_at (k := 1) (v := iN (N i)) hw.1 rfl, Option.bind_some]
theorem C_at (h : CC A F S W N PT PO QT QO aw) (hN : ∀ i, i < 2 → N i ≤ 16) {i : Nat} (hi : i < 2) (v : Int32) : ((v < 0 ∨ (¬ v < 0 ∧ ¬ v < iN (N i))) ∧ mX9_at F (A 0) (iN i) v = some (.inr 0, F)) ∨ (∃ m, m < N i ∧ v = iN m ∧ mX9_at F (A 0) (iN i) v = some (.inr (iN (W i m)), F)) := by
  have hw := h.2.2.2.2.1 i hi
  have hn := hN i hi
  unfold mX9_at
  rw [obj_of h.1.1, Option.bind_some, C_word h.1 hi, thn_r, obj_of hw.1, Option.bind_some]
  rcases i32_cases v (N i) (by omega) with q | ⟨m, q1, q2⟩ | ⟨q1, q2⟩
  · left
    refine ⟨Or.inl q, ?_⟩
    unfold mX8_letterAt
    rw [if_pos q]
    rfl
  · right
    refine ⟨m, q1, q2, ?_⟩
    rw [q2, X8_letterAt hw hn q1]
    rfl
  · left
    refine ⟨Or.inr ⟨q1, iN_nlt q2⟩, ?_⟩
    unfold mX8_letterAt
    rw [if_neg q1]
    simp only [gfI_at (k := 1) (v := iN (N i)) hw.1 rfl, Option.bind_some]
    rw [if_neg (iN_nlt q2)]
    rfl
end OPS2
