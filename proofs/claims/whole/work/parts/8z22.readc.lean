section READC
variable {A : Nat → Nat} {F : Mem} {S W : Nat → Nat → Nat} {N : Nat → Nat} {PT : Nat → Nat → Nat} {PO : Nat → Nat} {QT : Nat → Nat → Nat} {QO : Nat → Nat} {aw : Bool} {th : Int32}
theorem C_rd55 (hA : Inj A) {j r : Nat} (hj : j < 2) (hr : r < 16) (hP : okO PO) (K : Nat → Nat → Int32 → Mem → Option ((String ⊕ Unit) × Mem)) : ∀ (m n c i : Nat) (F : Mem) (V : Nat → Nat), c + m = PO r → i + m ≤ 16 → m < n → gB A F aw → isT F (A 3) (A 4) (A 5) PT PO → isW F (A (45 + 2 * j)) (A (46 + 2 * j)) V i → ∃ F', fX9_read_55 K n (A 0) (A (45 + 2 * j)) (iN r) (iN c) F = K (A 0) (A (45 + 2 * j)) (iN r) F' ∧ isW F' (A (45 + 2 * j)) (A (46 + 2 * j)) (putL V i (seg (PT r) c m)) (i + m) ∧ Agr A [45 + 2 * j, 46 + 2 * j] F F' := by
  have h24 := hP.1 r
  intro m
  induction m with
  | zero =>
    intro n c i F V h1 h2 h3 hB hT hW
    obtain ⟨n, rfl⟩ : ∃ m, n = m + 1 := ⟨n - 1, by omega⟩
    refine ⟨F, ?_, hW, Agr.refl A _ F⟩
    rw [fX9_read_55.eq_2, gfR_at (k := 2) (v := A 3) hB.1 rfl, Option.bind_some, gfR_at (k := 0) (v := A 4) hT.1 rfl, Option.bind_some, rdI_at hT.2.1 hr (by omega), Option.bind_some, if_pos ((iN_le (by omega) (by omega)).mpr (by omega))]
  | succ m ih =>
    intro n c i F V h1 h2 h3 hB hT hW
    obtain ⟨n, rfl⟩ : ∃ m, n = m + 1 := ⟨n - 1, by omega⟩
    have ad := X8_add (x := PT r c) hW (by omega)
    have k1 : Agr A [45 + 2 * j, 46 + 2 * j] F (va_up (va_up F (A (46 + 2 * j)) (cO (upL V i (PT r c)))) (A (45 + 2 * j)) (.inr (7, [.ref (A (46 + 2 * j)), .int (iN (i + 1))]))) := ((Agr.refl A _ F).up hA (by omega) (by simp)).up hA (by omega) (by simp)
    have hW1 := isW_letter (x := PT r c) hW
    obtain ⟨F', e1, e2, e3⟩ := ih n (c + 1) (i + 1) _ _ (by omega) (by omega) (by omega) (gB_fr k1 hB (by simp; omega)) (isTA_fr (j := 3) k1 hT (by omega) (by simp; omega)) hW1
    refine ⟨F', ?_, by rw [show i + (m + 1) = i + 1 + m by omega]; exact e2, k1.trans e3⟩
    rw [fX9_read_55.eq_2, gfR_at (k := 2) (v := A 3) hB.1 rfl, Option.bind_some, gfR_at (k := 0) (v := A 4) hT.1 rfl, Option.bind_some, rdI_at hT.2.1 hr (by omega), Option.bind_some, if_neg (fun w => by have := (iN_le (by omega) (by omega)).mp w; omega), Option.bind_some, obj_of hT.1, Option.bind_some, X7_letterAt hT hP.1 hP.2 (by omega) (by omega), Option.bind_some, if_pos (by omega)]
    simp only
    rw [obj_of hW.1, Option.bind_some, ad, Option.bind_some, iN_one]
    exact e1
theorem C_rd48 (hA : Inj A) {j : Nat} (hj : j < 2) (hP : okO PO) : ∀ (m n i : Nat) (F : Mem) (V : Nat → Nat), m ≤ 16 → i + (rdF (tabS PT I0 PO) 0 m).length ≤ 16 → m < n → gB A F aw → isT F (A 3) (A 4) (A 5) PT PO → isW F (A (45 + 2 * j)) (A (46 + 2 * j)) V i → ∃ F', fX9_read_48 n (A 0) (A (45 + 2 * j)) (iN m + (-1)) F = some (.inr (), F') ∧ isW F' (A (45 + 2 * j)) (A (46 + 2 * j)) (putL V i (rdF (tabS PT I0 PO) 0 m)) (i + (rdF (tabS PT I0 PO) 0 m).length) ∧ Agr A [45 + 2 * j, 46 + 2 * j] F F' := by
  intro m
  induction m with
  | zero =>
    intro n i F V h1 h2 h3 hB hT hW
    obtain ⟨n, rfl⟩ : ∃ m, n = m + 1 := ⟨n - 1, by omega⟩
    refine ⟨F, ?_, hW, Agr.refl A _ F⟩
    rw [fX9_read_48.eq_2, if_pos (by decide)]
  | succ m ih =>
    intro n i F V h1 h2 h3 hB hT hW
    obtain ⟨n, rfl⟩ : ∃ m, n = m + 1 := ⟨n - 1, by omega⟩
    have FB := FU_big
    have h24 := hP.1 m
    have er : rdF (tabS PT I0 PO) 0 (m + 1) = tabS PT I0 PO m ++ rdF (tabS PT I0 PO) 0 m := by
      rw [rdF_last, Nat.zero_add]
    rw [er, List.length_append, tabS_len] at h2
    obtain ⟨F1, a1, a2, a3⟩ := C_rd55 hA (r := m) hj (by omega) hP (fun (x0 : Nat) (x2 : Nat) (x3 : Int32) (F : Mem) => (fX9_read_48 n) x0 x2 (x3 + (-1)) F) (PO m) FU 0 i F V (by omega) (by omega) (by omega) hB hT hW
    obtain ⟨F', e1, e2, e3⟩ := ih n (i + PO m) F1 _ (by omega) (by omega) (by omega) (gB_fr a3 hB (by simp; omega)) (isTA_fr (j := 3) a3 hT (by omega) (by simp; omega)) a2
    refine ⟨F', ?_, ?_, a3.trans e3⟩
    · rw [iN_pred, fX9_read_48.eq_2, if_neg (iN_neg (by omega)), il0]
      exact Eq.trans a1 e1
    · rw [er, List.length_append, tabS_len, putL_app, tabS_len, ← Nat.add_assoc]
      exact e2
end READC
