section INSC
variable {A : Nat → Nat} {F : Mem} {S W : Nat → Nat → Nat} {N : Nat → Nat} {PT : Nat → Nat → Nat} {PO : Nat → Nat} {QT : Nat → Nat → Nat} {QO : Nat → Nat} {aw : Bool} {th : Int32}
/-- the class puts a letter into P -/
theorem C_inS (co : Bool) {a la ta : Nat} {T : Nat → Nat → Nat} {O : Nat → Nat} {x i : Nat} (h : isT F a la ta T O) (hT : okT T O) (hb : boxes O 16 = i) (hN : ∀ s, 16 ≤ s → O s = 0) (hi : i < 16) (hx : x < 100) (hl : ∀ s d, d < O s → T s d < 100) : (if co = true then mX7_addByColumns F a (iN x) else mX7_addByRows F a (iN x)) = some (iN (inS co T O x).2.2, va_up (va_up F ta (cT (inS co T O x).1)) la (cO (inS co T O x).2.1)) := by
  have h15 : O 15 = 0 := by
    by_cases q : O 15 = 0
    · exact q
    · have := boxes_low hT.1 (show 0 < O 15 by omega) 16 (by omega)
      omega
  have h0 := boxes_row (O := O) 16 (by omega)
  unfold inS
  cases co with
  | true =>
    rw [if_pos rfl, if_pos rfl]
    exact X7_addByColumns h hT.1 h15 (by omega) hl hx
  | false =>
    rw [if_neg (by decide), if_neg (by decide)]
    exact X7_addByRows h (fun s => by have := par_le hT.1 (Nat.zero_le s); omega) hN hl hx
theorem C_is23 (hA : Inj A) {j : Nat} (hj : j < 2) (hw : okW W N) (T0 Q0 : Nat → Nat → Nat) (x2 : Int32) (K : Nat → Mem → Option ((String ⊕ Int32) × Mem)) : ∀ (m n i : Nat) (F : Mem), i + m = N j → m < n → gB A F aw → gW A F W N → isT F (A 3) (A 4) (A 5) (isF (!decide (x2 = 0)) (W j) T0 Q0 i).1 (isF (!decide (x2 = 0)) (W j) T0 Q0 i).2.1 → isT F (A 6) (A 7) (A 8) (isF (!decide (x2 = 0)) (W j) T0 Q0 i).2.2.1 (isF (!decide (x2 = 0)) (W j) T0 Q0 i).2.1 → ∃ F', fX9_insert_23 K n (A 0) x2 (A (45 + 2 * j)) (iN i) F = K (A 0) F' ∧ gB A F' aw ∧ isT F' (A 3) (A 4) (A 5) (isF (!decide (x2 = 0)) (W j) T0 Q0 (N j)).1 (isF (!decide (x2 = 0)) (W j) T0 Q0 (N j)).2.1 ∧ isT F' (A 6) (A 7) (A 8) (isF (!decide (x2 = 0)) (W j) T0 Q0 (N j)).2.2.1 (isF (!decide (x2 = 0)) (W j) T0 Q0 (N j)).2.1 ∧ Agr A [4, 5, 7, 8] F F' := by
  obtain ⟨w1, w2⟩ := hw j hj
  intro m
  induction m with
  | zero =>
    intro n i F h1 h2 hB hW hP hQ
    obtain ⟨n, rfl⟩ : ∃ m, n = m + 1 := ⟨n - 1, by omega⟩
    have : i = N j := by omega
    subst this
    refine ⟨F, ?_, hB, hP, hQ, Agr.refl A _ F⟩
    rw [fX9_insert_23.eq_2, gfI_at (k := 1) (v := iN (N j)) (hW j hj).1 rfl, Option.bind_some, if_pos ((iN_le (by omega) (by omega)).mpr (Nat.le_refl _))]
  | succ m ih =>
    intro n i F h1 h2 hB hW hP hQ
    obtain ⟨n, rfl⟩ : ∃ m, n = m + 1 := ⟨n - 1, by omega⟩
    obtain ⟨c1, c2, c3, c4⟩ := isF_ok (!decide (x2 = 0)) (W := W j) (n := N j) (lo := 1) (hi := 16) T0 Q0 w1 w2 i (by omega)
    obtain ⟨b1, b2, b3, b4⟩ := inS_ok (lo := 1) (hi := 16) (!decide (x2 = 0)) (x := W j i) c1 c2 c3 (by omega) (w2 i (by omega)).1 (w2 i (by omega)).2 c4
    have wi := w2 i (by omega)
    have e := C_inS (!decide (x2 = 0)) (x := W j i) hP c1 c2 c3 (by omega) (by omega) (fun s d hd => by have := c4 s d hd; omega)
    have o24 : ∀ s, (isF (!decide (x2 = 0)) (W j) T0 Q0 i).2.1 s < 24 := fun s => by
      have := boxes_row (O := (isF (!decide (x2 = 0)) (W j) T0 Q0 i).2.1) 16 (by omega)
      have := par_le c1.1 (Nat.zero_le s)
      omega
    have ef : isF (!decide (x2 = 0)) (W j) T0 Q0 (i + 1) = ((inS (!decide (x2 = 0)) (isF (!decide (x2 = 0)) (W j) T0 Q0 i).1 (isF (!decide (x2 = 0)) (W j) T0 Q0 i).2.1 (W j i)).1, (inS (!decide (x2 = 0)) (isF (!decide (x2 = 0)) (W j) T0 Q0 i).1 (isF (!decide (x2 = 0)) (W j) T0 Q0 i).2.1 (W j i)).2.1, upT (isF (!decide (x2 = 0)) (W j) T0 Q0 i).2.2.1 (inS (!decide (x2 = 0)) (isF (!decide (x2 = 0)) (W j) T0 Q0 i).1 (isF (!decide (x2 = 0)) (W j) T0 Q0 i).2.1 (W j i)).2.2 ((isF (!decide (x2 = 0)) (W j) T0 Q0 i).2.1 (inS (!decide (x2 = 0)) (isF (!decide (x2 = 0)) (W j) T0 Q0 i).1 (isF (!decide (x2 = 0)) (W j) T0 Q0 i).2.1 (W j i)).2.2) (i + 1), (inS (!decide (x2 = 0)) (isF (!decide (x2 = 0)) (W j) T0 Q0 i).1 (isF (!decide (x2 = 0)) (W j) T0 Q0 i).2.1 (W j i)).2.2) := rfl
    have IH := fun F => ih n (i + 1) F (by omega) (by omega)
    rw [ef] at IH
    simp only at IH
    generalize inS (!decide (x2 = 0)) (isF (!decide (x2 = 0)) (W j) T0 Q0 i).1 (isF (!decide (x2 = 0)) (W j) T0 Q0 i).2.1 (W j i) = st at *
    obtain ⟨sT, sO, sq⟩ := st
    simp only at *
    have k1 : Agr A [4, 5, 7, 8] F (va_up (va_up F (A 5) (cT sT)) (A 4) (cO sO)) := ((Agr.refl A _ F).up hA (by omega) (by simp)).up hA (by omega) (by simp)
    have hB1 := gB_fr k1 hB (by simp)
    have hP1 := isT_putO (O' := sO) (isT_putT (T' := sT) hP)
    have hQ1 := isT_at hA (j := 6) (c := 4) (x := cO sO) (isT_at hA (j := 6) (c := 5) (x := cT sT) hQ (by omega) (by omega) (by omega)) (by omega) (by omega) (by omega)
    generalize hF1 : va_up (va_up F (A 5) (cT sT)) (A 4) (cO sO) = F1 at *
    have ap := X7_append hQ1 (r := sq) (by omega) (o24 sq) (i + 1)
    have k2 : Agr A [4, 5, 7, 8] F (va_up (va_up F1 (A 8) (cT (upT (isF (!decide (x2 = 0)) (W j) T0 Q0 i).2.2.1 sq ((isF (!decide (x2 = 0)) (W j) T0 Q0 i).2.1 sq) (i + 1)))) (A 7) (cO (upL (isF (!decide (x2 = 0)) (W j) T0 Q0 i).2.1 sq ((isF (!decide (x2 = 0)) (W j) T0 Q0 i).2.1 sq + 1)))) := (k1.up hA (by omega) (by simp)).up hA (by omega) (by simp)
    have hQ2 := isT_putO (O' := upL (isF (!decide (x2 = 0)) (W j) T0 Q0 i).2.1 sq ((isF (!decide (x2 = 0)) (W j) T0 Q0 i).2.1 sq + 1)) (isT_putT (T' := upT (isF (!decide (x2 = 0)) (W j) T0 Q0 i).2.2.1 sq ((isF (!decide (x2 = 0)) (W j) T0 Q0 i).2.1 sq) (i + 1)) hQ1)
    have hP2 := isT_at hA (j := 3) (c := 7) (x := cO (upL (isF (!decide (x2 = 0)) (W j) T0 Q0 i).2.1 sq ((isF (!decide (x2 = 0)) (W j) T0 Q0 i).2.1 sq + 1))) (isT_at hA (j := 3) (c := 8) (x := cT (upT (isF (!decide (x2 = 0)) (W j) T0 Q0 i).2.2.1 sq ((isF (!decide (x2 = 0)) (W j) T0 Q0 i).2.1 sq) (i + 1))) hP1 (by omega) (by omega) (by omega)) (by omega) (by omega) (by omega)
    rw [← b2] at hQ2 hP2 k2 ap
    obtain ⟨F', e1, e2, e3, e4, e5⟩ := IH _ (gB_fr k2 hB (by simp)) (gW_fr k2 hW (fun t q => by simp at q; omega)) hP2 hQ2
    refine ⟨F', ?_, e2, e3, e4, k2.trans e5⟩
    rw [← e1, fX9_insert_23.eq_2, gfI_at (k := 1) (v := iN (N j)) (hW j hj).1 rfl, Option.bind_some, if_neg (fun w => by have := (iN_le (by omega) (by omega)).mp w; omega), obj_of (hW j hj).1, Option.bind_some, X8_letterAt (hW j hj) w1 (by omega), Option.bind_some]
    simp only
    have rest : fX9_insert_65 (fX9_insert_23 K n) K (A 0) x2 (A (45 + 2 * j)) (iN i) (iN sq) F1 = fX9_insert_23 K n (A 0) x2 (A (45 + 2 * j)) (iN (i + 1)) (va_up (va_up F1 (A 8) (cT (upT (isF (!decide (x2 = 0)) (W j) T0 Q0 i).2.2.1 sq ((isF (!decide (x2 = 0)) (W j) T0 Q0 i).2.1 sq) (i + 1)))) (A 7) (cO sO)) := by
      unfold fX9_insert_65
      rw [gfR_at (k := 3) (v := A 6) hB1.1 rfl, Option.bind_some, obj_of hQ1.1, Option.bind_some, iN_one, ap, Option.bind_some]
    by_cases q : x2 = 0
    · rw [decide_eq_true q] at e
      rw [if_pos q, gfR_at (k := 2) (v := A 3) hB.1 rfl, Option.bind_some, obj_of hP.1, Option.bind_some, show mX7_addByRows F (A 3) (iN (W j i)) = _ from e, Option.bind_some]
      exact rest
    · rw [decide_eq_false q] at e
      rw [if_neg q, gfR_at (k := 2) (v := A 3) hB.1 rfl, Option.bind_some, obj_of hP.1, Option.bind_some, show mX7_addByColumns F (A 3) (iN (W j i)) = _ from e, Option.bind_some]
      exact rest
end INSC
