section INSR2
variable {A : Nat → Nat} {F : Mem} {S W : Nat → Nat → Nat} {N : Nat → Nat} {PT : Nat → Nat → Nat} {PO : Nat → Nat} {QT : Nat → Nat → Nat} {QO : Nat → Nat} {aw : Bool} {th : Int32}
theorem R_is37 (hA : Inj A) {j : Nat} (hj : j < 2) (hw : okW W N) (T0 Q0 : Nat → Nat → Nat) (x2 : Int32) (K : Nat → Mem → Option (Int32 × Mem)) : ∀ (m n i : Nat) (F : Mem) (M : Nat → Nat → Nat → Nat) (L : Nat → Nat → Nat), i + m = N j → m < n → rObj A F th aw → rWrd A F W N → F (A 53) = cM M → F (A 54) = cL L → M 0 = (isF (!decide (x2 = 0)) (W j) T0 Q0 i).1 → L 0 = (isF (!decide (x2 = 0)) (W j) T0 Q0 i).2.1 → M 2 = (isF (!decide (x2 = 0)) (W j) T0 Q0 i).2.2.1 → L 2 = (isF (!decide (x2 = 0)) (W j) T0 Q0 i).2.1 → ∃ F' M' L', fX10_insert_37 K n (A 49) (iN j) x2 (iN i) F = K (A 49) F' ∧ F' (A 53) = cM M' ∧ F' (A 54) = cL L' ∧ M' 0 = (isF (!decide (x2 = 0)) (W j) T0 Q0 (N j)).1 ∧ L' 0 = (isF (!decide (x2 = 0)) (W j) T0 Q0 (N j)).2.1 ∧ M' 2 = (isF (!decide (x2 = 0)) (W j) T0 Q0 (N j)).2.2.1 ∧ L' 2 = (isF (!decide (x2 = 0)) (W j) T0 Q0 (N j)).2.1 ∧ Agr A [53, 54] F F' := by
  obtain ⟨w1, w2⟩ := hw j hj
  intro m
  induction m with
  | zero =>
    intro n i F M L h1 h2 ho hwd h53 h54 a1 a2 a3 a4
    obtain ⟨n, rfl⟩ : ∃ m, n = m + 1 := ⟨n - 1, by omega⟩
    have : i = N j := by omega
    subst this
    obtain ⟨_, g, g1, g2⟩ := hwd
    refine ⟨F, M, L, ?_, h53, h54, a1, a2, a3, a4, Agr.refl A _ F⟩
    rw [fX10_insert_37.eq_2, R_g3 ho, Option.bind_some, rdI_at g1 hj (by omega), Option.bind_some, g2 j hj, if_pos ((iN_le (by omega) (by omega)).mpr (Nat.le_refl _))]
  | succ m ih =>
    intro n i F M L h1 h2 ho hwd h53 h54 a1 a2 a3 a4
    obtain ⟨n, rfl⟩ : ∃ m, n = m + 1 := ⟨n - 1, by omega⟩
    obtain ⟨c1, c2, c3, c4⟩ := isF_ok (!decide (x2 = 0)) (W := W j) (n := N j) (lo := 1) (hi := 16) T0 Q0 w1 w2 i (by omega)
    obtain ⟨b1, b2, b3, b4⟩ := inS_ok (lo := 1) (hi := 16) (!decide (x2 = 0)) (x := W j i) c1 c2 c3 (by omega) (w2 i (by omega)).1 (w2 i (by omega)).2 c4
    have wi := w2 i (by omega)
    have o24 : ∀ s, (isF (!decide (x2 = 0)) (W j) T0 Q0 i).2.1 s < 24 := fun s => by
      have := boxes_row (O := (isF (!decide (x2 = 0)) (W j) T0 Q0 i).2.1) 16 (by omega)
      have := par_le c1.1 (Nat.zero_le s)
      omega
    obtain ⟨cd, od, o'⟩ := id ho
    have hR : isR F (A 49) (rfs A th (bI aw) cd od) (A 53) (A 54) M L := ⟨o', rfl, rfl, h53, h54⟩
    have e := R_inS (!decide (x2 = 0)) (x := W j i) (i := i) hR (by rw [a1, a2]; exact c1) (by rw [a2]; exact c2) (by omega) (by omega) (fun s d hd => by rw [a2] at hd; rw [a1]; have := c4 s d hd; omega)
    rw [a1, a2] at e
    have ef : isF (!decide (x2 = 0)) (W j) T0 Q0 (i + 1) = ((inS (!decide (x2 = 0)) (isF (!decide (x2 = 0)) (W j) T0 Q0 i).1 (isF (!decide (x2 = 0)) (W j) T0 Q0 i).2.1 (W j i)).1, (inS (!decide (x2 = 0)) (isF (!decide (x2 = 0)) (W j) T0 Q0 i).1 (isF (!decide (x2 = 0)) (W j) T0 Q0 i).2.1 (W j i)).2.1, upT (isF (!decide (x2 = 0)) (W j) T0 Q0 i).2.2.1 (inS (!decide (x2 = 0)) (isF (!decide (x2 = 0)) (W j) T0 Q0 i).1 (isF (!decide (x2 = 0)) (W j) T0 Q0 i).2.1 (W j i)).2.2 ((isF (!decide (x2 = 0)) (W j) T0 Q0 i).2.1 (inS (!decide (x2 = 0)) (isF (!decide (x2 = 0)) (W j) T0 Q0 i).1 (isF (!decide (x2 = 0)) (W j) T0 Q0 i).2.1 (W j i)).2.2) (i + 1), (inS (!decide (x2 = 0)) (isF (!decide (x2 = 0)) (W j) T0 Q0 i).1 (isF (!decide (x2 = 0)) (W j) T0 Q0 i).2.1 (W j i)).2.2) := rfl
    have IH := fun F M L => ih n (i + 1) F M L (by omega) (by omega)
    rw [ef] at IH
    simp only at IH
    generalize inS (!decide (x2 = 0)) (isF (!decide (x2 = 0)) (W j) T0 Q0 i).1 (isF (!decide (x2 = 0)) (W j) T0 Q0 i).2.1 (W j i) = st at *
    obtain ⟨sT, sO, sq⟩ := st
    simp only at e b1 b2 b3 b4 IH
    have hR1 := isR_putL (L' := upK L 0 sO) (isR_putM (M' := upK M 0 sT) hR)
    have k1 : Agr A [53, 54] F (va_up (va_up F (A 53) (cM (upK M 0 sT))) (A 54) (cL (upK L 0 sO))) := ((Agr.refl A _ F).up hA (by omega) (by simp)).up hA (by omega) (by simp)
    generalize hF1 : va_up (va_up F (A 53) (cM (upK M 0 sT))) (A 54) (cL (upK L 0 sO)) = F1 at *
    have z2 : upK L 0 sO 2 = (isF (!decide (x2 = 0)) (W j) T0 Q0 i).2.1 := a4
    have m2 : upK M 0 sT 2 = (isF (!decide (x2 = 0)) (W j) T0 Q0 i).2.2.1 := a3
    have e81 := R_in81 (F := F1) (x1 := iN j) (x2 := x2) (i := i) (q := sq) (K37 := fX10_insert_37 K n) (K127 := K) hR1 (by omega) (by rw [z2]; exact o24 sq)
    rw [z2, m2] at e81
    have k2 : Agr A [53, 54] F (va_up (va_up F1 (A 53) (cM (upK (upK M 0 sT) 2 (upT (isF (!decide (x2 = 0)) (W j) T0 Q0 i).2.2.1 sq ((isF (!decide (x2 = 0)) (W j) T0 Q0 i).2.1 sq) (i + 1))))) (A 54) (cL (upK (upK L 0 sO) 2 (upL (isF (!decide (x2 = 0)) (W j) T0 Q0 i).2.1 sq ((isF (!decide (x2 = 0)) (W j) T0 Q0 i).2.1 sq + 1))))) := (k1.up hA (by omega) (by simp)).up hA (by omega) (by simp)
    obtain ⟨F', M', L', d1, d2, d3, d4, d5, d6, d7, d8⟩ := IH _ _ _ (rObj_fr k2 ho (by simp)) (rWrd_fr k2 hwd (by simp)) ((up_ne (hA.ne (by omega) (by omega) (by omega))).trans (up_eq _ _ _)) (up_eq _ _ _) rfl rfl rfl (by show upL _ _ _ = sO; exact b2.symm)
    refine ⟨F', M', L', ?_, d2, d3, d4, d5, d6, d7, k2.trans d8⟩
    obtain ⟨fs0, hob⟩ := rObj_ob ho
    obtain ⟨⟨f, f1, f2⟩, g, g1, g2⟩ := hwd
    rw [← d1, ← e81, fX10_insert_37.eq_2, R_g3 ho, Option.bind_some, rdI_at g1 hj (by omega), Option.bind_some, g2 j hj, if_neg (fun w => by have := (iN_le (by omega) (by omega)).mp w; omega), R_g2 ho, Option.bind_some, il16, iN_mul, iN_add, rdI_at f1 (by omega) (by omega), Option.bind_some, f2 j i hj (by omega)]
    by_cases q : x2 = 0
    · rw [decide_eq_true q, if_neg (by decide)] at e
      rw [if_pos q, hob, Option.bind_some, show (0 : Int32) = iN 0 from rfl, e, Option.bind_some]
    · rw [decide_eq_false q, if_pos (by decide)] at e
      rw [if_neg q, hob, Option.bind_some, show (0 : Int32) = iN 0 from rfl, e, Option.bind_some]
end INSR2
