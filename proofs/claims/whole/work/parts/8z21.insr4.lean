section INSR4
variable {A : Nat → Nat} {F : Mem} {S W : Nat → Nat → Nat} {N : Nat → Nat} {PT : Nat → Nat → Nat} {PO : Nat → Nat} {QT : Nat → Nat → Nat} {QO : Nat → Nat} {aw : Bool} {th : Int32}
theorem R_insert (hA : Inj A) (h : RR A F S W N PT PO QT QO aw th) (hw : okW W N) {j : Nat} (hj : j < 2) (x2 : Int32) : ∃ F', mX10_insert F (A 49) (iN j) x2 = some (iN (rowsN (isF (!decide (x2 = 0)) (W j) PT QT (N j)).2.1 16), F') ∧ RR A F' S W N (isF (!decide (x2 = 0)) (W j) PT QT (N j)).1 (isF (!decide (x2 = 0)) (W j) PT QT (N j)).2.1 (isF (!decide (x2 = 0)) (W j) PT QT (N j)).2.2.1 (isF (!decide (x2 = 0)) (W j) PT QT (N j)).2.1 false 0 ∧ Agr A RTs F F' := by
  have FB := FU_big
  obtain ⟨w1, w2⟩ := hw j hj
  obtain ⟨F1, e, h', k⟩ := RR_th hA h 0
  obtain ⟨M, L, m1, m2, m3, m4, m5, m6⟩ := h'.2.2.2.1
  obtain ⟨cd, od, o1⟩ := id h'.1
  have hR1 : isR F1 (A 49) (rfs A 0 (bI aw) cd od) (A 53) (A 54) M L := ⟨o1, rfl, rfl, m1, m2⟩
  have t1 := X10_clear hR1 (k := 0) (by omega)
  have hR2 := isR_putL (L' := upK L 0 I0) hR1
  have k2 : Agr A [49, 53, 54] F1 (va_up F1 (A 54) (cL (upK L 0 I0))) := (Agr.refl A _ F1).up hA (by omega) (by simp)
  have t2 := X10_clear hR2 (k := 2) (by omega)
  rw [up_up] at t2
  have hR3 := isR_putL (L' := upK (upK L 0 I0) 2 I0) hR1
  have k3 : Agr A [49, 53, 54] F1 (va_up F1 (A 54) (cL (upK (upK L 0 I0) 2 I0))) := (Agr.refl A _ F1).up hA (by omega) (by simp)
  have o2 : rObj A (va_up F1 (A 54) (cL (upK L 0 I0))) 0 aw := ⟨_, _, hR2.1⟩
  have o3 : rObj A (va_up F1 (A 54) (cL (upK (upK L 0 I0) 2 I0))) 0 aw := ⟨_, _, hR3.1⟩
  generalize hF2 : va_up F1 (A 54) (cL (upK L 0 I0)) = F2 at *
  generalize hF3 : va_up F1 (A 54) (cL (upK (upK L 0 I0) 2 I0)) = F3 at *
  obtain ⟨F4, M', L', d1, d2, d3, d4, d5, d6, d7, d8⟩ := R_is37 hA hj hw (M 0) (M 2) x2 (fun (x0 : Nat) (F : Mem) => (pf F x0 9 6 (.int 0)).bind fun F129 => (obj F129 x0 9).bind fun _ => (mX10_height F129 x0 0).bind fun v134 => some (v134.1, v134.2)) (N j) FU 0 F3 M (upK (upK L 0 I0) 2 I0) (by omega) (by omega) o3 (rWrd_fr k3 h'.2.2.1 (by simp)) hR3.2.2.2.1 hR3.2.2.2.2 rfl rfl rfl rfl
  have k4 : Agr A [49, 53, 54] F1 F4 := k3.trans (d8.mono (fun t q => by simp at q ⊢; omega))
  obtain ⟨c5, p5, o5⟩ := rObj_aw hA (rObj_fr d8 o3 (by simp)) false
  have k5 : Agr A [49, 53, 54] F1 (va_up F4 (A 49) c5) := k4.up hA (by omega) (by simp)
  have g53 : (va_up F4 (A 49) c5) (A 53) = cM M' := (up_ne (hA.ne (by omega) (by omega) (by omega))).trans d2
  have g54 : (va_up F4 (A 49) c5) (A 54) = cL L' := (up_ne (hA.ne (by omega) (by omega) (by omega))).trans d3
  generalize hF5 : va_up F4 (A 49) c5 = F5 at *
  obtain ⟨s1, s2, s3, s4⟩ := isF_two (!decide (x2 = 0)) (W := W j) (n := N j) PT QT (M 0) (M 2) w1 (fun k hk => by have := w2 k hk; omega) (N j) (Nat.le_refl _)
  obtain ⟨c1, c2, c3, c4⟩ := isF_ok (!decide (x2 = 0)) (W := W j) (n := N j) (lo := 1) (hi := 16) (M 0) (M 2) w1 w2 (N j) (Nat.le_refl _)
  have eO : (isF (!decide (x2 = 0)) (W j) PT QT (N j)).2.1 = (isF (!decide (x2 = 0)) (W j) (M 0) (M 2) (N j)).2.1 := funext s1
  obtain ⟨cd5, od5, o5'⟩ := id o5
  have ht := X10_ht2 (F := F5) (b := A 49) (bx := A 53) (ln := A 54) (M := M') (L := L') ⟨o5', rfl, rfl, g53, g54⟩ (k := 0) (by omega) (by rw [d5]; exact c1.1) (fun s => by
    rw [d5]
    have := boxes_row (O := (isF (!decide (x2 = 0)) (W j) (M 0) (M 2) (N j)).2.1) 16 (by omega)
    have := par_le c1.1 (Nat.zero_le s)
    omega) (by rw [d5]; exact c3 16 (by omega)) 16 FU 0 (by omega) (by omega) (fun s hs => by omega)
  rw [d5, ← eO] at ht
  refine ⟨F5, ?_, ⟨o5, rShp_fr k5 h'.2.1 (by simp), rWrd_fr k5 h'.2.2.1 (by simp), ⟨M', L', g53, g54, fun r => by rw [d5, eO], fun r c q => by rw [d4]; exact (s2 r c q).symm, fun r => by rw [d7, eO], fun r c q => by rw [d6]; exact (s3 r c q).symm⟩, rWk_fr k5 h'.2.2.2.2 (fun t q => by simp at q; omega)⟩, (k.mono (RTs_of (fun t q => by simp at q; omega))).trans (k5.mono (RTs_of (fun t q => by simp at q; omega)))⟩
  obtain ⟨fs1, hob1⟩ := rObj_ob h'.1
  obtain ⟨fs2, hob2⟩ := rObj_ob o2
  obtain ⟨fs5, hob5⟩ := rObj_ob o5
  unfold mX10_insert
  rw [R_word hj, Option.bind_some, if_neg ne10]
  unfold fX10_insert_13
  rw [e, Option.bind_some, rObj_th h'.1, Option.bind_some, if_pos (by decide), hob1, Option.bind_some, show mX10_clear F1 (A 49) 0 = _ from t1, Option.bind_some, hob2, Option.bind_some, show mX10_clear F2 (A 49) 2 = _ from t2, Option.bind_some]
  refine Eq.trans d1 ?_
  unfold mX10_height
  rw [show pf F4 (A 49) 9 6 (.int 0) = _ from p5, Option.bind_some, hob5, Option.bind_some, show fX10_height_2 FU (A 49) 0 0 F5 = _ from ht, Option.bind_some]
theorem R_insert_no (hA : Inj A) (h : RR A F S W N PT PO QT QO aw th) {y : Int32} (hy : y < 0 ∨ (¬ y < 0 ∧ iN 2 ≤ y)) (x2 : Int32) : ∃ F', RR A F' S W N PT PO QT QO aw 1 ∧ Agr A RTs F F' ∧ mX10_insert F (A 49) y x2 = some (0, F') := by
  obtain ⟨F', e, h', k⟩ := RR_th hA h 1
  refine ⟨F', h', k.mono (RTs_of (fun t q => by simp at q; omega)), ?_⟩
  unfold mX10_insert
  rw [R_noword hy, Option.bind_some, if_pos rfl]
  unfold fX10_insert_13
  rw [e, Option.bind_some, rObj_th h'.1, Option.bind_some, if_neg (by decide)]
end INSR4
