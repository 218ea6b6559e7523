section INSC2
variable {A : Nat → Nat} {F : Mem} {S W : Nat → Nat → Nat} {N : Nat → Nat} {PT : Nat → Nat → Nat} {PO : Nat → Nat} {QT : Nat → Nat → Nat} {QO : Nat → Nat} {aw : Bool} {th : Int32}
abbrev cBn (A : Nat → Nat) (aw : Bool) : Cl := .inr (8, [.ref (A 1), .ref (A 2), .ref (A 3), .ref (A 6), .int (bI aw), .ref (A 9), .ref (A 12), .ref (A 15), .ref (A 17), .ref (A 20), .ref (A 22), .ref (A 24), .ref (A 30)])
theorem gB_aw (hA : Inj A) (h : gB A F aw) (z : Bool) : pf F (A 0) 8 4 (.int (bI z)) = some (va_up F (A 0) (cBn A z)) ∧ gB A (va_up F (A 0) (cBn A z)) z := ⟨pf_at h.1 (by simp), up_eq _ _ _, (up_ne (hA.ne (by omega) (by omega) (by omega))).trans h.2.1, (up_ne (hA.ne (by omega) (by omega) (by omega))).trans h.2.2⟩
theorem C_insert (hA : Inj A) (h : CC A F S W N PT PO QT QO aw) (hw : okW W N) (hP : okO PO) (hQ : okO QO) {j : Nat} (hj : j < 2) (x2 : Int32) : ∃ F', mX9_insert F (A 0) (iN j) x2 = some (.inr (iN (rowsN (isF (!decide (x2 = 0)) (W j) PT QT (N j)).2.1 16)), F') ∧ CC A F' S W N (isF (!decide (x2 = 0)) (W j) PT QT (N j)).1 (isF (!decide (x2 = 0)) (W j) PT QT (N j)).2.1 (isF (!decide (x2 = 0)) (W j) PT QT (N j)).2.2.1 (isF (!decide (x2 = 0)) (W j) PT QT (N j)).2.1 false ∧ Agr A CTs F F' := by
  obtain ⟨h1, h2, h3, h4, h5, h6, h7, h8, h9, h10, h11, h12, h13⟩ := h
  obtain ⟨w1, w2⟩ := hw j hj
  have FB := FU_big
  have k1 : Agr A [0, 4, 5, 7, 8] F (va_up F (A 4) (cO I0)) := (Agr.refl A _ F).up hA (by omega) (by simp)
  have t1 := X7_clear h2 hP.2
  have hB1 : gB A (va_up F (A 4) (cO I0)) aw := gB_fr (T := [4]) ((Agr.refl A _ F).up hA (by omega) (by simp)) h1 (by simp)
  have hP1 := isT_putO (O' := I0) h2
  have hQ1 := isT_at hA (j := 6) (c := 4) (x := cO I0) h3 (by omega) (by omega) (by omega)
  generalize hF1 : va_up F (A 4) (cO I0) = F1 at *
  have t2 := X7_clear hQ1 hQ.2
  have k2 : Agr A [0, 4, 5, 7, 8] F (va_up F1 (A 7) (cO I0)) := k1.up hA (by omega) (by simp)
  have hB2 : gB A (va_up F1 (A 7) (cO I0)) aw := gB_fr (T := [7]) ((Agr.refl A _ F1).up hA (by omega) (by simp)) hB1 (by simp)
  have hQ2 := isT_putO (O' := I0) hQ1
  have hP2 := isT_at hA (j := 3) (c := 7) (x := cO I0) hP1 (by omega) (by omega) (by omega)
  have hW2 : gW A (va_up F1 (A 7) (cO I0)) W N := gW_fr k2 h5 (fun t q => by simp at q; omega)
  generalize hF2 : va_up F1 (A 7) (cO I0) = F2 at *
  obtain ⟨F3, e1, e2, e3, e4, e5⟩ := C_is23 hA hj hw PT QT x2 (fun (x0 : Nat) (F : Mem) => (pf F x0 8 4 (.int 0)).bind fun F88 => (gfR F88 x0 8 2).bind fun v92 => (obj F88 v92 6).bind fun _ => (mX7_countRows F88 v92).bind fun v95 => some (Sum.inr v95.1, v95.2)) (N j) FU 0 F2 (by omega) (by omega) hB2 hW2 hP2 hQ2
  have k3 : Agr A [0, 4, 5, 7, 8] F F3 := k2.trans (e5.mono (fun t q => by simp at q ⊢; omega))
  obtain ⟨p4, hB4⟩ := gB_aw hA e2 false
  have k4 : Agr A [0, 4, 5, 7, 8] F (va_up F3 (A 0) (cBn A false)) := k3.up hA (by omega) (by simp)
  have hP4 := isT_at hA (j := 3) (c := 0) (x := cBn A false) e3 (by omega) (by omega) (by omega)
  have hQ4 := isT_at hA (j := 6) (c := 0) (x := cBn A false) e4 (by omega) (by omega) (by omega)
  generalize hF4 : va_up F3 (A 0) (cBn A false) = F4 at *
  obtain ⟨c1, c2, c3, c4⟩ := isF_ok (!decide (x2 = 0)) (W := W j) (n := N j) (lo := 1) (hi := 16) PT QT w1 w2 (N j) (Nat.le_refl _)
  have cr := X7_countRows hP4 (fun s => by
    have := boxes_row (O := (isF (!decide (x2 = 0)) (W j) PT QT (N j)).2.1) 16 (by omega)
    have := par_le c1.1 (Nat.zero_le s)
    omega)
  refine ⟨F4, ?_, ⟨hB4, hP4, hQ4, gS_fr k4 h4 (fun t q => by simp at q; omega), gW_fr k4 h5 (fun t q => by simp at q; omega), gT_fr k4 h6 (by omega) (by simp), gT_fr k4 h7 (by omega) (by simp), gU_fr k4 h8 (by omega) (by simp), gH_fr k4 h9 (by simp), gO_fr k4 h10 (by simp), gC_fr k4 h11 (by simp), gF_fr k4 h12 (by simp), gP_fr k4 h13 (by simp)⟩, k4.mono (CTs_of (fun t q => by simp at q; omega))⟩
  unfold mX9_insert
  rw [obj_of h1.1, Option.bind_some, C_word h1 hj, thn_r, gfR_at (k := 2) (v := A 3) h1.1 rfl, Option.bind_some, obj_of h2.1, Option.bind_some, t1, Option.bind_some, gfR_at (k := 3) (v := A 6) hB1.1 rfl, Option.bind_some, obj_of hQ1.1, Option.bind_some, t2, Option.bind_some]
  refine Eq.trans e1 ?_
  rw [show pf F3 (A 0) 8 4 (.int 0) = _ from p4, Option.bind_some, gfR_at (k := 2) (v := A 3) hB4.1 rfl, Option.bind_some, obj_of hP4.1, Option.bind_some, cr, Option.bind_some]
theorem C_insert_no (h : CC A F S W N PT PO QT QO aw) {x : Int32} (hx : x < 0 ∨ (¬ x < 0 ∧ iN 2 ≤ x)) (x2 : Int32) : mX9_insert F (A 0) x x2 = some (.inl IOOB, F) := by
  unfold mX9_insert
  rw [obj_of h.1.1, Option.bind_some, C_noword hx, thn_l]
end INSC2
