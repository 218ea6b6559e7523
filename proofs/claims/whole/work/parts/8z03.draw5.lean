section DRAW5
variable {A : Nat → Nat} {F : Mem} {S W : Nat → Nat → Nat} {N : Nat → Nat} {PT : Nat → Nat → Nat} {PO : Nat → Nat} {QT : Nat → Nat → Nat} {QO : Nat → Nat} {aw : Bool} {th : Int32}
theorem mix8_0 {V : Nat → Nat} (h : ∀ s, 8 ≤ s → V s = 0) : mixL 8 V I0 = V := by
  funext s
  unfold mixL
  by_cases q : s < 8
  · rw [if_pos q]
  · rw [if_neg q, h s (by omega)]
/-- Q is away from now on, or is not -/
theorem rObj_aw (hA : Inj A) (h : rObj A F th aw) (z : Bool) : ∃ c, pf F (A 49) 9 6 (.int (bI z)) = some (va_up F (A 49) c) ∧ rObj A (va_up F (A 49) c) th z := by
  obtain ⟨cd, od, h1⟩ := h
  exact ⟨.inr (9, rfs A th (bI z) cd od), pf_at h1 (by simp [rfs]), cd, od, up_eq _ _ _⟩
theorem R_draw (hA : Inj A) (h : RR A F S W N PT PO QT QO aw th) (hS : ∀ i, i < 4 → okS (S i)) {i : Nat} (hi : i < 4) (sd : Int64) : ∃ F', mX10_draw F (A 49) (iN i) sd = some ((drw (boxes (S i) 8) (S i) sd PT).1, F') ∧ RR A F' S W N (drw (boxes (S i) 8) (S i) sd PT).2 (S i) QT QO true 0 ∧ Agr A RTs F F' := by
  have FB := FU_big
  obtain ⟨F1, e, h', k⟩ := RR_th hA h 0
  have bi := (hS i hi).2.2
  have s8 := (hS i hi).2.1
  obtain ⟨w1, w2, ⟨g, w3⟩, w4, w5, w6, w7, w8, w9, w10, w11⟩ := id h'.2.2.2.2
  obtain ⟨M, L, m1, m2, m3, m4, m5, m6⟩ := h'.2.2.2.1
  obtain ⟨F2, a1, a2, a3⟩ := R_ts2 hA hi (s8 8 (by omega)) 9 FU 0 F1 g (by omega) (by omega) h'.1 h'.2.1 w3 (fun j hj => by omega)
  have o2 := rObj_fr a3 h'.1 (by simp)
  obtain ⟨fs1, hob1⟩ := rObj_ob h'.1
  obtain ⟨fs2, hob2⟩ := rObj_ob o2
  obtain ⟨cd, od, o2'⟩ := id o2
  have cl := X10_clear (F := F2) (b := A 49) (bx := A 53) (ln := A 54) (M := M) (L := L) ⟨o2', rfl, rfl, (a3 53 (by omega) (by simp)).trans m1, (a3 54 (by omega) (by simp)).trans m2⟩ (k := 0) (by omega)
  have k3 : ∀ x, Agr A [54] F2 (va_up F2 (A 54) x) := fun x => (Agr.refl A _ F2).up hA (by omega) (by simp)
  obtain ⟨gg, gg1, gg2⟩ := a2
  have v3 : ∀ x, rL57 A (va_up F2 (A 54) x) (S i) := fun x => ⟨gg, (up_ne (hA.ne (by omega) (by omega) (by omega))).trans gg1, gg2⟩
  have c38 := R_dr38 hA (V := S i) (L := L) (x1 := iN i) (x2 := sd) (fun (x0 : Nat) (x1 : Int32) (x2 : Int64) (F : Mem) => (obj F x0 9).bind fun _ => (mX10_boxesOf F x0 x1).bind fun v70 => fX10_draw_75 (fun (x0 : Nat) (x4 : Int64) (F : Mem) => (pf F x0 9 6 (.int 1)).bind fun F309 => some (x4, F309)) FU x0 x2 v70.1 v70.2) 8 FU 0 (va_up F2 (A 54) (cL (upK L 0 I0))) (by omega) (by omega) (rObj_fr (k3 _) o2 (by simp)) (v3 _) (by rw [mixL_z]; exact up_eq _ _ _)
  rw [up_up, mix8_0 s8] at c38
  have k4 : Agr A [53, 54, 57] F1 (va_up F2 (A 54) (cL (upK L 0 (S i)))) := (a3.mono (fun t q => by simp at q ⊢; omega)).trans ((k3 _).mono (fun t q => by simp at q ⊢; omega))
  have o4 := rObj_fr k4 h'.1 (by simp)
  have s4 := rShp_fr k4 h'.2.1 (by simp)
  have M4 : (va_up F2 (A 54) (cL (upK L 0 (S i)))) (A 53) = cM M := (up_ne (hA.ne (by omega) (by omega) (by omega))).trans ((a3 53 (by omega) (by simp)).trans m1)
  have L4 : (va_up F2 (A 54) (cL (upK L 0 (S i)))) (A 54) = cL (upK L 0 (S i)) := up_eq _ _ _
  have v4 := v3 (cL (upK L 0 (S i)))
  generalize hF4 : va_up F2 (A 54) (cL (upK L 0 (S i))) = F4 at *
  obtain ⟨fs4, hob4⟩ := rObj_ob o4
  obtain ⟨F5, M', V', b1, b2, b3, b4, b5, b6⟩ := R_dr75 hA (fun (x0 : Nat) (x4 : Int64) (F : Mem) => (pf F x0 9 6 (.int 1)).bind fun F309 => some (x4, F309)) (boxes (S i) 8) FU (S i) sd M F4 (by omega) (hS i hi) rfl o4 v4 M4
  have o5 := rObj_fr b6 o4 (by simp)
  have k5 : Agr A [49, 53, 54, 57] F1 F5 := (k4.mono (fun t q => by simp at q ⊢; omega)).trans (b6.mono (fun t q => by simp at q ⊢; omega))
  obtain ⟨c6, p6, o6⟩ := rObj_aw hA o5 true
  have k6 : Agr A [49, 53, 54, 57] F1 (va_up F5 (A 49) c6) := k5.up hA (by omega) (by simp)
  have M6 : (va_up F5 (A 49) c6) (A 53) = cM M' := (up_ne (hA.ne (by omega) (by omega) (by omega))).trans b2
  have L6 : (va_up F5 (A 49) c6) (A 54) = cL (upK L 0 (S i)) := (up_ne (hA.ne (by omega) (by omega) (by omega))).trans ((b6 54 (by omega) (by simp)).trans L4)
  obtain ⟨g5, g51, _⟩ := b5
  have g6 : (va_up F5 (A 49) c6) (A 57) = .inl (0, 9, .inl g5) := (up_ne (hA.ne (by omega) (by omega) (by omega))).trans g51
  have dk := drw_ok (boxes (S i) 8) (S i) sd (M 0) (hS i hi) rfl
  refine ⟨va_up F5 (A 49) c6, ?_, ⟨o6, rShp_fr k6 h'.2.1 (by simp), rWrd_fr k6 h'.2.2.1 (by simp), ⟨M', upK L 0 (S i), M6, L6, fun r => rfl, fun r c q => by rw [b3]; exact dk.2.1 PT r c q, fun r => m5 r, fun r c q => by rw [b4]; exact m6 r c q⟩, ar0_fr k6 w1 (by omega) (by simp), (k6 _ (by omega) (by simp)).trans w2, ⟨g5, g6⟩, ar0_fr k6 w4 (by omega) (by simp), ar0_fr k6 w5 (by omega) (by simp), ar0_fr k6 w6 (by omega) (by simp), ar1_fr k6 w7 (by omega) (by simp), ar1_fr k6 w8 (by omega) (by simp), ar1_fr k6 w9 (by omega) (by simp), ar1_fr k6 w10 (by omega) (by simp), ar0_fr k6 w11 (by omega) (by simp)⟩, (k.mono (RTs_of (fun t q => by simp at q; omega))).trans (k6.mono (RTs_of (fun t q => by simp at q; omega)))⟩
  unfold mX10_draw
  rw [R_slot hi, Option.bind_some, if_neg ne10]
  unfold fX10_draw_13
  rw [e, Option.bind_some, rObj_th h'.1, Option.bind_some, if_pos (by decide), hob1, Option.bind_some]
  unfold mX10_takeShape
  rw [il0, a1, Option.bind_some, hob2, Option.bind_some, cl, Option.bind_some]
  refine Eq.trans c38 ?_
  rw [hob4, Option.bind_some, R_boxesOf o4 s4 hi, Option.bind_some]
  refine Eq.trans b1 ?_
  rw [show (1 : Int32) = bI true from rfl, p6, Option.bind_some, dk.2.2.2.2.2 PT]
theorem R_draw_no (hA : Inj A) (h : RR A F S W N PT PO QT QO aw th) {y : Int32} (hy : y < 0 ∨ (¬ y < 0 ∧ iN 4 ≤ y)) (sd : Int64) : ∃ F', RR A F' S W N PT PO QT QO aw 1 ∧ Agr A RTs F F' ∧ mX10_draw F (A 49) y sd = some (0, F') := by
  obtain ⟨F', e, h', k⟩ := RR_th hA h 1
  refine ⟨F', h', k.mono (RTs_of (fun t q => by simp at q; omega)), ?_⟩
  unfold mX10_draw
  rw [R_noslot hy, Option.bind_some, if_pos rfl]
  unfold fX10_draw_13
  rw [e, Option.bind_some, rObj_th h'.1, Option.bind_some, if_neg (by decide)]
end DRAW5
