section DRAW3
variable {A : Nat → Nat} {F : Mem} {S W : Nat → Nat → Nat} {N : Nat → Nat} {PT : Nat → Nat → Nat} {PO : Nat → Nat} {QT : Nat → Nat → Nat} {QO : Nat → Nat} {aw : Bool} {th : Int32}
theorem X1_drop {s : Int64} {r c : Nat} {V : Nat → Nat} (hr : r < 8) (h1 : V r = c + 1) (h : F (A 17) = hwC A s (iN r) (iN c)) (hS : isS F (A 18) (A 19) V) : mX1_dropCorner F (A 17) = some (va_up F (A 19) (cS (upL V r c))) := by
  unfold mX1_dropCorner
  rw [gfR_at (k := 0) (v := A 18) h rfl, Option.bind_some, gfR_at (k := 0) (v := A 19) hS.1 rfl, Option.bind_some, gfI_at (k := 2) (v := iN r) h rfl, Option.bind_some, rdI_at hS.2 hr (by omega), Option.bind_some, h1, il1, iN_sub (by omega), wrI_at hS.2 hr (by omega), Option.bind_some, updO]
  rfl
theorem X7_takeShape {a la ta b lb : Nat} {T : Nat → Nat → Nat} {O V : Nat → Nat} (h : isT F a la ta T O) (hN : ∀ s, 16 ≤ s → O s = 0) (hb : isS F b lb V) (hV : ∀ s, 8 ≤ s → V s = 0) (n1 : b ≠ la) (n2 : lb ≠ la) : mX7_takeShape F a b = some (va_up F la (cO V)) := by
  have h1 := isT_putO (O' := I0) h
  have hb1 : isS (va_up F la (cO I0)) b lb V := isS_fr hb (up_ne n1) (up_ne n2)
  have e := cpI_at (sp := 0) (dp := 0) (n := 8) hb1.2 h1.2.1 (by omega) (by omega) (by omega) (by omega)
  rw [cpyS hV (fun _ _ => rfl)] at e
  unfold mX7_takeShape
  rw [obj_of h.1, Option.bind_some, X7_clear h hN, Option.bind_some, gfR_at (k := 0) (v := lb) hb1.1 rfl, Option.bind_some, gfR_at (k := 0) (v := la) h1.1 rfl, Option.bind_some, il0, il8, e, Option.bind_some, up_up]
theorem C_dr33 (hA : Inj A) {O : Nat → Nat} (K : Nat → Mem → Option ((String ⊕ Int64) × Mem)) : ∀ (k n : Nat) (V : Nat → Nat) (s : Int64) (a b : Int32) (T : Nat → Nat → Nat) (F : Mem), k < n → okS V → boxes V 8 = k → gB A F aw → isT F (A 3) (A 4) (A 5) T O → F (A 17) = hwC A s a b → isS F (A 18) (A 19) V → ∃ F' a' b' V', fX9_draw_33 K n (A 0) (iN k) F = K (A 0) F' ∧ gB A F' aw ∧ isT F' (A 3) (A 4) (A 5) (drw k V s T).2 O ∧ F' (A 17) = hwC A (drw k V s T).1 a' b' ∧ isS F' (A 18) (A 19) V' ∧ (∀ s, 8 ≤ s → V' s = 0) ∧ Agr A [5, 17, 19] F F' := by
  intro k
  induction k with
  | zero =>
    intro n V s a b T F h1 hV hb hB hT hH hS
    obtain ⟨n, rfl⟩ : ∃ m, n = m + 1 := ⟨n - 1, by omega⟩
    refine ⟨F, a, b, V, ?_, hB, hT, hH, hS, hV.2.1, Agr.refl A _ F⟩
    rw [fX9_draw_33.eq_2, if_pos (show iN 0 < 1 by decide)]
  | succ k ih =>
    intro n V s a b T F h1 hV hb hB hT hH hS
    obtain ⟨n, rfl⟩ : ∃ m, n = m + 1 := ⟨n - 1, by omega⟩
    have b24 := hV.2.2
    have db := drB_ok hV hb s
    have dd := okS_drop hV db.1 db.2.1 db.2.2
    have v24 := okS_le hV (drB k V s).2.1
    have k1 : Agr A [5, 17, 19] F (va_up F (A 17) (hwC A (drB k V s).1 (iN (drB k V s).2.1) (iN (drB k V s).2.2))) := (Agr.refl A _ F).up hA (by omega) (by simp)
    have hB1 := gB_fr k1 hB (by simp)
    have hT1 := isT_fr (F' := va_up F (A 17) (hwC A (drB k V s).1 (iN (drB k V s).2.1) (iN (drB k V s).2.2))) hT (up_ne (hA.ne (by omega) (by omega) (by omega))) (up_ne (hA.ne (by omega) (by omega) (by omega))) (up_ne (hA.ne (by omega) (by omega) (by omega)))
    have hS1 : isS (va_up F (A 17) (hwC A (drB k V s).1 (iN (drB k V s).2.1) (iN (drB k V s).2.2))) (A 18) (A 19) V := isS_at hA hS (by omega) (by omega) (by omega) (by omega) (by omega)
    have hH1 : (va_up F (A 17) (hwC A (drB k V s).1 (iN (drB k V s).2.1) (iN (drB k V s).2.2))) (A 17) = hwC A (drB k V s).1 (iN (drB k V s).2.1) (iN (drB k V s).2.2) := up_eq _ _ _
    have c1 := X1_goToCorner hA hV hb hH hS
    have c2 := X7_put hT1 (r := (drB k V s).2.1) (c := (drB k V s).2.2) (by omega) (by omega) (k + 1)
    have d3 : drw (k + 1) V s T = drw k (upL V (drB k V s).2.1 (drB k V s).2.2) (drB k V s).1 (upT T (drB k V s).2.1 (drB k V s).2.2 (k + 1)) := rfl
    rw [d3]
    generalize hp : drB k V s = p at *
    obtain ⟨s', r', c'⟩ := p
    simp only at *
    generalize hF1 : va_up F (A 17) (hwC A s' (iN r') (iN c')) = F1 at *
    have k2 : Agr A [5, 17, 19] F (va_up F1 (A 5) (cT (upT T r' c' (k + 1)))) := k1.up hA (by omega) (by simp)
    have hB2 := gB_fr k2 hB (by simp)
    have hT2 := isT_putT (T' := upT T r' c' (k + 1)) hT1
    have hS2 : isS (va_up F1 (A 5) (cT (upT T r' c' (k + 1)))) (A 18) (A 19) V := isS_at hA hS1 (by omega) (by omega) (by omega) (by omega) (by omega)
    have hH2 : (va_up F1 (A 5) (cT (upT T r' c' (k + 1)))) (A 17) = hwC A s' (iN r') (iN c') := (up_ne (hA.ne (by omega) (by omega) (by omega))).trans hH1
    have c3 := X1_drop db.1 db.2.1 hH2 hS2
    generalize hF2 : va_up F1 (A 5) (cT (upT T r' c' (k + 1))) = F2 at *
    have k3 : Agr A [5, 17, 19] F (va_up F2 (A 19) (cS (upL V r' c'))) := k2.up hA (by omega) (by simp)
    have hB3 := gB_fr k3 hB (by simp)
    have hT3 := isT_fr (F' := va_up F2 (A 19) (cS (upL V r' c'))) hT2 (up_ne (hA.ne (by omega) (by omega) (by omega))) (up_ne (hA.ne (by omega) (by omega) (by omega))) (up_ne (hA.ne (by omega) (by omega) (by omega)))
    have hS3 := isS_up (V := upL V r' c') hS2
    have hH3 : (va_up F2 (A 19) (cS (upL V r' c'))) (A 17) = hwC A s' (iN r') (iN c') := (up_ne (hA.ne (by omega) (by omega) (by omega))).trans hH2
    generalize hF3 : va_up F2 (A 19) (cS (upL V r' c')) = F3 at *
    obtain ⟨F', a', b', V', e1, e2, e3, e4, e5, e6, e7⟩ := ih n _ s' (iN r') (iN c') _ F3 (by omega) dd.1 (by omega) hB3 hT3 hH3 hS3
    refine ⟨F', a', b', V', ?_, e2, e3, e4, e5, e6, k3.trans e7⟩
    rw [fX9_draw_33.eq_2, if_neg (show ¬ iN (k + 1) < 1 from fun w => by have := (iN_lt (b := 1) (by omega) (by omega)).mp w; omega)]
    rw [gfR_at (k := 8) (v := A 17) hB.1 rfl, Option.bind_some, obj_of hH, Option.bind_some, c1, Option.bind_some, gfR_at (k := 2) (v := A 3) hB1.1 rfl, Option.bind_some, gfR_at (k := 8) (v := A 17) hB1.1 rfl, Option.bind_some, gfI_at (k := 2) (v := iN r') hH1 rfl, Option.bind_some, Option.bind_some, gfI_at (k := 3) (v := iN c') hH1 rfl, Option.bind_some, obj_of hT1.1, Option.bind_some, c2, Option.bind_some, gfR_at (k := 8) (v := A 17) hB2.1 rfl, Option.bind_some, obj_of hH2, Option.bind_some, c3, Option.bind_some, iN_pred]
    exact e1
theorem C_draw (hA : Inj A) (h : CC A F S W N PT PO QT QO aw) (hS : ∀ i, i < 4 → okS (S i)) (hP : ∀ s, 16 ≤ s → PO s = 0) {i : Nat} (hi : i < 4) (sd : Int64) : ∃ F', mX9_draw F (A 0) (iN i) sd = some (.inr (drw (boxes (S i) 8) (S i) sd PT).1, F') ∧ CC A F' S W N (drw (boxes (S i) 8) (S i) sd PT).2 (S i) QT QO true ∧ Agr A CTs F F' := by
  obtain ⟨h1, h2, h3, h4, h5, h6, h7, h8, ⟨⟨s0, r0, c0, hH⟩, U, hU, hU8⟩, h10, h11, h12, h13⟩ := h
  have ti := h4 i hi
  have b24 := (hS i hi).2.2
  have t1 := X7_takeShape h2 hP ti (hS i hi).2.1 (hA.ne (by omega) (by omega) (by omega)) (hA.ne (by omega) (by omega) (by omega))
  have k1 : Agr A [0, 4, 5, 17, 19] F (va_up F (A 4) (cO (S i))) := (Agr.refl A _ F).up hA (by omega) (by simp)
  have hT1 := isT_putO (O' := S i) h2
  have hB1 : gB A (va_up F (A 4) (cO (S i))) aw := gB_fr (T := [4]) ((Agr.refl A _ F).up hA (by omega) (by simp)) h1 (by simp)
  have ti1 : isS (va_up F (A 4) (cO (S i))) (A (37 + 2 * i)) (A (38 + 2 * i)) (S i) := isS_at hA ti (by omega) (by omega) (by omega) (by omega) (by omega)
  have hU1 : isS (va_up F (A 4) (cO (S i))) (A 18) (A 19) U := isS_at hA hU (by omega) (by omega) (by omega) (by omega) (by omega)
  have hH1 : (va_up F (A 4) (cO (S i))) (A 17) = hwC A s0 r0 c0 := (up_ne (hA.ne (by omega) (by omega) (by omega))).trans hH
  generalize hF1 : va_up F (A 4) (cO (S i)) = F1 at *
  have t2 := X4_copyFrom ti1 hU1 (hS i hi).2.1 hU8
  have k2 : Agr A [0, 4, 5, 17, 19] F (va_up F1 (A 19) (cS (S i))) := k1.up hA (by omega) (by simp)
  have hS2 := isS_up (V := S i) hU1
  have hH2 : (va_up F1 (A 19) (cS (S i))) (A 17) = hwC A s0 r0 c0 := (up_ne (hA.ne (by omega) (by omega) (by omega))).trans hH1
  have hT2 := isT_fr (F' := va_up F1 (A 19) (cS (S i))) hT1 (up_ne (hA.ne (by omega) (by omega) (by omega))) (up_ne (hA.ne (by omega) (by omega) (by omega))) (up_ne (hA.ne (by omega) (by omega) (by omega)))
  have hB2 : gB A (va_up F1 (A 19) (cS (S i))) aw := gB_fr (T := [19]) ((Agr.refl A _ F1).up hA (by omega) (by simp)) hB1 (by simp)
  have ti2 : isS (va_up F1 (A 19) (cS (S i))) (A (37 + 2 * i)) (A (38 + 2 * i)) (S i) := isS_at hA ti1 (by omega) (by omega) (by omega) (by omega) (by omega)
  generalize hF2 : va_up F1 (A 19) (cS (S i)) = F2 at *
  have t3 := hw_p1 (t := sd) hH2
  have k3 : Agr A [0, 4, 5, 17, 19] F (va_up F2 (A 17) (hwC A sd r0 c0)) := k2.up hA (by omega) (by simp)
  have hH3 : (va_up F2 (A 17) (hwC A sd r0 c0)) (A 17) = hwC A sd r0 c0 := up_eq _ _ _
  have hS3 : isS (va_up F2 (A 17) (hwC A sd r0 c0)) (A 18) (A 19) (S i) := isS_at hA hS2 (by omega) (by omega) (by omega) (by omega) (by omega)
  have ti3 : isS (va_up F2 (A 17) (hwC A sd r0 c0)) (A (37 + 2 * i)) (A (38 + 2 * i)) (S i) := isS_at hA ti2 (by omega) (by omega) (by omega) (by omega) (by omega)
  have hT3 := isT_fr (F' := va_up F2 (A 17) (hwC A sd r0 c0)) hT2 (up_ne (hA.ne (by omega) (by omega) (by omega))) (up_ne (hA.ne (by omega) (by omega) (by omega))) (up_ne (hA.ne (by omega) (by omega) (by omega)))
  have hB3 : gB A (va_up F2 (A 17) (hwC A sd r0 c0)) aw := gB_fr (T := [17]) ((Agr.refl A _ F2).up hA (by omega) (by simp)) hB2 (by simp)
  generalize hF3 : va_up F2 (A 17) (hwC A sd r0 c0) = F3 at *
  have FB := FU_big
  obtain ⟨F4, a', b', V', e1, e2, e3, e4, e5, e6, e7⟩ := C_dr33 hA (fun (x0 : Nat) (F : Mem) => (pf F x0 8 4 (.int 1)).bind fun F86 => (gfR F86 x0 8 8).bind fun v90 => (gfJ F86 v90 1 1).bind fun v93 => some (Sum.inr v93, F86)) (boxes (S i) 8) FU (S i) sd r0 c0 PT F3 (by omega) (hS i hi) rfl hB3 hT3 hH3 hS3
  have k4 : Agr A [0, 4, 5, 17, 19] F F4 := k3.trans (e7.mono (fun t q => by simp at q ⊢; omega))
  have t5 : pf F4 (A 0) 8 4 (.int 1) = some (va_up F4 (A 0) (.inr (8, [.ref (A 1), .ref (A 2), .ref (A 3), .ref (A 6), .int (bI true), .ref (A 9), .ref (A 12), .ref (A 15), .ref (A 17), .ref (A 20), .ref (A 22), .ref (A 24), .ref (A 30)]))) := pf_at e2.1 (by simp)
  have k5 : Agr A [0, 4, 5, 17, 19] F (va_up F4 (A 0) (.inr (8, [.ref (A 1), .ref (A 2), .ref (A 3), .ref (A 6), .int (bI true), .ref (A 9), .ref (A 12), .ref (A 15), .ref (A 17), .ref (A 20), .ref (A 22), .ref (A 24), .ref (A 30)]))) := k4.up hA (by omega) (by simp)
  have hB5 : gB A (va_up F4 (A 0) (.inr (8, [.ref (A 1), .ref (A 2), .ref (A 3), .ref (A 6), .int (bI true), .ref (A 9), .ref (A 12), .ref (A 15), .ref (A 17), .ref (A 20), .ref (A 22), .ref (A 24), .ref (A 30)]))) true := ⟨up_eq _ _ _, (up_ne (hA.ne (by omega) (by omega) (by omega))).trans e2.2.1, (up_ne (hA.ne (by omega) (by omega) (by omega))).trans e2.2.2⟩
  have hH5 : (va_up F4 (A 0) (.inr (8, [.ref (A 1), .ref (A 2), .ref (A 3), .ref (A 6), .int (bI true), .ref (A 9), .ref (A 12), .ref (A 15), .ref (A 17), .ref (A 20), .ref (A 22), .ref (A 24), .ref (A 30)]))) (A 17) = hwC A (drw (boxes (S i) 8) (S i) sd PT).1 a' b' := (up_ne (hA.ne (by omega) (by omega) (by omega))).trans e4
  have hT5 := isT_fr (F' := va_up F4 (A 0) (.inr (8, [.ref (A 1), .ref (A 2), .ref (A 3), .ref (A 6), .int (bI true), .ref (A 9), .ref (A 12), .ref (A 15), .ref (A 17), .ref (A 20), .ref (A 22), .ref (A 24), .ref (A 30)]))) e3 (up_ne (hA.ne (by omega) (by omega) (by omega))) (up_ne (hA.ne (by omega) (by omega) (by omega))) (up_ne (hA.ne (by omega) (by omega) (by omega)))
  have hS5 : isS (va_up F4 (A 0) (.inr (8, [.ref (A 1), .ref (A 2), .ref (A 3), .ref (A 6), .int (bI true), .ref (A 9), .ref (A 12), .ref (A 15), .ref (A 17), .ref (A 20), .ref (A 22), .ref (A 24), .ref (A 30)]))) (A 18) (A 19) V' := isS_at hA e5 (by omega) (by omega) (by omega) (by omega) (by omega)
  generalize hF5 : va_up F4 (A 0) (.inr (8, [.ref (A 1), .ref (A 2), .ref (A 3), .ref (A 6), .int (bI true), .ref (A 9), .ref (A 12), .ref (A 15), .ref (A 17), .ref (A 20), .ref (A 22), .ref (A 24), .ref (A 30)])) = F5 at *
  refine ⟨F5, ?_, ⟨hB5, hT5, isTA_fr (j := 6) k5 h3 (by omega) (by simp), gS_fr k5 h4 (fun t q => by simp at q; omega), gW_fr k5 h5 (fun t q => by simp at q; omega), gT_fr k5 h6 (by omega) (by simp), gT_fr k5 h7 (by omega) (by simp), gU_fr k5 h8 (by omega) (by simp), ⟨⟨_, _, _, hH5⟩, V', hS5, e6⟩, gO_fr k5 h10 (by simp), gC_fr k5 h11 (by simp), gF_fr k5 h12 (by simp), gP_fr k5 h13 (by simp)⟩, k5.mono (CTs_of (fun t q => by simp at q; omega))⟩
  unfold mX9_draw mX1_start
  rw [obj_of h1.1, Option.bind_some, C_slot h1 hi, thn_r, gfR_at (k := 2) (v := A 3) h1.1 rfl, Option.bind_some, obj_of h2.1, Option.bind_some, t1, Option.bind_some, gfR_at (k := 8) (v := A 17) hB1.1 rfl, Option.bind_some, obj_of hH1, Option.bind_some, gfR_at (k := 0) (v := A 18) hH1 rfl, Option.bind_some, obj_of hU1.1, Option.bind_some, t2, Option.bind_some, t3, Option.bind_some, Option.bind_some, obj_of ti3.1, Option.bind_some, X4_countBoxes ti3, Option.bind_some]
  simp only
  rw [e1, t5, Option.bind_some, gfR_at (k := 8) (v := A 17) hB5.1 rfl, Option.bind_some, gfJ_of (k := 1) hH5 rfl, Option.bind_some]
theorem C_draw_no (h : CC A F S W N PT PO QT QO aw) {x : Int32} (hx : x < 0 ∨ (¬ x < 0 ∧ iN 4 ≤ x)) (sd : Int64) : mX9_draw F (A 0) x sd = some (.inl IOOB, F) := by
  unfold mX9_draw
  rw [obj_of h.1.1, Option.bind_some, C_noslot hx, thn_l]
end DRAW3
