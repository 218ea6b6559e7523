section LOPS1
variable {A : Nat → Nat} {F : Mem}
abbrev ouS (n : Nat) (y : Int32) : Prop := y < 0 ∨ (¬ y < 0 ∧ iN n ≤ y)
theorem L_shape (hA : Inj A) (h : ST A F) (a : Int32) (w : Int64) : Res1 A (mL_shape F (A 0) a w (A 66)) (fun F => mX10_shape F (A 49) a w) cvB := by
  obtain ⟨S, W, N, PT, PO, QT, QO, aw, th, g, hC, hR, hg, ok⟩ := h
  have hob := obj_of hC.1.1
  have bad : ouS 4 a → Res1 A (mL_shape F (A 0) a w (A 66)) (fun F => mX10_shape F (A 49) a w) cvB := fun q => by
    refine res1_bad (t := 1) hR hg hC (Agr.refl A _ F) ok (fun F2 h2 => ?_) (by decide) ?_
    · obtain ⟨F3, r1, r2, r3⟩ := R_shape_no hA h2 q w
      exact ⟨_, F3, r3, r1, r2⟩
    · have e : mX9_shape F (A 0) a w = some (.inl IOOB, F) := by unfold mX9_shape; rw [hob, Option.bind_some, C_noslot q, thn_l]
      unfold mL_shape
      rw [hob, Option.bind_some, e, hnl_l, if_pos rfl]
  rcases i32_cases a 4 (by omega) with q | ⟨i, hi, rfl⟩ | q
  · exact bad (Or.inl q)
  · obtain ⟨z, F1, e1, e2, e3, e4⟩ := C_shape hA hC (fun i hi => (ok.1 i hi).2.1) hi w
    refine res1_ok hA (j := cvB (bI z)) hR hg e3 e4 (okA_S ok ?_) (fun F2 h2 => ?_) (fun F2 hw => ?_)
    · cases z with
      | false => rw [if_neg (by decide)]; exact ok.1
      | true => rw [if_pos rfl]; exact okS_up ok.1 (okS_sh (e2.mp rfl).1 (e2.mp rfl).2)
    · obtain ⟨z', F3, a1, a2, a3, a4⟩ := R_shape hA h2 hi w
      have ez : z' = z := by
        cases z <;> cases z' <;> first | rfl | exact absurd (e2.mpr (a2.mp rfl)) (by decide) | exact absurd (a2.mpr (e2.mp rfl)) (by decide)
      rw [ez] at a1 a3
      exact ⟨_, F3, a1, a3, a4, rfl⟩
    · unfold mL_shape fL_shape_17
      rw [hob, Option.bind_some, e1, hnl_r]
      cases z with
      | false => rw [if_pos (show bI false = 0 from rfl), show wrJ F1 (A 66) 0 0 = some F2 from hw, Option.bind_some]
      | true => rw [if_neg (show ¬ bI true = 0 from ne10), show wrJ F1 (A 66) 0 1 = some F2 from hw, Option.bind_some]
  · exact bad (Or.inr q)
theorem L_row (hA : Inj A) (h : ST A F) (a b : Int32) : Res1 A (mL_row F (A 0) a b (A 66)) (fun F => mX10_row F (A 49) a b) Int32.toInt64 := by
  obtain ⟨S, W, N, PT, PO, QT, QO, aw, th, g, hC, hR, hg, ok⟩ := h
  have hob := obj_of hC.1.1
  have bad : ouS 4 a → Res1 A (mL_row F (A 0) a b (A 66)) (fun F => mX10_row F (A 49) a b) Int32.toInt64 := fun q => by
    refine res1_bad (t := 1) hR hg hC (Agr.refl A _ F) ok (fun F2 h2 => ?_) (by decide) ?_
    · obtain ⟨F3, r1, r2, r3⟩ := R_row_no hA h2 q b
      exact ⟨_, F3, r3, r1, r2⟩
    · have e : mX9_row F (A 0) a b = some (.inl IOOB, F) := by unfold mX9_row; rw [hob, Option.bind_some, C_noslot q, thn_l]
      unfold mL_row
      rw [hob, Option.bind_some, e, hnl_l, if_pos rfl]
  rcases i32_cases a 4 (by omega) with q | ⟨i, hi, rfl⟩ | q
  · exact bad (Or.inl q)
  · rcases C_row hC ok.1 hi b with ⟨r, r1, r2, e⟩ | ⟨q, e⟩
    · refine res1_ok hA (j := Int32.toInt64 (iN (S i r))) hR hg hC (Agr.refl A _ F) ok (fun F2 h2 => ?_) (fun F2 hw => ?_)
      · obtain ⟨F3, a1, a2, a3, a4⟩ := R_row hA h2 hi b
        exact ⟨_, F3, a3 r r1 r2, a1, a2, rfl⟩
      · unfold mL_row
        rw [hob, Option.bind_some, e, hnl_r, hw, Option.bind_some]
    · refine res1_ok hA (j := Int32.toInt64 0) hR hg hC (Agr.refl A _ F) ok (fun F2 h2 => ?_) (fun F2 hw => ?_)
      · obtain ⟨F3, a1, a2, a3, a4⟩ := R_row hA h2 hi b
        exact ⟨_, F3, a4 q, a1, a2, rfl⟩
      · unfold mL_row
        rw [hob, Option.bind_some, e, hnl_r, hw, Option.bind_some]
  · exact bad (Or.inr q)
theorem L_conjugate (hA : Inj A) (h : ST A F) (a : Int32) : Res1 A (mL_conjugate F (A 0) a (A 66)) (fun F => mX10_conjugate F (A 49) a) cvB := by
  obtain ⟨S, W, N, PT, PO, QT, QO, aw, th, g, hC, hR, hg, ok⟩ := h
  have hob := obj_of hC.1.1
  have bad : ouS 4 a → Res1 A (mL_conjugate F (A 0) a (A 66)) (fun F => mX10_conjugate F (A 49) a) cvB := fun q => by
    refine res1_bad (t := 1) hR hg hC (Agr.refl A _ F) ok (fun F2 h2 => ?_) (by decide) ?_
    · obtain ⟨F3, r1, r2, r3⟩ := R_conjugate_no hA h2 q
      exact ⟨_, F3, r3, r1, r2⟩
    · have e : mX9_conjugate F (A 0) a = some (.inl IOOB, F) := by unfold mX9_conjugate; rw [hob, Option.bind_some, C_noslot q, thn_l]
      unfold mL_conjugate
      rw [hob, Option.bind_some, e, hnl_l, if_pos rfl]
  rcases i32_cases a 4 (by omega) with q | ⟨i, hi, rfl⟩ | q
  · exact bad (Or.inl q)
  · obtain ⟨z, F1, e1, e2, e3, e4⟩ := C_conjugate hA hC ok.1 hi
    refine res1_ok hA (j := cvB (bI z)) hR hg e3 e4 (okA_S ok ?_) (fun F2 h2 => ?_) (fun F2 hw => ?_)
    · cases z with
      | false => rw [if_neg (by decide)]; exact ok.1
      | true => rw [if_pos rfl]; exact okS_up ok.1 (okS_cj (ok.1 i hi))
    · obtain ⟨z', F3, a1, a2, a3, a4⟩ := R_conjugate hA h2 ok.1 hi
      have ez : z' = z := by
        cases z <;> cases z' <;> first | rfl | exact absurd (e2.mpr (a2.mp rfl)) (by decide) | exact absurd (a2.mpr (e2.mp rfl)) (by decide)
      rw [ez] at a1 a3
      exact ⟨_, F3, a1, a3, a4, rfl⟩
    · unfold mL_conjugate fL_conjugate_15
      rw [hob, Option.bind_some, e1, hnl_r]
      cases z with
      | false => rw [if_pos (show bI false = 0 from rfl), show wrJ F1 (A 66) 0 0 = some F2 from hw, Option.bind_some]
      | true => rw [if_neg (show ¬ bI true = 0 from ne10), show wrJ F1 (A 66) 0 1 = some F2 from hw, Option.bind_some]
  · exact bad (Or.inr q)
theorem L_rank (hA : Inj A) (h : ST A F) (a : Int32) : Res1 A (mL_rank F (A 0) a (A 66)) (fun F => mX10_rank F (A 49) a) Int32.toInt64 := by
  obtain ⟨S, W, N, PT, PO, QT, QO, aw, th, g, hC, hR, hg, ok⟩ := h
  have hob := obj_of hC.1.1
  have bad : ouS 4 a → Res1 A (mL_rank F (A 0) a (A 66)) (fun F => mX10_rank F (A 49) a) Int32.toInt64 := fun q => by
    refine res1_bad (t := 1) hR hg hC (Agr.refl A _ F) ok (fun F2 h2 => ?_) (by decide) ?_
    · obtain ⟨F3, r1, r2, r3⟩ := R_rank_no hA h2 q
      exact ⟨_, F3, r3, r1, r2⟩
    · have e : mX9_rank F (A 0) a = some (.inl IOOB, F) := by
        unfold mX9_rank
        rw [gfR_at (k := 9) (v := A 20) hC.1.1 rfl, Option.bind_some, hob, Option.bind_some, C_noslot q, thn_l]
      unfold mL_rank
      rw [hob, Option.bind_some, e, hnl_l, if_pos rfl]
  rcases i32_cases a 4 (by omega) with q | ⟨i, hi, rfl⟩ | q
  · exact bad (Or.inl q)
  · have e := C_rank hC ok.1 hi
    refine res1_ok hA (j := Int32.toInt64 (rkF (S i) 8 0 (boxes (S i) 8) (boxes (S i) 8))) hR hg hC (Agr.refl A _ F) ok (fun F2 h2 => ?_) (fun F2 hw => ?_)
    · obtain ⟨F3, a1, a2, a3⟩ := R_rank hA h2 ok.1 hi
      exact ⟨_, F3, a3, a1, a2, rfl⟩
    · unfold mL_rank
      rw [hob, Option.bind_some, e, hnl_r, hw, Option.bind_some]
  · exact bad (Or.inr q)
theorem L_unrank (hA : Inj A) (h : ST A F) (a b c : Int32) : Res2 A (mL_unrank F (A 0) a b c) (fun F => mX10_unrank F (A 49) a b c) := by
  obtain ⟨S, W, N, PT, PO, QT, QO, aw, th, g, hC, hR, hg, ok⟩ := h
  have hob := obj_of hC.1.1
  have bad : ouS 4 a → Res2 A (mL_unrank F (A 0) a b c) (fun F => mX10_unrank F (A 49) a b c) := fun q => by
    refine res2_mk (t := 1) hR hg hC (Agr.refl A _ F) ok (fun F2 h2 => ?_) ?_
    · obtain ⟨F3, r1, r2, r3⟩ := R_unrank_no hA h2 q b c
      exact ⟨F3, r3, r1, r2⟩
    · have e : mX9_unrank F (A 0) a b c = some (.inl IOOB, F) := by unfold mX9_unrank; rw [hob, Option.bind_some, C_noslot q, thn_l]
      unfold mL_unrank
      rw [hob, Option.bind_some, e, hnl_l, if_pos rfl]
  rcases i32_cases a 4 (by omega) with q | ⟨i, hi, rfl⟩ | q
  · exact bad (Or.inl q)
  · rcases C_unrank hA hC ok.1 hi b c with ⟨q, e⟩ | ⟨n, hn, hb, h3⟩
    · refine res2_mk (t := 2) hR hg hC (Agr.refl A _ F) ok (fun F2 h2 => ?_) ?_
      · obtain ⟨F3, r1, r2, r3⟩ := (R_unrank hA h2 hi b c).1 q
        exact ⟨F3, r3, r1, r2⟩
      · unfold mL_unrank
        rw [hob, Option.bind_some, e, hnl_l, if_neg (by decide), if_pos rfl]
    · rcases h3 with ⟨q, e⟩ | ⟨m, F1, m1, m2, k1, h4⟩
      · refine res2_mk (t := 3) hR hg hC (Agr.refl A _ F) ok (fun F2 h2 => ?_) ?_
        · obtain ⟨F3, r1, r2, r3⟩ := (R_unrank hA h2 hi b c).2.1 n hn hb q
          exact ⟨F3, r3, r1, r2⟩
        · unfold mL_unrank
          rw [hob, Option.bind_some, e, hnl_l, if_neg (by decide), if_neg (by decide), if_pos rfl]
      · rcases h4 with ⟨q, e, hC1⟩ | ⟨q, e, hC1⟩
        · refine res2_mk (t := 4) hR hg hC1 k1 ok (fun F2 h2 => ?_) ?_
          · obtain ⟨F3, r1, r2, r3⟩ := ((R_unrank hA h2 hi b c).2.2 n m hn hb m1 m2).1 q
            exact ⟨F3, r3, r1, r2⟩
          · unfold mL_unrank
            rw [hob, Option.bind_some, e, hnl_l, if_neg (by decide), if_neg (by decide), if_neg (by decide), if_pos rfl]
        · refine res2_mk (t := 0) hR hg hC1 k1 (okA_S ok (okS_up ok.1 (okS_ur hn q))) (fun F2 h2 => ?_) ?_
          · obtain ⟨F3, r1, r2, r3⟩ := ((R_unrank hA h2 hi b c).2.2 n m hn hb m1 m2).2 q
            exact ⟨F3, r3, r1, r2⟩
          · unfold mL_unrank
            rw [hob, Option.bind_some, e, hnl_r]
  · exact bad (Or.inr q)
theorem L_letter (hA : Inj A) (h : ST A F) (a b : Int32) : Res1 A (mL_letter F (A 0) a b (A 66)) (fun F => mX10_letter F (A 49) a b) cvB := by
  obtain ⟨S, W, N, PT, PO, QT, QO, aw, th, g, hC, hR, hg, ok⟩ := h
  have hob := obj_of hC.1.1
  have hN : ∀ i, i < 2 → N i ≤ 16 := fun i hi => (ok.2.1 i hi).1
  have bad : ouS 2 a → Res1 A (mL_letter F (A 0) a b (A 66)) (fun F => mX10_letter F (A 49) a b) cvB := fun q => by
    refine res1_bad (t := 1) hR hg hC (Agr.refl A _ F) ok (fun F2 h2 => ?_) (by decide) ?_
    · obtain ⟨F3, r1, r2, r3⟩ := R_letter_no hA h2 q b
      exact ⟨_, F3, r3, r1, r2⟩
    · have e : mX9_letter F (A 0) a b = some (.inl IOOB, F) := by unfold mX9_letter; rw [hob, Option.bind_some, C_noword q, thn_l]
      unfold mL_letter
      rw [hob, Option.bind_some, e, hnl_l, if_pos rfl]
  rcases i32_cases a 2 (by omega) with q | ⟨i, hi, rfl⟩ | q
  · exact bad (Or.inl q)
  · rcases C_letter hA hC hN hi b with ⟨q, e⟩ | ⟨x, F1, x1, x2, x3, x4, e, e3, e4⟩
    · refine res1_ok hA (j := cvB 0) hR hg hC (Agr.refl A _ F) ok (fun F2 h2 => ?_) (fun F2 hw => ?_)
      · obtain ⟨F3, a1, a2, a3⟩ := (R_letter hA h2 hN hi b).1 q
        exact ⟨_, F3, a3, a1, a2, rfl⟩
      · unfold mL_letter fL_letter_16
        rw [hob, Option.bind_some, e, hnl_r, if_pos rfl, show wrJ F (A 66) 0 0 = some F2 from hw, Option.bind_some]
    · refine res1_ok hA (j := cvB 1) hR hg e3 e4 (okA_W ok (okW_up ok.2.1 (by omega) (fun k hk => ?_))) (fun F2 h2 => ?_) (fun F2 hw => ?_)
      · by_cases w : k = N i
        · subst w; rw [upL_at]; exact ⟨x1, x2⟩
        · rw [upL_ne w]; exact (ok.2.1 i hi).2 k (by omega)
      · obtain ⟨F3, a1, a2, a3⟩ := (R_letter hA h2 hN hi b).2 x x1 x2 x3 x4
        exact ⟨_, F3, a3, a1, a2, rfl⟩
      · unfold mL_letter fL_letter_16
        rw [hob, Option.bind_some, e, hnl_r, if_neg ne10, show wrJ F1 (A 66) 0 1 = some F2 from hw, Option.bind_some]
  · exact bad (Or.inr q)
theorem L_cut (hA : Inj A) (h : ST A F) (a b : Int32) : Res1 A (mL_cut F (A 0) a b (A 66)) (fun F => mX10_cut F (A 49) a b) cvB := by
  obtain ⟨S, W, N, PT, PO, QT, QO, aw, th, g, hC, hR, hg, ok⟩ := h
  have hob := obj_of hC.1.1
  have hN : ∀ i, i < 2 → N i ≤ 16 := fun i hi => (ok.2.1 i hi).1
  have bad : ouS 2 a → Res1 A (mL_cut F (A 0) a b (A 66)) (fun F => mX10_cut F (A 49) a b) cvB := fun q => by
    refine res1_bad (t := 1) hR hg hC (Agr.refl A _ F) ok (fun F2 h2 => ?_) (by decide) ?_
    · obtain ⟨F3, r1, r2, r3⟩ := R_cut_no hA h2 q b
      exact ⟨_, F3, r3, r1, r2⟩
    · have e : mX9_cut F (A 0) a b = some (.inl IOOB, F) := by unfold mX9_cut; rw [hob, Option.bind_some, C_noword q, thn_l]
      unfold mL_cut
      rw [hob, Option.bind_some, e, hnl_l, if_pos rfl]
  rcases i32_cases a 2 (by omega) with q | ⟨i, hi, rfl⟩ | q
  · exact bad (Or.inl q)
  · rcases C_cut hA hC hN hi b with ⟨q, e⟩ | ⟨m, F1, m1, m2, e, e3, e4⟩
    · refine res1_ok hA (j := cvB 0) hR hg hC (Agr.refl A _ F) ok (fun F2 h2 => ?_) (fun F2 hw => ?_)
      · obtain ⟨F3, a1, a2, a3⟩ := (R_cut hA h2 hN hi b).1 q
        exact ⟨_, F3, a3, a1, a2, rfl⟩
      · unfold mL_cut fL_cut_16
        rw [hob, Option.bind_some, e, hnl_r, if_pos rfl, show wrJ F (A 66) 0 0 = some F2 from hw, Option.bind_some]
    · refine res1_ok hA (j := cvB 1) hR hg e3 e4 (okA_W ok (fun k hk => ?_)) (fun F2 h2 => ?_) (fun F2 hw => ?_)
      · have o := ok.2.1 k hk
        by_cases w : k = i
        · subst w; rw [upL_at]; exact ⟨by omega, fun t ht => o.2 t (by omega)⟩
        · rw [upL_ne w]; exact o
      · obtain ⟨F3, a1, a2, a3⟩ := (R_cut hA h2 hN hi b).2 m m1 m2
        exact ⟨_, F3, a3, a1, a2, rfl⟩
      · unfold mL_cut fL_cut_16
        rw [hob, Option.bind_some, e, hnl_r, if_neg ne10, show wrJ F1 (A 66) 0 1 = some F2 from hw, Option.bind_some]
  · exact bad (Or.inr q)
theorem L_length (hA : Inj A) (h : ST A F) (a : Int32) : Res1 A (mL_length F (A 0) a (A 66)) (fun F => mX10_length F (A 49) a) Int32.toInt64 := by
  obtain ⟨S, W, N, PT, PO, QT, QO, aw, th, g, hC, hR, hg, ok⟩ := h
  have hob := obj_of hC.1.1
  have bad : ouS 2 a → Res1 A (mL_length F (A 0) a (A 66)) (fun F => mX10_length F (A 49) a) Int32.toInt64 := fun q => by
    refine res1_bad (t := 1) hR hg hC (Agr.refl A _ F) ok (fun F2 h2 => ?_) (by decide) ?_
    · obtain ⟨F3, r1, r2, r3⟩ := R_length_no hA h2 q
      exact ⟨_, F3, r3, r1, r2⟩
    · have e : mX9_length F (A 0) a = some (.inl IOOB, F) := by unfold mX9_length; rw [hob, Option.bind_some, C_noword q, thn_l]
      unfold mL_length
      rw [hob, Option.bind_some, e, hnl_l, if_pos rfl]
  rcases i32_cases a 2 (by omega) with q | ⟨i, hi, rfl⟩ | q
  · exact bad (Or.inl q)
  · have e := C_length hC hi
    refine res1_ok hA (j := Int32.toInt64 (iN (N i))) hR hg hC (Agr.refl A _ F) ok (fun F2 h2 => ?_) (fun F2 hw => ?_)
    · obtain ⟨F3, a1, a2, a3⟩ := R_length hA h2 hi
      exact ⟨_, F3, a3, a1, a2, rfl⟩
    · unfold mL_length
      rw [hob, Option.bind_some, e, hnl_r, hw, Option.bind_some]
  · exact bad (Or.inr q)
theorem L_at (hA : Inj A) (h : ST A F) (a b : Int32) : Res1 A (mL_at F (A 0) a b (A 66)) (fun F => mX10_at F (A 49) a b) Int32.toInt64 := by
  obtain ⟨S, W, N, PT, PO, QT, QO, aw, th, g, hC, hR, hg, ok⟩ := h
  have hob := obj_of hC.1.1
  have hN : ∀ i, i < 2 → N i ≤ 16 := fun i hi => (ok.2.1 i hi).1
  have bad : ouS 2 a → Res1 A (mL_at F (A 0) a b (A 66)) (fun F => mX10_at F (A 49) a b) Int32.toInt64 := fun q => by
    refine res1_bad (t := 1) hR hg hC (Agr.refl A _ F) ok (fun F2 h2 => ?_) (by decide) ?_
    · obtain ⟨F3, r1, r2, r3⟩ := R_at_no hA h2 q b
      exact ⟨_, F3, r3, r1, r2⟩
    · have e : mX9_at F (A 0) a b = some (.inl IOOB, F) := by unfold mX9_at; rw [hob, Option.bind_some, C_noword q, thn_l]
      unfold mL_at
      rw [hob, Option.bind_some, e, hnl_l, if_pos rfl]
  rcases i32_cases a 2 (by omega) with q | ⟨i, hi, rfl⟩ | q
  · exact bad (Or.inl q)
  · rcases C_at hC hN hi b with ⟨q, e⟩ | ⟨m, m1, m2, e⟩
    · refine res1_ok hA (j := Int32.toInt64 0) hR hg hC (Agr.refl A _ F) ok (fun F2 h2 => ?_) (fun F2 hw => ?_)
      · obtain ⟨F3, a1, a2, a3, a4⟩ := R_at hA h2 hN hi b
        exact ⟨_, F3, a3 q, a1, a2, rfl⟩
      · unfold mL_at
        rw [hob, Option.bind_some, e, hnl_r, hw, Option.bind_some]
    · refine res1_ok hA (j := Int32.toInt64 (iN (W i m))) hR hg hC (Agr.refl A _ F) ok (fun F2 h2 => ?_) (fun F2 hw => ?_)
      · obtain ⟨F3, a1, a2, a3, a4⟩ := R_at hA h2 hN hi b
        exact ⟨_, F3, a4 m m1 m2, a1, a2, rfl⟩
      · unfold mL_at
        rw [hob, Option.bind_some, e, hnl_r, hw, Option.bind_some]
  · exact bad (Or.inr q)
end LOPS1
