section LOPS2
variable {A : Nat → Nat} {F : Mem}
theorem L_insert (hA : Inj A) (h : ST A F) (a b : Int32) : Res1 A (mL_insert F (A 0) a b (A 66)) (fun F => mX10_insert F (A 49) a b) Int32.toInt64 := by
  obtain ⟨S, W, N, PT, PO, QT, QO, aw, th, g, hC, hR, hg, ok⟩ := h
  have hob := obj_of hC.1.1
  have bad : ouS 2 a → Res1 A (mL_insert F (A 0) a b (A 66)) (fun F => mX10_insert F (A 49) a b) Int32.toInt64 := fun q => by
    refine res1_bad (t := 1) hR hg hC (Agr.refl A _ F) ok (fun F2 h2 => ?_) (by decide) ?_
    · obtain ⟨F3, r1, r2, r3⟩ := R_insert_no hA h2 q b
      exact ⟨_, F3, r3, r1, r2⟩
    · unfold mL_insert
      rw [hob, Option.bind_some, C_insert_no hC q b, hnl_l, if_pos rfl]
  rcases i32_cases a 2 (by omega) with q | ⟨j, hj, rfl⟩ | q
  · exact bad (Or.inl q)
  · obtain ⟨F1, e1, e2, e3⟩ := C_insert hA hC ok.2.1 ok.2.2.1.2.1 ok.2.2.2.1 hj b
    obtain ⟨w1, w2⟩ := ok.2.1 j hj
    obtain ⟨c1, c2, c3, c4⟩ := isF_ok (!decide (b = 0)) (W := W j) (n := N j) (lo := 1) (hi := 16) PT QT w1 w2 (N j) (Nat.le_refl _)
    have oq : okO (isF (!decide (b = 0)) (W j) PT QT (N j)).2.1 := ⟨fun s => by
      have := boxes_row (O := (isF (!decide (b = 0)) (W j) PT QT (N j)).2.1) 16 (by omega)
      have := par_le c1.1 (Nat.zero_le s)
      omega, c3⟩
    refine res1_ok hA (j := Int32.toInt64 (iN (rowsN (isF (!decide (b = 0)) (W j) PT QT (N j)).2.1 16))) hR hg e2 e3 ⟨ok.1, ok.2.1, ⟨c1, oq, by omega, fun s d hd => by have := c4 s d hd; omega⟩, oq, isF_okQ (!decide (b = 0)) PT QT w1 w2⟩ (fun F2 h2 => ?_) (fun F2 hw => ?_)
    · obtain ⟨F3, a1, a2, a3⟩ := R_insert hA h2 ok.2.1 hj b
      exact ⟨_, F3, a1, a2, a3, rfl⟩
    · unfold mL_insert
      rw [hob, Option.bind_some, e1, hnl_r, hw, Option.bind_some]
  · exact bad (Or.inr q)
theorem L_recover (hA : Inj A) (h : ST A F) (a : Int32) : Res2 A (mL_recover F (A 0) a) (fun F => mX10_recover F (A 49) a) := by
  obtain ⟨S, W, N, PT, PO, QT, QO, aw, th, g, hC, hR, hg, ok⟩ := h
  have hob := obj_of hC.1.1
  have bad : ouS 2 a → Res2 A (mL_recover F (A 0) a) (fun F => mX10_recover F (A 49) a) := fun q => by
    refine res2_mk (t := 1) hR hg hC (Agr.refl A _ F) ok (fun F2 h2 => ?_) ?_
    · obtain ⟨F3, r1, r2, r3⟩ := R_recover_no hA h2 q
      exact ⟨F3, r3, r1, r2⟩
    · unfold mL_recover
      rw [hob, Option.bind_some, C_recover_no hC q, hnl_l, if_pos rfl]
  rcases i32_cases a 2 (by omega) with q | ⟨j, hj, rfl⟩ | q
  · exact bad (Or.inl q)
  · obtain ⟨c1, c2⟩ := C_recover hA hC ok.2.2.1 hj
    cases aw with
    | true =>
      refine res2_mk (t := 2) hR hg hC (Agr.refl A _ F) ok (fun F2 h2 => (R_recover hA h2 ok.2.1 ok.2.2.1 hj).1 rfl) ?_
      unfold mL_recover
      rw [hob, Option.bind_some, c1 rfl, hnl_l, if_neg (by decide), if_pos rfl]
    | false =>
      obtain ⟨q1, q2, n, q, Os, n16, H, q3⟩ := ok.2.2.2.2 rfl
      obtain ⟨F1, e1, e2, e3⟩ := c2 rfl n q Os n16 H q3 q1
      have eO : Os n = PO := funext q3
      refine res2_mk (t := 0) hR hg e2 e3 (okA_W ok (okW_up ok.2.1 n16 (fun k hk => ?_))) (fun F2 h2 => (R_recover hA h2 ok.2.1 ok.2.2.1 hj).2 rfl n q Os n16 H q3 q1) ?_
      · exact rcL_p (fun y => 1 ≤ y ∧ y ≤ 16) H n PT (W j) (Nat.le_refl _) (fun s d hd => by
          rw [eO] at hd
          exact ⟨(ok.2.2.1.2.2.2 s d hd).1, q2 s d hd⟩) k hk
      · unfold mL_recover
        rw [hob, Option.bind_some, e1, hnl_r]
  · exact bad (Or.inr q)
theorem L_read (hA : Inj A) (h : ST A F) (a : Int32) : Res2 A (mL_read F (A 0) a) (fun F => mX10_read F (A 49) a) := by
  obtain ⟨S, W, N, PT, PO, QT, QO, aw, th, g, hC, hR, hg, ok⟩ := h
  have hob := obj_of hC.1.1
  have bad : ouS 2 a → Res2 A (mL_read F (A 0) a) (fun F => mX10_read F (A 49) a) := fun q => by
    refine res2_mk (t := 1) hR hg hC (Agr.refl A _ F) ok (fun F2 h2 => ?_) ?_
    · obtain ⟨F3, r1, r2, r3⟩ := R_read_no hA h2 q
      exact ⟨F3, r3, r1, r2⟩
    · unfold mL_read
      rw [hob, Option.bind_some, C_read_no hC q, hnl_l, if_pos rfl]
  rcases i32_cases a 2 (by omega) with q | ⟨j, hj, rfl⟩ | q
  · exact bad (Or.inl q)
  · obtain ⟨c1, c2⟩ := C_read hA hC ok.2.2.1 hj
    by_cases cr : canR PT PO
    · obtain ⟨F1, e1, e2, e3⟩ := c1 cr
      refine res2_mk (t := 0) hR hg e2 e3 (okA_W ok (okW_up ok.2.1 cr.1 (fun k hk => ?_))) (fun F2 h2 => (R_read hA h2 ok.2.1 ok.2.2.1 hj).1 cr) ?_
      · obtain ⟨s, d, s1, s2, s3⟩ := rdF_let.mp (putL_mem (V := W j) (l := rdF (tabS PT I0 PO) 0 16) (k := k) (by rw [rdF_boxes]; exact hk))
        rw [s3]
        exact ⟨(ok.2.2.1.2.2.2 s d s2).1, cr.2 s d s1 s2⟩
      · unfold mL_read
        rw [hob, Option.bind_some, e1, hnl_r]
    · refine res2_mk (t := 2) hR hg hC (Agr.refl A _ F) ok (fun F2 h2 => (R_read hA h2 ok.2.1 ok.2.2.1 hj).2 cr) ?_
      unfold mL_read
      rw [hob, Option.bind_some, c2 cr, hnl_l, if_neg (by decide), if_pos rfl]
  · exact bad (Or.inr q)
theorem L_rectify (hA : Inj A) (h : ST A F) (a b c d : Int32) : Res1 A (mL_rectify F (A 0) a b c d (A 66)) (fun F => mX10_rectify F (A 49) a b c d) Int32.toInt64 := by
  obtain ⟨S, W, N, PT, PO, QT, QO, aw, th, g, hC, hR, hg, ok⟩ := h
  have hob := obj_of hC.1.1
  by_cases q : (∃ i, i < 4 ∧ a = iN i) ∧ (∃ i, i < 4 ∧ b = iN i) ∧ ∃ i, i < 2 ∧ c = iN i
  · obtain ⟨⟨i, hi, rfl⟩, ⟨o, ho, rfl⟩, j, hj, rfl⟩ := q
    obtain ⟨c1, c2, c3, c4⟩ := C_rectify hA hC ok.1 ok.2.1 ok.2.2.1 hi ho hj d
    have R := fun F2 h2 => R_rectify (A := A) (F := F2) (S := S) (W := W) (N := N) (PT := PT) (PO := PO) (QT := QT) (QO := QO) (aw := aw) (th := th) hA h2 ok.1 ok.2.1 hi ho hj d
    by_cases q1 : rq2 d (S i) (S o)
    · by_cases q2 : N j = dfB (S i) (S o) 8
      · by_cases q3 : strS (skF (W j) (S i) (S o)) (S i) (S o)
        · obtain ⟨F1, PT', PO', e1, e2, e3, e4, e5⟩ := c4 q1 q2 q3
          refine res1_ok hA (j := Int32.toInt64 (iN (boxes (S i) 8))) hR hg e4 e5 (okA_P ok e3) (fun F2 h2 => ?_) (fun F2 hw => ?_)
          · obtain ⟨F3, a1, a2, a3⟩ := (R F2 h2).2.2.2 q1 q2 q3 PT' PO' e2
            exact ⟨_, F3, a1, a2, a3, rfl⟩
          · unfold mL_rectify
            rw [hob, Option.bind_some, e1, hnl_r, hw, Option.bind_some]
        · obtain ⟨F1, e1, e2, e3⟩ := c3 q1 q2 q3
          refine res1_bad (t := 4) hR hg e2 e3 ok (fun F2 h2 => ?_) (by decide) ?_
          · obtain ⟨F3, a1, a2, a3⟩ := (R F2 h2).2.2.1 q1 q2 q3
            exact ⟨_, F3, a1, a2, a3⟩
          · unfold mL_rectify
            rw [hob, Option.bind_some, e1, hnl_l, if_neg (by decide), if_neg (by decide), if_neg (by decide), if_pos rfl]
      · refine res1_bad (t := 3) hR hg hC (Agr.refl A _ F) ok (fun F2 h2 => ?_) (by decide) ?_
        · obtain ⟨F3, a1, a2, a3⟩ := (R F2 h2).2.1 q1 q2
          exact ⟨_, F3, a1, a2, a3⟩
        · unfold mL_rectify
          rw [hob, Option.bind_some, c2 q1 q2, hnl_l, if_neg (by decide), if_neg (by decide), if_pos rfl]
    · refine res1_bad (t := 2) hR hg hC (Agr.refl A _ F) ok (fun F2 h2 => ?_) (by decide) ?_
      · obtain ⟨F3, a1, a2, a3⟩ := (R F2 h2).1 q1
        exact ⟨_, F3, a1, a2, a3⟩
      · unfold mL_rectify
        rw [hob, Option.bind_some, c1 q1, hnl_l, if_neg (by decide), if_pos rfl]
  · refine res1_bad (t := 1) hR hg hC (Agr.refl A _ F) ok (fun F2 h2 => ?_) (by decide) ?_
    · obtain ⟨F3, r1, r2, r3⟩ := R_rectify_no hA h2 d q
      exact ⟨_, F3, r3, r1, r2⟩
    · unfold mL_rectify
      rw [hob, Option.bind_some, C_rectify_no hC d q, hnl_l, if_pos rfl]
theorem L_turn (hA : Inj A) (h : ST A F) : Res2 A (mL_turn F (A 0)) (fun F => mX10_turn F (A 49)) := by
  obtain ⟨S, W, N, PT, PO, QT, QO, aw, th, g, hC, hR, hg, ok⟩ := h
  have hob := obj_of hC.1.1
  obtain ⟨c1, c2⟩ := C_turn hA hC ok.2.2.1
  by_cases q : stdL (rdF (tabS PT I0 PO) 0 16)
  · obtain ⟨F1, PT', e1, e2, e3, e4, e5⟩ := c2 q
    refine res2_mk (t := 0) hR hg e4 e5 (okA_P ok e3) (fun F2 h2 => (R_turn hA h2 ok.2.2.1).2 q PT' e2) ?_
    unfold mL_turn
    rw [hob, Option.bind_some, e1, hnl_r]
  · refine res2_mk (t := 1) hR hg hC (Agr.refl A _ F) ok (fun F2 h2 => (R_turn hA h2 ok.2.2.1).1 q) ?_
    unfold mL_turn
    rw [hob, Option.bind_some, c1 q, hnl_l, if_pos rfl]
theorem L_draw (hA : Inj A) (h : ST A F) (a : Int32) (w : Int64) : Res1 A (mL_draw F (A 0) a w (A 66)) (fun F => mX10_draw F (A 49) a w) id := by
  obtain ⟨S, W, N, PT, PO, QT, QO, aw, th, g, hC, hR, hg, ok⟩ := h
  have hob := obj_of hC.1.1
  have bad : ouS 4 a → Res1 A (mL_draw F (A 0) a w (A 66)) (fun F => mX10_draw F (A 49) a w) id := fun q => by
    refine res1_bad (t := 1) hR hg hC (Agr.refl A _ F) ok (fun F2 h2 => ?_) (by decide) ?_
    · obtain ⟨F3, r1, r2, r3⟩ := R_draw_no hA h2 q w
      exact ⟨_, F3, r3, r1, r2⟩
    · unfold mL_draw
      rw [hob, Option.bind_some, C_draw_no hC q w, hnl_l, if_pos rfl]
  rcases i32_cases a 4 (by omega) with q | ⟨i, hi, rfl⟩ | q
  · exact bad (Or.inl q)
  · obtain ⟨F1, e1, e2, e3⟩ := C_draw hA hC ok.1 ok.2.2.1.2.1.2 hi w
    refine res1_ok hA (j := (drw (boxes (S i) 8) (S i) w PT).1) hR hg e2 e3 (okA_P ok (okP_draw (ok.1 i hi) w)) (fun F2 h2 => ?_) (fun F2 hw => ?_)
    · obtain ⟨F3, a1, a2, a3⟩ := R_draw hA h2 ok.1 hi w
      exact ⟨_, F3, a1, a2, a3, rfl⟩
    · unfold mL_draw
      rw [hob, Option.bind_some, e1, hnl_r, hw, Option.bind_some]
  · exact bad (Or.inr q)
theorem L_standard (hA : Inj A) (h : ST A F) (a : Int32) : Res1 A (mL_standard F (A 0) a (A 66)) (fun F => mX10_standard F (A 49) a) id := by
  obtain ⟨S, W, N, PT, PO, QT, QO, aw, th, g, hC, hR, hg, ok⟩ := h
  have hob := obj_of hC.1.1
  have bad : ouS 4 a → Res1 A (mL_standard F (A 0) a (A 66)) (fun F => mX10_standard F (A 49) a) id := fun q => by
    refine res1_bad (t := 1) hR hg hC (Agr.refl A _ F) ok (fun F2 h2 => ?_) (by decide) ?_
    · obtain ⟨F3, r1, r2, r3⟩ := R_standard_no hA h2 q
      exact ⟨_, F3, r3, r1, r2⟩
    · have e : mX9_standard F (A 0) a = some (.inl IOOB, F) := by
        unfold mX9_standard
        rw [gfR_at (k := 10) (v := A 22) hC.1.1 rfl, Option.bind_some, hob, Option.bind_some, C_noslot q, thn_l]
      unfold mL_standard
      rw [hob, Option.bind_some, e, hnl_l, if_pos rfl]
  rcases i32_cases a 4 (by omega) with q | ⟨i, hi, rfl⟩ | q
  · exact bad (Or.inl q)
  · obtain ⟨F1, e1, e2, e3⟩ := C_standard hA hC ok.1 hi
    refine res1_ok hA (j := prd (fun q => stdW (S i) (nu q)) 38 2 1) hR hg e2 e3 ok (fun F2 h2 => ?_) (fun F2 hw => ?_)
    · obtain ⟨F3, a1, a2, a3⟩ := R_standard hA h2 ok.1 hi
      exact ⟨_, F3, a1, a2, a3, rfl⟩
    · unfold mL_standard
      rw [hob, Option.bind_some, e1, hnl_r, hw, Option.bind_some]
  · exact bad (Or.inr q)
theorem L_fillings (hA : Inj A) (h : ST A F) (a b : Int32) : Res1 A (mL_fillings F (A 0) a b (A 66)) (fun F => mX10_fillings F (A 49) a b) id := by
  obtain ⟨S, W, N, PT, PO, QT, QO, aw, th, g, hC, hR, hg, ok⟩ := h
  have hob := obj_of hC.1.1
  have hN : ∀ i, i < 2 → N i ≤ 16 := fun i hi => (ok.2.1 i hi).1
  have hW : ∀ i, i < 2 → ∀ k, k < N i → 1 ≤ W i k ∧ W i k ≤ 16 := fun i hi => (ok.2.1 i hi).2
  have bad : (ouS 4 a ∨ ((∃ i, i < 4 ∧ a = iN i) ∧ ouS 2 b)) → mX9_fillings F (A 0) a b = some (.inl IOOB, F) → Res1 A (mL_fillings F (A 0) a b (A 66)) (fun F => mX10_fillings F (A 49) a b) id := fun q e => by
    refine res1_bad (t := 1) hR hg hC (Agr.refl A _ F) ok (fun F2 h2 => ?_) (by decide) ?_
    · obtain ⟨F3, r1, r2, r3⟩ := R_fillings_no hA h2 q
      exact ⟨_, F3, r3, r1, r2⟩
    · unfold mL_fillings
      rw [hob, Option.bind_some, e, hnl_l, if_pos rfl]
  have b1 : ouS 4 a → mX9_fillings F (A 0) a b = some (.inl IOOB, F) := fun q => by unfold mX9_fillings; rw [hob, Option.bind_some, C_noslot q, thn_l]
  rcases i32_cases a 4 (by omega) with q | ⟨i, hi, rfl⟩ | q
  · exact bad (Or.inl (Or.inl q)) (b1 (Or.inl q))
  · have b2 : ouS 2 b → mX9_fillings F (A 0) (iN i) b = some (.inl IOOB, F) := fun q => by unfold mX9_fillings; rw [hob, Option.bind_some, C_slot hC.1 hi, thn_r, hob, Option.bind_some, C_noword q, thn_l]
    rcases i32_cases b 2 (by omega) with q | ⟨j, hj, rfl⟩ | q
    · exact bad (Or.inr ⟨⟨i, hi, rfl⟩, Or.inl q⟩) (b2 (Or.inl q))
    · obtain ⟨c1, c2⟩ := C_fillings hA hC ok.1 hN hW hi hj
      by_cases q : N j = boxes (S i) 8
      · obtain ⟨F1, e1, e2, e3⟩ := c1 q
        refine res1_ok hA (j := jN (kos (csx (fun y => cntL (W j) y (N j)) 16) (S i))) hR hg e2 e3 ok (fun F2 h2 => ?_) (fun F2 hw => ?_)
        · obtain ⟨F3, a1, a2, a3⟩ := (R_fillings hA h2 ok.1 hN hW hi hj).1 q
          exact ⟨_, F3, a1, a2, a3, rfl⟩
        · unfold mL_fillings
          rw [hob, Option.bind_some, e1, hnl_r, hw, Option.bind_some]
      · refine res1_ok hA (j := 0) hR hg hC (Agr.refl A _ F) ok (fun F2 h2 => ?_) (fun F2 hw => ?_)
        · obtain ⟨F3, a1, a2, a3⟩ := (R_fillings hA h2 ok.1 hN hW hi hj).2 q
          exact ⟨_, F3, a1, a2, a3, rfl⟩
        · unfold mL_fillings
          rw [hob, Option.bind_some, c2 q, hnl_r, hw, Option.bind_some]
    · exact bad (Or.inr ⟨⟨i, hi, rfl⟩, Or.inr q⟩) (b2 (Or.inr q))
  · exact bad (Or.inl (Or.inr q)) (b1 (Or.inr q))
theorem L_coefficient (hA : Inj A) (h : ST A F) (a b c : Int32) : Res1 A (mL_coefficient F (A 0) a b c (A 66)) (fun F => mX10_coefficient F (A 49) a b c) id := by
  obtain ⟨S, W, N, PT, PO, QT, QO, aw, th, g, hC, hR, hg, ok⟩ := h
  have hob := obj_of hC.1.1
  have bad : (ouS 4 a ∨ ((∃ i, i < 4 ∧ a = iN i) ∧ (ouS 4 b ∨ ((∃ i, i < 4 ∧ b = iN i) ∧ ouS 4 c)))) → mX9_coefficient F (A 0) a b c = some (.inl IOOB, F) → Res1 A (mL_coefficient F (A 0) a b c (A 66)) (fun F => mX10_coefficient F (A 49) a b c) id := fun q e => by
    refine res1_bad (t := 1) hR hg hC (Agr.refl A _ F) ok (fun F2 h2 => ?_) (by decide) ?_
    · obtain ⟨F3, r1, r2, r3⟩ := R_coefficient_no hA h2 q
      exact ⟨_, F3, r3, r1, r2⟩
    · unfold mL_coefficient
      rw [hob, Option.bind_some, e, hnl_l, if_pos rfl]
  have b1 : ouS 4 a → mX9_coefficient F (A 0) a b c = some (.inl IOOB, F) := fun q => by unfold mX9_coefficient; rw [hob, Option.bind_some, C_noslot q, thn_l]
  rcases i32_cases a 4 (by omega) with q | ⟨i, hi, rfl⟩ | q
  · exact bad (Or.inl (Or.inl q)) (b1 (Or.inl q))
  · have b2 : ouS 4 b → mX9_coefficient F (A 0) (iN i) b c = some (.inl IOOB, F) := fun q => by unfold mX9_coefficient; rw [hob, Option.bind_some, C_slot hC.1 hi, thn_r, hob, Option.bind_some, C_noslot q, thn_l]
    rcases i32_cases b 4 (by omega) with q | ⟨j, hj, rfl⟩ | q
    · exact bad (Or.inr ⟨⟨i, hi, rfl⟩, Or.inl (Or.inl q)⟩) (b2 (Or.inl q))
    · have b3 : ouS 4 c → mX9_coefficient F (A 0) (iN i) (iN j) c = some (.inl IOOB, F) := fun q => by unfold mX9_coefficient; rw [hob, Option.bind_some, C_slot hC.1 hi, thn_r, hob, Option.bind_some, C_slot hC.1 hj, thn_r, hob, Option.bind_some, C_noslot q, thn_l]
      rcases i32_cases c 4 (by omega) with q | ⟨k, hk, rfl⟩ | q
      · exact bad (Or.inr ⟨⟨i, hi, rfl⟩, Or.inr ⟨⟨j, hj, rfl⟩, Or.inl q⟩⟩) (b3 (Or.inl q))
      · obtain ⟨c1, c2⟩ := C_coefficient hA hC ok.1 hi hj hk
        by_cases q : (∀ r, r < 8 → S i r ≤ S k r) ∧ boxes (S k) 8 = boxes (S i) 8 + boxes (S j) 8
        · obtain ⟨F1, e1, e2, e3⟩ := c1 q
          refine res1_ok hA (j := jN (allN (S i) z0 (fun r => S k r - S i r) (S j) 8 z0)) hR hg e2 e3 ok (fun F2 h2 => ?_) (fun F2 hw => ?_)
          · obtain ⟨F3, a1, a2, a3⟩ := (R_coefficient hA h2 ok.1 hi hj hk).1 q
            exact ⟨_, F3, a1, a2, a3, rfl⟩
          · unfold mL_coefficient
            rw [hob, Option.bind_some, e1, hnl_r, hw, Option.bind_some]
        · refine res1_ok hA (j := 0) hR hg hC (Agr.refl A _ F) ok (fun F2 h2 => ?_) (fun F2 hw => ?_)
          · obtain ⟨F3, a1, a2, a3⟩ := (R_coefficient hA h2 ok.1 hi hj hk).2 q
            exact ⟨_, F3, a1, a2, a3, rfl⟩
          · unfold mL_coefficient
            rw [hob, Option.bind_some, c2 q, hnl_r, hw, Option.bind_some]
      · exact bad (Or.inr ⟨⟨i, hi, rfl⟩, Or.inr ⟨⟨j, hj, rfl⟩, Or.inr q⟩⟩) (b3 (Or.inr q))
    · exact bad (Or.inr ⟨⟨i, hi, rfl⟩, Or.inl (Or.inr q)⟩) (b2 (Or.inr q))
  · exact bad (Or.inl (Or.inr q)) (b1 (Or.inr q))
theorem L_character (hA : Inj A) (h : ST A F) (a b : Int32) : Res1 A (mL_character F (A 0) a b (A 66)) (fun F => mX10_character F (A 49) a b) id := by
  obtain ⟨S, W, N, PT, PO, QT, QO, aw, th, g, hC, hR, hg, ok⟩ := h
  have hob := obj_of hC.1.1
  have bad : (ouS 4 a ∨ ((∃ i, i < 4 ∧ a = iN i) ∧ ouS 4 b)) → mX9_character F (A 0) a b = some (.inl IOOB, F) → Res1 A (mL_character F (A 0) a b (A 66)) (fun F => mX10_character F (A 49) a b) id := fun q e => by
    refine res1_bad (t := 1) hR hg hC (Agr.refl A _ F) ok (fun F2 h2 => ?_) (by decide) ?_
    · obtain ⟨F3, r1, r2, r3⟩ := R_character_no hA h2 q
      exact ⟨_, F3, r3, r1, r2⟩
    · unfold mL_character
      rw [hob, Option.bind_some, e, hnl_l, if_pos rfl]
  have b1 : ouS 4 a → mX9_character F (A 0) a b = some (.inl IOOB, F) := fun q => by unfold mX9_character; rw [hob, Option.bind_some, C_noslot q, thn_l]
  rcases i32_cases a 4 (by omega) with q | ⟨i, hi, rfl⟩ | q
  · exact bad (Or.inl (Or.inl q)) (b1 (Or.inl q))
  · have b2 : ouS 4 b → mX9_character F (A 0) (iN i) b = some (.inl IOOB, F) := fun q => by unfold mX9_character; rw [hob, Option.bind_some, C_slot hC.1 hi, thn_r, hob, Option.bind_some, C_noslot q, thn_l]
    rcases i32_cases b 4 (by omega) with q | ⟨j, hj, rfl⟩ | q
    · exact bad (Or.inr ⟨⟨i, hi, rfl⟩, Or.inl q⟩) (b2 (Or.inl q))
    · have e := C_character hC ok.1 hi hj
      by_cases q1 : boxes (S i) 8 = boxes (S j) 8
      · by_cases q2 : boxes (S i) 8 ≤ 14
        · rw [if_pos q1, if_pos q2] at e
          refine res1_ok hA (j := Int64.ofInt (phiN (fun _ => 1) (hkl (S j) 8 0) (bdN (S i) 8))) hR hg hC (Agr.refl A _ F) ok (fun F2 h2 => ?_) (fun F2 hw => ?_)
          · obtain ⟨F3, a1, a2, a3⟩ := (R_character hA h2 ok.1 hi hj).1 q1 q2
            exact ⟨_, F3, a1, a2, a3, rfl⟩
          · unfold mL_character
            rw [hob, Option.bind_some, e, hnl_r, hw, Option.bind_some]
        · rw [if_pos q1, if_neg q2] at e
          refine res1_bad (t := 3) hR hg hC (Agr.refl A _ F) ok (fun F2 h2 => ?_) (by decide) ?_
          · obtain ⟨F3, a1, a2, a3⟩ := (R_character hA h2 ok.1 hi hj).2.1 q1 q2
            exact ⟨_, F3, a1, a2, a3⟩
          · unfold mL_character
            rw [hob, Option.bind_some, e, hnl_l, if_neg (by decide), if_neg (by decide), if_pos rfl]
      · rw [if_neg q1] at e
        refine res1_bad (t := 2) hR hg hC (Agr.refl A _ F) ok (fun F2 h2 => ?_) (by decide) ?_
        · obtain ⟨F3, a1, a2, a3⟩ := (R_character hA h2 ok.1 hi hj).2.2 q1
          exact ⟨_, F3, a1, a2, a3⟩
        · unfold mL_character
          rw [hob, Option.bind_some, e, hnl_l, if_neg (by decide), if_pos rfl]
    · exact bad (Or.inr ⟨⟨i, hi, rfl⟩, Or.inr q⟩) (b2 (Or.inr q))
  · exact bad (Or.inl (Or.inr q)) (b1 (Or.inr q))
theorem L_entry (hA : Inj A) (h : ST A F) (q x y : Int32) : ∃ v F2, mX9_entry F (A 0) q x y = some (v, F) ∧ (∃ fs, obj F (A 0) 8 = some fs) ∧ (∃ fs, obj F (A 49) 9 = some fs) ∧ mX10_entry F (A 49) q x y = some (v, F2) ∧ ST A F2 := by
  obtain ⟨S, W, N, PT, PO, QT, QO, aw, th, g, hC, hR, hg, ok⟩ := h
  obtain ⟨F3, a1, a2, a3⟩ := R_entry hA hR ok.2.2.1.2.1 ok.2.2.2.1 q x y
  obtain ⟨c1, c2, c3, c4⟩ := st_end hC hg ok a2 a3
  exact ⟨_, F3, C_entry hC ok.2.2.1.2.1 ok.2.2.2.1 q x y, ⟨_, obj_of hC.1.1⟩, rObj_ob hR.1, a1, c4⟩
theorem L_equivalent (hA : Inj A) (h : ST A F) : ∃ v F1 F2, mX9_equivalent F (A 0) = some (v, F1) ∧ (∃ fs, obj F (A 0) 8 = some fs) ∧ (∃ fs, obj F1 (A 49) 9 = some fs) ∧ mX10_equivalent F1 (A 49) = some (v, F2) ∧ ST A F2 := by
  obtain ⟨S, W, N, PT, PO, QT, QO, aw, th, g, hC, hR, hg, ok⟩ := h
  obtain ⟨z, F1, e1, e2, e3, e4⟩ := C_equivalent hA hC ok.2.1
  obtain ⟨b1, b2, b3⟩ := st_mid0 hR hg e4
  obtain ⟨z', F3, a1, a2, a3, a4⟩ := R_equivalent hA b1 ok.2.1
  have ez : z' = z := by
    cases z <;> cases z' <;> first | rfl | exact absurd (e2.mpr (a2.mp rfl)) (by decide) | exact absurd (a2.mpr (e2.mp rfl)) (by decide)
  rw [ez] at a1
  obtain ⟨c1, c2, c3, c4⟩ := st_end e3 b3 ok a3 a4
  exact ⟨_, F1, F3, e1, ⟨_, obj_of hC.1.1⟩, b2, a1, c4⟩
end LOPS2
