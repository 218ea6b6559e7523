section RECR
variable {A : Nat → Nat} {F : Mem} {S W : Nat → Nat → Nat} {N : Nat → Nat} {PT : Nat → Nat → Nat} {PO : Nat → Nat} {QT : Nat → Nat → Nat} {QO : Nat → Nat} {aw : Bool} {th : Int32}
theorem rWk_row {T : List Nat} {F' : Mem} (k2 : Agr A T F F') (h : rWk A F) (e : ar0 F' (A 55) 24) (d : ∀ t, t ∈ T → t < 56 ∨ 66 ≤ t) : rWk A F' := by
  obtain ⟨w1, w2, w3, w4, w5, w6, w7, w8, w9, w10, w11⟩ := h
  have n : ∀ t, 56 ≤ t → t < 66 → t ∉ T := fun t a b q => by have := d t q; omega
  exact ⟨e, (k2 _ (by omega) (n _ (by omega) (by omega))).trans w2, ar0_fr k2 w3 (by omega) (n _ (by omega) (by omega)), ar0_fr k2 w4 (by omega) (n _ (by omega) (by omega)), ar0_fr k2 w5 (by omega) (n _ (by omega) (by omega)), ar0_fr k2 w6 (by omega) (n _ (by omega) (by omega)), ar1_fr k2 w7 (by omega) (n _ (by omega) (by omega)), ar1_fr k2 w8 (by omega) (n _ (by omega) (by omega)), ar1_fr k2 w9 (by omega) (n _ (by omega) (by omega)), ar1_fr k2 w10 (by omega) (n _ (by omega) (by omega)), ar0_fr k2 w11 (by omega) (n _ (by omega) (by omega))⟩
theorem strS_sk {V V' : Nat → Nat} {I O : Nat → Nat} (hO : par O) (h : ∀ k, k < dfB I O 8 → V k = V' k) (q : strS (skF V I O) I O) : strS (skF V' I O) I O := by
  refine strS_cg hO (fun r c h1 h2 h3 => ?_) q
  have mo := dfB_mono I O (r + 1) 8 h1
  have es : dfB I O (r + 1) = dfB I O r + (O r - I r) := rfl
  exact h _ (by omega)
/-- the reference puts the word into the skew shape -/
theorem R_isStrict (hA : Inj A) {i o : Nat} {V : Nat → Nat} {M : Nat → Nat → Nat → Nat} {L : Nat → Nat → Nat} (hi : i < 4) (ho : o < 4) (hS : ∀ i, i < 4 → okS (S i)) (hIO : ∀ s, S i s ≤ S o s) (hn : dfB (S i) (S o) 8 ≤ 24) (hV : ∀ k, k < dfB (S i) (S o) 8 → V k < 100) (hob : rObj A F th aw) (hs : rShp A F S) (h55 : F (A 55) = cW V) (h53 : F (A 53) = cM M) (h54 : F (A 54) = cL L) : ∃ (z : Bool) (F' : Mem) (T' : Nat → Nat → Nat), mX10_isStrict F (A 49) (iN i) (iN o) = some (bI z, F') ∧ F' (A 53) = cM (upK M 1 T') ∧ F' (A 54) = cL (upK L 1 I0) ∧ (z = true ↔ strS (skF V (S i) (S o)) (S i) (S o)) ∧ Agr A [53, 54] F F' := by
  have FB := FU_big
  obtain ⟨fs, hobj⟩ := rObj_ob hob
  obtain ⟨cd, od, o1⟩ := id hob
  have hR : isR F (A 49) (rfs A th (bI aw) cd od) (A 53) (A 54) M L := ⟨o1, rfl, rfl, h53, h54⟩
  have cl := X10_clear hR (k := 1) (by omega)
  have k1 : Agr A [53, 54] F (va_up F (A 54) (cL (upK L 1 I0))) := (Agr.refl A _ F).up hA (by omega) (by simp)
  have g53 : (va_up F (A 54) (cL (upK L 1 I0))) (A 53) = cM M := (up_ne (hA.ne (by omega) (by omega) (by omega))).trans h53
  have g54 : (va_up F (A 54) (cL (upK L 1 I0))) (A 54) = cL (upK L 1 I0) := up_eq _ _ _
  generalize hF1 : va_up F (A 54) (cL (upK L 1 I0)) = F1 at *
  obtain ⟨z, T', a1, a2, a3, a4⟩ := R_is14 hA hi ho (fun i hi k => okS_le (hS i hi) k) hIO hn hV 8 FU true F1 M (Nat.le_refl _) (by omega) (rObj_fr k1 hob (by simp)) (rShp_fr k1 hs (by simp)) ((k1 55 (by omega) (by simp)).trans h55) g53 (fun s d w1 w2 => by omega)
  rw [Nat.sub_self, show iN 8 + (-1) = (7 : Int32) from by decide] at a1
  refine ⟨z, _, T', ?_, up_eq _ _ _, (up_ne (hA.ne (by omega) (by omega) (by omega))).trans g54, ?_, k1.up hA (by omega) (by simp)⟩
  · unfold mX10_isStrict
    rw [hobj, Option.bind_some, show mX10_clear F (A 49) 1 = _ from cl, Option.bind_some]
    exact a1
  · have e1 : z = true ↔ strR T' (S i) (S o) := by
      rw [a4]
      exact ⟨fun w r c h1 h2 h3 => w.2 r c h1 h2 h3, fun w => ⟨rfl, fun r c h1 h2 h3 => w r c h1 h2 h3⟩⟩
    rw [e1, ← strS_iff (hS i hi).1 (hS o ho).1]
    exact ⟨fun w => strS_cg (hS o ho).1 (fun r c h1 h2 h3 => a3 r c h1 h2 h3) w, fun w => strS_cg (hS o ho).1 (fun r c h1 h2 h3 => (a3 r c h1 h2 h3).symm) w⟩
theorem R_rectify (hA : Inj A) (h : RR A F S W N PT PO QT QO aw th) (hS : ∀ i, i < 4 → okS (S i)) (hw : okW W N) {i o j : Nat} (hi : i < 4) (ho : o < 4) (hj : j < 2) (x : Int32) : (¬ rq2 x (S i) (S o) → ∃ F', mX10_rectify F (A 49) (iN i) (iN o) (iN j) x = some (0, F') ∧ RR A F' S W N PT PO QT QO aw 2 ∧ Agr A RTs F F') ∧ (rq2 x (S i) (S o) → N j ≠ dfB (S i) (S o) 8 → ∃ F', mX10_rectify F (A 49) (iN i) (iN o) (iN j) x = some (0, F') ∧ RR A F' S W N PT PO QT QO aw 3 ∧ Agr A RTs F F') ∧ (rq2 x (S i) (S o) → N j = dfB (S i) (S o) 8 → ¬ strS (skF (W j) (S i) (S o)) (S i) (S o) → ∃ F', mX10_rectify F (A 49) (iN i) (iN o) (iN j) x = some (0, F') ∧ RR A F' S W N PT PO QT QO aw 4 ∧ Agr A RTs F F') ∧ (rq2 x (S i) (S o) → N j = dfB (S i) (S o) 8 → strS (skF (W j) (S i) (S o)) (S i) (S o) → ∀ PT' PO', tabS PT' I0 PO' = wT W N j → ∃ F', mX10_rectify F (A 49) (iN i) (iN o) (iN j) x = some (iN (boxes (S i) 8), F') ∧ RR A F' S W N PT' PO' QT QO true 0 ∧ Agr A RTs F F') := by
  have FB := FU_big
  obtain ⟨w1, w2⟩ := hw j hj
  have oI := hS i hi
  have oO := hS o ho
  obtain ⟨fs, hobj⟩ := rObj_ob h.1
  obtain ⟨z, z1, z2⟩ := R_isWithin h.1 h.2.1 (fun i hi k => okS_le (hS i hi) k) hi ho
  have st : mX10_rectify F (A 49) (iN i) (iN o) (iN j) x = if x < 0 then fX10_rectify_75 (A 49) (iN i) (iN o) (iN j) (A 49) 2 F else if 2 < x then fX10_rectify_75 (A 49) (iN i) (iN o) (iN j) (A 49) 2 F else if bI z = 0 then fX10_rectify_75 (A 49) (iN i) (iN o) (iN j) (A 49) 2 F else if iN (N j) = iN (boxes (S o) 8) - iN (boxes (S i) 8) then fX10_rectify_75 (A 49) (iN i) (iN o) (iN j) (A 49) 0 F else fX10_rectify_75 (A 49) (iN i) (iN o) (iN j) (A 49) 3 F := by
    obtain ⟨_, g, g1, g2⟩ := h.2.2.1
    unfold mX10_rectify
    rw [R_slot hi, Option.bind_some, if_neg ne10]
    simp only
    rw [R_slot ho, Option.bind_some, if_neg ne10]
    simp only
    rw [R_word hj, Option.bind_some, if_neg ne10]
    simp only
    rw [hobj, Option.bind_some, z1, Option.bind_some]
    simp only
    rw [R_g3 h.1, Option.bind_some, rdI_at g1 hj (by omega), Option.bind_some, g2 j hj, hobj, Option.bind_some, R_boxesOf h.1 h.2.1 ho, Option.bind_some]
    simp only
    rw [hobj, Option.bind_some, R_boxesOf h.1 h.2.1 hi, Option.bind_some]
  have e32 : (2 : Int32) < x ↔ iN 3 ≤ x := by
    rw [Int32.lt_iff_toInt_lt, Int32.le_iff_toInt_le]
    have e1 : (2 : Int32).toInt = 2 := rfl
    have e2 : (iN 3).toInt = 3 := rfl
    omega
  have zq : ¬ x < 0 → ¬ iN 3 ≤ x → (z = true ↔ rq2 x (S i) (S o)) := fun a b => by
    rw [z2]
    exact ⟨fun w => ⟨a, b, w⟩, fun w => w.2.2⟩
  have main : rq2 x (S i) (S o) → (N j = dfB (S i) (S o) 8 ↔ iN (N j) = iN (boxes (S o) 8) - iN (boxes (S i) 8)) := fun q => by
    have e := dfB_boxes (rq2_le oI q) 8
    have b := oO.2.2
    rw [iN_sub (by omega), iN_inj (by omega) (by omega), e, Nat.add_sub_cancel_left]
  have bad : ∀ t : Int32, ¬ t ≤ 0 → ∃ F', fX10_rectify_75 (A 49) (iN i) (iN o) (iN j) (A 49) t F = some (0, F') ∧ RR A F' S W N PT PO QT QO aw t ∧ Agr A RTs F F' := fun t ht => by
    obtain ⟨F', e, h', k⟩ := RR_th hA h t
    refine ⟨F', ?_, h', k.mono (RTs_of (fun t q => by simp at q; omega))⟩
    unfold fX10_rectify_75
    rw [e, Option.bind_some, rObj_th h'.1, Option.bind_some, if_neg ht]
  have good : rq2 x (S i) (S o) → N j = dfB (S i) (S o) 8 → mX10_rectify F (A 49) (iN i) (iN o) (iN j) x = fX10_rectify_75 (A 49) (iN i) (iN o) (iN j) (A 49) 0 F := fun q qn => by
    rw [st, if_neg q.1, if_neg (fun w => q.2.1 (e32.mp w)), (zq q.1 q.2.1).mpr q, if_neg (show ¬ bI true = 0 from ne10), if_pos ((main q).mp qn)]
  -- as far as the filling
  have half : rq2 x (S i) (S o) → N j = dfB (S i) (S o) 8 → ∃ (z' : Bool) (F4 : Mem) (V : Nat → Nat), RR A F4 S W N PT PO QT QO aw 0 ∧ Agr A RTs F F4 ∧ F4 (A 55) = cW V ∧ (∀ k, k < N j → V k = W j k) ∧ (z' = true ↔ strS (skF (W j) (S i) (S o)) (S i) (S o)) ∧ fX10_rectify_75 (A 49) (iN i) (iN o) (iN j) (A 49) 0 F = if bI z' = 0 then ((obj F4 (A 49) 9).bind fun _ => (mX10_fail F4 (A 49) 4).bind fun v103 => some (v103.1, v103.2)) else ((gfR F4 (A 49) 9 3).bind fun v110 => (rdI F4 0 v110 (iN j)).bind fun v114 => (obj F4 (A 49) 9).bind fun _ => (mX10_insertRow F4 (A 49) 0 v114).bind fun v115 => (pf v115 (A 49) 9 6 (.int 1)).bind fun F120 => (obj F120 (A 49) 9).bind fun _ => (mX10_boxesOf F120 (A 49) (iN i)).bind fun v125 => some (v125.1, v125.2)) := by
    intro q qn
    obtain ⟨F1, e, h', k⟩ := RR_th hA h 0
    obtain ⟨V, v1, v2⟩ := R_take hA hj w1 h'.1 h'.2.2.1 h'.2.2.2.2.1
    have k2 : Agr A [53, 54, 55] F1 (va_up F1 (A 55) (cW V)) := (Agr.refl A _ F1).up hA (by omega) (by simp)
    have g55 : (va_up F1 (A 55) (cW V)) (A 55) = cW V := up_eq _ _ _
    generalize hF2 : va_up F1 (A 55) (cW V) = F2 at *
    obtain ⟨M, L, m1, m2, m3, m4, m5, m6⟩ := h'.2.2.2.1
    have n53 : F2 (A 53) = cM M := by rw [← hF2]; exact (up_ne (hA.ne (by omega) (by omega) (by omega))).trans m1
    have n54 : F2 (A 54) = cL L := by rw [← hF2]; exact (up_ne (hA.ne (by omega) (by omega) (by omega))).trans m2
    have ob2 := rObj_fr (T := [55]) (F := F1) (F' := F2) (by rw [← hF2]; exact (Agr.refl A _ F1).up hA (by omega) (by simp)) h'.1 (by simp)
    have sh2 := rShp_fr k2 h'.2.1 (by simp)
    obtain ⟨z', F4, T', s1, s2, s3, s4, s5⟩ := R_isStrict hA hi ho hS (rq2_le oI q) (by omega) (fun k hk => by rw [v2 k (by omega)]; have := w2 k (by omega); omega) ob2 sh2 g55 n53 n54
    have k4 : Agr A [53, 54, 55] F1 F4 := k2.trans (s5.mono (fun t w => by simp at w ⊢; omega))
    have g4 : F4 (A 55) = cW V := (s5 55 (by omega) (by simp)).trans g55
    refine ⟨z', F4, V, ⟨rObj_fr k4 h'.1 (by simp), rShp_fr k4 h'.2.1 (by simp), rWrd_fr k4 h'.2.2.1 (by simp), ⟨_, _, s2, s3, fun r => by rw [upK_ne (by omega)]; exact m3 r, fun r c hc => by rw [upK_ne (by omega)]; exact m4 r c hc, fun r => by rw [upK_ne (by omega)]; exact m5 r, fun r c hc => by rw [upK_ne (by omega)]; exact m6 r c hc⟩, rWk_row k4 h'.2.2.2.2 ⟨_, g4⟩ (fun t w => by simp at w; omega)⟩, (k.mono (RTs_of (fun t q => by simp at q; omega))).trans (k4.mono (RTs_of (fun t q => by simp at q; omega))), g4, v2, ?_, ?_⟩
    · rw [s4]
      exact ⟨fun w => strS_sk oO.1 (fun k hk => v2 k (by omega)) w, fun w => strS_sk oO.1 (fun k hk => (v2 k (by omega)).symm) w⟩
    · obtain ⟨fs1, hob1⟩ := rObj_ob h'.1
      obtain ⟨fs2, hob2⟩ := rObj_ob ob2
      unfold fX10_rectify_75
      rw [e, Option.bind_some, rObj_th h'.1, Option.bind_some, if_pos (by decide), hob1, Option.bind_some, v1, Option.bind_some, hob2, Option.bind_some, s1, Option.bind_some]
  refine ⟨fun q => ?_, fun q qn => ?_, fun q qn qs => ?_, fun q qn qs PT' PO' et => ?_⟩
  · obtain ⟨F', a, b, c⟩ := bad 2 (by decide)
    refine ⟨F', ?_, b, c⟩
    rw [st]
    by_cases a1 : x < 0
    · rw [if_pos a1]; exact a
    · rw [if_neg a1]
      by_cases b1 : iN 3 ≤ x
      · rw [if_pos (e32.mpr b1)]; exact a
      · rw [if_neg (fun w => b1 (e32.mp w))]
        have zf : z = false := by
          cases z with
          | false => rfl
          | true => exact absurd ((zq a1 b1).mp rfl) q
        rw [zf, if_pos (show bI false = 0 from rfl)]; exact a
  · obtain ⟨F', a, b, c⟩ := bad 3 (by decide)
    refine ⟨F', ?_, b, c⟩
    rw [st, if_neg q.1, if_neg (fun w => q.2.1 (e32.mp w)), (zq q.1 q.2.1).mpr q, if_neg (show ¬ bI true = 0 from ne10), if_neg (fun w => qn ((main q).mpr w))]
    exact a
  · obtain ⟨z', F4, V, a1, a2, a3, a4, a5, a6⟩ := half q qn
    have zf : z' = false := by
      cases z' with
      | false => rfl
      | true => exact absurd (a5.mp rfl) qs
    subst zf
    obtain ⟨F5, e5, h5, k5⟩ := RR_th hA a1 4
    obtain ⟨fs4, hob4⟩ := rObj_ob a1.1
    refine ⟨F5, ?_, h5, a2.trans (k5.mono (RTs_of (fun t q => by simp at q; omega)))⟩
    rw [good q qn, a6, if_pos (show bI false = 0 from rfl), hob4, Option.bind_some]
    unfold mX10_fail
    rw [e5, Option.bind_some, Option.bind_some]
  · obtain ⟨z', F4, V, a1, a2, a3, a4, a5, a6⟩ := half q qn
    have zt : z' = true := a5.mpr qs
    subst zt
    obtain ⟨fs4, hob4⟩ := rObj_ob a1.1
    obtain ⟨cd, od, o4⟩ := id a1.1
    obtain ⟨M, L, m1, m2, m3, m4, m5, m6⟩ := a1.2.2.2.1
    obtain ⟨_, g, g1, g2⟩ := a1.2.2.1
    have hR : isR F4 (A 49) (rfs A 0 (bI aw) cd od) (A 53) (A 54) M L := ⟨o4, rfl, rfl, m1, m2⟩
    obtain ⟨T5, O5, b1, b2, b3, b4⟩ := X10_insertRow (rw' := A 55) (W := V) (k := 0) (n := N j) hR (by omega) (by omega) rfl a3 (fun k hk => by rw [a4 k hk]; have := w2 k hk; omega)
    have es : seg V 0 (N j) = seg (W j) 0 (N j) := seg_ext _ _ (fun k _ hk => a4 k (by omega))
    rw [es] at b2
    obtain ⟨t1, t2⟩ := tabS_eq (et.trans b2.symm)
    have k5 : Agr A [49, 53, 54] F4 (va_up (va_up F4 (A 53) (cM (upK M 0 T5))) (A 54) (cL (upK L 0 O5))) := ((Agr.refl A _ F4).up hA (by omega) (by simp)).up hA (by omega) (by simp)
    have g53 : (va_up (va_up F4 (A 53) (cM (upK M 0 T5))) (A 54) (cL (upK L 0 O5))) (A 53) = cM (upK M 0 T5) := (up_ne (hA.ne (by omega) (by omega) (by omega))).trans (up_eq _ _ _)
    have g54 : (va_up (va_up F4 (A 53) (cM (upK M 0 T5))) (A 54) (cL (upK L 0 O5))) (A 54) = cL (upK L 0 O5) := up_eq _ _ _
    have ob5 : rObj A (va_up (va_up F4 (A 53) (cM (upK M 0 T5))) (A 54) (cL (upK L 0 O5))) 0 aw := rObj_fr (T := [53, 54]) (((Agr.refl A _ F4).up hA (by omega) (by simp)).up hA (by omega) (by simp)) a1.1 (by simp)
    generalize hF5 : va_up (va_up F4 (A 53) (cM (upK M 0 T5))) (A 54) (cL (upK L 0 O5)) = F5 at *
    obtain ⟨c6, p6, ob6⟩ := rObj_aw hA ob5 true
    have k6 : Agr A [49, 53, 54] F4 (va_up F5 (A 49) c6) := k5.up hA (by omega) (by simp)
    obtain ⟨fs6, hob6⟩ := rObj_ob ob6
    have sh6 := rShp_fr k6 a1.2.1 (by simp)
    refine ⟨va_up F5 (A 49) c6, ?_, ⟨ob6, sh6, rWrd_fr k6 a1.2.2.1 (by simp), ⟨_, _, (up_ne (hA.ne (by omega) (by omega) (by omega))).trans g53, (up_ne (hA.ne (by omega) (by omega) (by omega))).trans g54, fun r => by rw [upK_at, t1 r], fun r c hc => by rw [upK_at, t2 r c hc], fun r => by rw [upK_ne (by omega)]; exact m5 r, fun r c hc => by rw [upK_ne (by omega)]; exact m6 r c hc⟩, rWk_fr k6 a1.2.2.2.2 (fun t w => by simp at w; omega)⟩, a2.trans (k6.mono (RTs_of (fun t q => by simp at q; omega)))⟩
    rw [good q qn, a6, if_neg (show ¬ bI true = 0 from ne10), R_g3 a1.1, Option.bind_some, rdI_at g1 hj (by omega), Option.bind_some, g2 j hj, hob4, Option.bind_some, show mX10_insertRow F4 (A 49) 0 (iN (N j)) = _ from b1, Option.bind_some, show pf F5 (A 49) 9 6 (.int 1) = _ from p6, Option.bind_some, hob6, Option.bind_some, R_boxesOf ob6 sh6 hi, Option.bind_some]
theorem R_rectify_no (hA : Inj A) (h : RR A F S W N PT PO QT QO aw th) {x1 x2 x3 : Int32} (x4 : Int32) (hx : ¬ ((∃ i, i < 4 ∧ x1 = iN i) ∧ (∃ i, i < 4 ∧ x2 = iN i) ∧ ∃ i, i < 2 ∧ x3 = iN i)) : ∃ F', RR A F' S W N PT PO QT QO aw 1 ∧ Agr A RTs F F' ∧ mX10_rectify F (A 49) x1 x2 x3 x4 = some (0, F') := by
  obtain ⟨F', e, h', k⟩ := RR_th hA h 1
  refine ⟨F', h', k.mono (RTs_of (fun t q => by simp at q; omega)), ?_⟩
  have bad : fX10_rectify_75 (A 49) x1 x2 x3 (A 49) 1 F = some (0, F') := by
    unfold fX10_rectify_75
    rw [e, Option.bind_some, rObj_th h'.1, Option.bind_some, if_neg (by decide)]
  unfold mX10_rectify
  rcases i32_cases x1 4 (by omega) with q | ⟨i, q1, q2⟩ | q
  · rw [R_noslot (Or.inl q), Option.bind_some, if_pos rfl]; exact bad
  · rw [show mX10_isSlot F x1 = some (1, F) from by rw [q2]; exact R_slot q1, Option.bind_some, if_neg ne10]
    simp only
    rcases i32_cases x2 4 (by omega) with q | ⟨o, r1, r2⟩ | q
    · rw [R_noslot (Or.inl q), Option.bind_some, if_pos rfl]; exact bad
    · rw [show mX10_isSlot F x2 = some (1, F) from by rw [r2]; exact R_slot r1, Option.bind_some, if_neg ne10]
      simp only
      rcases i32_cases x3 2 (by omega) with q | ⟨j, t1, t2⟩ | q
      · rw [R_noword (Or.inl q), Option.bind_some, if_pos rfl]; exact bad
      · exact absurd ⟨⟨i, q1, q2⟩, ⟨o, r1, r2⟩, j, t1, t2⟩ hx
      · rw [R_noword (Or.inr q), Option.bind_some, if_pos rfl]; exact bad
    · rw [R_noslot (Or.inr q), Option.bind_some, if_pos rfl]; exact bad
  · rw [R_noslot (Or.inr q), Option.bind_some, if_pos rfl]; exact bad
end RECR
