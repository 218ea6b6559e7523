section TURNR
variable {A : Nat → Nat} {F : Mem} {S W : Nat → Nat → Nat} {N : Nat → Nat} {PT : Nat → Nat → Nat} {PO : Nat → Nat} {QT : Nat → Nat → Nat} {QO : Nat → Nat} {aw : Bool} {th : Int32}
theorem X10_st23 {b bx ln : Nat} {fs : List Value} {M : Nat → Nat → Nat → Nat} {L : Nat → Nat → Nat} (h : isR F b fs bx ln M L) (hl : ∀ s d, d < L 0 s → M 0 s d ≤ 24) {n r : Nat} (hn : n ≤ 24) (hr : r < 24) (hL : L 0 r ≤ 24) (K : Nat → Int32 → Int32 → Int32 → Int32 → Mem → Option (Int32 × Mem)) : ∀ (m f c B : Nat) (z : Bool), c + m = L 0 r → m < f → B < 2 ^ 25 → ∃ z' : Bool, fX10_isStandard_23 K f b (iN n) (iN B) (bI z) (iN r) (iN c) F = K b (iN n) (iN (msk B (seg (M 0 r) c m))) (bI z') (iN r) F ∧ (z' = true ↔ z = true ∧ cdS n B (seg (M 0 r) c m)) := by
  intro m
  induction m with
  | zero =>
    intro f c B z h1 h2 hB
    obtain ⟨f, rfl⟩ : ∃ m, f = m + 1 := ⟨f - 1, by omega⟩
    refine ⟨z, ?_, fun q => ⟨q, trivial⟩, fun q => q.1⟩
    rw [fX10_isStandard_23.eq_2, gfR_at h.1 h.2.2.1, Option.bind_some, X10_rdL0 h hr, Option.bind_some, if_pos ((iN_le (by omega) (by omega)).mpr (by omega))]
    rfl
  | succ m ih =>
    intro f c B z h1 h2 hB
    obtain ⟨f, rfl⟩ : ∃ m, f = m + 1 := ⟨f - 1, by omega⟩
    have l24 := hl r c (by omega)
    have pl : 2 ^ (M 0 r c) < 2 ^ 25 := Nat.pow_lt_pow_right (by omega) (by omega)
    have b1 : B ||| 2 ^ (M 0 r c) < 2 ^ 25 := Nat.or_lt_two_pow hB pl
    have step : ∀ z1 : Bool, (z1 = true ↔ z = true ∧ M 0 r c ≤ n ∧ B.testBit (M 0 r c) = false) → ∃ z' : Bool, fX10_isStandard_74 (fX10_isStandard_23 K f) K b (iN n) (iN B) (iN r) (iN c) (iN (M 0 r c)) (bI z1) F = K b (iN n) (iN (msk B (seg (M 0 r) c (m + 1)))) (bI z') (iN r) F ∧ (z' = true ↔ z = true ∧ cdS n B (seg (M 0 r) c (m + 1))) := by
      intro z1 hz
      obtain ⟨z', e1, e2⟩ := ih f (c + 1) (B ||| 2 ^ (M 0 r c)) z1 (by omega) (by omega) b1
      refine ⟨z', ?_, ?_⟩
      · unfold fX10_isStandard_74
        rw [i_shl (by omega), iN_or, iN_one, e1]
        rfl
      · rw [e2, hz]
        show _ ↔ z = true ∧ (M 0 r c ≤ n ∧ B.testBit (M 0 r c) = false ∧ cdS n (B ||| 2 ^ (M 0 r c)) (seg (M 0 r) (c + 1) m))
        exact ⟨fun ⟨⟨a, b, c⟩, d⟩ => ⟨a, b, c, d⟩, fun ⟨a, b, c, d⟩ => ⟨⟨a, b, c⟩, d⟩⟩
    rw [fX10_isStandard_23.eq_2, gfR_at h.1 h.2.2.1, Option.bind_some, X10_rdL0 h hr, Option.bind_some, if_neg (fun w => by have := (iN_le (by omega) (by omega)).mp w; omega), gfR_at h.1 h.2.1, Option.bind_some, show mX10_box F 0 (iN r) (iN c) = _ from X10_box F 0 r c, Option.bind_some]
    simp only
    rw [X10_rd h (by omega) hr (by omega), Option.bind_some]
    cases z with
    | false =>
      rw [if_pos (show bI false = 0 from rfl)]
      exact step false ⟨(fun q => by cases q), (fun q => by cases q.1)⟩
    | true =>
      rw [if_neg (show ¬ bI true = 0 from ne10)]
      by_cases q : n < M 0 r c
      · rw [if_pos ((iN_lt (by omega) (by omega)).mpr q)]
        exact step false ⟨(fun w => by cases w), fun w => (by have := w.2.1; omega)⟩
      · rw [if_neg (fun w => q ((iN_lt (by omega) (by omega)).mp w)), i_bit (by omega) (by omega)]
        cases w : B.testBit (M 0 r c) with
        | false =>
          rw [if_pos (show iN (if false = true then 1 else 0) = 0 by decide)]
          exact step true ⟨fun _ => ⟨rfl, by omega, w⟩, fun _ => rfl⟩
        | true =>
          rw [if_neg (show ¬ iN (if true = true then 1 else 0) = 0 by decide)]
          exact step false ⟨(fun v => by cases v), fun v => (by rw [w] at v; cases v.2.2)⟩
theorem X10_st13 {b bx ln : Nat} {fs : List Value} {M : Nat → Nat → Nat → Nat} {L : Nat → Nat → Nat} (h : isR F b fs bx ln M L) (hl : ∀ s d, d < L 0 s → M 0 s d ≤ 24) {n : Nat} (hn : n ≤ 24) (hL : ∀ s, L 0 s ≤ 24) : ∀ (m f r B : Nat) (z : Bool), r + m = 24 → m < f → B < 2 ^ 25 → ∃ z' : Bool, fX10_isStandard_13 f b (iN n) (iN B) (bI z) (iN r) F = some (bI z', F) ∧ (z' = true ↔ z = true ∧ cdS n B (ltF (M 0) (L 0) r m)) := by
  have FB := FU_big
  intro m
  induction m with
  | zero =>
    intro f r B z h1 h2 hB
    obtain ⟨f, rfl⟩ : ∃ m, f = m + 1 := ⟨f - 1, by omega⟩
    refine ⟨z, ?_, fun q => ⟨q, trivial⟩, fun q => q.1⟩
    rw [fX10_isStandard_13.eq_2, show r = 24 by omega, if_pos (by decide)]
    cases z <;> rfl
  | succ m ih =>
    intro f r B z h1 h2 hB
    obtain ⟨f, rfl⟩ : ∃ m, f = m + 1 := ⟨f - 1, by omega⟩
    have hr := hL r
    obtain ⟨z1, a1, a2⟩ := X10_st23 h hl (n := n) (r := r) hn (by omega) hr (fun (x0 : Nat) (x1 : Int32) (x2 : Int32) (x3 : Int32) (x4 : Int32) (F : Mem) => (fX10_isStandard_13 f) x0 x1 x2 x3 (x4 + 1) F) (L 0 r) FU 0 B z (by omega) (by omega) hB
    have b1 : msk B (seg (M 0 r) 0 (L 0 r)) < 2 ^ 25 := msk_lt _ _ hB (fun x hx => by
      obtain ⟨d, _, d2, d3⟩ := seg_mem hx
      rw [d3]
      exact hl r d (by omega))
    obtain ⟨z', e1, e2⟩ := ih f (r + 1) _ z1 (by omega) (by omega) b1
    refine ⟨z', ?_, ?_⟩
    · rw [fX10_isStandard_13.eq_2, if_neg (show ¬ (24 : Int32) ≤ iN r from fun w => by have := (iN_le (a := 24) (by omega) (by omega)).mp w; omega)]
      refine Eq.trans a1 ?_
      rw [iN_one]
      exact e1
    · rw [e2, a2]
      show _ ↔ z = true ∧ cdS n B (seg (M 0 r) 0 (L 0 r) ++ ltF (M 0) (L 0) (r + 1) m)
      rw [cdS_app, and_assoc]
theorem boxes_hi {O : Nat → Nat} (h : ∀ s, 16 ≤ s → O s = 0) : boxes O 24 = boxes O 16 := by
  have z : ∀ m, boxes O (16 + m) = boxes O 16 := by
    intro m
    induction m with
    | zero => rfl
    | succ m ih =>
      show boxes O (16 + m) + O (16 + m) = _
      rw [ih, h _ (by omega)]
      rfl
  exact z 8
theorem X10_isStandard {b bx ln : Nat} {fs : List Value} {M : Nat → Nat → Nat → Nat} {L : Nat → Nat → Nat} (h : isR F b fs bx ln M L) (hb : obj F b 9 = some fs) (e1 : ∀ r, L 0 r = PO r) (e2 : ∀ r c, c < PO r → M 0 r c = PT r c) (hP : okP PT PO) : ∃ z : Bool, mX10_isStandard F b = some (bI z, F) ∧ (z = true ↔ stdL (rdF (tabS PT I0 PO) 0 16)) := by
  have FB := FU_big
  obtain ⟨p1, p2, p3, p4⟩ := hP
  have eL : L 0 = PO := funext e1
  have et : tabS (M 0) I0 (L 0) = tabS PT I0 PO := tabS_cg e1 (fun s d hd => e2 s d (by rw [← e1 s]; exact hd))
  have pm := ltF_perm (M 0) (L 0) 24 0
  rw [et, rdF_24 p2.2] at pm
  have ln' : (ltF (M 0) (L 0) 0 24).length = boxes PO 16 := by rw [pm.length_eq, rdF_boxes]
  have ct := X10_count h (k := 0) (by omega)
  rw [eL, boxes_hi p2.2, ← ln'] at ct
  have pos : ∀ x, x ∈ ltF (M 0) (L 0) 0 24 → 1 ≤ x := fun x hx => by
    obtain ⟨s, d, _, s2, s3⟩ := rdF_let.mp (pm.mem_iff.mp hx)
    rw [s3]
    exact (p4 s d s2).1
  obtain ⟨z, a1, a2⟩ := X10_st13 h (fun s d hd => by
    rw [e1 s] at hd
    rw [e2 s d hd]
    exact (p4 s d hd).2) (n := (ltF (M 0) (L 0) 0 24).length) (by omega) (fun s => by rw [e1 s]; exact p2.1 s) 24 FU 0 0 true (by omega) (by omega) (by decide)
  refine ⟨z, ?_, ?_⟩
  · unfold mX10_isStandard
    rw [hb, Option.bind_some, show mX10_count F b 0 = _ from ct, Option.bind_some]
    exact a1
  · rw [a2, cdS_std pos, stdL_perm pm]
    exact ⟨fun w => w.2, fun w => ⟨rfl, w⟩⟩
theorem R_turn (hA : Inj A) (h : RR A F S W N PT PO QT QO aw th) (hP : okP PT PO) : (¬ stdL (rdF (tabS PT I0 PO) 0 16) → ∃ F', mX10_turn F (A 49) = some F' ∧ RR A F' S W N PT PO QT QO aw 1 ∧ Agr A RTs F F') ∧ (stdL (rdF (tabS PT I0 PO) 0 16) → ∀ PT', tabS PT' I0 PO = insF T0 (star (boxes PO 16) (rdF (tabS PT I0 PO) 0 16)) → ∃ F', mX10_turn F (A 49) = some F' ∧ RR A F' S W N PT' PO QT QO true 0 ∧ Agr A RTs F F') := by
  have FB := FU_big
  have hP' := hP
  obtain ⟨p1, p2, p3, p4⟩ := hP
  have zz : ∃ z : Bool, mX10_isStandard F (A 49) = some (bI z, F) ∧ (z = true ↔ stdL (rdF (tabS PT I0 PO) 0 16)) := by
    obtain ⟨M, L, m1, m2, m3, m4, m5, m6⟩ := h.2.2.2.1
    obtain ⟨cd, od, o1⟩ := id h.1
    exact X10_isStandard (b := A 49) (bx := A 53) (ln := A 54) (M := M) (L := L) ⟨o1, rfl, rfl, m1, m2⟩ (obj_of o1) m3 m4 hP'
  obtain ⟨z, z1, z2⟩ := zz
  obtain ⟨fs, hob⟩ := rObj_ob h.1
  constructor
  · intro q
    have zf : z = false := by
      cases z with
      | false => rfl
      | true => exact absurd (z2.mp rfl) q
    subst zf
    obtain ⟨F', e, h', k⟩ := RR_th hA h 1
    refine ⟨F', ?_, h', k.mono (RTs_of (fun t q => by simp at q; omega))⟩
    unfold mX10_turn fX10_turn_13
    rw [hob, Option.bind_some, z1, Option.bind_some, if_pos (show bI false = 0 from rfl)]
    simp only
    rw [e, Option.bind_some, rObj_th h'.1, Option.bind_some, if_neg (by decide)]
  · intro q PT' ev
    have zt : z = true := z2.mpr q
    subst zt
    obtain ⟨F1, e, h', k⟩ := RR_th hA h 0
    obtain ⟨M, L, m1, m2, m3, m4, m5, m6⟩ := h'.2.2.2.1
    obtain ⟨cd, od, o1⟩ := id h'.1
    obtain ⟨fs1, hob1⟩ := rObj_ob h'.1
    have hR1 : isR F1 (A 49) (rfs A 0 (bI aw) cd od) (A 53) (A 54) M L := ⟨o1, rfl, rfl, m1, m2⟩
    obtain ⟨V, hV⟩ := ar_cW h'.2.2.2.2.1
    have et : tabS (M 0) I0 (L 0) = tabS PT I0 PO := tabS_cg m3 (fun s d hd => m4 s d (by rw [← m3 s]; exact hd))
    have rd := X10_reading (rw' := A 55) hR1 rfl hV (fun s => by rw [m3 s]; exact p2.1 s) (by rw [et, rdF_24 p2.2, rdF_boxes]; omega)
    have ll : (rdF (tabS PT I0 PO) 0 16).length = boxes PO 16 := rdF_boxes PT PO 16
    rw [et, rdF_24 p2.2, ll] at rd
    generalize hl : rdF (tabS PT I0 PO) 0 16 = l at *
    have hVl : ∀ i, i < boxes PO 16 → 1 ≤ putL V 0 l i ∧ putL V 0 l i ≤ boxes PO 16 := fun i hi => by
      have := q.2 _ (putL_mem (V := V) (l := l) (k := i) (by omega))
      omega
    have sgl : seg (putL V 0 l) 0 (boxes PO 16) = l := by rw [← ll]; exact putL_seg l V 0
    have nb : A 49 ≠ A 55 := hA.ne (by omega) (by omega) (by omega)
    have r0 : revW (putL V 0 l) (boxes PO 16) 0 = putL V 0 l := by
      funext i
      unfold revW
      rw [if_neg (by omega)]
    have c0 : ∀ U : Nat → Nat, comW U (boxes PO 16) 0 = U := fun U => by
      funext i
      unfold comW
      rw [if_neg (by omega)]
    have t31 := X10_t31 (K := fun (x0 : Nat) (x1 : Int32) (F : Mem) => fX10_turn_82 (fun (x0 : Nat) (x1 : Int32) (F : Mem) => (obj F x0 9).bind fun _ => (mX10_insertRow F x0 0 x1).bind fun v112 => (pf v112 x0 9 6 (.int 1)).bind fun F117 => some F117) FU x0 x1 0 F) (b := A 49) (rw' := A 55) (N := boxes PO 16) (fs := rfs A 0 (bI aw) cd od) (W := putL V 0 l) p3 rfl (boxes PO 16) FU 0 (va_up F1 (A 55) (cW (putL V 0 l))) (by omega) (by omega) ((up_ne nb).trans o1) (by rw [r0]; exact up_eq _ _ _)
    rw [up_up] at t31
    have rvb : ∀ i, i < boxes PO 16 → revW (putL V 0 l) (boxes PO 16) (boxes PO 16) i ≤ boxes PO 16 + 1 := fun i hi => by
      unfold revW
      rw [if_pos ⟨hi, by omega⟩]
      have := hVl (boxes PO 16 - 1 - i) (by omega)
      omega
    have t82 := X10_t82 (K := fun (x0 : Nat) (x1 : Int32) (F : Mem) => (obj F x0 9).bind fun _ => (mX10_insertRow F x0 0 x1).bind fun v112 => (pf v112 x0 9 6 (.int 1)).bind fun F117 => some F117) (b := A 49) (rw' := A 55) (N := boxes PO 16) (fs := rfs A 0 (bI aw) cd od) (W := revW (putL V 0 l) (boxes PO 16) (boxes PO 16)) p3 rfl rvb (boxes PO 16) FU 0 (va_up F1 (A 55) (cW (revW (putL V 0 l) (boxes PO 16) (boxes PO 16)))) (by omega) (by omega) ((up_ne nb).trans o1) (by rw [c0]; exact up_eq _ _ _)
    rw [up_up] at t82
    have tw := turn_word (putL V 0 l) (boxes PO 16)
    rw [sgl] at tw
    generalize hU : comW (revW (putL V 0 l) (boxes PO 16) (boxes PO 16)) (boxes PO 16) (boxes PO 16) = U at *
    have hU100 : ∀ i, i < boxes PO 16 → U i < 100 := fun i hi => by
      have m := seg_in (f := U) (boxes PO 16) 0 i (Nat.zero_le _) (by omega)
      rw [tw] at m
      have := star_let (n := boxes PO 16) (fun y hy => by have := q.2 y hy; omega) _ m
      omega
    have k2 : Agr A [49, 53, 54, 55] F1 (va_up F1 (A 55) (cW U)) := (Agr.refl A _ F1).up hA (by omega) (by simp)
    have kk2 : Agr A [55] F1 (va_up F1 (A 55) (cW U)) := (Agr.refl A _ F1).up hA (by omega) (by simp)
    have g55 : (va_up F1 (A 55) (cW U)) (A 55) = cW U := up_eq _ _ _
    generalize hF2 : va_up F1 (A 55) (cW U) = F2 at *
    have o2 : F2 (A 49) = .inr (9, rfs A 0 (bI aw) cd od) := (kk2 49 (by omega) (by simp)).trans o1
    have hR2 : isR F2 (A 49) (rfs A 0 (bI aw) cd od) (A 53) (A 54) M L := ⟨o2, rfl, rfl, (kk2 53 (by omega) (by simp)).trans m1, (kk2 54 (by omega) (by simp)).trans m2⟩
    obtain ⟨T5, O5, b1, b2, b3, b4⟩ := X10_insertRow (rw' := A 55) (W := U) (k := 0) (n := boxes PO 16) hR2 (by omega) p3 rfl g55 hU100
    rw [tw] at b2
    obtain ⟨t1, t2⟩ := tabS_eq (ev.trans b2.symm)
    have k5 : Agr A [49, 53, 54, 55] F1 (va_up (va_up F2 (A 53) (cM (upK M 0 T5))) (A 54) (cL (upK L 0 O5))) := (k2.up hA (by omega) (by simp)).up hA (by omega) (by simp)
    have g53 : (va_up (va_up F2 (A 53) (cM (upK M 0 T5))) (A 54) (cL (upK L 0 O5))) (A 53) = cM (upK M 0 T5) := (up_ne (hA.ne (by omega) (by omega) (by omega))).trans (up_eq _ _ _)
    have g54 : (va_up (va_up F2 (A 53) (cM (upK M 0 T5))) (A 54) (cL (upK L 0 O5))) (A 54) = cL (upK L 0 O5) := up_eq _ _ _
    have ob5 : rObj A (va_up (va_up F2 (A 53) (cM (upK M 0 T5))) (A 54) (cL (upK L 0 O5))) 0 aw := rObj_fr (T := [53, 54]) (F := F2) (((Agr.refl A _ F2).up hA (by omega) (by simp)).up hA (by omega) (by simp)) ⟨cd, od, o2⟩ (by simp)
    have e55 : (va_up (va_up F2 (A 53) (cM (upK M 0 T5))) (A 54) (cL (upK L 0 O5))) (A 55) = cW U := (up_ne (hA.ne (by omega) (by omega) (by omega))).trans ((up_ne (hA.ne (by omega) (by omega) (by omega))).trans g55)
    generalize hF5 : va_up (va_up F2 (A 53) (cM (upK M 0 T5))) (A 54) (cL (upK L 0 O5)) = F5 at *
    obtain ⟨c6, p6, ob6⟩ := rObj_aw hA ob5 true
    have k6 : Agr A [49, 53, 54, 55] F1 (va_up F5 (A 49) c6) := k5.up hA (by omega) (by simp)
    refine ⟨va_up F5 (A 49) c6, ?_, ⟨ob6, rShp_fr k6 h'.2.1 (by simp), rWrd_fr k6 h'.2.2.1 (by simp), ⟨_, _, (up_ne (hA.ne (by omega) (by omega) (by omega))).trans g53, (up_ne (hA.ne (by omega) (by omega) (by omega))).trans g54, fun r => by rw [upK_at, t1 r], fun r c hc => by rw [upK_at, t2 r c hc], fun r => by rw [upK_ne (by omega)]; exact m5 r, fun r c hc => by rw [upK_ne (by omega)]; exact m6 r c hc⟩, rWk_row k6 h'.2.2.2.2 ⟨_, (up_ne (hA.ne (by omega) (by omega) (by omega))).trans e55⟩ (fun t w => by simp at w; omega)⟩, (k.mono (RTs_of (fun t q => by simp at q; omega))).trans (k6.mono (RTs_of (fun t q => by simp at q; omega)))⟩
    unfold mX10_turn fX10_turn_13
    rw [hob, Option.bind_some, z1, Option.bind_some, if_neg (show ¬ bI true = 0 from ne10)]
    simp only
    rw [e, Option.bind_some, rObj_th h'.1, Option.bind_some, if_pos (by decide), hob1, Option.bind_some, rd, Option.bind_some]
    refine Eq.trans t31 (Eq.trans t82 ?_)
    rw [obj_of o2, Option.bind_some, show mX10_insertRow F2 (A 49) 0 (iN (boxes PO 16)) = _ from b1, Option.bind_some, show pf F5 (A 49) 9 6 (.int 1) = _ from p6, Option.bind_some]
end TURNR
