section EQUIV5
variable {A : Nat → Nat} {F : Mem} {S W : Nat → Nat → Nat} {N : Nat → Nat} {PT : Nat → Nat → Nat} {PO : Nat → Nat} {QT : Nat → Nat → Nat} {QO : Nat → Nat} {aw : Bool} {th : Int32}
theorem tabS_lt {T : Nat → Nat → Nat} {O : Nat → Nat} (h : ∀ s d, d < O s → T s d < 100) : ∀ s x, x ∈ tabS T I0 O s → x < 100 := by
  intro s x hx
  obtain ⟨d, _, d2, d3⟩ := seg_mem hx
  rw [d3]
  exact h s d (by simpa using d2)
theorem cdL_lt {P : Tab} (h : ∀ s x, x ∈ P s → x < 100) : ∀ (m r x : Nat), x ∈ cdL P r m → x < 100 * (r + m) + 100 := by
  intro m
  induction m with
  | zero => intro r x q; cases q
  | succ m ih =>
    intro r x q
    rcases List.mem_append.mp q with q | q
    · obtain ⟨y, hy, e⟩ := List.mem_map.mp q
      have := h r y hy
      omega
    · have := ih (r + 1) x q
      omega
theorem R_equivalent (hA : Inj A) (h : RR A F S W N PT PO QT QO aw th) (hw : okW W N) : ∃ (z : Bool) (F' : Mem), mX10_equivalent F (A 49) = some (bI z, F') ∧ (z = true ↔ wT W N 0 = wT W N 1) ∧ RR A F' S W N PT PO QT QO aw 0 ∧ Agr A RTs F F' := by
  have FB := FU_big
  obtain ⟨F1, e, h', k⟩ := RR_th hA h 0
  obtain ⟨w1, w2, w3, w4, w5, w6, ⟨g61, w7⟩, w8, w9, w10, w11⟩ := id h'.2.2.2.2
  obtain ⟨M, L, m1, m2, m3, m4, m5, m6⟩ := h'.2.2.2.1
  have n0 := (hw 0 (by omega)).1
  have n1 := (hw 1 (by omega)).1
  obtain ⟨F2, F3, T0', O0', a1, a2, a3, a4, a5, a6, a7, a8, a9, a10⟩ := R_ins1 hA (i := 0) (k := 1) (by omega) (by omega) hw h'.1 h'.2.2.1 w1 m1 m2
  have o2 := rObj_fr a2 h'.1 (by simp)
  have wd2 := rWrd_fr a2 h'.2.2.1 (by simp)
  obtain ⟨cd, od, o3⟩ := rObj_fr a10 h'.1 (by simp)
  have wd3 := rWrd_fr a10 h'.2.2.1 (by simp)
  have p4 : pf F3 (A 49) 9 13 (.int 0) = some (va_up F3 (A 49) (.inr (9, rfs A 0 (bI aw) (iN 0) od))) := pf_at o3 (by simp [rfs])
  have k4 : Agr A [49, 53, 54, 55, 61] F1 (va_up F3 (A 49) (.inr (9, rfs A 0 (bI aw) (iN 0) od))) := (a10.mono (fun t q => by simp at q ⊢; omega)).up hA (by omega) (by simp)
  have o4 : rCd A (va_up F3 (A 49) (.inr (9, rfs A 0 (bI aw) (iN 0) od))) 0 aw 0 od := up_eq _ _ _
  have h53 : (va_up F3 (A 49) (.inr (9, rfs A 0 (bI aw) (iN 0) od))) (A 53) = cM (upK M 1 T0') := (up_ne (hA.ne (by omega) (by omega) (by omega))).trans a4
  have h54 : (va_up F3 (A 49) (.inr (9, rfs A 0 (bI aw) (iN 0) od))) (A 54) = cL (upK L 1 O0') := (up_ne (hA.ne (by omega) (by omega) (by omega))).trans a5
  have h61 : (va_up F3 (A 49) (.inr (9, rfs A 0 (bI aw) (iN 0) od))) (A 61) = cJ g61 := (up_ne (hA.ne (by omega) (by omega) (by omega))).trans ((a10 61 (by omega) (by simp)).trans w7)
  have h55 : ar0 (va_up F3 (A 49) (.inr (9, rfs A 0 (bI aw) (iN 0) od))) (A 55) 24 := by
    obtain ⟨f, q⟩ := a9
    exact ⟨f, (up_ne (hA.ne (by omega) (by omega) (by omega))).trans q⟩
  generalize hF4 : va_up F3 (A 49) (.inr (9, rfs A 0 (bI aw) (iN 0) od)) = F4 at *
  have len0 : (cdL (wT W N 0) 0 24).length = N 0 := by
    rw [cdL_word _ (by rw [seg_len]; omega), seg_len]
  have len1 : (cdL (wT W N 1) 0 24).length = N 1 := by
    rw [cdL_word _ (by rw [seg_len]; omega), seg_len]
  have P0 : tabS (upK M 1 T0' 1) I0 (upK L 1 O0' 1) = wT W N 0 := a6
  obtain ⟨F5, g5, p5, b1, b2, b3, b4, b5, b6⟩ := R_eq49 hA (M := upK M 1 T0') (L := upK L 1 O0') (x1 := bI (decide (N 0 = N 1))) (fun r => by have := a7 r; show O0' r ≤ 24; omega) a8 (fun (x0 : Nat) (x1 : Int32) (F : Mem) => (obj F x0 9).bind fun _ => (mX10_take F x0 1).bind fun v120 => (gfR v120 x0 9 3).bind fun v126 => (rdI v120 0 v126 1).bind fun v130 => (obj v120 x0 9).bind fun _ => (mX10_insertRow v120 x0 1 v130).bind fun v131 => fX10_equivalent_138 FU x0 x1 0 0 v131) 24 FU 0 0 F4 g61 (by omega) (by omega) (by rw [P0, len0]; omega) o4 h53 h54 h61
  rw [P0] at b5
  have k5 : Agr A [49, 53, 54, 55, 61] F1 F5 := k4.trans (b6.mono (fun t q => by simp at q ⊢; omega))
  have o5 : rObj A F5 0 aw := ⟨_, _, b2⟩
  have wd5 := rWrd_fr k5 h'.2.2.1 (by simp)
  obtain ⟨F6, F7, T1', O1', c1, c2, c3, c4, c5, c6, c7, c8, c9, c10⟩ := R_ins1 hA (i := 1) (k := 1) (by omega) (by omega) hw o5 wd5 (ar0_fr b6 h55 (by omega) (by simp)) ((b6 53 (by omega) (by simp)).trans h53) ((b6 54 (by omega) (by simp)).trans h54)
  have o6 := rObj_fr c2 o5 (by simp)
  have wd6 := rWrd_fr c2 wd5 (by simp)
  have o7 := rObj_fr c10 o5 (by simp)
  have k7 : Agr A [49, 53, 54, 55, 61] F1 F7 := k5.trans (c10.mono (fun t q => by simp at q ⊢; omega))
  have g7 : F7 (A 61) = cJ g5 := (c10 61 (by omega) (by simp)).trans b3
  have P1 : tabS (upK (upK M 1 T0') 1 T1' 1) I0 (upK (upK L 1 O0') 1 O1' 1) = wT W N 1 := c6
  obtain ⟨d1, d2⟩ := R_eq138 (M := upK (upK M 1 T0') 1 T1') (L := upK (upK L 1 O0') 1 O1') (fun r => by have := c7 r; show O1' r ≤ 24; omega) c8 o7 c4 c5 g7 24 FU 0 0 (by omega) (by omega) (by rw [P1, len1]; omega)
  rw [P1] at d1 d2
  have fin : ∃ z : Bool, fX10_equivalent_138 FU (A 49) (bI (decide (N 0 = N 1))) 0 0 F7 = some (bI z, F7) ∧ (z = true ↔ wT W N 0 = wT W N 1) := by
    by_cases q : N 0 = N 1
    · rw [decide_eq_true q]
      by_cases mt : mtL g5 0 (cdL (wT W N 1) 0 24)
      · refine ⟨true, d1 mt, fun _ => ?_, fun _ => rfl⟩
        have l0 := tabS_lt a8
        have l1 := tabS_lt c8
        rw [a6] at l0
        rw [c6] at l1
        have eq := mtL_uni _ _ 0 (fun x hx => by have := cdL_lt l0 24 0 x hx; omega) (fun x hx => by have := cdL_lt l1 24 0 x hx; omega) (by rw [len0, len1, q]) b5 mt
        have rows := cdL_inj l0 l1 24 0 eq
        funext s
        by_cases d : s < 24
        · exact rows s (by omega) (by omega)
        · have hg0 := insF_hgt T0_hgt (seg (W 0) 0 (N 0)) s (by rw [seg_len]; omega)
          have hg1 := insF_hgt T0_hgt (seg (W 1) 0 (N 1)) s (by rw [seg_len]; omega)
          exact hg0.trans hg1.symm
      · refine ⟨false, d2 mt, (fun z => by cases z), (fun z => absurd ?_ mt)⟩
        rw [← z]
        exact b5
    · rw [decide_eq_false q]
      refine ⟨false, R_eq138z _ _ _ FU (by omega), (fun z => by cases z), (fun z => absurd ?_ q)⟩
      rw [← len0, ← len1, z]
  obtain ⟨z, f1, f2⟩ := fin
  refine ⟨z, F7, ?_, f2, ⟨o7, rShp_fr k7 h'.2.1 (by simp), rWrd_fr k7 h'.2.2.1 (by simp), ⟨upK (upK M 1 T0') 1 T1', upK (upK L 1 O0') 1 O1', c4, c5, m3, m4, m5, m6⟩, c9, (k7 _ (by omega) (by simp)).trans w2, ar0_fr k7 w3 (by omega) (by simp), ar0_fr k7 w4 (by omega) (by simp), ar0_fr k7 w5 (by omega) (by simp), ar0_fr k7 w6 (by omega) (by simp), ⟨g5, g7⟩, ar1_fr k7 w8 (by omega) (by simp), ar1_fr k7 w9 (by omega) (by simp), ar1_fr k7 w10 (by omega) (by simp), ar0_fr k7 w11 (by omega) (by simp)⟩, (k.mono (RTs_of (fun t q => by simp at q; omega))).trans (k7.mono (RTs_of (fun t q => by simp at q; omega)))⟩
  obtain ⟨fs1, hob1⟩ := rObj_ob h'.1
  obtain ⟨fs2, hob2⟩ := rObj_ob o2
  obtain ⟨fs5, hob5⟩ := rObj_ob o5
  obtain ⟨fs6, hob6⟩ := rObj_ob o6
  obtain ⟨_, sz2, z21, z22⟩ := wd2
  obtain ⟨_, sz3, z31, z32⟩ := wd3
  obtain ⟨_, sz6, z61, z62⟩ := wd6
  have r2 : rdI F2 0 (A 52) 0 = some (iN (N 0)) := by rw [il0, rdI_at z21 (by omega) (by omega), z22 0 (by omega)]
  have r30 : rdI F3 0 (A 52) 0 = some (iN (N 0)) := by rw [il0, rdI_at z31 (by omega) (by omega), z32 0 (by omega)]
  have r31 : rdI F3 0 (A 52) 1 = some (iN (N 1)) := by rw [il1, rdI_at z31 (by omega) (by omega), z32 1 (by omega)]
  have r6 : rdI F6 0 (A 52) 1 = some (iN (N 1)) := by rw [il1, rdI_at z61 (by omega) (by omega), z62 1 (by omega)]
  have fin2 : fX10_equivalent_41 (A 49) (bI (decide (N 0 = N 1))) F3 = some (bI z, F7) := by
    unfold fX10_equivalent_41
    rw [p4, Option.bind_some, show (0 : Int32) = iN 0 from rfl]
    refine Eq.trans b1 ?_
    rw [hob5, Option.bind_some, show mX10_take F5 (A 49) 1 = _ from c1, Option.bind_some, R_g3 o6, Option.bind_some, r6, Option.bind_some, hob6, Option.bind_some, show mX10_insertRow F6 (A 49) 1 (iN (N 1)) = _ from c3, Option.bind_some]
    exact f1
  unfold mX10_equivalent
  rw [e, Option.bind_some, hob1, Option.bind_some, show mX10_take F1 (A 49) 0 = _ from a1, Option.bind_some, R_g3 o2, Option.bind_some, r2, Option.bind_some, hob2, Option.bind_some, show mX10_insertRow F2 (A 49) 1 (iN (N 0)) = _ from a3, Option.bind_some, R_g3 ⟨_, _, o3⟩, Option.bind_some, r30, Option.bind_some, Option.bind_some, r31, Option.bind_some]
  by_cases q : N 0 = N 1
  · rw [decide_eq_true q] at fin2
    rw [if_pos (by rw [q])]
    exact fin2
  · rw [decide_eq_false q] at fin2
    rw [if_neg (fun w => q ((iN_inj (by omega) (by omega)).mp w))]
    exact fin2
end EQUIV5
