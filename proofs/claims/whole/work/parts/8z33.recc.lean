section RECC
variable {A : Nat → Nat} {F : Mem} {S W : Nat → Nat → Nat} {N : Nat → Nat} {PT : Nat → Nat → Nat} {PO : Nat → Nat} {QT : Nat → Nat → Nat} {QO : Nat → Nat} {aw : Bool} {th : Int32}
abbrev IAE : String := "java/lang/IllegalArgumentException"
abbrev UOE : String := "java/lang/UnsupportedOperationException"
theorem C_fillSkew (hA : Inj A) {i o j : Nat} {I O V : Nat → Nat} (hi : i < 4) (ho : o < 4) (hj : j < 2) (hn : dfB I O 8 ≤ 16) (hIO : ∀ s, I s ≤ O s) (hO : ∀ s, O s ≤ 24) (h8 : ∀ s, 8 ≤ s → O s = 0) (h1 : isS F (A (37 + 2 * i)) (A (38 + 2 * i)) I) (h2 : isS F (A (37 + 2 * o)) (A (38 + 2 * o)) O) (h3 : isW F (A (45 + 2 * j)) (A (46 + 2 * j)) V (dfB I O 8)) (h4 : gT A F 9) : ∃ F' T', mX7_fillSkew F (A 9) (A (37 + 2 * i)) (A (37 + 2 * o)) (A (45 + 2 * j)) = some F' ∧ skE A F' i o j I O V (dfB I O 8) T' ∧ (∀ s d, s < 8 → I s ≤ d → d < O s → T' s d = skF V I O s d) ∧ Agr A [10, 11] F F' := by
  have FB := FU_big
  obtain ⟨T, O9, t1, t2⟩ := h4
  have ts := X7_takeShape t1 t2 h2 h8 (hA.ne (by omega) (by omega) (by omega)) (hA.ne (by omega) (by omega) (by omega))
  have k1 : Agr A [10, 11] F (va_up F (A 10) (cO O)) := (Agr.refl A _ F).up hA (by omega) (by simp)
  have hE : skE A (va_up F (A 10) (cO O)) i o j I O V (dfB I O 8) T := ⟨isS_at hA h1 (by omega) (by omega) (by omega) (by omega) (by omega), isS_at hA h2 (by omega) (by omega) (by omega) (by omega) (by omega), isW_at hA h3 (by omega) (by omega) (by omega) (by omega) (by omega), isT_putO t1⟩
  obtain ⟨T', e1, e2, e3⟩ := C_fs12 hA hi ho hj hn hIO hO 8 FU _ T (Nat.le_refl _) (by omega) hE
  rw [Nat.sub_self, show iN 8 + (-1) = (7 : Int32) from by decide] at e1
  refine ⟨_, T', ?_, skE_put hA (T' := T') hi ho hj hE, e3, k1.up hA (by omega) (by simp)⟩
  unfold mX7_fillSkew
  rw [obj_of t1.1, Option.bind_some, ts, Option.bind_some]
  exact e1
theorem skF_let {V I O : Nat → Nat} {n : Nat} (hn : dfB I O 8 = n) (h8 : ∀ s, 8 ≤ s → O s = 0) (hV : ∀ k, k < n → 1 ≤ V k ∧ V k ≤ 16) : ∀ s d, I s ≤ d → d < O s → 1 ≤ skF V I O s d ∧ skF V I O s d ≤ 16 := by
  intro s d h1 h2
  have hs : s < 8 := by
    by_cases q : s < 8
    · exact q
    · have := h8 s (by omega)
      omega
  have mo := dfB_mono I O (s + 1) 8 hs
  have es : dfB I O (s + 1) = dfB I O s + (O s - I s) := rfl
  exact hV _ (by omega)
/-- order and shapes are as they must be -/
def rq2 (x : Int32) (I O : Nat → Nat) : Prop := ¬ x < 0 ∧ ¬ iN 3 ≤ x ∧ ∀ k, k < 8 → I k ≤ O k
theorem rq2_le {x : Int32} {I O : Nat → Nat} (hI : okS I) (h : rq2 x I O) : ∀ s, I s ≤ O s := fun s => by
  by_cases q : s < 8
  · exact h.2.2 s q
  · rw [hI.2.1 s (by omega)]; exact Nat.zero_le _
theorem C_rectify (hA : Inj A) (h : CC A F S W N PT PO QT QO aw) (hS : ∀ i, i < 4 → okS (S i)) (hw : okW W N) (hP : okP PT PO) {i o j : Nat} (hi : i < 4) (ho : o < 4) (hj : j < 2) (x : Int32) : (¬ rq2 x (S i) (S o) → mX9_rectify F (A 0) (iN i) (iN o) (iN j) x = some (.inl IAE, F)) ∧ (rq2 x (S i) (S o) → N j ≠ dfB (S i) (S o) 8 → mX9_rectify F (A 0) (iN i) (iN o) (iN j) x = some (.inl ISE, F)) ∧ (rq2 x (S i) (S o) → N j = dfB (S i) (S o) 8 → ¬ strS (skF (W j) (S i) (S o)) (S i) (S o) → ∃ F', mX9_rectify F (A 0) (iN i) (iN o) (iN j) x = some (.inl UOE, F') ∧ CC A F' S W N PT PO QT QO aw ∧ Agr A CTs F F') ∧ (rq2 x (S i) (S o) → N j = dfB (S i) (S o) 8 → strS (skF (W j) (S i) (S o)) (S i) (S o) → ∃ F' PT' PO', mX9_rectify F (A 0) (iN i) (iN o) (iN j) x = some (.inr (iN (boxes (S i) 8)), F') ∧ tabS PT' I0 PO' = wT W N j ∧ okP PT' PO' ∧ CC A F' S W N PT' PO' QT QO true ∧ Agr A CTs F F') := by
  have FB := FU_big
  have hc := h
  obtain ⟨h1, h2, h3, h4, h5, h6, h7, h8, h9, h10, h11, h12, h13⟩ := h
  obtain ⟨p1, p2, p3, p4⟩ := hP
  obtain ⟨w1, w2⟩ := hw j hj
  have sI := h4 i hi
  have sO := h4 o ho
  have oI := hS i hi
  have oO := hS o ho
  have iI := okS_le oI
  have iO := okS_le oO
  have wj := h5 j hj
  obtain ⟨z, z1, z2⟩ := X4_contains sO sI iO iI
  have st : mX9_rectify F (A 0) (iN i) (iN o) (iN j) x = if x < 0 then some (.inl IAE, F) else if 3 ≤ x then some (.inl IAE, F) else if bI z = 0 then some (.inl IAE, F) else if iN (N j) = iN (boxes (S o) 8) - iN (boxes (S i) 8) then ((mX7_fillSkew F (A 9) (A (37 + 2 * i)) (A (37 + 2 * o)) (A (45 + 2 * j))).bind fun v91 => (gfR v91 (A 0) 8 5).bind fun v95 => (obj v91 v95 6).bind fun _ => (mX7_isColumnStrictOutside v91 v95 (A (37 + 2 * i))).bind fun v100 => if v100.1 = 0 then (some (Sum.inl "java/lang/UnsupportedOperationException", v100.2)) else ((gfR v100.2 (A 0) 8 7).bind fun v117 => (obj v100.2 v117 3).bind fun _ => (mX4_copyFrom v100.2 v117 (A (37 + 2 * i))).bind fun v122 => (obj v122 (A 0) 8).bind fun _ => (mX9_slideUntilStraight v122 (A 0) x).bind fun v128 => (gfR v128.2 (A 0) 8 2).bind fun v134 => (gfR v128.2 (A 0) 8 5).bind fun v138 => (obj v128.2 v134 6).bind fun _ => (mX7_copyFrom v128.2 v134 v138).bind fun v141 => (pf v141 (A 0) 8 4 (.int 1)).bind fun F146 => some (Sum.inr v128.1, F146))) else some (.inl ISE, F) := by
    unfold mX9_rectify fX9_rectify_42
    rw [obj_of h1.1, Option.bind_some, C_slot h1 hi, thn_r, obj_of h1.1, Option.bind_some, C_slot h1 ho, thn_r, obj_of h1.1, Option.bind_some, C_word h1 hj, thn_r, obj_of sO.1, Option.bind_some, z1, Option.bind_some]
    simp only
    rw [gfI_at (k := 1) (v := iN (N j)) wj.1 rfl, Option.bind_some, obj_of sO.1, Option.bind_some, X4_countBoxes sO, Option.bind_some]
    simp only
    rw [obj_of sI.1, Option.bind_some, X4_countBoxes sI, Option.bind_some]
    simp only
    rw [gfR_at (k := 5) (v := A 9) h1.1 rfl, Option.bind_some]
    obtain ⟨T9, O9, t1, t2⟩ := h6
    rw [obj_of t1.1, Option.bind_some]
  have zq : ¬ x < 0 → ¬ iN 3 ≤ x → (z = true ↔ rq2 x (S i) (S o)) := fun a b => by
    rw [z2]
    exact ⟨fun w => ⟨a, b, w⟩, fun w => w.2.2⟩
  have main : rq2 x (S i) (S o) → (N j = dfB (S i) (S o) 8 ↔ iN (N j) = iN (boxes (S o) 8) - iN (boxes (S i) 8)) := fun q => by
    have e := dfB_boxes (rq2_le oI q) 8
    have b := oO.2.2
    rw [iN_sub (by omega), iN_inj (by omega) (by omega), e, Nat.add_sub_cancel_left]
  have st2 : rq2 x (S i) (S o) → z = true := fun q => (zq q.1 q.2.1).mpr q
  refine ⟨fun q => ?_, fun q qn => ?_, fun q qn qs => ?_, fun q qn qs => ?_⟩
  · rw [st]
    by_cases a : x < 0
    · rw [if_pos a]
    · rw [if_neg a]
      by_cases b : iN 3 ≤ x
      · rw [if_pos (show (3 : Int32) ≤ x from b)]
      · rw [if_neg (show ¬ (3 : Int32) ≤ x from b)]
        have zf : z = false := by
          cases z with
          | false => rfl
          | true => exact absurd ((zq a b).mp rfl) q
        rw [zf, if_pos (show bI false = 0 from rfl)]
  · rw [st, if_neg q.1, if_neg (show ¬ (3 : Int32) ≤ x from q.2.1), st2 q, if_neg (show ¬ bI true = 0 from ne10), if_neg (fun w => qn ((main q).mpr w))]
  · rw [qn] at wj w1 w2
    obtain ⟨F1, T1, a1, a2, a3, a4⟩ := C_fillSkew hA hi ho hj w1 (rq2_le oI q) iO oO.2.1 sI sO wj h6
    have hl : letsF T1 (S i) (S o) := fun s d b1 b2 => by
      have hs : s < 8 := by
        by_cases v : s < 8
        · exact v
        · have := oO.2.1 s (by omega)
          omega
      rw [a3 s d hs b1 b2]
      have := skF_let rfl oO.2.1 w2 s d b1 b2
      omega
    obtain ⟨z', y1, y2⟩ := X7_isColumnStrict a2.2.2.2 a2.1 ⟨iO, fun s hs => oO.2.1 s (by omega)⟩ oO.1 oI.1 (rq2_le oI q) hl
    have zf : z' = false := by
      cases z' with
      | false => rfl
      | true => exact absurd (strS_cg oO.1 a3 (y2.mp rfl)) qs
    subst zf
    have hB1 := gB_fr a4 h1 (by simp)
    refine ⟨F1, ?_, ⟨hB1, isTA_fr (j := 3) a4 h2 (by omega) (by simp), isTA_fr (j := 6) a4 h3 (by omega) (by simp), gS_fr a4 h4 (fun t w => by simp at w; omega), gW_fr a4 h5 (fun t w => by simp at w; omega), ⟨T1, S o, a2.2.2.2, fun s hs => oO.2.1 s (by omega)⟩, gT_fr a4 h7 (by omega) (by simp), gU_fr a4 h8 (by omega) (by simp), gH_fr a4 h9 (by simp), gO_fr a4 h10 (by simp), gC_fr a4 h11 (by simp), gF_fr a4 h12 (by simp), gP_fr a4 h13 (by simp)⟩, a4.mono (CTs_of (fun t w => by simp at w; omega))⟩
    rw [st, if_neg q.1, if_neg (show ¬ (3 : Int32) ≤ x from q.2.1), st2 q, if_neg (show ¬ bI true = 0 from ne10), if_pos ((main q).mp qn), a1, Option.bind_some, gfR_at (k := 5) (v := A 9) hB1.1 rfl, Option.bind_some, obj_of a2.2.2.2.1, Option.bind_some, y1, Option.bind_some, if_pos (show bI false = 0 from rfl)]
  · have qn' := qn
    rw [qn] at wj w1 w2
    obtain ⟨F1, T1, a1, a2, a3, a4⟩ := C_fillSkew hA hi ho hj w1 (rq2_le oI q) iO oO.2.1 sI sO wj h6
    have hl : letsF T1 (S i) (S o) := fun s d b1 b2 => by
      have hs : s < 8 := by
        by_cases v : s < 8
        · exact v
        · have := oO.2.1 s (by omega)
          omega
      rw [a3 s d hs b1 b2]
      have := skF_let rfl oO.2.1 w2 s d b1 b2
      omega
    obtain ⟨z', y1, y2⟩ := X7_isColumnStrict a2.2.2.2 a2.1 ⟨iO, fun s hs => oO.2.1 s (by omega)⟩ oO.1 oI.1 (rq2_le oI q) hl
    have qs1 : strS T1 (S i) (S o) := strS_cg oO.1 (fun r c b1 b2 b3 => (a3 r c b1 b2 b3).symm) qs
    have zt : z' = true := y2.mpr qs1
    subst zt
    have hB1 := gB_fr a4 h1 (by simp)
    obtain ⟨U, u0, u2⟩ := gU_fr a4 h8 (by omega) (by simp)
    have u1 : isS F1 (A 15) (A 16) U := u0
    have cp := X4_copyFrom a2.1 u1 oI.2.1 u2
    have k2 : Agr A [0, 4, 5, 10, 11, 16] F (va_up F1 (A 16) (cS (S i))) := (a4.mono (fun t w => by simp at w ⊢; omega)).up hA (by omega) (by simp)
    have u3 : isS (va_up F1 (A 16) (cS (S i))) (A 15) (A 16) (S i) := isS_up u1
    have t3 : isT (va_up F1 (A 16) (cS (S i))) (A 9) (A 10) (A 11) T1 (S o) := isT_at hA (j := 9) (c := 16) (x := cS (S i)) a2.2.2.2 (by omega) (by omega) (by omega)
    have hB2 : gB A (va_up F1 (A 16) (cS (S i))) aw := gB_fr (T := [16]) ((Agr.refl A _ F1).up hA (by omega) (by simp)) hB1 (by simp)
    generalize hF2 : va_up F1 (A 16) (cS (S i)) = F2 at *
    have fl := fil_of oI.1 oO.1 (rq2_le oI q) oO.2.1 qs1
    have bI24 := oI.2.2
    obtain ⟨T3, O3, s1, s2, s3, s4, s5, s6⟩ := X9_slides (b := A 0) (ws := A 15) (ls := A 16) (w' := A 9) (lw := A 10) (tw := A 11) hB2.1 rfl rfl u3 t3 iO (fun s hs => oO.2.1 s (by omega)) fl hl oI.2.1 (by omega) x
    rw [rdF_sk16 a3 oO.2.1] at s2
    have k3 : Agr A [0, 4, 5, 10, 11, 16] F (va_up (va_up (va_up F2 (A 16) (cS I0)) (A 11) (cT T3)) (A 10) (cO O3)) := ((k2.up hA (by omega) (by simp)).up hA (by omega) (by simp)).up hA (by omega) (by simp)
    have t4 : isT (va_up (va_up (va_up F2 (A 16) (cS I0)) (A 11) (cT T3)) (A 10) (cO O3)) (A 9) (A 10) (A 11) T3 O3 := isT_putO (O' := O3) (isT_putT (T' := T3) (isT_at hA (j := 9) (c := 16) (x := cS I0) t3 (by omega) (by omega) (by omega)))
    have u4 := isS_at hA (c := 10) (x := cO O3) (isS_at hA (c := 11) (x := cT T3) (isS_up (V := I0) u3) (by omega) (by omega) (by omega) (by omega) (by omega)) (by omega) (by omega) (by omega) (by omega) (by omega)
    have hB3 : gB A (va_up (va_up (va_up F2 (A 16) (cS I0)) (A 11) (cT T3)) (A 10) (cO O3)) aw := gB_fr ((((Agr.refl A [10, 11, 16] F2).up hA (by omega) (by simp)).up hA (by omega) (by simp)).up hA (by omega) (by simp)) hB2 (by simp)
    have P3 : isT (va_up (va_up (va_up F2 (A 16) (cS I0)) (A 11) (cT T3)) (A 10) (cO O3)) (A 3) (A 4) (A 5) PT PO := by
      have kk : Agr A [10, 11, 16] F2 (va_up (va_up (va_up F2 (A 16) (cS I0)) (A 11) (cT T3)) (A 10) (cO O3)) := (((Agr.refl A [10, 11, 16] F2).up hA (by omega) (by simp)).up hA (by omega) (by simp)).up hA (by omega) (by simp)
      have k16 : Agr A [10, 11, 16] F F2 := by rw [← hF2]; exact (a4.mono (fun t w => by simp at w ⊢; omega)).up hA (by omega) (by simp)
      exact isTA_fr (j := 3) (k16.trans kk) h2 (by omega) (by simp)
    generalize hF3 : va_up (va_up (va_up F2 (A 16) (cS I0)) (A 11) (cT T3)) (A 10) (cO O3) = F3 at *
    have cp3 := X7_copyFrom t4 P3 s6 p2.2 (hA.ne (by omega) (by omega) (by omega))
    have k4 : Agr A [0, 4, 5, 10, 11, 16] F (va_up (va_up F3 (A 4) (cO O3)) (A 5) (cT (mixT T3 PT))) := (k3.up hA (by omega) (by simp)).up hA (by omega) (by simp)
    have P4 := isT_putT (T' := mixT T3 PT) (isT_putO (O' := O3) P3)
    have kk4 : Agr A [4, 5] F3 (va_up (va_up F3 (A 4) (cO O3)) (A 5) (cT (mixT T3 PT))) := ((Agr.refl A [4, 5] F3).up hA (by omega) (by simp)).up hA (by omega) (by simp)
    have hB4 := gB_fr kk4 hB3 (by simp)
    have t5 := isTA_fr (j := 9) kk4 t4 (by omega) (by simp)
    have u5 := isS_fr u4 (kk4 15 (by omega) (by simp)) (kk4 16 (by omega) (by simp))
    generalize hF4 : va_up (va_up F3 (A 4) (cO O3)) (A 5) (cT (mixT T3 PT)) = F4 at *
    obtain ⟨pf5, hB5⟩ := gB_aw hA hB4 true
    have k5 : Agr A [0, 4, 5, 10, 11, 16] F (va_up F4 (A 0) (cBn A true)) := k4.up hA (by omega) (by simp)
    have et : tabS (mixT T3 PT) I0 O3 = wT W N j := by
      refine Eq.trans (tabS_cg (fun _ => rfl) (fun s d hd => ?_)) (s2.trans (by unfold wT; rw [qn']))
      unfold mixT
      by_cases v : s < 16
      · rw [if_pos v]
      · have := s6 s (by omega)
        omega
    refine ⟨va_up F4 (A 0) (cBn A true), mixT T3 PT, O3, ?_, et, okP_ins et s6 (by rw [seg_len]; omega) (fun y hy => ?_), ⟨hB5, isT_at hA (j := 3) P4 (by omega) (by omega) (by omega), isTA_fr (j := 6) k5 h3 (by omega) (by simp), gS_fr k5 h4 (fun t w => by simp at w; omega), gW_fr k5 h5 (fun t w => by simp at w; omega), ⟨T3, O3, isT_at hA (j := 9) t5 (by omega) (by omega) (by omega), s6⟩, gT_fr k5 h7 (by omega) (by simp), ⟨I0, isS_at hA u5 (by omega) (by omega) (by omega) (by omega) (by omega), fun _ _ => rfl⟩, gH_fr k5 h9 (by simp), gO_fr k5 h10 (by simp), gC_fr k5 h11 (by simp), gF_fr k5 h12 (by simp), gP_fr k5 h13 (by simp)⟩, k5.mono (CTs_of (fun t w => by simp at w; omega))⟩
    · rw [st, if_neg q.1, if_neg (show ¬ (3 : Int32) ≤ x from q.2.1), st2 q, if_neg (show ¬ bI true = 0 from ne10), if_pos ((main q).mp qn'), a1, Option.bind_some, gfR_at (k := 5) (v := A 9) hB1.1 rfl, Option.bind_some, obj_of a2.2.2.2.1, Option.bind_some, y1, Option.bind_some, if_neg (show ¬ bI true = 0 from ne10), gfR_at (k := 7) (v := A 15) hB1.1 rfl, Option.bind_some, obj_of u1.1, Option.bind_some, cp, Option.bind_some, obj_of hB2.1, Option.bind_some, s1, Option.bind_some]
      simp only
      rw [gfR_at (k := 2) (v := A 3) hB3.1 rfl, Option.bind_some, gfR_at (k := 5) (v := A 9) hB3.1 rfl, Option.bind_some, obj_of P3.1, Option.bind_some, cp3, Option.bind_some, show pf F4 (A 0) 8 4 (.int 1) = _ from pf5, Option.bind_some]
    · obtain ⟨m, _, m2, m3⟩ := seg_mem hy
      rw [m3]
      have := w2 m (by omega)
      omega
theorem C_rectify_no (h : CC A F S W N PT PO QT QO aw) {x1 x2 x3 : Int32} (x4 : Int32) (hx : ¬ ((∃ i, i < 4 ∧ x1 = iN i) ∧ (∃ i, i < 4 ∧ x2 = iN i) ∧ ∃ i, i < 2 ∧ x3 = iN i)) : mX9_rectify F (A 0) x1 x2 x3 x4 = some (.inl IOOB, F) := by
  unfold mX9_rectify
  rw [obj_of h.1.1, Option.bind_some]
  rcases i32_cases x1 4 (by omega) with q | ⟨i, q1, q2⟩ | q
  · rw [C_noslot (Or.inl q), thn_l]
  · rw [q2, C_slot h.1 q1, thn_r, obj_of h.1.1, Option.bind_some]
    rcases i32_cases x2 4 (by omega) with q | ⟨o, r1, r2⟩ | q
    · rw [C_noslot (Or.inl q), thn_l]
    · rw [r2, C_slot h.1 r1, thn_r, obj_of h.1.1, Option.bind_some]
      rcases i32_cases x3 2 (by omega) with q | ⟨j, t1, t2⟩ | q
      · rw [C_noword (Or.inl q), thn_l]
      · exact absurd ⟨⟨i, q1, q2⟩, ⟨o, r1, r2⟩, j, t1, t2⟩ hx
      · rw [C_noword (Or.inr q), thn_l]
    · rw [C_noslot (Or.inr q), thn_l]
  · rw [C_noslot (Or.inr q), thn_l]
end RECC
