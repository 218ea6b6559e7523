section TURNC
variable {A : Nat → Nat} {F : Mem} {S W : Nat → Nat → Nat} {N : Nat → Nat} {PT : Nat → Nat → Nat} {PO : Nat → Nat} {QT : Nat → Nat → Nat} {QO : Nat → Nat} {aw : Bool} {th : Int32}
theorem X7_st18 {a la ta : Nat} {T : Nat → Nat → Nat} {O : Nat → Nat} (h : isT F a la ta T O) (hO : okO O) (hl : ∀ s d, d < O s → T s d ≤ 24) {r : Nat} (hr : r < 16) (x1 : Int32) (K : Nat → Int32 → Int32 → Int32 → Mem → Option (Int32 × Mem)) : ∀ (m f c B : Nat), c + m = O r → m < f → fX7_isStandard_18 K f a x1 (iN B) (iN r) (iN c) F = K a x1 (iN (msk B (seg (T r) c m))) (iN r) F := by
  have h24 := hO.1 r
  intro m
  induction m with
  | zero =>
    intro f c B h1 h2
    obtain ⟨f, rfl⟩ : ∃ m, f = m + 1 := ⟨f - 1, by omega⟩
    rw [fX7_isStandard_18.eq_2, gfR_at (k := 0) (v := la) h.1 rfl, Option.bind_some, rdI_at h.2.1 hr (by omega), Option.bind_some, if_pos ((iN_le (by omega) (by omega)).mpr (by omega))]
    rfl
  | succ m ih =>
    intro f c B h1 h2
    obtain ⟨f, rfl⟩ : ∃ m, f = m + 1 := ⟨f - 1, by omega⟩
    have l24 := hl r c (by omega)
    rw [fX7_isStandard_18.eq_2, gfR_at (k := 0) (v := la) h.1 rfl, Option.bind_some, rdI_at h.2.1 hr (by omega), Option.bind_some, if_neg (fun w => by have := (iN_le (by omega) (by omega)).mp w; omega), obj_of h.1, Option.bind_some, X7_letterAt h hO.1 hO.2 (by omega) (by omega), Option.bind_some, if_pos (show c < O r by omega)]
    simp only
    rw [i_shl (by omega), iN_or, iN_one, ih f (c + 1) _ (by omega) (by omega)]
    rfl
theorem X7_st9 {a la ta : Nat} {T : Nat → Nat → Nat} {O : Nat → Nat} (h : isT F a la ta T O) (hO : okO O) (hl : ∀ s d, d < O s → T s d ≤ 24) (x1 : Int32) (K : Int32 → Int32 → Mem → Option (Int32 × Mem)) : ∀ (m f r B : Nat), r + m = 16 → m < f → fX7_isStandard_9 K f a x1 (iN B) (iN r) F = K x1 (iN (msk B (ltF T O r m))) F := by
  have FB := FU_big
  intro m
  induction m with
  | zero =>
    intro f r B h1 h2
    obtain ⟨f, rfl⟩ : ∃ m, f = m + 1 := ⟨f - 1, by omega⟩
    rw [fX7_isStandard_9.eq_2, show r = 16 by omega, if_pos (by decide)]
    rfl
  | succ m ih =>
    intro f r B h1 h2
    obtain ⟨f, rfl⟩ : ∃ m, f = m + 1 := ⟨f - 1, by omega⟩
    have h24 := hO.1 r
    have e := X7_st18 h hO hl (r := r) (by omega) x1 (fun (x0 : Nat) (x1 : Int32) (x2 : Int32) (x3 : Int32) (F : Mem) => (fX7_isStandard_9 K f) x0 x1 x2 (x3 + 1) F) (O r) FU 0 B (by omega) (by omega)
    rw [fX7_isStandard_9.eq_2, if_neg (show ¬ (16 : Int32) ≤ iN r from fun w => by have := (iN_le (a := 16) (by omega) (by omega)).mp w; omega)]
    refine Eq.trans e ?_
    rw [iN_one, ih f (r + 1) _ (by omega) (by omega)]
    show _ = K x1 (iN (msk B (seg (T r) 0 (O r) ++ ltF T O (r + 1) m))) F
    rw [msk_app]
theorem X7_isStandard {a la ta : Nat} {T : Nat → Nat → Nat} {O : Nat → Nat} (h : isT F a la ta T O) (hP : okP T O) : ∃ z : Bool, mX7_isStandard F a = some (bI z, F) ∧ (z = true ↔ stdL (rdF (tabS T I0 O) 0 16)) := by
  have FB := FU_big
  obtain ⟨p1, p2, p3, p4⟩ := hP
  have pm := ltF_perm T O 16 0
  have ln : (ltF T O 0 16).length = boxes O 16 := by rw [pm.length_eq, rdF_boxes]
  have lt : msk 0 (ltF T O 0 16) < 2 ^ 25 := msk_lt _ _ (by decide) (fun x hx => by
    obtain ⟨s, d, _, s2, s3⟩ := rdF_let.mp (pm.mem_iff.mp hx)
    rw [s3]
    exact (p4 s d s2).2)
  have e := X7_st9 h p2 (fun s d hd => (p4 s d hd).2) (iN (boxes O 16)) (fun (x1 : Int32) (x2 : Int32) (F : Mem) => if x2 = ((1 <<< ((x1 + 1) &&& 31)) - 2) then (some (1, F)) else (some (0, F))) 16 FU 0 0 (by omega) (by omega)
  have st : mX7_isStandard F a = if iN (msk 0 (ltF T O 0 16)) = ((1 <<< ((iN (boxes O 16) + 1) &&& 31)) - 2) then (some (1, F)) else (some (0, F)) := by
    unfold mX7_isStandard
    rw [obj_of h.1, Option.bind_some, X7_countBoxes h, Option.bind_some]
    exact e
  have p2' : (2 : Nat) ≤ 2 ^ (boxes O 16 + 1) := by
    have := Nat.pow_le_pow_right (n := 2) (by omega) (show 1 ≤ boxes O 16 + 1 by omega)
    omega
  have p25 : 2 ^ (boxes O 16 + 1) ≤ 2 ^ 25 := Nat.pow_le_pow_right (by omega) (by omega)
  have em : ((1 : Int32) <<< ((iN (boxes O 16) + 1) &&& 31)) - 2 = iN (2 ^ (boxes O 16 + 1) - 2) := by
    rw [iN_one, i_shl (by omega), il2, iN_sub p2']
  have key : iN (msk 0 (ltF T O 0 16)) = ((1 <<< ((iN (boxes O 16) + 1) &&& 31)) - 2) ↔ stdL (rdF (tabS T I0 O) 0 16) := by
    rw [em, iN_inj (by omega) (by omega), ← ln, msk_std, stdL_perm pm]
  by_cases q : stdL (rdF (tabS T I0 O) 0 16)
  · refine ⟨true, ?_, fun _ => q, fun _ => rfl⟩
    rw [st, if_pos (key.mpr q)]
    rfl
  · refine ⟨false, ?_, (fun w => by cases w), fun w => absurd w q⟩
    rw [st, if_neg (fun w => q (key.mp w))]
    rfl
theorem fil_okT {T : Nat → Nat → Nat} {O : Nat → Nat} (h : okT T O) : fil T I0 O := by
  obtain ⟨t1, t2, t3⟩ := h
  refine ⟨fun _ _ _ => Nat.le_refl _, fun s t hst => par_le t1 hst, fun s => Nat.zero_le _, fun s d e _ h2 h3 => okT_row ⟨t1, t2, t3⟩ (by omega) h3, fun s t d h1 _ h3 => ?_⟩
  have : ∀ k, d < O (s + k + 1) → T s d < T (s + k + 1) d := by
    intro k
    induction k with
    | zero => intro hk; exact t3 s d hk
    | succ k ih =>
      intro hk
      have := t1 (s + k + 1)
      have w := t3 (s + k + 1) d hk
      exact Nat.lt_trans (ih (by rw [show s + k + 1 + 1 = s + (k + 1) + 1 by omega] at this; omega)) w
  have w := this (t - s - 1)
  rw [show s + (t - s - 1) + 1 = t by omega] at w
  exact w h3
/-- the turned tableau, whatever lay in P -/
theorem ev_two {n : Nat} {T E : Nat → Nat → Nat} {O : Nat → Nat} (hC : ∀ s, O s ≤ 24) (hN : ∀ s, 16 ≤ s → O s = 0) (hf : fil T I0 O) (hw : ∀ a ∈ rdF (tabS T I0 O) 0 16, 1 ≤ a ∧ a ≤ n) (hall : ∀ a, 1 ≤ a → a ≤ n → a ∈ rdF (tabS T I0 O) 0 16) (hnd : (rdF (tabS T I0 O) 0 16).Nodup) : tabS (evF n T O E).2.2 I0 O = insF T0 (star n (rdF (tabS T I0 O) 0 16)) := by
  have z : gtf 0 (rdF (tabS T I0 O) 0 16) = rdF (tabS T I0 O) 0 16 := List.filter_eq_self.mpr (fun a ha => by have := (hw a ha).1; exact decide_eq_true (by omega))
  have h := evac_run (O0 := O) hw hall hnd n 0 T O T (by omega) hC hN hf (by rw [z]; exact KQ.rf _) (fun s d h1 h2 => by omega)
  have h' := evac_run (O0 := O) hw hall hnd n 0 T O E (by omega) hC hN hf (by rw [z]; exact KQ.rf _) (fun s d h1 h2 => by omega)
  rw [evac_all hC hN hf hw hall hnd]
  refine tabS_cg (fun _ => rfl) (fun s d hd => ?_)
  have e := (h s d hd).symm.trans (h' s d hd)
  exact (Option.some.inj e).symm
theorem ev_low {n : Nat} {w : List Nat} (hall : ∀ a, 1 ≤ a → a ≤ n → a ∈ w) (hnd : w.Nodup) : ∀ (k i : Nat) (T : Nat → Nat → Nat) (O : Nat → Nat) (E : Nat → Nat → Nat), i + k = n → (∀ s, O s ≤ 24) → (∀ s, 16 ≤ s → O s = 0) → fil T I0 O → KQ (gtf i w) (rdF (tabS T I0 O) 0 16) → ∀ s, 16 ≤ s → (evF k T O E).2.1 s = 0 := by
  intro k
  induction k with
  | zero => intro i T O E _ _ hN _ _ s hs; exact hN s hs
  | succ k ih =>
    intro i T O E hik hC hN hf hK
    obtain ⟨T', r', c', e1, e2, e3, e4⟩ := evac_one (n := 40) (C := 24) hC hN (by omega) hf hK hnd (hall (i + 1) (by omega) (by omega))
    have hN' : ∀ s, 16 ≤ s → upL O r' c' s = 0 := fun s hs => by
      have q : s ≠ r' := fun q => by subst q; have := hN s hs; omega
      rw [upL_ne q]; exact hN s hs
    have hC' : ∀ s, upL O r' c' s ≤ 24 := fun s => by
      by_cases q : s = r'
      · subst q; rw [upL_at]; have := hC s; omega
      · rw [upL_ne q]; exact hC s
    simp only [evF, e1]
    exact ih (i + 1) T' _ _ (by omega) hC' hN' e3 e4
theorem star_let {n : Nat} {w : List Nat} (hw : ∀ x, x ∈ w → 1 ≤ x ∧ x ≤ n) : ∀ x, x ∈ star n w → 1 ≤ x ∧ x ≤ n := by
  intro x hx
  unfold star at hx
  rw [List.mem_reverse, List.mem_map] at hx
  obtain ⟨a, a1, a2⟩ := hx
  have := hw a a1
  omega
theorem C_turn (hA : Inj A) (h : CC A F S W N PT PO QT QO aw) (hP : okP PT PO) : (¬ stdL (rdF (tabS PT I0 PO) 0 16) → mX9_turn F (A 0) = some (.inl ISE, F)) ∧ (stdL (rdF (tabS PT I0 PO) 0 16) → ∃ F' PT', mX9_turn F (A 0) = some (.inr (), F') ∧ tabS PT' I0 PO = insF T0 (star (boxes PO 16) (rdF (tabS PT I0 PO) 0 16)) ∧ okP PT' PO ∧ CC A F' S W N PT' PO QT QO true ∧ Agr A CTs F F') := by
  have FB := FU_big
  have hP' := hP
  obtain ⟨p1, p2, p3, p4⟩ := hP
  obtain ⟨h1, h2, h3, h4, h5, h6, h7, h8, h9, h10, h11, h12, h13⟩ := h
  obtain ⟨z, z1, z2⟩ := X7_isStandard h2 hP'
  constructor
  · intro q
    have zf : z = false := by
      cases z with
      | false => rfl
      | true => exact absurd (z2.mp rfl) q
    subst zf
    unfold mX9_turn
    rw [gfR_at (k := 2) (v := A 3) h1.1 rfl, Option.bind_some, obj_of h2.1, Option.bind_some, z1, Option.bind_some, if_pos (show bI false = 0 from rfl)]
  · intro q
    have zt : z = true := z2.mpr q
    subst zt
    obtain ⟨T9, O9, t0, t2⟩ := h6
    have t1 : isT F (A 9) (A 10) (A 11) T9 O9 := t0
    have cp := X7_copyFrom h2 t1 p2.2 t2 (hA.ne (by omega) (by omega) (by omega))
    have hT1 := isT_putT (T' := mixT PT T9) (isT_putO (O' := PO) t1)
    have k1 : Agr A [0, 5, 10, 11] F (va_up (va_up F (A 10) (cO PO)) (A 11) (cT (mixT PT T9))) := ((Agr.refl A _ F).up hA (by omega) (by simp)).up hA (by omega) (by simp)
    have kk1 : Agr A [10, 11] F (va_up (va_up F (A 10) (cO PO)) (A 11) (cT (mixT PT T9))) := ((Agr.refl A _ F).up hA (by omega) (by simp)).up hA (by omega) (by simp)
    generalize hF1 : va_up (va_up F (A 10) (cO PO)) (A 11) (cT (mixT PT T9)) = F1 at *
    have hB1 : gB A F1 aw := gB_fr kk1 h1 (by simp)
    have hP1 : isT F1 (A 3) (A 4) (A 5) PT PO := isTA_fr (j := 3) kk1 h2 (by omega) (by simp)
    have cb := X7_countBoxes hP1
    have mx : ∀ s d, d < PO s → mixT PT T9 s d = PT s d := fun s d hd => by
      unfold mixT
      by_cases w : s < 16
      · rw [if_pos w]
      · have := p2.2 s (by omega)
        omega
    have et : tabS (mixT PT T9) I0 PO = tabS PT I0 PO := tabS_cg (fun _ => rfl) mx
    have okm : okT (mixT PT T9) PO := ⟨p1.1, fun r c hc => by rw [mx r c (by omega), mx r (c + 1) hc]; exact p1.2.1 r c hc, fun r c hc => by
      have := p1.1 r
      rw [mx r c (by omega), mx (r + 1) c hc]; exact p1.2.2 r c hc⟩
    have ln : (rdF (tabS PT I0 PO) 0 16).length = boxes PO 16 := rdF_boxes PT PO 16
    have hw : ∀ a ∈ rdF (tabS (mixT PT T9) I0 PO) 0 16, 1 ≤ a ∧ a ≤ boxes PO 16 := fun a ha => by
      rw [et] at ha
      have := q.2 a ha
      omega
    have hall : ∀ a, 1 ≤ a → a ≤ boxes PO 16 → a ∈ rdF (tabS (mixT PT T9) I0 PO) 0 16 := fun a a1 a2 => by
      rw [et]
      exact ((stdL_iff _).mp q a).mpr ⟨a1, by omega⟩
    have hnd : (rdF (tabS (mixT PT T9) I0 PO) 0 16).Nodup := by rw [et]; exact q.1
    have fl := fil_okT okm
    have zg : gtf 0 (rdF (tabS (mixT PT T9) I0 PO) 0 16) = rdF (tabS (mixT PT T9) I0 PO) 0 16 := List.filter_eq_self.mpr (fun a ha => by have := (hw a ha).1; exact decide_eq_true (by omega))
    have run := X9_turn39 (K := fun (x0 : Nat) (F : Mem) => (pf F x0 8 4 (.int 1)).bind fun F80 => some (Sum.inr (), F80)) (b := A 0) (p := A 3) (lp := A 4) (tp := A 5) (w' := A 9) (lw := A 10) (tw := A 11) (n := boxes PO 16) (O0 := PO) (w := rdF (tabS (mixT PT T9) I0 PO) 0 16) (fs := [.ref (A 1), .ref (A 2), .ref (A 3), .ref (A 6), .int (bI aw), .ref (A 9), .ref (A 12), .ref (A 15), .ref (A 17), .ref (A 20), .ref (A 22), .ref (A 24), .ref (A 30)]) rfl rfl (by omega) hw hall hnd (hA.ne (by omega) (by omega) (by omega)) (hA.ne (by omega) (by omega) (by omega)) (boxes PO 16) FU 0 F1 (mixT PT T9) PO PT (by omega) (by omega) hB1.1 hT1 hP1 p2.1 p2.2 fl (by rw [zg]; exact KQ.rf _)
    have ev := ev_two (E := PT) p2.1 p2.2 fl hw hall hnd
    rw [et] at ev
    have o16 : ∀ s, 16 ≤ s → (evF (boxes PO 16) (mixT PT T9) PO PT).2.1 s = 0 := ev_low hall hnd (boxes PO 16) 0 _ _ _ (by omega) p2.1 p2.2 fl (by rw [zg]; exact KQ.rf _)
    generalize evF (boxes PO 16) (mixT PT T9) PO PT = st at *
    obtain ⟨sT, sO, sE⟩ := st
    simp only at run ev o16
    have k2 : Agr A [0, 5, 10, 11] F (va_up (va_up (va_up F1 (A 11) (cT sT)) (A 10) (cO sO)) (A 5) (cT sE)) := ((k1.up hA (by omega) (by simp)).up hA (by omega) (by simp)).up hA (by omega) (by simp)
    have kk2 : Agr A [5, 10, 11] F1 (va_up (va_up (va_up F1 (A 11) (cT sT)) (A 10) (cO sO)) (A 5) (cT sE)) := (((Agr.refl A _ F1).up hA (by omega) (by simp)).up hA (by omega) (by simp)).up hA (by omega) (by simp)
    have hB2 := gB_fr kk2 hB1 (by simp)
    have hP2 : isT (va_up (va_up (va_up F1 (A 11) (cT sT)) (A 10) (cO sO)) (A 5) (cT sE)) (A 3) (A 4) (A 5) sE PO := isT_putT (T := PT) (isT_at hA (j := 3) (c := 10) (isT_at hA (j := 3) (c := 11) hP1 (by omega) (by omega) (by omega)) (by omega) (by omega) (by omega))
    have hT2 : isT (va_up (va_up (va_up F1 (A 11) (cT sT)) (A 10) (cO sO)) (A 5) (cT sE)) (A 9) (A 10) (A 11) sT sO := isT_at hA (j := 9) (c := 5) (isT_putO (isT_putT hT1)) (by omega) (by omega) (by omega)
    generalize hF2 : va_up (va_up (va_up F1 (A 11) (cT sT)) (A 10) (cO sO)) (A 5) (cT sE) = F2 at *
    obtain ⟨pf3, hB3⟩ := gB_aw hA hB2 true
    have k3 : Agr A [0, 5, 10, 11] F (va_up F2 (A 0) (cBn A true)) := k2.up hA (by omega) (by simp)
    refine ⟨va_up F2 (A 0) (cBn A true), sE, ?_, ev, okP_ins ev p2.2 (by rw [star_len, ln]; exact p3) (fun x hx => ?_), ⟨hB3, isT_at hA (j := 3) hP2 (by omega) (by omega) (by omega), isTA_fr (j := 6) k3 h3 (by omega) (by simp), gS_fr k3 h4 (fun t w => by simp at w; omega), gW_fr k3 h5 (fun t w => by simp at w; omega), ⟨sT, sO, isT_at hA (j := 9) hT2 (by omega) (by omega) (by omega), o16⟩, gT_fr k3 h7 (by omega) (by simp), gU_fr k3 h8 (by omega) (by simp), gH_fr k3 h9 (by simp), gO_fr k3 h10 (by simp), gC_fr k3 h11 (by simp), gF_fr k3 h12 (by simp), gP_fr k3 h13 (by simp)⟩, k3.mono (CTs_of (fun t w => by simp at w; omega))⟩
    · unfold mX9_turn
      rw [gfR_at (k := 2) (v := A 3) h1.1 rfl, Option.bind_some, obj_of h2.1, Option.bind_some, z1, Option.bind_some, if_neg (show ¬ bI true = 0 from ne10)]
      simp only
      rw [gfR_at (k := 5) (v := A 9) h1.1 rfl, Option.bind_some, gfR_at (k := 2) (v := A 3) h1.1 rfl, Option.bind_some, obj_of t1.1, Option.bind_some, cp, Option.bind_some, gfR_at (k := 2) (v := A 3) hB1.1 rfl, Option.bind_some, obj_of hP1.1, Option.bind_some, cb, Option.bind_some]
      refine Eq.trans run ?_
      rw [show pf F2 (A 0) 8 4 (.int 1) = _ from pf3, Option.bind_some]
    · have := star_let (n := boxes PO 16) (fun y hy => by have := q.2 y hy; omega) x hx
      omega
end TURNC
