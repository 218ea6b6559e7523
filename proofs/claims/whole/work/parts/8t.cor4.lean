section COR4
variable {A : Nat → Nat} {F : Mem} {S W : Nat → Nat → Nat} {N : Nat → Nat} {PT : Nat → Nat → Nat} {PO : Nat → Nat} {QT : Nat → Nat → Nat} {QO : Nat → Nat} {aw : Bool} {th : Int32}
theorem R_iw5 (ho : rObj A F th aw) (hs : rShp A F S) (h24 : ∀ i, i < 4 → ∀ k, S i k ≤ 24) {i j : Nat} (hi : i < 4) (hj : j < 4) : ∀ (m n k : Nat) (z : Bool), k + m = 8 → m < n → ∃ z' : Bool, fX10_isWithin_5 n (A 49) (iN i) (iN j) (bI z) (iN k) F = some (bI z', F) ∧ (z' = true ↔ z = true ∧ ∀ r, k ≤ r → r < 8 → S i r ≤ S j r) := by
  obtain ⟨fs, hob⟩ := rObj_ob ho
  intro m
  induction m with
  | zero =>
    intro n k z e1 e2
    obtain ⟨n', rfl⟩ : ∃ n', n = n' + 1 := ⟨n - 1, by omega⟩
    have : k = 8 := by omega
    subst this
    refine ⟨z, ?_, by simp; intro _ r a b; omega⟩
    rw [fX10_isWithin_5.eq_2, if_pos (by decide)]
    cases z <;> rfl
  | succ m ih =>
    intro n k z e1 e2
    obtain ⟨n', rfl⟩ : ∃ n', n = n' + 1 := ⟨n - 1, by omega⟩
    have s1 := h24 i hi k
    have s2 := h24 j hj k
    rw [fX10_isWithin_5.eq_2, if_neg (fun q => by have := (iN_le (a := 8) (by omega) (by omega)).mp q; omega)]
    unfold fX10_isWithin_38
    rw [iN_one]
    cases z with
    | false =>
      obtain ⟨z', q1, q2⟩ := ih n' (k + 1) false (by omega) (by omega)
      refine ⟨z', ?_, ?_⟩
      · rw [if_pos (show bI false = 0 from rfl)]
        exact q1
      · rw [q2]; simp
    | true =>
      rw [if_neg (show ¬ bI true = 0 by decide), hob, Option.bind_some, R_rowOf ho hs hi (by omega), Option.bind_some]
      dsimp only
      rw [hob, Option.bind_some, R_rowOf ho hs hj (by omega), Option.bind_some]
      dsimp only
      by_cases c : S j k < S i k
      · obtain ⟨z', q1, q2⟩ := ih n' (k + 1) false (by omega) (by omega)
        refine ⟨z', ?_, ?_⟩
        · rw [if_pos ((iN_lt (by omega) (by omega)).mpr c)]
          exact q1
        · rw [q2]
          simp only [Bool.false_eq_true, false_and, true_and, false_iff]
          intro w
          have := w k (Nat.le_refl _) (by omega)
          omega
      · obtain ⟨z', q1, q2⟩ := ih n' (k + 1) true (by omega) (by omega)
        refine ⟨z', ?_, ?_⟩
        · rw [if_neg (fun w => c ((iN_lt (by omega) (by omega)).mp w))]
          exact q1
        · rw [q2]
          simp only [true_and]
          constructor
          · intro w r a b
            by_cases e : r = k
            · subst e; omega
            · exact w r (by omega) b
          · intro w r a b; exact w r (by omega) b
theorem R_isWithin (ho : rObj A F th aw) (hs : rShp A F S) (h24 : ∀ i, i < 4 → ∀ k, S i k ≤ 24) {i j : Nat} (hi : i < 4) (hj : j < 4) : ∃ z : Bool, mX10_isWithin F (A 49) (iN i) (iN j) = some (bI z, F) ∧ (z = true ↔ ∀ r, r < 8 → S i r ≤ S j r) := by
  have := FU_big
  obtain ⟨z, q1, q2⟩ := R_iw5 ho hs h24 hi hj 8 FU 0 true (by omega) (by omega)
  refine ⟨z, q1, ?_⟩
  rw [q2]
  simp only [true_and]
  exact ⟨fun w r hr => w r (Nat.zero_le _) hr, fun w r _ hr => w r hr⟩
theorem R_co70 (hA : Inj A) {i j k : Nat} (hi : i < 4) (hk : k < 4) {f g : Nat → Int32} (K : Nat → Int32 → Mem → Option (Int64 × Mem)) : ∀ (m n r : Nat) (F : Mem), r + m = 8 → m < n → rObj A F th aw → rShp A F S → F (A 58) = .inl (0, 9, .inl (fillF 0 r (fun x => iN (S i x)) f)) → F (A 59) = .inl (0, 9, .inl (fillF 0 r (fun x => iN (S k x)) g)) → ∃ F', fX10_coefficient_70 K n (A 49) (iN i) (iN j) (iN k) (iN r) F = K (A 49) (iN j) F' ∧ F' (A 58) = .inl (0, 9, .inl (fillF 0 8 (fun x => iN (S i x)) f)) ∧ F' (A 59) = .inl (0, 9, .inl (fillF 0 8 (fun x => iN (S k x)) g)) ∧ Agr A [58, 59] F F' := by
  intro m
  induction m with
  | zero =>
    intro n r F e1 e2 ho hs h1 h2
    obtain ⟨n', rfl⟩ : ∃ n', n = n' + 1 := ⟨n - 1, by omega⟩
    have : r = 8 := by omega
    subst this
    refine ⟨F, ?_, h1, h2, Agr.refl A _ F⟩
    rw [fX10_coefficient_70.eq_2, if_pos (by decide)]
  | succ m ih =>
    intro n r F e1 e2 ho hs h1 h2
    obtain ⟨n', rfl⟩ : ∃ n', n = n' + 1 := ⟨n - 1, by omega⟩
    obtain ⟨fs, hob⟩ := rObj_ob ho
    generalize hF1 : va_up F (A 58) (.inl (0, 9, .inl (fillF 0 (r + 1) (fun x => iN (S i x)) f))) = F1
    have k1 : Agr A [58] F F1 := by rw [← hF1]; exact (Agr.refl A _ F).up hA (by omega) (by simp)
    have o1 := rObj_fr k1 ho (by simp)
    have s1 := rShp_fr k1 hs (by simp)
    obtain ⟨fs1, hob1⟩ := rObj_ob o1
    have h2' : F1 (A 59) = .inl (0, 9, .inl (fillF 0 r (fun x => iN (S k x)) g)) := (k1 59 (by omega) (by simp)).trans h2
    generalize hF2 : va_up F1 (A 59) (.inl (0, 9, .inl (fillF 0 (r + 1) (fun x => iN (S k x)) g))) = F2
    have k2 : Agr A [59] F1 F2 := by rw [← hF2]; exact (Agr.refl A _ F1).up hA (by omega) (by simp)
    obtain ⟨F', q1, q2, q3, q4⟩ := ih n' (r + 1) F2 (by omega) (by omega) (rObj_fr k2 o1 (by simp)) (rShp_fr k2 s1 (by simp)) ((k2 58 (by omega) (by simp)).trans (by rw [← hF1, up_eq])) (by rw [← hF2, up_eq])
    refine ⟨F', ?_, q2, q3, ((k1.mono (by simp)).trans (k2.mono (by simp))).trans q4⟩
    have e58 : wrI F (A 58) (iN r) (iN (S i r)) = some F1 := by
      have := fillF_s 0 r (fun x => iN (S i x)) f
      rw [Nat.zero_add] at this
      rw [wrI_at h1 (by omega) (by omega), this, hF1]
    have e59 : wrI F1 (A 59) (iN r) (iN (S k r)) = some F2 := by
      have := fillF_s 0 r (fun x => iN (S k x)) g
      rw [Nat.zero_add] at this
      rw [wrI_at h2' (by omega) (by omega), this, hF2]
    rw [fX10_coefficient_70.eq_2, if_neg (fun q => by have := (iN_le (a := 8) (by omega) (by omega)).mp q; omega), R_g10 ho, Option.bind_some, hob, Option.bind_some, R_rowOf ho hs hi (by omega), Option.bind_some]
    dsimp only
    rw [e58, Option.bind_some, R_g11 o1, Option.bind_some, hob1, Option.bind_some, R_rowOf o1 s1 hk (by omega), Option.bind_some]
    dsimp only
    rw [e59, Option.bind_some, iN_one]
    exact q1
theorem R_coefficient (hA : Inj A) (h : RR A F S W N PT PO QT QO aw th) (hS : ∀ i, i < 4 → okS (S i)) {i j k : Nat} (hi : i < 4) (hj : j < 4) (hk : k < 4) : (((∀ r, r < 8 → S i r ≤ S k r) ∧ boxes (S k) 8 = boxes (S i) 8 + boxes (S j) 8) → ∃ F', mX10_coefficient F (A 49) (iN i) (iN j) (iN k) = some (jN (allN (S i) z0 (fun r => S k r - S i r) (S j) 8 z0), F') ∧ RR A F' S W N PT PO QT QO aw 0 ∧ Agr A RTs F F') ∧ (¬ ((∀ r, r < 8 → S i r ≤ S k r) ∧ boxes (S k) 8 = boxes (S i) 8 + boxes (S j) 8) → ∃ F', mX10_coefficient F (A 49) (iN i) (iN j) (iN k) = some (0, F') ∧ RR A F' S W N PT PO QT QO aw 0 ∧ Agr A RTs F F') := by
  have fub := FU_big
  obtain ⟨F1, e, h', kk⟩ := RR_th hA h 0
  obtain ⟨fs, hob⟩ := rObj_ob h'.1
  have k' := kk.mono (U := RTs) (RTs_of (fun t q => by simp at q; omega))
  have bi := (hS i hi).2.2
  have bj := (hS j hj).2.2
  have bk := (hS k hk).2.2
  obtain ⟨z, z1, z2⟩ := R_isWithin h'.1 h'.2.1 (fun i hi => okS_le (hS i hi)) hi hk
  have st : mX10_coefficient F (A 49) (iN i) (iN j) (iN k) = if bI z = 0 then some (0, F1) else if boxes (S i) 8 + boxes (S j) 8 = boxes (S k) 8 then (fX10_coefficient_70  (fun (x0 : Nat) (x2 : Int32) (F : Mem) => (obj F x0 9).bind fun _ => (mX10_boxesOf F x0 x2).bind fun v113 => (obj v113.2 x0 9).bind fun _ => (mX10_clear v113.2 x0 1).bind fun v120 => (obj v120 x0 9).bind fun _ => (mX10_rowOf v120 x0 x2 0).bind fun v135 => if v113.1 = 0 then (some (1, v135.2)) else (fX10_coefficient_155   FU x0 x2 v113.1 0 0 0 v135.2)) FU (A 49) (iN i) (iN j) (iN k) (iN 0) F1) else some (0, F1) := by
    unfold mX10_coefficient
    rw [R_slot hi, Option.bind_some, if_neg ne10, R_slot hj, Option.bind_some, if_neg ne10, R_slot hk, Option.bind_some, if_neg ne10]
    unfold fX10_coefficient_27
    rw [e, Option.bind_some, rObj_th h'.1, Option.bind_some, if_neg (by decide), hob, Option.bind_some, z1, Option.bind_some]
    dsimp only
    rw [hob, Option.bind_some, R_boxesOf h'.1 h'.2.1 hi, Option.bind_some]
    dsimp only
    rw [hob, Option.bind_some, R_boxesOf h'.1 h'.2.1 hj, Option.bind_some]
    dsimp only
    rw [hob, Option.bind_some, R_boxesOf h'.1 h'.2.1 hk, Option.bind_some]
    dsimp only
    rw [iN_add]
    by_cases c : boxes (S i) 8 + boxes (S j) 8 = boxes (S k) 8
    · rw [if_pos c, if_pos (show iN (boxes (S i) 8 + boxes (S j) 8) = iN (boxes (S k) 8) by rw [c])]
      rfl
    · rw [if_neg c, if_neg (fun q => c ((iN_inj (by omega) (by omega)).mp q))]
  refine ⟨fun c => ?_, fun c => ?_⟩
  · have hz : z = true := z2.mpr c.1
    rw [st, hz, bI_t, if_neg ne10, if_pos c.2.symm]
    obtain ⟨w1, w2, w3, ⟨f58, w4⟩, ⟨f59, w5⟩, w6, w7, w8, w9, w10, w11⟩ := id h'.2.2.2.2
    obtain ⟨Mt, Lt, t1, t2, t3, t4, t5, t6⟩ := id h'.2.2.2.1
    obtain ⟨F2, a1, a2, a3, a4⟩ := R_co70 hA (i := i) (j := j) (k := k) hi hk (f := f58) (g := f59) (fun (x0 : Nat) (x2 : Int32) (F : Mem) => (obj F x0 9).bind fun _ => (mX10_boxesOf F x0 x2).bind fun v113 => (obj v113.2 x0 9).bind fun _ => (mX10_clear v113.2 x0 1).bind fun v120 => (obj v120 x0 9).bind fun _ => (mX10_rowOf v120 x0 x2 0).bind fun v135 => if v113.1 = 0 then (some (1, v135.2)) else (fX10_coefficient_155   FU x0 x2 v113.1 0 0 0 v135.2)) 8 FU 0 F1 (by omega) (by omega) h'.1 h'.2.1 (by rw [fillF_z]; exact w4) (by rw [fillF_z]; exact w5)
    have o2 := rObj_fr a4 h'.1 (by simp)
    have s2 := rShp_fr a4 h'.2.1 (by simp)
    obtain ⟨fs2, hob2⟩ := rObj_ob o2
    have m53 : F2 (A 53) = cM Mt := (a4 53 (by omega) (by simp)).trans t1
    have m54 : F2 (A 54) = cL Lt := (a4 54 (by omega) (by simp)).trans t2
    obtain ⟨cd, od, b2⟩ := id o2
    have cl := X10_clear (F := F2) (b := A 49) (bx := A 53) (ln := A 54) (M := Mt) (L := Lt) ⟨b2, rfl, rfl, m53, m54⟩ (k := 1) (by omega)
    generalize hF3 : va_up F2 (A 54) (cL (upK Lt 1 I0)) = F3 at cl
    have k3 : Agr A [54] F2 F3 := by rw [← hF3]; exact (Agr.refl A _ F2).up hA (by omega) (by simp)
    have o3 := rObj_fr k3 o2 (by simp)
    have s3 := rShp_fr k3 s2 (by simp)
    obtain ⟨fs3, hob3⟩ := rObj_ob o3
    have k13 : Agr A [54, 58, 59] F1 F3 := (a4.mono (by simp)).trans (k3.mono (by simp))
    have hle := okS_le (hS i hi)
    have hC : CSr A F3 0 aw S (S k) Mt (fillF 0 8 (fun x => iN (S i x)) f58) := ⟨o3, s3, (k3 53 (by omega) (by simp)).trans m53, (k3 58 (by omega) (by simp)).trans a2, _, (k3 59 (by omega) (by simp)).trans a3, fun x hx => by rw [fillF_in (by omega)]; rfl⟩
    have hkp : ∀ r, r < 8 → S k r = S i r + (S k r - S i r) := fun r hr => by have := c.1 r hr; omega
    have hRb : boxes (fun r => S k r - S i r) 8 = boxes (S j) 8 := by
      have : boxes (S i) 8 + boxes (fun r => S k r - S i r) 8 = boxes (S k) 8 := by
        rw [← boxes_add]
        exact boxes_congr (fun r hr => (hkp r hr).symm)
      omega
    have sym : allN (S i) z0 (fun r => S k r - S i r) (S j) 8 z0 = allN z0 (S i) (S j) (kpp (S i) (S k)) 8 z0 := lr_sym (fun r _ => (hS i hi).1 r) (fun _ _ => Nat.le_refl _) (by rw [← boxes_sumN, ← boxes_sumN]; exact hRb)
    have rz : ∀ r y, rowS z0 r y = 0 := fun r y => sumN_zero (fun _ _ => rfl)
    have cz : ∀ x i, colS z0 x i = 0 := fun x i => sumN_zero (fun _ _ => rfl)
    have fin : ∀ (F' : Mem) (E' : Nat → Nat → Nat → Nat) (fr' : Nat → Int32), CSr A F' 0 aw S (S k) E' fr' → (∀ k, k ≠ 1 → E' k = Mt k) → Agr A [53, 58] F3 F' → RR A F' S W N PT PO QT QO aw 0 ∧ Agr A RTs F F' := by
      intro F' E' fr' hC' hE' hk'
      have kf : Agr A [53, 54, 58, 59] F1 F' := (k13.mono (by simp)).trans (hk'.mono (by simp))
      obtain ⟨q1, q2, q3, q4, g, q5, q6⟩ := hC'
      refine ⟨⟨q1, q2, rWrd_fr kf h'.2.2.1 (by simp), ⟨E', upK Lt 1 I0, q3, (hk' 54 (by omega) (by simp)).trans (by rw [← hF3, up_eq]), fun r => by rw [upK_ne (by omega)]; exact t3 r, fun r c hc => by rw [hE' 0 (by omega)]; exact t4 r c hc, fun r => by rw [upK_ne (by omega)]; exact t5 r, fun r c hc => by rw [hE' 2 (by omega)]; exact t6 r c hc⟩, ar0_fr kf w1 (by omega) (by simp), (kf _ (by omega) (by simp)).trans w2, ar0_fr kf w3 (by omega) (by simp), ⟨_, q4⟩, ⟨g, q5⟩, ar0_fr kf w6 (by omega) (by simp), ar1_fr kf w7 (by omega) (by simp), ar1_fr kf w8 (by omega) (by simp), ar1_fr kf w9 (by omega) (by simp), ar1_fr kf w10 (by omega) (by simp), ar0_fr kf w11 (by omega) (by simp)⟩, k'.trans (kf.mono (RTs_of (fun t q => by simp at q; omega)))⟩
    have open1 : fX10_coefficient_70  (fun (x0 : Nat) (x2 : Int32) (F : Mem) => (obj F x0 9).bind fun _ => (mX10_boxesOf F x0 x2).bind fun v113 => (obj v113.2 x0 9).bind fun _ => (mX10_clear v113.2 x0 1).bind fun v120 => (obj v120 x0 9).bind fun _ => (mX10_rowOf v120 x0 x2 0).bind fun v135 => if v113.1 = 0 then (some (1, v135.2)) else (fX10_coefficient_155   FU x0 x2 v113.1 0 0 0 v135.2)) FU (A 49) (iN i) (iN j) (iN k) (iN 0) F1 = if iN (boxes (S j) 8) = 0 then some (1, F3) else fX10_coefficient_155 FU (A 49) (iN j) (iN (boxes (S j) 8)) 0 0 0 F3 := by
      refine Eq.trans a1 ?_
      rw [hob2, Option.bind_some, R_boxesOf o2 s2 hj, Option.bind_some]
      dsimp only
      rw [hob2, Option.bind_some, show mX10_clear F2 (A 49) 1 = _ from cl, Option.bind_some, hob3, Option.bind_some, il0, R_rowOf o3 s3 hj (by omega), Option.bind_some]
    by_cases T0 : boxes (S j) 8 = 0
    · obtain ⟨r1, r2⟩ := fin F3 Mt _ hC (fun _ _ => rfl) (Agr.refl A _ F3)
      refine ⟨F3, ?_, r1, r2⟩
      rw [open1, T0, if_pos (show iN 0 = 0 from rfl), sym, allN_end 8 z0 (Nat.le_refl _) (fun r _ hr => boxes_zero 8 T0 r hr) (fun _ _ => rfl)]
      rfl
    · have hP : PIr (S i) (S j) (S k) 0 (S j 0) 8 z0 (Mt 1) (fillF 0 8 (fun x => iN (S i x)) f58) := by
        refine ⟨by omega, by omega, by omega, fun r hr => by omega, by rw [rz]; omega, fun _ _ => rfl, fun _ _ => rfl, fun _ => rfl, fun q => by rw [rz] at q; omega, fun r hr q hq => by rw [rz] at hq; omega, fun x hx => ?_, fun x hx => by rw [cz]; exact c.1 x hx⟩
        rw [cz, fillF_in (by omega)]
        rfl
      obtain ⟨t, F4, E4, u1, u2, u3, u4, u5, u6⟩ := R_node hA (a := S i) (c := S k) (T := boxes (S j) 8) hj (okS_le (hS j hj)) (hS j hj).1 (okS_le (hS k hk)) rfl bj (boxes (S j) 8) 7 0 (S j 0) 8 z0 Mt _ F3 0 (by omega) (by omega) (by show boxes (S j) 0 + S j 0 + _ = _; have : boxes (S j) 0 = 0 := rfl; omega) hP hC
      obtain ⟨r1, r2⟩ := fin F4 E4 _ u3 u4 u6
      refine ⟨F4, ?_, r1, r2⟩
      have bd := Bdr_FU (boxes (S j) 8) bj
      obtain ⟨f, hf⟩ : ∃ f, FU = (f + 1) + t := ⟨FU - t - 1, by omega⟩
      rw [open1, if_neg (show ¬ iN (boxes (S j) 8) = 0 from fun q => T0 ((iN_inj (b := 0) (by omega) (by omega)).mp q)), hf]
      have u2f := u2 (f + 1)
      rw [Nat.sub_self] at u2f
      refine Eq.trans u2f ?_
      rw [fX10_coefficient_155.eq_2, if_pos (by decide), Int64.zero_add, sym]
      have hv : vlr (S i) (S j) (S k) 0 (S j 0) 8 z0 = allN z0 (S i) (S j) (kpp (S i) (S k)) 8 z0 := by
        unfold vlr
        rw [boxN_row (by have := okS_le (hS j hj) 0; unfold KM; omega) (fun _ _ => rfl)]
        rfl
      rw [hv]
  · refine ⟨F1, ?_, h', k'⟩
    rw [st]
    by_cases hz : z = true
    · rw [hz, bI_t, if_neg ne10, if_neg (fun q => c ⟨z2.mp hz, q.symm⟩)]
    · rw [if_pos ((bI_z z).mpr (by cases z <;> simp_all))]
theorem R_coefficient_no (hA : Inj A) (h : RR A F S W N PT PO QT QO aw th) {x y v : Int32} (hy : (x < 0 ∨ (¬ x < 0 ∧ iN 4 ≤ x)) ∨ ((∃ i, i < 4 ∧ x = iN i) ∧ ((y < 0 ∨ (¬ y < 0 ∧ iN 4 ≤ y)) ∨ ((∃ i, i < 4 ∧ y = iN i) ∧ (v < 0 ∨ (¬ v < 0 ∧ iN 4 ≤ v)))))) : ∃ F', RR A F' S W N PT PO QT QO aw 1 ∧ Agr A RTs F F' ∧ mX10_coefficient F (A 49) x y v = some (0, F') := by
  obtain ⟨F', e, h', k⟩ := RR_th hA h 1
  refine ⟨F', h', k.mono (RTs_of (fun t q => by simp at q; omega)), ?_⟩
  have bad : fX10_coefficient_27 (A 49) x y v (A 49) 1 F = some (0, F') := by
    unfold fX10_coefficient_27
    rw [e, Option.bind_some, rObj_th h'.1, Option.bind_some, if_pos (by decide)]
  unfold mX10_coefficient
  rcases hy with q | ⟨⟨i, hi, rfl⟩, q | ⟨⟨j, hj, rfl⟩, q⟩⟩
  · rw [R_noslot q, Option.bind_some, if_pos rfl, bad]
  · rw [R_slot hi, Option.bind_some, if_neg ne10, R_noslot q, Option.bind_some, if_pos rfl, bad]
  · rw [R_slot hi, Option.bind_some, if_neg ne10, R_slot hj, Option.bind_some, if_neg ne10, R_noslot q, Option.bind_some, if_pos rfl, bad]
theorem C_fillings (hA : Inj A) (h : CC A F S W N PT PO QT QO aw) (hS : ∀ i, i < 4 → okS (S i)) (hN : ∀ i, i < 2 → N i ≤ 16) (hW : ∀ i, i < 2 → ∀ k, k < N i → 1 ≤ W i k ∧ W i k ≤ 16) {i j : Nat} (hi : i < 4) (hj : j < 2) : (N j = boxes (S i) 8 → ∃ F', mX9_fillings F (A 0) (iN i) (iN j) = some (.inr (jN (kos (csx (fun y => cntL (W j) y (N j)) 16) (S i))), F') ∧ CC A F' S W N PT PO QT QO aw ∧ Agr A CTs F F') ∧ (N j ≠ boxes (S i) 8 → mX9_fillings F (A 0) (iN i) (iN j) = some (.inr 0, F)) := by
  have ti := h.2.2.2.1 i hi
  have wj := h.2.2.2.2.1 j hj
  have bi := (hS i hi).2.2
  have nj := hN j hj
  have hF := h.2.2.2.2.2.2.2.2.2.2.2.1
  have st : mX9_fillings F (A 0) (iN i) (iN j) = if N j = boxes (S i) 8 then ((gfR F (A 0) 8 11).bind fun v28 => (obj F v28 0).bind fun _ => (mX0_count F v28 (A (37 + 2 * i)) (A (45 + 2 * j))).bind fun v34 => some (Sum.inr v34.1, v34.2)) else some (.inr 0, F) := by
    unfold mX9_fillings
    rw [obj_of h.1.1, Option.bind_some, C_slot h.1 hi, thn_r, obj_of h.1.1, Option.bind_some, C_word h.1 hj, thn_r, gfI_at (k := 1) (v := iN (N j)) wj.1 rfl, Option.bind_some, obj_of ti.1, Option.bind_some, X4_countBoxes ti, Option.bind_some]
    dsimp only
    by_cases c : N j = boxes (S i) 8
    · rw [if_pos c, if_pos (by rw [c])]
    · rw [if_neg c, if_neg (fun q => c ((iN_inj (by omega) (by omega)).mp q))]
  refine ⟨fun c => ?_, fun c => by rw [st, if_neg c]⟩
  obtain ⟨F', e1, e2, e3⟩ := X0_count hA (a := 37 + 2 * i) (la := 38 + 2 * i) (w := 45 + 2 * j) (wa := 46 + 2 * j) (n := N j) (V := S i) (X := W j) (hS i hi) c.symm nj (hW j hj) (by omega) (by omega) (by omega) (by omega) (by omega) hF ti wj
  obtain ⟨h1, h2, h3, h4, h5, h6, h7, h8, h9, h10, h11, h12, h13⟩ := h
  refine ⟨F', ?_, ⟨gB_fr e3 h1 (by simp), isTA_fr (j := 3) e3 h2 (by omega) (by simp), isTA_fr (j := 6) e3 h3 (by omega) (by simp), gS_fr e3 h4 (fun t q => by simp at q; omega), gW_fr e3 h5 (fun t q => by simp at q; omega), gT_fr e3 h6 (by omega) (by simp), gT_fr e3 h7 (by omega) (by simp), gU_fr e3 h8 (by omega) (by simp), gH_fr e3 h9 (by simp), gO_fr e3 h10 (by simp), gC_fr e3 h11 (by simp), e2, gP_fr e3 h13 (by simp)⟩, e3.mono (CTs_of (fun t q => by simp at q; omega))⟩
  rw [st, if_pos c, gfR_at (k := 11) (v := A 24) h1.1 rfl, Option.bind_some, obj_of h12.1, Option.bind_some, e1, Option.bind_some]
end COR4
