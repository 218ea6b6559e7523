section OPS4
variable {A : Nat → Nat} {F : Mem} {S W : Nat → Nat → Nat} {N : Nat → Nat} {PT : Nat → Nat → Nat} {PO : Nat → Nat} {QT : Nat → Nat → Nat} {QO : Nat → Nat} {aw : Bool} {th : Int32}
theorem R_cj49 (ho : rObj A F th aw) (h : rShp A F S) {i c : Nat} (hi : i < 4) (hV : ∀ s, S i s ≤ 24) (hc : c < 8) (K : Nat → Int32 → Int32 → Int32 → Mem → Option (Int32 × Mem)) : ∀ (m n r : Nat), r + m = 8 → m < n → fX10_conjugate_49 K n (A 49) (iN i) (iN c) (iN (clen (S i) c r)) (iN r) F = K (A 49) (iN i) (iN c) (iN (clen (S i) c 8)) F := by
  obtain ⟨fs, hob⟩ := rObj_ob ho
  intro m
  induction m with
  | zero =>
    intro n r h1 h2
    obtain ⟨n', rfl⟩ : ∃ n', n = n' + 1 := ⟨n - 1, by omega⟩
    have : r = 8 := by omega
    subst this
    rw [fX10_conjugate_49.eq_2, if_pos (by decide)]
  | succ m ih =>
    intro n r h1 h2
    obtain ⟨n', rfl⟩ : ∃ n', n = n' + 1 := ⟨n - 1, by omega⟩
    have s1 := hV r
    have q := ih n' (r + 1) (by omega) (by omega)
    rw [fX10_conjugate_49.eq_2]
    simp (disch := omega) only [il8, iN_le, if_neg, hob, Option.bind_some, R_rowOf ho h hi, iN_one, fX10_conjugate_74]
    by_cases k : S i r ≤ c
    · rw [if_pos k]
      rw [show clen (S i) c (r + 1) = clen (S i) c r by simp only [clen]; rw [if_neg (by omega)]; rfl] at q
      exact q
    · rw [if_neg k]
      rw [show clen (S i) c (r + 1) = clen (S i) c r + 1 by simp only [clen]; rw [if_pos (by omega)]] at q
      exact q
theorem R_cj38 (hA : Inj A) {i : Nat} (hi : i < 4) (hV : ∀ s, S i s ≤ 24) (K : Nat → Int32 → Mem → Option (Int32 × Mem)) {f : Nat → Int32} : ∀ (m n c : Nat) (F : Mem), c + m = 8 → m < n → rObj A F th aw → rShp A F S → F (A 57) = .inl (0, 9, .inl (fillF 0 c (fun c => iN (clen (S i) c 8)) f)) → fX10_conjugate_38 K n (A 49) (iN i) (iN c) F = K (A 49) (iN i) (va_up F (A 57) (.inl (0, 9, .inl (fillF 0 8 (fun c => iN (clen (S i) c 8)) f)))) := by
  intro m
  have := FU_big
  induction m with
  | zero =>
    intro n c F h1 h2 ho hs h
    obtain ⟨n', rfl⟩ : ∃ n', n = n' + 1 := ⟨n - 1, by omega⟩
    have : c = 8 := by omega
    subst this
    rw [fX10_conjugate_38.eq_2, if_pos (by decide), up_self h]
  | succ m ih =>
    intro n c F h1 h2 ho hs h
    obtain ⟨n', rfl⟩ : ∃ n', n = n' + 1 := ⟨n - 1, by omega⟩
    have k1 : Agr A [57] F (va_up F (A 57) (.inl (0, 9, .inl (fillF 0 (c + 1) (fun c => iN (clen (S i) c 8)) f)))) := (Agr.refl A _ F).up hA (by omega) (by simp)
    have e := ih n' (c + 1) _ (by omega) (by omega) (rObj_fr k1 ho (by simp)) (rShp_fr k1 hs (by simp)) (up_eq _ _ _)
    have e2 : wrI F (A 57) (iN c) (iN (clen (S i) c 8)) = some (va_up F (A 57) (.inl (0, 9, .inl (fillF 0 (c + 1) (fun c => iN (clen (S i) c 8)) f)))) := by
      have := fillF_s 0 c (fun c => iN (clen (S i) c 8)) f
      rw [Nat.zero_add] at this
      rw [wrI_at h (by omega) (by omega), this]
    rw [fX10_conjugate_38.eq_2, if_neg (fun q => by have := (iN_le (a := 8) (b := c) (by omega) (by omega)).mp q; omega)]
    have e3 := R_cj49 ho hs hi hV (c := c) (by omega) (fun (x0 : Nat) (x1 : Int32) (x2 : Int32) (x3 : Int32) (F : Mem) => (gfR F x0 9 9).bind fun v82 => (wrI F v82 x2 x3).bind fun F87 => (fX10_conjugate_38  K n') x0 x1 (x2 + 1) F87) 8 FU 0 (by omega) (by omega)
    refine e3.trans ?_
    simp only [R_g9 ho, Option.bind_some, e2, iN_one]
    rw [e, up_up]
theorem R_cj96 (hA : Inj A) {i : Nat} (hi : i < 4) {g f fl : Nat → Int32} (hl : ∀ k, k < 8 → fl k = g k) : ∀ (m n k : Nat) (F : Mem), k + m = 8 → m < n → rObj A F th aw → F (A 57) = .inl (0, 9, .inl fl) → F (A 50) = .inl (0, 32, .inl (fillF (8 * i) k g f)) → fX10_conjugate_96 n (A 49) (iN i) (iN k) F = some (1, va_up F (A 50) (.inl (0, 32, .inl (fillF (8 * i) 8 g f)))) := by
  intro m
  induction m with
  | zero =>
    intro n k F h1 h2 ho hl1 h
    obtain ⟨n', rfl⟩ : ∃ n', n = n' + 1 := ⟨n - 1, by omega⟩
    have : k = 8 := by omega
    subst this
    rw [fX10_conjugate_96.eq_2, if_pos (by decide), up_self h]
  | succ m ih =>
    intro n k F h1 h2 ho hl1 h
    obtain ⟨n', rfl⟩ : ∃ n', n = n' + 1 := ⟨n - 1, by omega⟩
    have k1 : Agr A [50] F (va_up F (A 50) (.inl (0, 32, .inl (fillF (8 * i) (k + 1) g f)))) := (Agr.refl A _ F).up hA (by omega) (by simp)
    have e := ih n' (k + 1) _ (by omega) (by omega) (rObj_fr k1 ho (by simp)) ((k1 57 (by omega) (by simp)).trans hl1) (up_eq _ _ _)
    have e2 : wrI F (A 50) (8 * iN i + iN k) (g k) = some (va_up F (A 50) (.inl (0, 32, .inl (fillF (8 * i) (k + 1) g f)))) := by
      rw [il8, iN_mul, iN_add, wrI_at h (by omega) (by omega), fillF_s (8 * i) k g f]
    rw [fX10_conjugate_96.eq_2, if_neg (fun q => by have := (iN_le (a := 8) (b := k) (by omega) (by omega)).mp q; omega), R_g1 ho, Option.bind_some, R_g9 ho, Option.bind_some, rdI_at hl1 (by omega) (by omega), Option.bind_some, hl k (by omega), e2, Option.bind_some, iN_one, e, up_up]
theorem R_conjugate (hA : Inj A) (h : RR A F S W N PT PO QT QO aw th) (hS : ∀ i, i < 4 → okS (S i)) {i : Nat} (hi : i < 4) : ∃ (z : Bool) (F' : Mem), mX10_conjugate F (A 49) (iN i) = some (bI z, F') ∧ (z = true ↔ S i 0 ≤ 8) ∧ RR A F' (if z = true then upK S i (cjV (S i)) else S) W N PT PO QT QO aw 0 ∧ Agr A RTs F F' := by
  have := FU_big
  obtain ⟨F1, e, h', k⟩ := RR_th hA h 0
  obtain ⟨fs, hob⟩ := rObj_ob h'.1
  have k' := k.mono (U := RTs) (RTs_of (fun t q => by simp at q; omega))
  have hV := okS_le (hS i hi)
  have hV0 := hV 0
  have st : mX10_conjugate F (A 49) (iN i) = if S i 0 ≤ 8 then (fX10_conjugate_38 (fun (x0 : Nat) (x1 : Int32) (F : Mem) => fX10_conjugate_96 FU x0 x1 0 F) FU (A 49) (iN i) (iN 0) F1) else (some (0, F1)) := by
    unfold mX10_conjugate
    rw [R_slot hi, Option.bind_some, if_neg ne10]
    unfold fX10_conjugate_13
    rw [e, Option.bind_some, rObj_th h'.1, Option.bind_some, if_neg (by decide), hob, Option.bind_some]
    simp (disch := omega) only [il0, il8, R_rowOf h'.1 h'.2.1 hi, Option.bind_some, iN_le]
  by_cases q : S i 0 ≤ 8
  · obtain ⟨f, f1, f2⟩ := h'.2.1
    obtain ⟨w1, w2, ⟨fl, w3⟩, w4, w5, w6, w7, w8, w9, w10, w11⟩ := h'.2.2.2.2
    have e1 := R_cj38 hA hi hV (fun (x0 : Nat) (x1 : Int32) (F : Mem) => fX10_conjugate_96 FU x0 x1 0 F) (f := fl) 8 FU 0 F1 (by omega) (by omega) h'.1 h'.2.1 (by rw [fillF_z]; exact w3)
    have k1 : Agr A [57, 50] F1 (va_up F1 (A 57) (.inl (0, 9, .inl (fillF 0 8 (fun c => iN (clen (S i) c 8)) fl)))) := (Agr.refl A _ F1).up hA (by omega) (by simp)
    have e2 := R_cj96 hA hi (g := fun c => iN (clen (S i) c 8)) (f := f) (fl := fillF 0 8 (fun c => iN (clen (S i) c 8)) fl) (fun k hk => by rw [fillF_in (by omega)]; rfl) 8 FU 0 _ (by omega) (by omega) (rObj_fr k1 h'.1 (by simp)) (up_eq _ _ _) (by rw [fillF_z, up_ne (hA.ne (by omega) (by omega) (by omega))]; exact f1)
    generalize hF2 : va_up (va_up F1 (A 57) (.inl (0, 9, .inl (fillF 0 8 (fun c => iN (clen (S i) c 8)) fl)))) (A 50) (.inl (0, 32, .inl (fillF (8 * i) 8 (fun c => iN (clen (S i) c 8)) f))) = F2 at e2
    have k2 : Agr A [57, 50] F1 F2 := by rw [← hF2]; exact k1.up hA (by omega) (by simp)
    have c57 : F2 (A 57) = .inl (0, 9, .inl (fillF 0 8 (fun c => iN (clen (S i) c 8)) fl)) := by rw [← hF2, up_ne (hA.ne (by omega) (by omega) (by omega)), up_eq]
    have c50 : F2 (A 50) = .inl (0, 32, .inl (fillF (8 * i) 8 (fun c => iN (clen (S i) c 8)) f)) := by rw [← hF2, up_eq]
    refine ⟨true, F2, by rw [st, if_pos q, e1]; exact e2, by simp [q], ?_, k'.trans (k2.mono (RTs_of (fun t q => by simp at q; omega)))⟩
    rw [if_pos rfl]
    refine ⟨rObj_fr k2 h'.1 (by simp), rShp_up hi f2 (fun k hk => by show _ = iN (mixL 8 _ _ k); unfold mixL; rw [if_pos hk]) c50, rWrd_fr k2 h'.2.2.1 (by simp), rTab_fr k2 h'.2.2.2.1 (by simp), ?_⟩
    exact ⟨ar0_fr k2 w1 (by omega) (by simp), (k2 _ (by omega) (by simp)).trans w2, ⟨_, c57⟩, ar0_fr k2 w4 (by omega) (by simp), ar0_fr k2 w5 (by omega) (by simp), ar0_fr k2 w6 (by omega) (by simp), ar1_fr k2 w7 (by omega) (by simp), ar1_fr k2 w8 (by omega) (by simp), ar1_fr k2 w9 (by omega) (by simp), ar1_fr k2 w10 (by omega) (by simp), ar0_fr k2 w11 (by omega) (by simp)⟩
  · refine ⟨false, F1, by rw [st, if_neg q]; rfl, by simp [q], ?_, k'⟩
    simpa using h'
theorem R_conjugate_no (hA : Inj A) (h : RR A F S W N PT PO QT QO aw th) {y : Int32} (hy : y < 0 ∨ (¬ y < 0 ∧ iN 4 ≤ y)) : ∃ F', RR A F' S W N PT PO QT QO aw 1 ∧ Agr A RTs F F' ∧ mX10_conjugate F (A 49) y = some (0, F') := by
  obtain ⟨F', e, h', k⟩ := RR_th hA h 1
  refine ⟨F', h', k.mono (RTs_of (fun t q => by simp at q; omega)), ?_⟩
  unfold mX10_conjugate
  rw [R_noslot hy, Option.bind_some, if_pos rfl]
  unfold fX10_conjugate_13
  rw [e, Option.bind_some, rObj_th h'.1, Option.bind_some, if_pos (by decide)]
/-- words -/
theorem R_letter_no (hA : Inj A) (h : RR A F S W N PT PO QT QO aw th) {y : Int32} (hy : y < 0 ∨ (¬ y < 0 ∧ iN 2 ≤ y)) (v : Int32) : ∃ F', RR A F' S W N PT PO QT QO aw 1 ∧ Agr A RTs F F' ∧ mX10_letter F (A 49) y v = some (0, F') := by
  obtain ⟨F', e, h', k⟩ := RR_th hA h 1
  refine ⟨F', h', k.mono (RTs_of (fun t q => by simp at q; omega)), ?_⟩
  unfold mX10_letter
  rw [R_noword hy, Option.bind_some, if_pos rfl]
  unfold fX10_letter_13
  rw [e, Option.bind_some, rObj_th h'.1, Option.bind_some, if_pos (by decide)]
theorem R_cut_no (hA : Inj A) (h : RR A F S W N PT PO QT QO aw th) {y : Int32} (hy : y < 0 ∨ (¬ y < 0 ∧ iN 2 ≤ y)) (v : Int32) : ∃ F', RR A F' S W N PT PO QT QO aw 1 ∧ Agr A RTs F F' ∧ mX10_cut F (A 49) y v = some (0, F') := by
  obtain ⟨F', e, h', k⟩ := RR_th hA h 1
  refine ⟨F', h', k.mono (RTs_of (fun t q => by simp at q; omega)), ?_⟩
  unfold mX10_cut
  rw [R_noword hy, Option.bind_some, if_pos rfl]
  unfold fX10_cut_13
  rw [e, Option.bind_some, rObj_th h'.1, Option.bind_some, if_pos (by decide)]
theorem R_at_no (hA : Inj A) (h : RR A F S W N PT PO QT QO aw th) {y : Int32} (hy : y < 0 ∨ (¬ y < 0 ∧ iN 2 ≤ y)) (v : Int32) : ∃ F', RR A F' S W N PT PO QT QO aw 1 ∧ Agr A RTs F F' ∧ mX10_at F (A 49) y v = some (0, F') := by
  obtain ⟨F', e, h', k⟩ := RR_th hA h 1
  refine ⟨F', h', k.mono (RTs_of (fun t q => by simp at q; omega)), ?_⟩
  unfold mX10_at
  rw [R_noword hy, Option.bind_some, if_pos rfl]
  unfold fX10_at_13
  rw [e, Option.bind_some, rObj_th h'.1, Option.bind_some, if_pos (by decide)]
theorem R_length_no (hA : Inj A) (h : RR A F S W N PT PO QT QO aw th) {y : Int32} (hy : y < 0 ∨ (¬ y < 0 ∧ iN 2 ≤ y)) : ∃ F', RR A F' S W N PT PO QT QO aw 1 ∧ Agr A RTs F F' ∧ mX10_length F (A 49) y = some (0, F') := by
  obtain ⟨F', e, h', k⟩ := RR_th hA h 1
  refine ⟨F', h', k.mono (RTs_of (fun t q => by simp at q; omega)), ?_⟩
  unfold mX10_length
  rw [R_noword hy, Option.bind_some, if_pos rfl]
  unfold fX10_length_13
  rw [e, Option.bind_some, rObj_th h'.1, Option.bind_some, if_neg (by decide)]
theorem R_length (hA : Inj A) (h : RR A F S W N PT PO QT QO aw th) {i : Nat} (hi : i < 2) : ∃ F', RR A F' S W N PT PO QT QO aw 0 ∧ Agr A RTs F F' ∧ mX10_length F (A 49) (iN i) = some (iN (N i), F') := by
  obtain ⟨F', e, h', k⟩ := RR_th hA h 0
  obtain ⟨g, g1, g2⟩ := h'.2.2.1.2
  refine ⟨F', h', k.mono (RTs_of (fun t q => by simp at q; omega)), ?_⟩
  unfold mX10_length
  rw [R_word hi, Option.bind_some, if_neg ne10]
  unfold fX10_length_13
  rw [e, Option.bind_some, rObj_th h'.1, Option.bind_some, if_pos (by decide), R_g3 h'.1, Option.bind_some, rdI_at g1 hi (by omega), g2 i hi, Option.bind_some]
theorem R_at (hA : Inj A) (h : RR A F S W N PT PO QT QO aw th) (hN : ∀ i, i < 2 → N i ≤ 16) {i : Nat} (hi : i < 2) (v : Int32) : ∃ F', RR A F' S W N PT PO QT QO aw 0 ∧ Agr A RTs F F' ∧ ((v < 0 ∨ (¬ v < 0 ∧ ¬ v < iN (N i))) → mX10_at F (A 49) (iN i) v = some (0, F')) ∧ (∀ m, m < N i → v = iN m → mX10_at F (A 49) (iN i) v = some (iN (W i m), F')) := by
  obtain ⟨F', e, h', k⟩ := RR_th hA h 0
  obtain ⟨⟨f, f1, f2⟩, g, g1, g2⟩ := h'.2.2.1
  have hn := hN i hi
  have st : mX10_at F (A 49) (iN i) v = if v < 0 then (some (0, F')) else if v < iN (N i) then ((rdI F' 0 (A 51) ((16 * iN i) + v)).bind fun v51 => some (v51, F')) else (some (0, F')) := by
    unfold mX10_at
    rw [R_word hi, Option.bind_some, if_neg ne10]
    unfold fX10_at_13
    rw [e, Option.bind_some, rObj_th h'.1, Option.bind_some, if_neg (by decide), R_g3 h'.1, Option.bind_some, rdI_at g1 hi (by omega), g2 i hi, Option.bind_some, R_g2 h'.1, Option.bind_some]
  refine ⟨F', h', k.mono (RTs_of (fun t q => by simp at q; omega)), ?_, ?_⟩
  · rintro (q | ⟨q1, q2⟩)
    · rw [st, if_pos q]
    · rw [st, if_neg q1, if_neg q2]
  · intro m hm hv
    subst hv
    rw [st, if_neg (iN_neg (by omega)), if_pos ((iN_lt (by omega) (by omega)).mpr hm), il16, iN_mul, iN_add, rdI_at f1 (by omega) (by omega), f2 i m hi hm, Option.bind_some]
theorem R_cut (hA : Inj A) (h : RR A F S W N PT PO QT QO aw th) (hN : ∀ i, i < 2 → N i ≤ 16) {i : Nat} (hi : i < 2) (v : Int32) : ((v < 0 ∨ (¬ v < 0 ∧ ¬ v ≤ iN (N i))) → ∃ F', RR A F' S W N PT PO QT QO aw 0 ∧ Agr A RTs F F' ∧ mX10_cut F (A 49) (iN i) v = some (0, F')) ∧ (∀ m, m ≤ N i → v = iN m → ∃ F', RR A F' S W (upL N i m) PT PO QT QO aw 0 ∧ Agr A RTs F F' ∧ mX10_cut F (A 49) (iN i) v = some (1, F')) := by
  obtain ⟨F', e, h', k⟩ := RR_th hA h 0
  obtain ⟨⟨f, f1, f2⟩, g, g1, g2⟩ := h'.2.2.1
  have hn := hN i hi
  have k' := k.mono (U := RTs) (RTs_of (fun t q => by simp at q; omega))
  have st : mX10_cut F (A 49) (iN i) v = if v < 0 then (some (0, F')) else if v ≤ iN (N i) then ((wrI F' (A 52) (iN i) v).bind fun F45 => some (1, F45)) else (some (0, F')) := by
    unfold mX10_cut
    rw [R_word hi, Option.bind_some, if_neg ne10]
    unfold fX10_cut_13
    rw [e, Option.bind_some, rObj_th h'.1, Option.bind_some, if_neg (by decide), R_g3 h'.1, Option.bind_some, rdI_at g1 hi (by omega), g2 i hi, Option.bind_some, Option.bind_some]
  refine ⟨?_, ?_⟩
  · rintro (q | ⟨q1, q2⟩)
    · exact ⟨F', h', k', by rw [st, if_pos q]⟩
    · exact ⟨F', h', k', by rw [st, if_neg q1, if_neg q2]⟩
  · intro m hm hv
    subst hv
    have k2 : Agr A [52] F' (va_up F' (A 52) (.inl (0, 2, .inl (upd g i (iN m))))) := (Agr.refl A _ F').up hA (by omega) (by simp)
    refine ⟨va_up F' (A 52) (.inl (0, 2, .inl (upd g i (iN m)))), ⟨rObj_fr k2 h'.1 (by simp), rShp_fr k2 h'.2.1 (by simp), ⟨⟨f, (k2 51 (by omega) (by simp)).trans f1, fun j q hj hq => ?_⟩, _, up_eq _ _ _, fun j hj => ?_⟩, rTab_fr k2 h'.2.2.2.1 (by simp), rWk_fr k2 h'.2.2.2.2 (fun t q => by simp at q; omega)⟩, k'.trans (k2.mono (RTs_of (fun t q => by simp at q; omega))), ?_⟩
    · apply f2 j q hj
      by_cases w : j = i
      · subst w; rw [upL_at] at hq; omega
      · rw [upL_ne w] at hq; exact hq
    · by_cases w : j = i
      · subst w; rw [upL_at]; simp [upd]
      · rw [upL_ne w]; simp [upd, w, g2 j hj]
    · rw [st, if_neg (iN_neg (by omega)), if_pos ((iN_le (by omega) (by omega)).mpr hm), wrI_at g1 hi (by omega), Option.bind_some]
theorem R_letter (hA : Inj A) (h : RR A F S W N PT PO QT QO aw th) (hN : ∀ i, i < 2 → N i ≤ 16) {i : Nat} (hi : i < 2) (v : Int32) : ((v < iN 1 ∨ (¬ v < iN 1 ∧ iN 16 < v) ∨ N i = 16) → ∃ F', RR A F' S W N PT PO QT QO aw 0 ∧ Agr A RTs F F' ∧ mX10_letter F (A 49) (iN i) v = some (0, F')) ∧ (∀ x, 1 ≤ x → x ≤ 16 → v = iN x → N i < 16 → ∃ F', RR A F' S (upK W i (upL (W i) (N i) x)) (upL N i (N i + 1)) PT PO QT QO aw 0 ∧ Agr A RTs F F' ∧ mX10_letter F (A 49) (iN i) v = some (1, F')) := by
  obtain ⟨F', e, h', k⟩ := RR_th hA h 0
  obtain ⟨⟨f, f1, f2⟩, g, g1, g2⟩ := h'.2.2.1
  have hn := hN i hi
  have k' := k.mono (U := RTs) (RTs_of (fun t q => by simp at q; omega))
  have st : mX10_letter F (A 49) (iN i) v = if v < iN 1 then (some (0, F')) else if iN 16 < v then (some (0, F')) else if iN (N i) = iN 16 then (some (0, F')) else ((wrI F' (A 51) ((16 * iN i) + iN (N i)) v).bind fun F63 => (gfR F63 (A 49) 9 3).bind fun v65 => (rdI F63 0 v65 (iN i)).bind fun v70 => (wrI F63 v65 (iN i) (v70 + 1)).bind fun F73 => some (1, F73)) := by
    unfold mX10_letter
    rw [R_word hi, Option.bind_some, if_neg ne10]
    unfold fX10_letter_13
    rw [e, Option.bind_some, rObj_th h'.1, Option.bind_some, if_neg (by decide), R_g3 h'.1, Option.bind_some, rdI_at g1 hi (by omega), g2 i hi, Option.bind_some, R_g2 h'.1, Option.bind_some, Option.bind_some, rdI_at g1 hi (by omega), g2 i hi, Option.bind_some]
    rfl
  refine ⟨?_, ?_⟩
  · rintro (q | ⟨q1, q2⟩ | q)
    · exact ⟨F', h', k', by rw [st, if_pos q]⟩
    · exact ⟨F', h', k', by rw [st, if_neg q1, if_pos q2]⟩
    · refine ⟨F', h', k', ?_⟩
      rw [st, q]
      split
      · rfl
      · split
        · rfl
        · rw [if_pos rfl]
  · intro x x1 x2 hv hlt
    subst hv
    generalize hFa : va_up F' (A 51) (.inl (0, 32, .inl (upd f (16 * i + N i) (iN x)))) = Fa
    have k1 : Agr A [51] F' Fa := by rw [← hFa]; exact (Agr.refl A _ F').up hA (by omega) (by simp)
    have ga : Fa (A 52) = .inl (0, 2, .inl g) := (k1 52 (by omega) (by simp)).trans g1
    have fa : Fa (A 51) = .inl (0, 32, .inl (upd f (16 * i + N i) (iN x))) := by rw [← hFa, up_eq]
    have k2 : Agr A [52] Fa (va_up Fa (A 52) (.inl (0, 2, .inl (upd g i (iN (N i + 1)))))) := (Agr.refl A _ Fa).up hA (by omega) (by simp)
    have k3 : Agr A [51, 52] F' (va_up Fa (A 52) (.inl (0, 2, .inl (upd g i (iN (N i + 1)))))) := (k1.mono (by simp)).trans (k2.mono (by simp))
    refine ⟨_, ⟨rObj_fr k3 h'.1 (by simp), rShp_fr k3 h'.2.1 (by simp), ⟨⟨_, (k2 51 (by omega) (by simp)).trans fa, fun j q hj hq => ?_⟩, _, up_eq _ _ _, fun j hj => ?_⟩, rTab_fr k3 h'.2.2.2.1 (by simp), rWk_fr k3 h'.2.2.2.2 (fun t q => by simp at q; omega)⟩, k'.trans (k3.mono (RTs_of (fun t q => by simp at q; omega))), ?_⟩
    · have hnj := hN j hj
      by_cases w : j = i
      · subst w
        rw [upL_at] at hq
        rw [upK_at]
        by_cases w2 : q = N j
        · subst w2; rw [upL_at]; simp [upd]
        · rw [upL_ne w2]
          simp only [upd]
          rw [if_neg (by omega)]
          exact f2 j q hj (by omega)
      · rw [upL_ne w] at hq
        rw [upK_ne w]
        simp only [upd]
        rw [if_neg (by omega)]
        exact f2 j q hj hq
    · by_cases w : j = i
      · subst w; rw [upL_at]; simp [upd]
      · rw [upL_ne w]; simp [upd, w, g2 j hj]
    · rw [st]
      simp (disch := omega) only [iN_lt, iN_inj, if_neg, il16, iN_mul, iN_add, wrI_at f1, hFa, Option.bind_some, R_g3 (rObj_fr k1 h'.1 (by simp)), rdI_at ga, g2, iN_one, wrI_at ga]
end OPS4
