section SKR
variable {A : Nat → Nat} {F : Mem} {S W : Nat → Nat → Nat} {N : Nat → Nat} {PT : Nat → Nat → Nat} {PO : Nat → Nat} {QT : Nat → Nat → Nat} {QO : Nat → Nat} {aw : Bool} {th : Int32}
theorem rdM {M : Nat → Nat → Nat → Nat} (h : F (A 53) = cM M) {k r c : Nat} (hk : k < 3) (hr : r < 24) (hc : c < 24) : rdI F 0 (A 53) (iN (576 * k + 24 * r + c)) = some (iN (M k r c)) := by
  rw [rdI_at h (by omega) (by omega), show (576 * k + 24 * r + c) / 576 = k by omega, show (576 * k + 24 * r + c) % 576 / 24 = r by omega, show (576 * k + 24 * r + c) % 24 = c by omega]
theorem wrM {M : Nat → Nat → Nat → Nat} (h : F (A 53) = cM M) {k r c : Nat} (hk : k < 3) (hr : r < 24) (hc : c < 24) (x : Nat) : wrI F (A 53) (iN (576 * k + 24 * r + c)) (iN x) = some (va_up F (A 53) (cM (upK M k (upT (M k) r c x)))) := by
  rw [wrI_at h (by omega) (by omega), updM M hr hc]
theorem R_is105 {i o p r c : Nat} {V : Nat → Nat} {M : Nat → Nat → Nat → Nat} (hi : i < 4) (ho : o < 4) (h24 : ∀ i, i < 4 → ∀ k, S i k ≤ 24) (hr : r < 8) (hc : c < 24) (hp : p < 24) (hVp : V p < 100) (hob : rObj A F th aw) (hs : rShp A F S) (h55 : F (A 55) = cW V) (h53 : F (A 53) = cM M) (hb : r ≠ 7 → ∀ d, S i (r + 1) ≤ d → d < S o (r + 1) → M 1 (r + 1) d < 100) (K28 : Nat → Int32 → Int32 → Int32 → Int32 → Int32 → Int32 → Mem → Option (Int32 × Mem)) (K187 : Nat → Int32 → Int32 → Int32 → Int32 → Int32 → Mem → Option (Int32 × Mem)) (z : Bool) : ∃ z' : Bool, fX10_isStrict_105 K28 K187 (A 49) (iN i) (iN o) (iN p) (iN r) (iN c) (bI z) F = K28 (A 49) (iN i) (iN o) (iN (p + 1)) (bI z') (iN r) (iN (c + 1)) F ∧ (z' = true ↔ z = true ∧ (r ≠ 7 → S i (r + 1) ≤ c → c < S o (r + 1) → V p < M 1 (r + 1) c)) := by
  obtain ⟨fs, hobj⟩ := rObj_ob hob
  unfold fX10_isStrict_105 fX10_isStrict_176
  rw [iN_one, iN_one]
  cases z with
  | false =>
    refine ⟨false, ?_, (fun q => by cases q), (fun q => by cases q.1)⟩
    rw [if_pos (show bI false = 0 from rfl)]
    rfl
  | true =>
    rw [if_neg (show ¬ bI true = 0 from ne10)]
    by_cases q7 : r = 7
    · refine ⟨true, ?_, fun _ => ⟨by trivial, fun w => absurd q7 w⟩, fun _ => rfl⟩
      rw [if_pos (show iN r = 7 from by rw [q7]; rfl)]
      rfl
    · have r1 := R_rowOf hob hs (i := i) (r := r + 1) hi (by omega)
      have r2 := R_rowOf hob hs (i := o) (r := r + 1) ho (by omega)
      have s1 := h24 i hi (r + 1)
      have s2 := h24 o ho (r + 1)
      rw [if_neg (show ¬ iN r = 7 from fun w => q7 ((iN_inj (b := 7) (by omega) (by omega)).mp w)), hobj, Option.bind_some, iN_one, r1, Option.bind_some]
      simp only
      by_cases q1 : c < S i (r + 1)
      · refine ⟨true, ?_, fun _ => ⟨by trivial, fun _ w => by omega⟩, fun _ => rfl⟩
        rw [if_pos ((iN_lt (by omega) (by omega)).mpr q1)]
        rfl
      · rw [if_neg (fun w => q1 ((iN_lt (by omega) (by omega)).mp w)), hobj, Option.bind_some, r2, Option.bind_some]
        simp only
        by_cases q2 : S o (r + 1) ≤ c
        · refine ⟨true, ?_, fun _ => ⟨by trivial, fun _ _ w => by omega⟩, fun _ => rfl⟩
          rw [if_pos ((iN_le (by omega) (by omega)).mpr q2)]
          rfl
        · have m100 := hb q7 c (by omega) (by omega)
          rw [if_neg (fun w => q2 ((iN_le (by omega) (by omega)).mp w)), R_g4 hob, Option.bind_some, show mX10_box F 1 (iN (r + 1)) (iN c) = _ from X10_box F 1 (r + 1) c, Option.bind_some]
          simp only
          rw [rdM h53 (by omega) (by omega) hc, Option.bind_some, R_g7 hob, Option.bind_some, rdI_at h55 hp (by omega), Option.bind_some]
          by_cases q3 : M 1 (r + 1) c ≤ V p
          · refine ⟨false, ?_, (fun w => by cases w), fun w => (by have := w.2 q7 (by omega) (by omega); omega)⟩
            rw [if_pos ((iN_le (by omega) (by omega)).mpr q3)]
            rfl
          · refine ⟨true, ?_, fun _ => ⟨by trivial, fun _ _ _ => by omega⟩, fun _ => rfl⟩
            rw [if_neg (fun w => q3 ((iN_le (by omega) (by omega)).mp w))]
            rfl
theorem R_is28 (hA : Inj A) {i o n r : Nat} {V : Nat → Nat} (hi : i < 4) (ho : o < 4) (h24 : ∀ i, i < 4 → ∀ k, S i k ≤ 24) (hr : r < 8) (hn : n ≤ 24) (hV : ∀ k, k < n → V k < 100) (K : Nat → Int32 → Int32 → Int32 → Int32 → Int32 → Mem → Option (Int32 × Mem)) : ∀ (m f c p : Nat) (z : Bool) (F : Mem) (M : Nat → Nat → Nat → Nat), c + m = S o r → m < f → p + m ≤ n → S i r ≤ c → rObj A F th aw → rShp A F S → F (A 55) = cW V → F (A 53) = cM M → (∀ d, S i r ≤ d → d < c → M 1 r d < 100) → (r ≠ 7 → ∀ d, S i (r + 1) ≤ d → d < S o (r + 1) → M 1 (r + 1) d < 100) → ∃ (z' : Bool) (T' : Nat → Nat → Nat), fX10_isStrict_28 K f (A 49) (iN i) (iN o) (iN p) (bI z) (iN r) (iN c) F = K (A 49) (iN i) (iN o) (iN (p + m)) (bI z') (iN r) (va_up F (A 53) (cM (upK M 1 T'))) ∧ (∀ s d, (s ≠ r ∨ d < c) → T' s d = M 1 s d) ∧ (∀ d, c ≤ d → d < S o r → T' r d = V (p + (d - c))) ∧ (z' = true ↔ z = true ∧ ∀ d, c ≤ d → d < S o r → strB T' (S i) (S o) r d) := by
  have so24 := h24 o ho r
  have si24 := h24 i hi r
  intro m
  induction m with
  | zero =>
    intro f c p z F M h1 h2 h3 h4 hob hs h55 h53 hl hb
    obtain ⟨f, rfl⟩ : ∃ m, f = m + 1 := ⟨f - 1, by omega⟩
    obtain ⟨fs, hobj⟩ := rObj_ob hob
    have eM : upK M 1 (M 1) = M := by
      funext j
      by_cases w : j = 1
      · subst w; rw [upK_at]
      · rw [upK_ne w]
    refine ⟨z, M 1, ?_, fun _ _ _ => rfl, fun d a b => by omega, fun q => ⟨q, fun d a b => by omega⟩, fun q => q.1⟩
    rw [fX10_isStrict_28.eq_2, hobj, Option.bind_some, R_rowOf hob hs ho hr, Option.bind_some]
    simp only
    rw [if_pos ((iN_le (by omega) (by omega)).mpr (by omega)), eM, up_self h53]
    rfl
  | succ m ih =>
    intro f c p z F M h1 h2 h3 h4 hob hs h55 h53 hl hb
    obtain ⟨f, rfl⟩ : ∃ m, f = m + 1 := ⟨f - 1, by omega⟩
    obtain ⟨fs, hobj⟩ := rObj_ob hob
    have vp := hV p (by omega)
    have wr := wrM h53 (k := 1) (r := r) (c := c) (by omega) (by omega) (by omega) (V p)
    have k1 : Agr A [53] F (va_up F (A 53) (cM (upK M 1 (upT (M 1) r c (V p))))) := (Agr.refl A _ F).up hA (by omega) (by simp)
    have hob1 := rObj_fr k1 hob (by simp)
    have hs1 := rShp_fr k1 hs (by simp)
    have h551 := (k1 55 (by omega) (by simp)).trans h55
    have h531 : (va_up F (A 53) (cM (upK M 1 (upT (M 1) r c (V p))))) (A 53) = cM (upK M 1 (upT (M 1) r c (V p))) := up_eq _ _ _
    have upu : ∀ T', va_up (va_up F (A 53) (cM (upK M 1 (upT (M 1) r c (V p))))) (A 53) (cM (upK (upK M 1 (upT (M 1) r c (V p))) 1 T')) = va_up F (A 53) (cM (upK M 1 T')) := fun T' => by rw [up_up, upK_up]
    obtain ⟨fs1, hobj1⟩ := rObj_ob hob1
    generalize hF1 : va_up F (A 53) (cM (upK M 1 (upT (M 1) r c (V p)))) = F1 at *
    have hb1 : r ≠ 7 → ∀ d, S i (r + 1) ≤ d → d < S o (r + 1) → upK M 1 (upT (M 1) r c (V p)) 1 (r + 1) d < 100 := fun a d b e => by
      rw [upK_at, upT_ne (by omega)]
      exact hb a d b e
    have hl1 : ∀ d, S i r ≤ d → d < c + 1 → upK M 1 (upT (M 1) r c (V p)) 1 r d < 100 := fun d a b => by
      rw [upK_at]
      by_cases w : d = c
      · subst w; rw [upT_at]; exact vp
      · rw [upT_ne (by omega)]; exact hl d a (by omega)
    -- the first question
    have step1 : ∃ z1 : Bool, fX10_isStrict_28 K (f + 1) (A 49) (iN i) (iN o) (iN p) (bI z) (iN r) (iN c) F = fX10_isStrict_105 (fX10_isStrict_28 K f) K (A 49) (iN i) (iN o) (iN p) (iN r) (iN c) (bI z1) F1 ∧ (z1 = true ↔ z = true ∧ (S i r ≠ c → M 1 r (c - 1) ≤ V p)) := by
      rw [fX10_isStrict_28.eq_2, hobj, Option.bind_some, R_rowOf hob hs ho hr, Option.bind_some]
      simp only
      rw [if_neg (fun w => by have := (iN_le (by omega) (by omega)).mp w; omega), R_g4 hob, Option.bind_some, show mX10_box F 1 (iN r) (iN c) = _ from X10_box F 1 r c, Option.bind_some]
      simp only
      rw [R_g7 hob, Option.bind_some, rdI_at h55 (by omega) (by omega), Option.bind_some, wr, Option.bind_some]
      cases z with
      | false =>
        refine ⟨false, ?_, (fun q => by cases q), (fun q => by cases q.1)⟩
        rw [if_pos (show bI false = 0 from rfl)]
        rfl
      | true =>
        rw [if_neg (show ¬ bI true = 0 from ne10), hobj1, Option.bind_some, R_rowOf hob1 hs1 hi hr, Option.bind_some]
        simp only
        by_cases q : c = S i r
        · refine ⟨true, ?_, fun _ => ⟨by trivial, fun w => absurd q.symm w⟩, fun _ => rfl⟩
          rw [if_pos (show iN c = iN (S i r) from by rw [q])]
          rfl
        · have em : iN c - 1 = iN (c - 1) := by rw [il1, iN_sub (by omega)]
          have l100 := hl (c - 1) (by omega) (by omega)
          have rd1 := rdM h531 (k := 1) (r := r) (c := c - 1) (by omega) (by omega) (by omega)
          rw [upK_at, upT_ne (by omega)] at rd1
          rw [if_neg (fun w => q ((iN_inj (by omega) (by omega)).mp w)), R_g4 hob1, Option.bind_some, em, show mX10_box F1 1 (iN r) (iN (c - 1)) = _ from X10_box F1 1 r (c - 1), Option.bind_some]
          simp only
          rw [rd1, Option.bind_some, R_g7 hob1, Option.bind_some, rdI_at h551 (by omega) (by omega), Option.bind_some]
          by_cases q3 : V p < M 1 r (c - 1)
          · refine ⟨false, ?_, (fun w => by cases w), fun w => (by have := w.2 (fun e => q e.symm); omega)⟩
            rw [if_pos ((iN_lt (by omega) (by omega)).mpr q3)]
            rfl
          · refine ⟨true, ?_, fun _ => ⟨by trivial, fun _ => by omega⟩, fun _ => rfl⟩
            rw [if_neg (fun w => q3 ((iN_lt (by omega) (by omega)).mp w))]
            rfl
    obtain ⟨z1, a1, a2⟩ := step1
    obtain ⟨z2, b1, b2⟩ := R_is105 (V := V) (M := upK M 1 (upT (M 1) r c (V p))) (p := p) (c := c) hi ho h24 hr (by omega) (by omega) vp hob1 hs1 h551 h531 hb1 (fX10_isStrict_28 K f) K z1
    obtain ⟨z', T', c1, c2, c3, c4⟩ := ih f (c + 1) (p + 1) z2 F1 _ (by omega) (by omega) (by omega) (by omega) hob1 hs1 h551 h531 hl1 hb1
    have t1 : T' r c = V p := by rw [c2 r c (by omega), upK_at, upT_at]
    have t2 : T' (r + 1) c = M 1 (r + 1) c := by rw [c2 (r + 1) c (by omega), upK_at, upT_ne (by omega)]
    have t3 : S i r ≠ c → T' r (c - 1) = M 1 r (c - 1) := fun w => by rw [c2 r (c - 1) (by omega), upK_at, upT_ne (by omega)]
    refine ⟨z', T', ?_, fun s d w => ?_, fun d a b => ?_, ?_⟩
    · rw [a1, b1, c1, upu, show p + 1 + m = p + (m + 1) by omega]
    · rw [c2 s d (by omega), upK_at, upT_ne (by omega)]
    · by_cases w : d = c
      · subst w; rw [t1, Nat.sub_self, Nat.add_zero]
      · rw [c3 d (by omega) b, show p + 1 + (d - (c + 1)) = p + (d - c) by omega]
    · rw [c4, b2, a2]
      constructor
      · intro ⟨⟨⟨w1, w2⟩, w3⟩, w4⟩
        refine ⟨w1, fun d a b => ?_⟩
        by_cases w : d = c
        · subst w
          refine ⟨fun e => ?_, fun e1 e2 e3 => ?_⟩
          · rw [t3 e, t1]; exact w2 e
          · rw [t1, t2]
            have := w3 e1 e2 e3
            rwa [upK_at, upT_ne (by omega)] at this
        · exact w4 d (by omega) b
      · intro ⟨w1, w2⟩
        have w0 := w2 c (Nat.le_refl _) (by omega)
        refine ⟨⟨⟨w1, fun e => ?_⟩, fun e1 e2 e3 => ?_⟩, fun d a b => w2 d (by omega) b⟩
        · have := w0.1 e
          rwa [t3 e, t1] at this
        · have := w0.2 e1 e2 e3
          rw [t1, t2] at this
          rw [upK_at, upT_ne (by omega)]
          exact this
theorem R_is14 (hA : Inj A) {i o : Nat} {V : Nat → Nat} (hi : i < 4) (ho : o < 4) (h24 : ∀ i, i < 4 → ∀ k, S i k ≤ 24) (hIO : ∀ s, S i s ≤ S o s) (hn : dfB (S i) (S o) 8 ≤ 24) (hV : ∀ k, k < dfB (S i) (S o) 8 → V k < 100) : ∀ (m f : Nat) (z : Bool) (F : Mem) (M : Nat → Nat → Nat → Nat), m ≤ 8 → m < f → rObj A F th aw → rShp A F S → F (A 55) = cW V → F (A 53) = cM M → (∀ s d, m ≤ s → s < 8 → S i s ≤ d → d < S o s → M 1 s d < 100) → ∃ (z' : Bool) (T' : Nat → Nat → Nat), fX10_isStrict_14 f (A 49) (iN i) (iN o) (iN (dfB (S i) (S o) 8 - dfB (S i) (S o) m)) (bI z) (iN m + (-1)) F = some (bI z', va_up F (A 53) (cM (upK M 1 T'))) ∧ (∀ s d, m ≤ s → T' s d = M 1 s d) ∧ (∀ s d, s < m → S i s ≤ d → d < S o s → T' s d = skF V (S i) (S o) s d) ∧ (z' = true ↔ z = true ∧ ∀ s d, s < m → S i s ≤ d → d < S o s → strB T' (S i) (S o) s d) := by
  have FB := FU_big
  intro m
  induction m with
  | zero =>
    intro f z F M h1 h2 hob hs h55 h53 hl
    obtain ⟨f, rfl⟩ : ∃ m, f = m + 1 := ⟨f - 1, by omega⟩
    have eM : upK M 1 (M 1) = M := by
      funext j
      by_cases w : j = 1
      · subst w; rw [upK_at]
      · rw [upK_ne w]
    refine ⟨z, M 1, ?_, fun _ _ _ => rfl, fun s d a => by omega, fun q => ⟨q, fun s d a => by omega⟩, fun q => q.1⟩
    rw [fX10_isStrict_14.eq_2, if_pos (by decide), eM, up_self h53]
    cases z <;> rfl
  | succ m ih =>
    intro f z F M h1 h2 hob hs h55 h53 hl
    obtain ⟨f, rfl⟩ : ∃ m, f = m + 1 := ⟨f - 1, by omega⟩
    obtain ⟨fs, hobj⟩ := rObj_ob hob
    have mo := dfB_mono (S i) (S o) (m + 1) 8 h1
    have es : dfB (S i) (S o) (m + 1) = dfB (S i) (S o) m + (S o m - S i m) := rfl
    have hm := hIO m
    have hm2 := h24 o ho m
    obtain ⟨z1, T1, a1, a2, a3, a4⟩ := R_is28 hA (r := m) hi ho h24 (by omega) hn hV (fun (x0 : Nat) (x1 : Int32) (x2 : Int32) (x3 : Int32) (x4 : Int32) (x5 : Int32) (F : Mem) => (fX10_isStrict_14 f) x0 x1 x2 x3 x4 (x5 + (-1)) F) (S o m - S i m) FU (S i m) (dfB (S i) (S o) 8 - dfB (S i) (S o) (m + 1)) z F M (by omega) (by omega) (by omega) (Nat.le_refl _) hob hs h55 h53 (fun d a b => by omega) (fun w d a b => hl (m + 1) d (Nat.le_refl _) (by omega) a b)
    have k1 : Agr A [53] F (va_up F (A 53) (cM (upK M 1 T1))) := (Agr.refl A _ F).up hA (by omega) (by simp)
    have t1 : ∀ d, S i m ≤ d → d < S o m → T1 m d = skF V (S i) (S o) m d := fun d a b => a3 d a b
    have vi : ∀ d, S i m ≤ d → d < S o m → skF V (S i) (S o) m d < 100 := fun d a b => hV _ (by omega)
    obtain ⟨z', T', b1, b2, b3, b4⟩ := ih f z1 _ _ (by omega) (by omega) (rObj_fr k1 hob (by simp)) (rShp_fr k1 hs (by simp)) ((k1 55 (by omega) (by simp)).trans h55) (up_eq _ _ _) (fun s d w1 w2 w3 w4 => by
      rw [upK_at]
      by_cases w : s = m
      · subst w; rw [t1 d w3 w4]; exact vi d w3 w4
      · rw [a2 s d (Or.inl w)]; exact hl s d (by omega) w2 w3 w4)
    rw [up_up, upK_up] at b1
    rw [upK_at] at b2
    refine ⟨z', T', ?_, fun s d w => ?_, fun s d w1 w2 w3 => ?_, ?_⟩
    · rw [iN_pred, fX10_isStrict_14.eq_2, if_neg (iN_neg (by omega)), hobj, Option.bind_some, R_rowOf hob hs hi (by omega), Option.bind_some]
      refine Eq.trans a1 ?_
      rw [show dfB (S i) (S o) 8 - dfB (S i) (S o) (m + 1) + (S o m - S i m) = dfB (S i) (S o) 8 - dfB (S i) (S o) m by omega]
      exact b1
    · rw [b2 s d (by omega), a2 s d (by omega)]
    · by_cases w : s = m
      · subst w
        rw [b2 s d (Nat.le_refl _)]
        exact t1 d w2 w3
      · exact b3 s d (by omega) w2 w3
    · rw [b4, a4]
      have eq : ∀ d, S i m ≤ d → d < S o m → (strB T1 (S i) (S o) m d ↔ strB T' (S i) (S o) m d) := fun d a b => by
        unfold strB
        rw [b2 m d (Nat.le_refl _), b2 m (d - 1) (Nat.le_refl _), b2 (m + 1) d (by omega)]
      constructor
      · intro ⟨⟨w1, w2⟩, w3⟩
        refine ⟨w1, fun s d x1 x2 x3 => ?_⟩
        by_cases w : s = m
        · subst w; exact (eq d x2 x3).mp (w2 d x2 x3)
        · exact w3 s d (by omega) x2 x3
      · intro ⟨w1, w2⟩
        exact ⟨⟨w1, fun d x2 x3 => (eq d x2 x3).mpr (w2 m d (by omega) x2 x3)⟩, fun s d x1 x2 x3 => w2 s d (by omega) x2 x3⟩
end SKR
