section STD2
variable {A : Nat → Nat} {F : Mem} {S W : Nat → Nat → Nat} {N : Nat → Nat} {PT : Nat → Nat → Nat} {PO : Nat → Nat} {QT : Nat → Nat → Nat} {QO : Nat → Nat} {aw : Bool} {th : Int32}
/-- hooks -/
def hkN (V : Nat → Nat) (r c : Nat) : Nat := V r - 1 - c + clen V c 8 - r
theorem par_le {V : Nat → Nat} (h : par V) : ∀ {i j : Nat}, i ≤ j → V j ≤ V i := by
  intro i j hij
  have : ∀ d, V (i + d) ≤ V i := by
    intro d
    induction d with
    | zero => exact Nat.le_refl _
    | succ d ih => have := h (i + d); rw [← Nat.add_assoc]; omega
  have := this (j - i)
  rwa [show i + (j - i) = j by omega] at this
theorem clen_at {V : Nat → Nat} (h : par V) {c j : Nat} (hj : c < V j) (hj1 : V (j + 1) ≤ c) : ∀ m, clen V c m = min m (j + 1) := by
  intro m
  induction m with
  | zero => simp [clen]
  | succ m ih =>
    simp only [clen]
    rw [ih]
    by_cases d : m ≤ j
    · have := par_le h d
      rw [if_pos (by omega)]
      omega
    · have := par_le h (show j + 1 ≤ m by omega)
      rw [if_neg (by omega)]
      omega
theorem hk_at {V : Nat → Nat} (h : par V) {r c j : Nat} (hr : r ≤ j) (hj8 : j < 8) (hj : c < V j) (hj1 : V (j + 1) ≤ c) : hkN V r c = V r - c + j - r := by
  have e := clen_at h hj hj1 8
  have := par_le h hr
  unfold hkN
  rw [e]
  omega
/-- what stands between the hooks of a row -/
def tjN (V : Nat → Nat) (r j : Nat) : Nat := V r - V j + j - r
theorem hook_row {V : Nat → Nat} (h : par V) (h8 : V 8 = 0) (w : Nat → Int) {r : Nat} (hr : r < 8) : ∀ d, r + d ≤ 8 → sumZ (fun c => w (hkN V r c)) (V r) + sumZ (fun t => w (tjN V r (r + 1 + t))) d = sumZ (fun c => w (hkN V r c)) (V (r + d)) + smW w (tjN V r (r + d)) := by
  intro d
  induction d with
  | zero =>
    intro _
    have : tjN V r (r + 0) = 0 := by unfold tjN; rw [Nat.add_zero]; omega
    rw [this]
    rfl
  | succ d ih =>
    intro hd
    have q := ih (by omega)
    have hp := h (r + d)
    have hle := par_le h (show r ≤ r + d by omega)
    have mid : ∀ k, V (r + d + 1) + k ≤ V (r + d) → sumZ (fun c => w (hkN V r c)) (V (r + d + 1) + k) + smW w (tjN V r (r + d) + (V (r + d) - V (r + d + 1) - k)) = sumZ (fun c => w (hkN V r c)) (V (r + d + 1)) + smW w (tjN V r (r + d) + (V (r + d) - V (r + d + 1))) := by
      intro k
      induction k with
      | zero => intro _; rfl
      | succ k ihk =>
        intro hk
        have qq := ihk (by omega)
        rw [← qq, ← Nat.add_assoc]
        simp only [sumZ]
        have e1 : hkN V r (V (r + d + 1) + k) = tjN V r (r + d) + (V (r + d) - V (r + d + 1) - (k + 1)) + 1 := by
          rw [hk_at h (j := r + d) (by omega) (by omega) (by omega) (by omega)]
          unfold tjN
          omega
        have e2 : tjN V r (r + d) + (V (r + d) - V (r + d + 1) - k) = tjN V r (r + d) + (V (r + d) - V (r + d + 1) - (k + 1)) + 1 := by omega
        rw [e1, e2, smW_s]
        omega
    have m2 := mid (V (r + d) - V (r + d + 1)) (by omega)
    rw [show V (r + d + 1) + (V (r + d) - V (r + d + 1)) = V (r + d) by omega, Nat.sub_self, Nat.add_zero] at m2
    have e3 : tjN V r (r + d + 1) = tjN V r (r + d) + (V (r + d) - V (r + d + 1)) + 1 := by
      unfold tjN
      omega
    rw [show r + (d + 1) = r + d + 1 from rfl]
    rw [e3, smW_s, ← e3]
    simp only [sumZ]
    rw [show r + 1 + d = r + d + 1 by omega]
    omega
/-- hooks and differences of a row are all numbers up to its length with 7 - r -/
theorem hook_sum {V : Nat → Nat} (h : par V) (h8 : ∀ k, 8 ≤ k → V k = 0) (w : Nat → Int) {r : Nat} (hr : r < 8) : sumZ (fun c => w (hkN V r c)) (V r) + sumZ (fun t => w (tjN V r (r + 1 + t))) (7 - r) = smW w (V r + 7 - r) := by
  have q := hook_row h (h8 8 (by omega)) w hr (8 - r) (by omega)
  rw [show r + (8 - r) = 8 by omega, h8 8 (by omega), show 8 - r = (7 - r) + 1 by omega] at q
  simp only [sumZ] at q
  have e : tjN V r (r + 1 + (7 - r)) = V r + 7 - r + 1 := by
    unfold tjN
    rw [show r + 1 + (7 - r) = 8 by omega, h8 8 (by omega)]
    omega
  have e' : tjN V r 8 = V r + 7 - r + 1 := by unfold tjN; rw [h8 8 (by omega)]; omega
  rw [e, e', smW_s] at q
  omega
theorem hk_le {V : Nat → Nat} (h : okS V) {r c : Nat} (hr : r < 8) (hc : c < V r) : 1 ≤ hkN V r c ∧ hkN V r c ≤ 24 := by
  have key : ∀ d, r + d ≤ 7 → V (r + d + 1) ≤ c → c < V (r + d) → 1 ≤ hkN V r c ∧ hkN V r c ≤ 24 := by
    intro d hd h1 h2
    have e := hk_at h.1 (j := r + d) (r := r) (by omega) (by omega) h2 h1
    have hle := par_le h.1 (show r ≤ r + d by omega)
    have low : ∀ k, k ≤ d → V r + k ≤ boxes V (r + k + 1) := by
      intro k
      induction k with
      | zero => intro _; simp only [boxes, Nat.add_zero]; omega
      | succ k ih =>
        intro hk
        have q := ih (by omega)
        have pl := par_le h.1 (show r + k + 1 ≤ r + d by omega)
        have eb : boxes V (r + (k + 1) + 1) = boxes V (r + k + 1) + V (r + k + 1) := rfl
        rw [eb]
        omega
    have l := low d (Nat.le_refl _)
    have bm := boxes_mono V (show r + d + 1 ≤ 8 by omega)
    have := h.2.2
    rw [e]
    omega
  have find : ∀ m d, d + m = 7 - r → c < V (r + d) → 1 ≤ hkN V r c ∧ hkN V r c ≤ 24 := by
    intro m
    induction m with
    | zero => intro d hd hlt; exact key d (by omega) (by rw [h.2.1 (r + d + 1) (by omega)]; omega) hlt
    | succ m ih =>
      intro d hd hlt
      by_cases e : c < V (r + (d + 1))
      · exact ih (d + 1) (by omega) e
      · exact key d (by omega) (by rw [← Nat.add_assoc] at e; omega) hlt
  exact find (7 - r) 0 (by omega) hc
/-- what both sides come to -/
def stdW (V : Nat → Nat) (w : Nat → Int) : Int := smW w (boxes V 8) - sumZ (fun r => sumZ (fun c => w (hkN V r c)) (V r)) 8
theorem R_st87 (hA : Inj A) {i r : Nat} (hi : i < 4) (hS : okS (S i)) (hr : r < 8) {y : Nat → Int} (K : Nat → Int32 → Int32 → Mem → Option (Int64 × Mem)) : ∀ (m fu j : Nat) (F : Mem), j + m = 7 - r → m < fu → rObj A F th aw → rShp A F S → AP A F (fun q => y q + sumZ (fun t => nu q (tjN (S i) r (r + 1 + t))) j) → ∃ F', fX10_standard_87 K fu (A 49) (iN i) (iN r) (iN (S i r + 7 - r)) (iN (r + 1 + j)) F = K (A 49) (iN i) (iN r) F' ∧ AP A F' (fun q => y q + sumZ (fun t => nu q (tjN (S i) r (r + 1 + t))) (7 - r)) ∧ Agr A [65] F F' := by
  have hle := okS_le hS
  intro m
  induction m with
  | zero =>
    intro fu j F e1 e2 ho hs hy
    obtain ⟨f', rfl⟩ : ∃ f', fu = f' + 1 := ⟨fu - 1, by omega⟩
    have : j = 7 - r := by omega
    subst this
    refine ⟨F, ?_, hy, Agr.refl A _ F⟩
    rw [fX10_standard_87.eq_2, show r + 1 + (7 - r) = 8 by omega, if_pos (by decide)]
  | succ m ih =>
    intro fu j F e1 e2 ho hs hy
    obtain ⟨f', rfl⟩ : ∃ f', fu = f' + 1 := ⟨fu - 1, by omega⟩
    obtain ⟨fs, hob⟩ := rObj_ob ho
    have p1 := par_le hS.1 (show r ≤ r + 1 + j by omega)
    have l1 := hle r
    have et : tjN (S i) r (r + 1 + j) = S i r + 7 - r - S i (r + 1 + j) - 7 + (r + 1 + j) ∨ True := Or.inr trivial
    have a0 : iN (S i r + 7 - r) - iN (S i (r + 1 + j)) - 7 + iN (r + 1 + j) = iN (tjN (S i) r (r + 1 + j)) := by
      have x1 : iN (S i r + 7 - r) = iN (tjN (S i) r (r + 1 + j) + S i (r + 1 + j) + 7 - (r + 1 + j)) := by unfold tjN; congr 1; omega
      have x2 : iN (tjN (S i) r (r + 1 + j) + S i (r + 1 + j) + 7 - (r + 1 + j)) + iN (r + 1 + j) = iN (tjN (S i) r (r + 1 + j)) + iN (S i (r + 1 + j)) + iN 7 := by rw [iN_add, iN_add, iN_add]; congr 1; omega
      rw [x1, show (7 : Int32) = iN 7 from rfl]
      generalize iN (tjN (S i) r (r + 1 + j) + S i (r + 1 + j) + 7 - (r + 1 + j)) = X at x2
      generalize iN (tjN (S i) r (r + 1 + j)) = t0 at x2
      generalize iN (S i (r + 1 + j)) = s0 at x2
      generalize iN (r + 1 + j) = c0 at x2
      rw [Int32.sub_eq_add_neg, Int32.sub_eq_add_neg, show X + -s0 + -iN 7 + c0 = (X + c0) + (-s0 + -iN 7) by ac_rfl, x2, show t0 + s0 + iN 7 + (-s0 + -iN 7) = t0 + (s0 + -s0) + (iN 7 + -iN 7) by ac_rfl, Int32.add_right_neg, Int32.add_right_neg, Int32.add_zero, Int32.add_zero]
    have tl : 1 ≤ tjN (S i) r (r + 1 + j) ∧ tjN (S i) r (r + 1 + j) < 40 := by unfold tjN; omega
    obtain ⟨F1, a1, a2, a3⟩ := R_multiply hA (t := 1) (n := tjN (S i) r (r + 1 + j)) tl.1 tl.2 ho hy
    obtain ⟨F2, b1, b2, b3⟩ := ih f' (j + 1) F1 (by omega) (by omega) (rObj_fr a3 ho (by simp)) (rShp_fr a3 hs (by simp)) (AP_congr a2 (fun q _ => by simp only [sumZ]; omega))
    refine ⟨F2, ?_, b2, a3.trans b3⟩
    rw [fX10_standard_87.eq_2, if_neg (fun q => by have := (iN_le (a := 8) (by omega) (by omega)).mp q; omega), hob, Option.bind_some, R_rowOf ho hs hi (by omega), Option.bind_some]
    dsimp only
    rw [hob, Option.bind_some, a0, show (1 : Int32) = Int32.ofInt 1 from rfl, a1, Option.bind_some]
    rw [show iN (r + 1 + j) + Int32.ofInt 1 = iN (r + 1 + (j + 1)) from iN_one _]
    exact b1
theorem R_st58 (hA : Inj A) {i : Nat} (hi : i < 4) (hS : okS (S i)) {y : Nat → Int} (K : Nat → Mem → Option (Int64 × Mem)) : ∀ (m fu r : Nat) (F : Mem), r + m = 8 → m < fu → rObj A F th aw → rShp A F S → AP A F (fun q => y q - sumZ (fun r => sumZ (fun c => nu q (hkN (S i) r c)) (S i r)) r) → ∃ F', fX10_standard_58 K fu (A 49) (iN i) (iN r) F = K (A 49) F' ∧ AP A F' (fun q => y q - sumZ (fun r => sumZ (fun c => nu q (hkN (S i) r c)) (S i r)) 8) ∧ Agr A [65] F F' := by
  have fub := FU_big
  have hle := okS_le hS
  intro m
  induction m with
  | zero =>
    intro fu r F e1 e2 ho hs hy
    obtain ⟨f', rfl⟩ : ∃ f', fu = f' + 1 := ⟨fu - 1, by omega⟩
    have : r = 8 := by omega
    subst this
    refine ⟨F, ?_, hy, Agr.refl A _ F⟩
    rw [fX10_standard_58.eq_2, if_pos (by decide)]
  | succ m ih =>
    intro fu r F e1 e2 ho hs hy
    obtain ⟨f', rfl⟩ : ∃ f', fu = f' + 1 := ⟨fu - 1, by omega⟩
    obtain ⟨fs, hob⟩ := rObj_ob ho
    have l1 := hle r
    obtain ⟨F1, a1, a2, a3⟩ := R_factorial hA (t := -1) (n := S i r + 7 - r) (by omega) ho hy
    obtain ⟨F2, b1, b2, b3⟩ := R_st87 hA hi hS (show r < 8 by omega) (fun (x0 : Nat) (x1 : Int32) (x2 : Int32) (F : Mem) => (fX10_standard_58  K f') x0 x1 (x2 + 1) F) (7 - r) FU 0 F1 (by omega) (by omega) (rObj_fr a3 ho (by simp)) (rShp_fr a3 hs (by simp)) (AP_congr a2 (fun q _ => (Int.add_zero _).symm))
    have k2 : Agr A [65] F F2 := a3.trans b3
    obtain ⟨F3, c1, c2, c3⟩ := ih f' (r + 1) F2 (by omega) (by omega) (rObj_fr k2 ho (by simp)) (rShp_fr k2 hs (by simp)) (AP_congr b2 (fun q _ => by
      have := hook_sum hS.1 hS.2.1 (nu q) (show r < 8 by omega)
      simp only [sumZ]
      omega))
    refine ⟨F3, ?_, c2, k2.trans c3⟩
    rw [fX10_standard_58.eq_2, if_neg (fun q => by have := (iN_le (a := 8) (by omega) (by omega)).mp q; omega), hob, Option.bind_some, R_rowOf ho hs hi (by omega), Option.bind_some]
    dsimp only
    rw [hob, Option.bind_some, il7, iN_add, iN_sub (by omega), show (-1 : Int32) = Int32.ofInt (-1) from rfl, a1, Option.bind_some, iN_one]
    refine Eq.trans b1 ?_
    rw [iN_one]
    exact c1
end STD2
