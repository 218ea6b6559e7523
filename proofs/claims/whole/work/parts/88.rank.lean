section RANK
variable {A : Nat → Nat} {F : Mem} {S W : Nat → Nat → Nat} {N : Nat → Nat} {PT : Nat → Nat → Nat} {PO : Nat → Nat} {QT : Nat → Nat → Nat} {QO : Nat → Nat} {aw : Bool} {th : Int32}
theorem pnt_fuel : ∀ (f g n m : Nat), n + m < f → n + m < g → pnt f n m = pnt g n m := by
  intro f
  induction f with
  | zero => intro g n m h; omega
  | succ f ih =>
    intro g n m h1 h2
    obtain ⟨g', rfl⟩ : ∃ g', g = g' + 1 := ⟨g - 1, by omega⟩
    cases n with
    | zero => simp only [pnt]
    | succ n =>
      cases m with
      | zero => simp only [pnt]
      | succ m =>
        simp only [pnt]
        rw [ih g' (n + 1) m (by omega) (by omega)]
        by_cases k : m ≤ n
        · rw [if_pos k, if_pos k, ih g' (n - m) (m + 1) (by omega) (by omega)]
        · rw [if_neg k, if_neg k]
theorem pn_z (m : Nat) : pn 0 m = 1 := rfl
theorem pn_s0 (n : Nat) : pn (n + 1) 0 = 0 := by unfold pn; split <;> rfl
theorem pn_ss {n m : Nat} (h : n + m < 50) (hn : n < 24) : pn (n + 1) (m + 1) = pn (n + 1) m + (if m ≤ n then pn (n - m) (m + 1) else 0) := by
  unfold pn
  rw [if_pos (show n + 1 < 25 by omega), if_pos (show n + 1 < 25 by omega), if_pos (show n - m < 25 by omega)]
  show pnt 59 (n + 1) m + (if m ≤ n then pnt 59 (n - m) (m + 1) else 0) = _
  rw [pnt_fuel 59 60 (n + 1) m (by omega) (by omega), pnt_fuel 59 60 (n - m) (m + 1) (by omega) (by omega)]
theorem pn_step {r v : Nat} (h1 : 1 ≤ v) (h2 : v ≤ r) (h3 : r ≤ 24) : pn r v = pn r (v - 1) + pn (r - v) v := by
  have := pn_ss (n := r - 1) (m := v - 1) (by omega) (by omega)
  rw [show r - 1 + 1 = r by omega, show v - 1 + 1 = v by omega, if_pos (by omega), show r - 1 - (v - 1) = r - v by omega] at this
  exact this
theorem pn_big {r : Nat} (h3 : r ≤ 24) : ∀ d, r + d ≤ 24 → pn r (r + d) = pn r r := by
  intro d
  induction d with
  | zero => intro _; rfl
  | succ d ih =>
    intro h
    cases r with
    | zero => rfl
    | succ r =>
      rw [← ih (by omega), show r + 1 + (d + 1) = (r + 1 + d) + 1 by omega, pn_ss (by omega) (by omega), if_neg (by omega)]
      rfl
theorem pn_min {r m : Nat} (h3 : r ≤ 24) (h4 : m ≤ 24) : pn r (min r m) = pn r m := by
  by_cases k : r ≤ m
  · rw [Nat.min_eq_left k]
    have := pn_big h3 (m - r) (by omega)
    rw [show r + (m - r) = m by omega] at this
    exact this.symm
  · rw [Nat.min_eq_right (by omega)]
theorem pn_le : ∀ (n : Nat), n ≤ 24 → ∀ m, m ≤ 24 → pn n m ≤ 2 ^ n := by
  intro n
  induction n using Nat.strongRecOn with
  | ind n ih =>
    intro hn m hm
    cases n with
    | zero => rw [pn_z]; exact Nat.le_refl _
    | succ n =>
      have key : ∀ m, m ≤ n + 1 → pn (n + 1) m + 2 ^ (n + 1 - m) ≤ 2 ^ (n + 1) := by
        intro m
        induction m with
        | zero => intro _; rw [pn_s0, Nat.sub_zero, Nat.zero_add]; exact Nat.le_refl _
        | succ m ihm =>
          intro h
          have q := ihm (by omega)
          have q2 := ih (n - m) (by omega) (by omega) (m + 1) (by omega)
          rw [pn_ss (by omega) (by omega), if_pos (by omega), show n + 1 - (m + 1) = n - m by omega]
          rw [show n + 1 - m = (n - m) + 1 by omega, Nat.pow_succ] at q
          omega
      by_cases k : m ≤ n + 1
      · exact Nat.le_trans (Nat.le_add_right _ _) (key m k)
      · have := pn_big (r := n + 1) (by omega) (m - (n + 1)) (by omega)
        rw [show n + 1 + (m - (n + 1)) = m by omega] at this
        rw [this]
        exact Nat.le_trans (Nat.le_add_right _ _) (key (n + 1) (Nat.le_refl _))
theorem pn_lt {n m : Nat} (hn : n ≤ 24) (hm : m ≤ 24) : pn n m < 2 ^ 25 := by
  have h1 := pn_le n hn m hm
  have h2 : 2 ^ n ≤ 2 ^ 24 := Nat.pow_le_pow_right (by omega) hn
  omega
theorem X5_countOf {r m : Nat} (h : gO A F) (hr : r ≤ 24) (hm : m ≤ 24) : mX5_countOf F (A 20) (iN r) (iN m) = some (iN (pn r m), F) := by
  unfold mX5_countOf
  simp (disch := omega) only [gfR_at (k := 0) (v := A 21) h.1 rfl, Option.bind_some, il25, iN_mul, iN_add, rdI_at h.2]
  rw [show (r * 25 + m) / 25 = r by omega, show (r * 25 + m) % 25 = m by omega]
/-- the number of shapes before, from row i on -/
def rkF (V : Nat → Nat) : Nat → Nat → Nat → Nat → Int32
  | 0, _, _, _ => 0
  | m + 1, i, rest, most => (iN (pn rest most) - iN (pn rest (V i))) + rkF V m (i + 1) (rest - V i) (V i)
theorem X5_cb13 {a la : Nat} {V : Nat → Nat} (h : gO A F) (hV : isS F a la V) (h24 : ∀ s, V s ≤ 24) : ∀ (m n i rest most : Nat) (b : Int32), i + m = 8 → m < n → rest ≤ 24 → most ≤ 24 → boxes V 8 = boxes V i + rest → fX5_countBefore_13 n (A 20) a b (iN rest) (iN most) (iN i) F = some (b + rkF V m i rest most, F) := by
  intro m
  induction m with
  | zero =>
    intro n i rest most b h1 h2 h3 h4 h5
    obtain ⟨n', rfl⟩ : ∃ n', n = n' + 1 := ⟨n - 1, by omega⟩
    have : i = 8 := by omega
    subst this
    rw [fX5_countBefore_13.eq_2, if_pos (by decide)]
    simp only [rkF, Int32.add_zero]
  | succ m ih =>
    intro n i rest most b h1 h2 h3 h4 h5
    obtain ⟨n', rfl⟩ : ∃ n', n = n' + 1 := ⟨n - 1, by omega⟩
    have hv := h24 i
    have hle : V i ≤ rest := by
      have : ∀ d j, j + d = 8 → boxes V j ≤ boxes V 8 := by
        intro d
        induction d with
        | zero => intro j hj; rw [show j = 8 by omega]; exact Nat.le_refl _
        | succ d ih => intro j hj; have := ih (j + 1) (by omega); simp only [boxes] at this ⊢; omega
      have := this m (i + 1) (by omega)
      simp only [boxes] at this h5
      omega
    rw [fX5_countBefore_13.eq_2]
    simp (disch := omega) only [il8, iN_le, if_neg, gfR_at (k := 0) (v := la) hV.1 rfl, Option.bind_some, rdI_at hV.2, obj_of h.1, X5_countOf h, iN_sub, iN_one]
    rw [ih n' (i + 1) (rest - V i) (V i) _ (by omega) (by omega) (by omega) hv (by show boxes V 8 = boxes V i + V i + _; omega)]
    simp only [rkF, Int32.add_assoc]
theorem C_rank (h : CC A F S W N PT PO QT QO aw) (hS : ∀ i, i < 4 → okS (S i)) {i : Nat} (hi : i < 4) : mX9_rank F (A 0) (iN i) = some (.inr (rkF (S i) 8 0 (boxes (S i) 8) (boxes (S i) 8)), F) := by
  have := FU_big
  have ht := h.2.2.2.1 i hi
  have hO := h.2.2.2.2.2.2.2.2.2.1
  have e := X5_cb13 hO ht (okS_le (hS i hi)) 8 FU 0 (boxes (S i) 8) (boxes (S i) 8) 0 (by omega) (by omega) (hS i hi).2.2 (hS i hi).2.2 (by simp [boxes])
  rw [Int32.zero_add] at e
  unfold mX9_rank
  rw [gfR_at (k := 9) (v := A 20) h.1.1 rfl, Option.bind_some, obj_of h.1.1, Option.bind_some, C_slot h.1 hi, thn_r, obj_of hO.1, Option.bind_some]
  unfold mX5_countBefore
  rw [obj_of ht.1, Option.bind_some, X4_countBoxes ht, Option.bind_some]
  dsimp only
  rw [il0, ← il0]
  rw [show fX5_countBefore_13 FU (A 20) (A (37 + 2 * i)) 0 (iN (boxes (S i) 8)) (iN (boxes (S i) 8)) 0 F = _ from e, Option.bind_some]
theorem R_pn (h : rWk A F) {r m : Nat} (hr : r ≤ 24) (hm : m ≤ 24) : rdI F 0 (A 56) (iN (25 * r + m)) = some (iN (pn r m)) := by
  rw [rdI_at h.2.1 (by omega) (by omega), show (25 * r + m) / 25 = r by omega, show (25 * r + m) % 25 = m by omega]
theorem R_rk75 (ho : rObj A F th aw) (h : rWk A F) {x1 : Int32} {rest n0 k : Nat} (hr : rest ≤ 24) (K : Nat → Int32 → Int32 → Int32 → Int32 → Int32 → Mem → Option (Int32 × Mem)) : ∀ (d n : Nat) (b : Int32), n0 + d ≤ rest → d < n → fX10_rank_75 K n (A 49) x1 (iN rest) b (iN k) (iN n0) (iN (n0 + d)) F = K (A 49) x1 (iN rest) (b + (iN (pn rest (n0 + d)) - iN (pn rest n0))) (iN k) (iN n0) F := by
  intro d
  induction d with
  | zero =>
    intro n b h1 h2
    obtain ⟨n', rfl⟩ : ∃ n', n = n' + 1 := ⟨n - 1, by omega⟩
    rw [fX10_rank_75.eq_2, if_pos (by rw [Nat.add_zero]; exact Int32.le_refl _), Nat.add_zero, Int32.sub_self, Int32.add_zero]
  | succ d ih =>
    intro n b h1 h2
    obtain ⟨n', rfl⟩ : ∃ n', n = n' + 1 := ⟨n - 1, by omega⟩
    rw [fX10_rank_75.eq_2]
    simp (disch := omega) only [iN_le, if_neg, R_g8 ho, Option.bind_some, iN_sub, il25, iN_mul, iN_add, R_pn h]
    rw [show n0 + (d + 1) = (n0 + d) + 1 by omega, iN_pred, ih n' _ (by omega) (by omega)]
    congr 1
    rw [pn_step (r := rest) (v := n0 + d + 1) (by omega) (by omega) hr, show n0 + d + 1 - 1 = n0 + d by omega, ← iN_add]
    rw [Int32.add_assoc]
    congr 1
    rw [Int32.sub_eq_add_neg, Int32.sub_eq_add_neg, Int32.add_comm (iN (pn rest (n0 + d))) (iN (pn (rest - (n0 + d + 1)) (n0 + d + 1))), Int32.add_assoc]
theorem rkF_zero (V : Nat → Nat) : ∀ (m i most : Nat), rkF V m i 0 most = 0 := by
  intro m
  induction m with
  | zero => intro i most; rfl
  | succ m ih =>
    intro i most
    simp only [rkF, pn_z, Nat.zero_sub]
    rw [ih, Int32.sub_self]
    rfl
theorem R_rk39 (ho : rObj A F th aw) (hs : rShp A F S) (h : rWk A F) {i : Nat} (hi : i < 4) (hS : okS (S i)) : ∀ (m n k rest most : Nat) (b : Int32), k + m = 8 → m < n → rest ≤ 24 → most ≤ 24 → S i k ≤ most → boxes (S i) 8 = boxes (S i) k + rest → fX10_rank_39 n (A 49) (iN i) (iN rest) (iN most) b (iN k) F = some (b + rkF (S i) m k rest most, F) := by
  obtain ⟨fs, hob⟩ := rObj_ob ho
  have := FU_big
  intro m
  induction m with
  | zero =>
    intro n k rest most b h1 h2 h3 h4 h5 h6
    obtain ⟨n', rfl⟩ : ∃ n', n = n' + 1 := ⟨n - 1, by omega⟩
    have : k = 8 := by omega
    subst this
    rw [fX10_rank_39.eq_2, if_pos (by decide)]
    simp only [rkF, Int32.add_zero]
  | succ m ih =>
    intro n k rest most b h1 h2 h3 h4 h5 h6
    obtain ⟨n', rfl⟩ : ∃ n', n = n' + 1 := ⟨n - 1, by omega⟩
    have hle : S i k ≤ rest := by
      have : ∀ d j, j + d = 8 → boxes (S i) j ≤ boxes (S i) 8 := by
        intro d
        induction d with
        | zero => intro j hj; rw [show j = 8 by omega]; exact Nat.le_refl _
        | succ d ih => intro j hj; have := ih (j + 1) (by omega); simp only [boxes] at this ⊢; omega
      have := this m (k + 1) (by omega)
      simp only [boxes] at this h6
      omega
    rw [fX10_rank_39.eq_2]
    by_cases r0 : rest = 0
    · subst r0
      simp (disch := omega) only [il8, il0, iN_le, if_neg, if_pos]
      rw [rkF_zero, Int32.add_zero]
    · have core : ∀ g, g = min rest most → fX10_rank_69 (fX10_rank_39 n') (A 49) (iN i) (iN rest) b (iN k) (iN (S i k)) (iN g) F = some (b + rkF (S i) (m + 1) k rest most, F) := by
        intro g hg
        have e := R_rk75 ho h (x1 := iN i) (rest := rest) (n0 := S i k) (k := k) h3 (fun (x0 : Nat) (x1 : Int32) (x2 : Int32) (x4 : Int32) (x5 : Int32) (x6 : Int32) (F : Mem) => (fX10_rank_39 n') x0 x1 (x2 - x6) x6 x4 (x5 + 1) F) (g - S i k) FU b (by omega) (by omega)
        rw [show S i k + (g - S i k) = g by omega] at e
        unfold fX10_rank_69
        refine e.trans ?_
        have p1 := hS.1 k
        rw [iN_sub hle, iN_one, ih n' (k + 1) (rest - S i k) (S i k) _ (by omega) (by omega) (by omega) (by omega) p1 (by show boxes (S i) 8 = boxes (S i) k + S i k + _; omega), hg, pn_min h3 h4]
        simp only [rkF, Int32.add_assoc]
      simp (disch := omega) only [il8, il0, iN_le, if_neg, hob, Option.bind_some, R_rowOf ho hs hi]
      by_cases c : rest ≤ most
      · rw [if_pos c]; exact core rest (by omega)
      · rw [if_neg c]; exact core most (by omega)
theorem R_rank (hA : Inj A) (h : RR A F S W N PT PO QT QO aw th) (hS : ∀ i, i < 4 → okS (S i)) {i : Nat} (hi : i < 4) : ∃ F', RR A F' S W N PT PO QT QO aw 0 ∧ Agr A RTs F F' ∧ mX10_rank F (A 49) (iN i) = some (rkF (S i) 8 0 (boxes (S i) 8) (boxes (S i) 8), F') := by
  have := FU_big
  obtain ⟨F', e, h', k⟩ := RR_th hA h 0
  obtain ⟨fs, hob⟩ := rObj_ob h'.1
  refine ⟨F', h', k.mono (RTs_of (fun t q => by simp at q; omega)), ?_⟩
  have b0 : S i 0 ≤ boxes (S i) 8 := by simp only [boxes]; omega
  have e2 := R_rk39 h'.1 h'.2.1 h'.2.2.2.2 hi (hS i hi) 8 FU 0 (boxes (S i) 8) (boxes (S i) 8) 0 (by omega) (by omega) (hS i hi).2.2 (hS i hi).2.2 b0 (by simp [boxes])
  rw [Int32.zero_add] at e2
  unfold mX10_rank
  rw [R_slot hi, Option.bind_some, if_neg ne10]
  unfold fX10_rank_13
  rw [e, Option.bind_some, rObj_th h'.1, Option.bind_some, if_pos (by decide), hob, Option.bind_some, R_boxesOf h'.1 h'.2.1 hi, Option.bind_some]
  exact e2
theorem R_rank_no (hA : Inj A) (h : RR A F S W N PT PO QT QO aw th) {y : Int32} (hy : y < 0 ∨ (¬ y < 0 ∧ iN 4 ≤ y)) : ∃ F', RR A F' S W N PT PO QT QO aw 1 ∧ Agr A RTs F F' ∧ mX10_rank F (A 49) y = some (0, F') := by
  obtain ⟨F', e, h', k⟩ := RR_th hA h 1
  refine ⟨F', h', k.mono (RTs_of (fun t q => by simp at q; omega)), ?_⟩
  unfold mX10_rank
  rw [R_noslot hy, Option.bind_some, if_pos rfl]
  unfold fX10_rank_13
  rw [e, Option.bind_some, rObj_th h'.1, Option.bind_some, if_neg (by decide)]
end RANK
