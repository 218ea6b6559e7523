section UNRANK
variable {A : Nat → Nat} {F : Mem} {S W : Nat → Nat → Nat} {N : Nat → Nat} {PT : Nat → Nat → Nat} {PO : Nat → Nat} {QT : Nat → Nat → Nat} {QO : Nat → Nat} {aw : Bool} {th : Int32}
/-- the length of the next row, and the rank that is left -/
def dnF (rest : Nat) : Nat → Nat → Nat × Nat
  | 0, b => (0, b)
  | v + 1, b => if b < pn (rest - (v + 1)) (v + 1) then (v + 1, b) else dnF rest v (b - pn (rest - (v + 1)) (v + 1))
theorem dnF_le (rest : Nat) : ∀ v b, (dnF rest v b).1 ≤ v := by
  intro v
  induction v with
  | zero => intro b; exact Nat.le_refl _
  | succ v ih =>
    intro b
    simp only [dnF]
    split
    · exact Nat.le_refl _
    · exact Nat.le_succ_of_le (ih _)
theorem dnF_b (rest : Nat) : ∀ v b, (dnF rest v b).2 ≤ b := by
  intro v
  induction v with
  | zero => intro b; exact Nat.le_refl _
  | succ v ih =>
    intro b
    simp only [dnF]
    split
    · exact Nat.le_refl _
    · exact Nat.le_trans (ih _) (Nat.sub_le _ _)
/-- a rank that there is -/
theorem dnF_ok {rest : Nat} (hr : rest ≤ 24) (h0 : 0 < rest) : ∀ v b, v ≤ rest → b < pn rest v → 1 ≤ (dnF rest v b).1 ∧ (dnF rest v b).2 < pn (rest - (dnF rest v b).1) (dnF rest v b).1 := by
  intro v
  induction v with
  | zero =>
    intro b _ h
    obtain ⟨r, rfl⟩ : ∃ r, rest = r + 1 := ⟨rest - 1, by omega⟩
    rw [pn_s0] at h
    omega
  | succ v ih =>
    intro b hv h
    simp only [dnF]
    by_cases k : b < pn (rest - (v + 1)) (v + 1)
    · rw [if_pos k]; exact ⟨by omega, k⟩
    · rw [if_neg k]
      apply ih _ (by omega)
      have := pn_step (r := rest) (v := v + 1) (by omega) hv hr
      rw [show v + 1 - 1 = v by omega] at this
      omega
/-- rest, greatest length, rank, after i rows -/
def urS (n b : Nat) : Nat → Nat × Nat × Nat
  | 0 => (n, n, b)
  | i + 1 => ((urS n b i).1 - (dnF (urS n b i).1 (min (urS n b i).1 (urS n b i).2.1) (urS n b i).2.2).1, (dnF (urS n b i).1 (min (urS n b i).1 (urS n b i).2.1) (urS n b i).2.2).1, (dnF (urS n b i).1 (min (urS n b i).1 (urS n b i).2.1) (urS n b i).2.2).2)
def urV (n b i : Nat) : Nat := (dnF (urS n b i).1 (min (urS n b i).1 (urS n b i).2.1) (urS n b i).2.2).1
theorem urS_s (n b i : Nat) : urS n b (i + 1) = ((urS n b i).1 - urV n b i, urV n b i, (dnF (urS n b i).1 (min (urS n b i).1 (urS n b i).2.1) (urS n b i).2.2).2) := rfl
theorem urS_ok {n b : Nat} (hn : n ≤ 24) (hb : b < pn n n) : ∀ i, (urS n b i).1 ≤ n ∧ (urS n b i).2.1 ≤ n ∧ (urS n b i).2.2 ≤ b ∧ ((urS n b i).1 = 0 ∨ (urS n b i).2.2 < pn (urS n b i).1 (urS n b i).2.1) := by
  intro i
  induction i with
  | zero => exact ⟨Nat.le_refl _, Nat.le_refl _, Nat.le_refl _, Or.inr hb⟩
  | succ i ih =>
    obtain ⟨h1, h2, h3, h4⟩ := ih
    have l1 := dnF_le (urS n b i).1 (min (urS n b i).1 (urS n b i).2.1) (urS n b i).2.2
    have l2 := dnF_b (urS n b i).1 (min (urS n b i).1 (urS n b i).2.1) (urS n b i).2.2
    rw [urS_s]
    unfold urV
    refine ⟨by dsimp only; omega, by dsimp only; omega, by dsimp only; omega, ?_⟩
    dsimp only
    by_cases r0 : (urS n b i).1 = 0
    · left; omega
    · right
      rcases h4 with h4 | h4
      · exact absurd h4 r0
      · have := dnF_ok (rest := (urS n b i).1) (by omega) (by omega) (min (urS n b i).1 (urS n b i).2.1) (urS n b i).2.2 (by omega) (by rw [pn_min (by omega) (by omega)]; exact h4)
        exact this.2
theorem urV_zero {n b i : Nat} (h : (urS n b i).1 = 0) : urV n b i = 0 := by
  have l1 := dnF_le (urS n b i).1 (min (urS n b i).1 (urS n b i).2.1) (urS n b i).2.2
  unfold urV
  omega
theorem urV_pos {n b i : Nat} (hn : n ≤ 24) (hb : b < pn n n) (h : (urS n b i).1 ≠ 0) : 1 ≤ urV n b i := by
  obtain ⟨h1, h2, h3, h4⟩ := urS_ok hn hb i
  rcases h4 with h4 | h4
  · exact absurd h4 h
  · exact (dnF_ok (rest := (urS n b i).1) (by omega) (by omega) (min (urS n b i).1 (urS n b i).2.1) (urS n b i).2.2 (by omega) (by rw [pn_min (by omega) (by omega)]; exact h4)).1
theorem urV_le (n b i : Nat) : urV n b i ≤ (urS n b i).1 ∧ urV n b i ≤ (urS n b i).2.1 := by
  have l1 := dnF_le (urS n b i).1 (min (urS n b i).1 (urS n b i).2.1) (urS n b i).2.2
  unfold urV
  omega
theorem urV_boxes (n b : Nat) : ∀ i, boxes (urV n b) i + (urS n b i).1 = n := by
  intro i
  induction i with
  | zero => simp [boxes, urS]
  | succ i ih =>
    have := (urV_le n b i).1
    rw [urS_s]
    simp only [boxes]
    omega
/-- the class's search -/
theorem X5_fd28 (h : gO A F) {a i : Nat} (K : Nat → Nat → Int32 → Int32 → Int32 → Int32 → Mem → Option (Int32 × Mem)) {rest : Nat} (hr : rest ≤ 24) : ∀ (v n b : Nat), v ≤ rest → v < n → b < 2 ^ 30 → fX5_find_28 K n (A 20) a (iN rest) (iN b) (iN i) (iN v) F = K (A 20) a (iN rest) (iN (dnF rest v b).2) (iN i) (iN (dnF rest v b).1) F := by
  intro v
  induction v with
  | zero =>
    intro n b h1 h2 h3
    obtain ⟨n', rfl⟩ : ∃ n', n = n' + 1 := ⟨n - 1, by omega⟩
    rw [fX5_find_28.eq_2, if_pos (by decide)]
    rfl
  | succ v ih =>
    intro n b h1 h2 h3
    obtain ⟨n', rfl⟩ : ∃ n', n = n' + 1 := ⟨n - 1, by omega⟩
    have pl := pn_lt (n := rest - (v + 1)) (m := v + 1) (by omega) (by omega)
    rw [fX5_find_28.eq_2]
    simp (disch := omega) only [il0, iN_le, if_neg, obj_of h.1, Option.bind_some, iN_sub, X5_countOf h, iN_lt]
    simp only [dnF]
    by_cases k : b < pn (rest - (v + 1)) (v + 1)
    · rw [if_pos k, if_pos k]
    · rw [if_neg k, if_neg k, iN_pred]
      exact ih n' _ (by omega) (by omega) (by omega)
theorem X5_fd12 (hA : Inj A) {n b : Nat} (hn : n ≤ 24) (hb : b < pn n n) {U : Nat → Nat} (K : Int32 → Mem → Option (Int32 × Mem)) : ∀ (m f i : Nat) (F : Mem), i + m = 8 → m < f → gO A F → isS F (A 15) (A 16) (mixL i (urV n b) U) → fX5_find_12 K f (A 20) (A 15) (iN (urS n b i).1) (iN (urS n b i).2.2) (iN (urS n b i).2.1) (iN i) F = K (iN (urS n b 8).1) (va_up F (A 16) (cS (mixL 8 (urV n b) U))) := by
  have := FU_big
  have pb := pn_lt (n := n) (m := n) hn hn
  intro m
  induction m with
  | zero =>
    intro f i F h1 h2 hO hU
    obtain ⟨f', rfl⟩ : ∃ f', f = f' + 1 := ⟨f - 1, by omega⟩
    have : i = 8 := by omega
    subst this
    rw [fX5_find_12.eq_2, if_pos (by decide), up_self hU.2]
  | succ m ih =>
    intro f i F h1 h2 hO hU
    obtain ⟨f', rfl⟩ : ∃ f', f = f' + 1 := ⟨f - 1, by omega⟩
    obtain ⟨u1, u2, u3, u4⟩ := urS_ok hn hb i
    have k1 : Agr A [16] F (va_up F (A 16) (cS (mixL (i + 1) (urV n b) U))) := (Agr.refl A _ F).up hA (by omega) (by simp)
    have e := ih f' (i + 1) _ (by omega) (by omega) (gO_fr k1 hO (by simp)) (isS_up (V := mixL (i + 1) (urV n b) U) hU)
    have emin : (if iN (urS n b i).1 < iN (urS n b i).2.1 then iN (urS n b i).1 else iN (urS n b i).2.1) = iN (min (urS n b i).1 (urS n b i).2.1) := by
      by_cases c : (urS n b i).1 < (urS n b i).2.1
      · rw [if_pos ((iN_lt (by omega) (by omega)).mpr c), Nat.min_eq_left (by omega)]
      · rw [if_neg (fun q => c ((iN_lt (by omega) (by omega)).mp q)), Nat.min_eq_right (by omega)]
    rw [fX5_find_12.eq_2, if_neg (fun q => by have := (iN_le (a := 8) (b := i) (by omega) (by omega)).mp q; omega), emin]
    refine (X5_fd28 hO (a := A 15) (i := i) _ (rest := (urS n b i).1) (by omega) (min (urS n b i).1 (urS n b i).2.1) FU (urS n b i).2.2 (by omega) (by omega) (by omega)).trans ?_
    have l := (urV_le n b i).1
    unfold fX5_find_71
    rw [gfR_at (k := 0) (v := A 16) hU.1 rfl, Option.bind_some, wrI_at hU.2 (by omega) (by omega), updO, show (dnF (urS n b i).1 (min (urS n b i).1 (urS n b i).2.1) (urS n b i).2.2).1 = urV n b i from rfl, mixL_s, Option.bind_some, iN_sub l, iN_one]
    rw [urS_s] at e
    exact e.trans (by rw [up_up])
theorem C_unrank (hA : Inj A) (h : CC A F S W N PT PO QT QO aw) (hS : ∀ i, i < 4 → okS (S i)) {i : Nat} (hi : i < 4) (x r : Int32) : ((x < 0 ∨ (¬ x < 0 ∧ iN 25 ≤ x)) ∧ mX9_unrank F (A 0) (iN i) x r = some (.inl "java/lang/IllegalArgumentException", F)) ∨ (∃ n, n ≤ 24 ∧ x = iN n ∧ (((r < 0 ∨ (¬ r < 0 ∧ iN (pn n n) ≤ r)) ∧ mX9_unrank F (A 0) (iN i) x r = some (.inl "java/util/NoSuchElementException", F)) ∨ (∃ b F', b < pn n n ∧ r = iN b ∧ Agr A CTs F F' ∧ (((urS n b 8).1 ≠ 0 ∧ mX9_unrank F (A 0) (iN i) x r = some (.inl "java/lang/UnsupportedOperationException", F') ∧ CC A F' S W N PT PO QT QO aw) ∨ ((urS n b 8).1 = 0 ∧ mX9_unrank F (A 0) (iN i) x r = some (.inr (), F') ∧ CC A F' (upK S i (mixL 8 (urV n b) (fun _ => 0))) W N PT PO QT QO aw))))) := by
  have := FU_big
  have hB := h.1
  have hO := h.2.2.2.2.2.2.2.2.2.1
  obtain ⟨U, hU, hU8⟩ := h.2.2.2.2.2.2.2.1
  have ht := h.2.2.2.1 i hi
  have st : ∀ (r' : Option ((String ⊕ Unit) × Mem)), (if x < 0 then (fX9_unrank_17 F) else (if x ≤ 24 then (if r < 0 then (fX9_unrank_44 F) else ((mX5_countOf F (A 20) x x).bind fun v38 => if r < v38.1 then ((gfR v38.2 (A 0) 8 9).bind fun v55 => (gfR v38.2 (A 0) 8 7).bind fun v61 => (obj v38.2 v55 4).bind fun _ => (mX5_find v38.2 v55 x r v61).bind fun v64 => if v64.1 = 0 then (some (Sum.inl "java/lang/UnsupportedOperationException", v64.2)) else ((gfR v64.2 (A 0) 8 7).bind fun v83 => (obj v64.2 (A (37 + 2 * i)) 3).bind fun _ => (mX4_copyFrom v64.2 (A (37 + 2 * i)) v83).bind fun v86 => some (Sum.inr (), v86))) else (fX9_unrank_44   v38.2))) else (fX9_unrank_17 F))) = r' → mX9_unrank F (A 0) (iN i) x r = r' := by
    intro r' q
    rw [← q]
    unfold mX9_unrank
    rw [obj_of hB.1, Option.bind_some, C_slot hB hi, thn_r, gfR_at (k := 9) (v := A 20) hB.1 rfl, Option.bind_some, obj_of hO.1, Option.bind_some]
  rcases i32_cases x 25 (by omega) with q | ⟨n, q1, q2⟩ | ⟨q1, q2⟩
  · left
    exact ⟨Or.inl q, st _ (by rw [if_pos q]; rfl)⟩
  · right
    subst q2
    refine ⟨n, by omega, rfl, ?_⟩
    have pb := pn_lt (n := n) (m := n) (by omega) (by omega)
    rcases i32_cases r (pn n n) (by omega) with w | ⟨b, w1, w2⟩ | ⟨w1, w2⟩
    · left
      refine ⟨Or.inl w, st _ ?_⟩
      rw [if_neg (iN_neg (by omega)), if_pos (show iN n ≤ 24 from (iN_le (b := 24) (by omega) (by omega)).mpr (by omega)), if_pos w]
      rfl
    · right
      subst w2
      have e0 := X5_fd12 hA (n := n) (b := b) (by omega) w1 (U := U) (fun (x4 : Int32) (F : Mem) => if x4 = 0 then (some (1, F)) else (some (0, F))) 8 FU 0 F (by omega) (by omega) hO (by rw [mixL_z]; exact hU)
      have em : mixL 8 (urV n b) U = mixL 8 (urV n b) (fun _ => 0) := by
        funext s
        unfold mixL
        by_cases c : s < 8
        · rw [if_pos c, if_pos c]
        · rw [if_neg c, if_neg c, hU8 s (by omega)]
      rw [em] at e0
      have m8 : ∀ s, 8 ≤ s → mixL 8 (urV n b) (fun _ => 0) s = 0 := fun s hs => by unfold mixL; rw [if_neg (by omega)]
      generalize hF1 : va_up F (A 16) (cS (mixL 8 (urV n b) (fun _ => 0))) = F1 at e0
      have k1 : Agr A [15, 16] F F1 := by rw [← hF1]; exact (Agr.refl A _ F).up hA (by omega) (by simp)
      have hV : isS F1 (A 15) (A 16) (mixL 8 (urV n b) (fun _ => 0)) := by rw [← hF1]; exact isS_up hU
      have hB1 := gB_fr k1 hB (by simp)
      have hT1 : isS F1 (A (37 + 2 * i)) (A (38 + 2 * i)) (S i) := isS_fr ht (k1 _ (by omega) (by simp; omega)) (k1 _ (by omega) (by simp; omega))
      obtain ⟨u1, u2, u3, u4⟩ := urS_ok (n := n) (b := b) (by omega) w1 8
      have c1 := CC_shape1 hA h k1 hV m8
      by_cases r0 : (urS n b 8).1 = 0
      · have k2 : Agr A [15, 16, 38 + 2 * i] F (va_up F1 (A (38 + 2 * i)) (cS (mixL 8 (urV n b) (fun _ => 0)))) := (k1.mono (fun t q => by simp at q ⊢; omega)).up hA (by omega) (by simp)
        have c2 := CC_shape2 hA h hi k2 (isS_at hA hV (by omega) (by omega) (by omega) (by omega) (by omega)) m8 (up_eq _ _ _)
        refine ⟨b, va_up F1 (A (38 + 2 * i)) (cS (mixL 8 (urV n b) (fun _ => 0))), w1, rfl, c2.2, Or.inr ⟨r0, st _ ?_, c2.1⟩⟩
        rw [if_neg (iN_neg (by omega)), if_pos (show iN n ≤ 24 from (iN_le (b := 24) (by omega) (by omega)).mpr (by omega)), if_neg (iN_neg (by omega)), X5_countOf hO (by omega) (by omega), Option.bind_some]
        simp (disch := omega) only [iN_lt, if_pos, gfR_at (k := 9) (v := A 20) hB.1 rfl, gfR_at (k := 7) (v := A 15) hB.1 rfl, Option.bind_some, obj_of hO.1]
        rw [show mX5_find F (A 20) (iN n) (iN b) (A 15) = _ from e0, r0, if_pos (show iN 0 = 0 from rfl), Option.bind_some, if_neg ne10, gfR_at (k := 7) (v := A 15) hB1.1 rfl, Option.bind_some, obj_of hT1.1, Option.bind_some, X4_copyFrom hV hT1 m8 (hS i hi).2.1, Option.bind_some]
      · refine ⟨b, F1, w1, rfl, c1.2, Or.inl ⟨r0, st _ ?_, c1.1⟩⟩
        rw [if_neg (iN_neg (by omega)), if_pos (show iN n ≤ 24 from (iN_le (b := 24) (by omega) (by omega)).mpr (by omega)), if_neg (iN_neg (by omega)), X5_countOf hO (by omega) (by omega), Option.bind_some]
        simp (disch := omega) only [iN_lt, if_pos, gfR_at (k := 9) (v := A 20) hB.1 rfl, gfR_at (k := 7) (v := A 15) hB.1 rfl, Option.bind_some, obj_of hO.1]
        rw [show mX5_find F (A 20) (iN n) (iN b) (A 15) = _ from e0, if_neg (show ¬ iN (urS n b 8).1 = 0 from fun q => r0 ((iN_inj (b := 0) (by omega) (by omega)).mp q)), Option.bind_some, if_pos rfl]
    · left
      refine ⟨Or.inr ⟨w1, w2⟩, st _ ?_⟩
      rw [if_neg (iN_neg (by omega)), if_pos (show iN n ≤ 24 from (iN_le (b := 24) (by omega) (by omega)).mpr (by omega)), if_neg w1, X5_countOf hO (by omega) (by omega), Option.bind_some, if_neg (iN_nlt w2)]
      rfl
  · left
    refine ⟨Or.inr ⟨q1, q2⟩, st _ ?_⟩
    rw [if_neg q1, if_neg (show ¬ x ≤ 24 from iN_nle (iN_le' (b := 24) q2 (by omega) (by omega)))]
    rfl
/-- the reference's search -/
theorem R_ur125 (ho : rObj A F th aw) (h : rWk A F) {x1 : Int32} {k : Nat} (K : Nat → Int32 → Int32 → Int32 → Int32 → Int32 → Mem → Option Mem) {rest : Nat} (hr : rest ≤ 24) (h0 : 0 < rest) : ∀ (v n b : Nat), v ≤ rest → v < n → b < pn rest v → fX10_unrank_125 K n (A 49) x1 (iN rest) (iN k) (iN b) (iN v) F = K (A 49) x1 (iN rest) (iN k) (iN (dnF rest v b).2) (iN (dnF rest v b).1) F := by
  intro v
  induction v with
  | zero =>
    intro n b h1 h2 h3
    obtain ⟨r, rfl⟩ : ∃ r, rest = r + 1 := ⟨rest - 1, by omega⟩
    rw [pn_s0] at h3
    omega
  | succ v ih =>
    intro n b h1 h2 h3
    obtain ⟨n', rfl⟩ : ∃ n', n = n' + 1 := ⟨n - 1, by omega⟩
    have pl := pn_lt (n := rest - (v + 1)) (m := v + 1) (by omega) (by omega)
    have pl2 := pn_lt (n := rest) (m := v + 1) (by omega) (by omega)
    have ps := pn_step (r := rest) (v := v + 1) (by omega) h1 hr
    rw [show v + 1 - 1 = v by omega] at ps
    rw [fX10_unrank_125.eq_2]
    simp (disch := omega) only [R_g8 ho, Option.bind_some, iN_sub, il25, iN_mul, iN_add, R_pn h, iN_lt]
    simp only [dnF]
    by_cases c : b < pn (rest - (v + 1)) (v + 1)
    · rw [if_pos c, if_pos c]
    · rw [if_neg c, if_neg c, iN_pred]
      exact ih n' _ (by omega) (by omega) (by omega)
theorem R_ur76 (hA : Inj A) {x1 x4 x5 x6 x7 : Int32} (K : Nat → Int32 → Int32 → Int32 → Int32 → Int32 → Mem → Option Mem) {f : Nat → Int32} : ∀ (m n i : Nat) (F : Mem), i + m = 9 → m < n → rObj A F th aw → F (A 57) = .inl (0, 9, .inl (fillF 0 i (fun _ => 0) f)) → fX10_unrank_76 K n (A 49) x1 x4 x5 x6 x7 (iN i) F = K (A 49) x1 x4 x5 x6 x7 (va_up F (A 57) (.inl (0, 9, .inl (fillF 0 9 (fun _ => 0) f)))) := by
  intro m
  induction m with
  | zero =>
    intro n i F h1 h2 ho h
    obtain ⟨n', rfl⟩ : ∃ n', n = n' + 1 := ⟨n - 1, by omega⟩
    have : i = 9 := by omega
    subst this
    rw [fX10_unrank_76.eq_2, if_pos (by decide), up_self h]
  | succ m ih =>
    intro n i F h1 h2 ho h
    obtain ⟨n', rfl⟩ : ∃ n', n = n' + 1 := ⟨n - 1, by omega⟩
    have k1 : Agr A [57] F (va_up F (A 57) (.inl (0, 9, .inl (fillF 0 (i + 1) (fun _ => 0) f)))) := (Agr.refl A _ F).up hA (by omega) (by simp)
    have e := ih n' (i + 1) _ (by omega) (by omega) (rObj_fr k1 ho (by simp)) (up_eq _ _ _)
    have e2 : wrI F (A 57) (iN i) 0 = some (va_up F (A 57) (.inl (0, 9, .inl (fillF 0 (i + 1) (fun _ => 0) f)))) := by
      have := fillF_s 0 i (fun _ => 0) f
      rw [Nat.zero_add] at this
      rw [wrI_at h (by omega) (by omega), this]
    rw [fX10_unrank_76.eq_2, if_neg (fun q => by have := (iN_le (a := 9) (b := i) (by omega) (by omega)).mp q; omega), R_g9 ho, Option.bind_some, e2, Option.bind_some, iN_one, e, up_up]
/-- the reference's rows -/
theorem R_ur97 (hA : Inj A) {x1 : Int32} {n b : Nat} (hn : n ≤ 24) (hb : b < pn n n) (K : Nat → Int32 → Mem → Option Mem) {f : Nat → Int32} (hf : ∀ i, i < 9 → f i = 0) : ∀ (m fu i : Nat) (F : Mem), i + m = 9 → m < fu → rObj A F th aw → rWk A F → F (A 57) = .inl (0, 9, .inl (fillF 0 i (fun k => iN (urV n b k)) f)) → ∃ g, (∀ k, k < 9 → g k = iN (urV n b k)) ∧ fX10_unrank_97 K fu (A 49) x1 (iN (urS n b i).1) (iN (urS n b i).2.1) (iN i) (iN (urS n b i).2.2) F = K (A 49) x1 (va_up F (A 57) (.inl (0, 9, .inl g))) := by
  have := FU_big
  have pb := pn_lt (n := n) (m := n) hn hn
  have zs : ∀ d i, (urS n b i).1 = 0 → urV n b (i + d) = 0 := by
    intro d
    induction d with
    | zero => intro i h; exact urV_zero h
    | succ d ih =>
      intro i h
      rw [show i + (d + 1) = (i + 1) + d by omega]
      apply ih
      rw [urS_s]
      dsimp only
      omega
  intro m
  induction m with
  | zero =>
    intro fu i F h1 h2 ho hw h
    obtain ⟨f', rfl⟩ : ∃ f', fu = f' + 1 := ⟨fu - 1, by omega⟩
    have : i = 9 := by omega
    subst this
    refine ⟨fillF 0 9 (fun k => iN (urV n b k)) f, fun k hk => by rw [fillF_in (by omega)]; rfl, ?_⟩
    rw [up_self h, fX10_unrank_97.eq_2]
    rw [if_pos (show (9 : Int32) ≤ iN 9 by decide)]
    split <;> rfl
  | succ m ih =>
    intro fu i F h1 h2 ho hw h
    obtain ⟨f', rfl⟩ : ∃ f', fu = f' + 1 := ⟨fu - 1, by omega⟩
    obtain ⟨u1, u2, u3, u4⟩ := urS_ok hn hb i
    by_cases r0 : (urS n b i).1 = 0
    · refine ⟨fillF 0 i (fun k => iN (urV n b k)) f, fun k hk => ?_, ?_⟩
      · by_cases c : k < i
        · rw [fillF_in (by omega)]; rfl
        · rw [fillF_out (by omega), hf k hk]
          have := zs (k - i) i r0
          rw [show i + (k - i) = k by omega] at this
          rw [this]
          rfl
      · rw [up_self h, fX10_unrank_97.eq_2, r0, if_pos (by decide)]
    · have k1 : Agr A [57] F (va_up F (A 57) (.inl (0, 9, .inl (fillF 0 (i + 1) (fun k => iN (urV n b k)) f)))) := (Agr.refl A _ F).up hA (by omega) (by simp)
      have hw1 : rWk A (va_up F (A 57) (.inl (0, 9, .inl (fillF 0 (i + 1) (fun k => iN (urV n b k)) f)))) := by
        obtain ⟨w1, w2, w3, w4, w5, w6, w7, w8, w9, w10, w11⟩ := hw
        exact ⟨ar0_fr k1 w1 (by omega) (by simp), (k1 _ (by omega) (by simp)).trans w2, ⟨_, up_eq _ _ _⟩, ar0_fr k1 w4 (by omega) (by simp), ar0_fr k1 w5 (by omega) (by simp), ar0_fr k1 w6 (by omega) (by simp), ar1_fr k1 w7 (by omega) (by simp), ar1_fr k1 w8 (by omega) (by simp), ar1_fr k1 w9 (by omega) (by simp), ar1_fr k1 w10 (by omega) (by simp), ar0_fr k1 w11 (by omega) (by simp)⟩
      obtain ⟨g, g1, g2⟩ := ih f' (i + 1) _ (by omega) (by omega) (rObj_fr k1 ho (by simp)) hw1 (up_eq _ _ _)
      refine ⟨g, g1, ?_⟩
      rw [up_up] at g2
      have hlt : (urS n b i).2.2 < pn (urS n b i).1 (urS n b i).2.1 := by
        rcases u4 with u4 | u4
        · exact absurd u4 r0
        · exact u4
      have l := (urV_le n b i).1
      have core : ∀ v, v = min (urS n b i).1 (urS n b i).2.1 → fX10_unrank_123 (fX10_unrank_97 K f') K (A 49) x1 (iN (urS n b i).1) (iN i) (iN (urS n b i).2.2) (iN v) F = K (A 49) x1 (va_up F (A 57) (.inl (0, 9, .inl g))) := by
        intro v hv
        unfold fX10_unrank_123
        refine (R_ur125 ho hw (x1 := x1) (k := i) _ (rest := (urS n b i).1) (by omega) (by omega) v FU (urS n b i).2.2 (by omega) (by omega) (by rw [hv, pn_min (by omega) (by omega)]; exact hlt)).trans ?_
        have e2 : wrI F (A 57) (iN i) (iN (urV n b i)) = some (va_up F (A 57) (.inl (0, 9, .inl (fillF 0 (i + 1) (fun k => iN (urV n b k)) f)))) := by
          have := fillF_s 0 i (fun k => iN (urV n b k)) f
          rw [Nat.zero_add] at this
          rw [wrI_at h (by omega) (by omega), this]
        rw [hv, R_g9 ho, Option.bind_some, show (dnF (urS n b i).1 (min (urS n b i).1 (urS n b i).2.1) (urS n b i).2.2).1 = urV n b i from rfl, e2, Option.bind_some, iN_sub l, iN_one]
        rw [urS_s] at g2
        exact g2
      rw [fX10_unrank_97.eq_2]
      simp (disch := omega) only [il0, il9, iN_le, if_neg]
      by_cases c : (urS n b i).1 ≤ (urS n b i).2.1
      · rw [if_pos c]; exact core _ (by omega)
      · rw [if_neg c]; exact core _ (by omega)
theorem R_ur218 (hA : Inj A) {i : Nat} (hi : i < 4) {g f fl : Nat → Int32} (hl : ∀ k, k < 8 → fl k = g k) : ∀ (m n k : Nat) (F : Mem), k + m = 8 → m < n → rObj A F th aw → F (A 57) = .inl (0, 9, .inl fl) → F (A 50) = .inl (0, 32, .inl (fillF (8 * i) k g f)) → fX10_unrank_218 n (A 49) (iN i) (iN k) F = some (va_up F (A 50) (.inl (0, 32, .inl (fillF (8 * i) 8 g f)))) := by
  intro m
  induction m with
  | zero =>
    intro n k F h1 h2 ho hl1 h
    obtain ⟨n', rfl⟩ : ∃ n', n = n' + 1 := ⟨n - 1, by omega⟩
    have : k = 8 := by omega
    subst this
    rw [fX10_unrank_218.eq_2, if_pos (by decide), up_self h]
  | succ m ih =>
    intro n k F h1 h2 ho hl1 h
    obtain ⟨n', rfl⟩ : ∃ n', n = n' + 1 := ⟨n - 1, by omega⟩
    have k1 : Agr A [50] F (va_up F (A 50) (.inl (0, 32, .inl (fillF (8 * i) (k + 1) g f)))) := (Agr.refl A _ F).up hA (by omega) (by simp)
    have e := ih n' (k + 1) _ (by omega) (by omega) (rObj_fr k1 ho (by simp)) ((k1 57 (by omega) (by simp)).trans hl1) (up_eq _ _ _)
    have e2 : wrI F (A 50) (8 * iN i + iN k) (g k) = some (va_up F (A 50) (.inl (0, 32, .inl (fillF (8 * i) (k + 1) g f)))) := by
      rw [il8, iN_mul, iN_add, wrI_at h (by omega) (by omega), fillF_s (8 * i) k g f]
    rw [fX10_unrank_218.eq_2, if_neg (fun q => by have := (iN_le (a := 8) (b := k) (by omega) (by omega)).mp q; omega), R_g1 ho, Option.bind_some, R_g9 ho, Option.bind_some, rdI_at hl1 (by omega) (by omega), Option.bind_some, hl k (by omega), e2, Option.bind_some, iN_one, e, up_up]
/-- the working rooms, one of them new -/
theorem rWk57 {F' : Mem} {T : List Nat} {g : Nat → Int32} (k : Agr A T F F') (h : rWk A F) (d : ∀ t, t ∈ T → t < 55 ∨ 66 ≤ t ∨ t = 57) (e : F' (A 57) = .inl (0, 9, .inl g)) : rWk A F' := by
  obtain ⟨w1, w2, w3, w4, w5, w6, w7, w8, w9, w10, w11⟩ := h
  have n : ∀ t, 55 ≤ t → t < 66 → t ≠ 57 → t ∉ T := fun t a b c q => by have := d t q; omega
  exact ⟨ar0_fr k w1 (by omega) (n _ (by omega) (by omega) (by omega)), (k _ (by omega) (n _ (by omega) (by omega) (by omega))).trans w2, ⟨g, e⟩, ar0_fr k w4 (by omega) (n _ (by omega) (by omega) (by omega)), ar0_fr k w5 (by omega) (n _ (by omega) (by omega) (by omega)), ar0_fr k w6 (by omega) (n _ (by omega) (by omega) (by omega)), ar1_fr k w7 (by omega) (n _ (by omega) (by omega) (by omega)), ar1_fr k w8 (by omega) (n _ (by omega) (by omega) (by omega)), ar1_fr k w9 (by omega) (n _ (by omega) (by omega) (by omega)), ar1_fr k w10 (by omega) (n _ (by omega) (by omega) (by omega)), ar0_fr k w11 (by omega) (n _ (by omega) (by omega) (by omega))⟩
theorem R_unrank (hA : Inj A) (h : RR A F S W N PT PO QT QO aw th) {i : Nat} (hi : i < 4) (x r : Int32) : ((x < 0 ∨ (¬ x < 0 ∧ iN 25 ≤ x)) → ∃ F', RR A F' S W N PT PO QT QO aw 2 ∧ Agr A RTs F F' ∧ mX10_unrank F (A 49) (iN i) x r = some F') ∧ (∀ n, n ≤ 24 → x = iN n → (r < 0 ∨ (¬ r < 0 ∧ iN (pn n n) ≤ r)) → ∃ F', RR A F' S W N PT PO QT QO aw 3 ∧ Agr A RTs F F' ∧ mX10_unrank F (A 49) (iN i) x r = some F') ∧ (∀ n b, n ≤ 24 → x = iN n → b < pn n n → r = iN b → ((urS n b 8).1 ≠ 0 → ∃ F', RR A F' S W N PT PO QT QO aw 4 ∧ Agr A RTs F F' ∧ mX10_unrank F (A 49) (iN i) x r = some F') ∧ ((urS n b 8).1 = 0 → ∃ F', RR A F' (upK S i (mixL 8 (urV n b) (fun _ => 0))) W N PT PO QT QO aw 0 ∧ Agr A RTs F F' ∧ mX10_unrank F (A 49) (iN i) x r = some F')) := by
  have := FU_big
  have st : mX10_unrank F (A 49) (iN i) x r = (if x < 0 then (fX10_unrank_50 (A 49) (iN i) x r (A 49) 2 F) else (if x ≤ 24 then (if r < 0 then (fX10_unrank_50 (A 49) (iN i) x r (A 49) 3 F) else ((gfR F (A 49) 9 8).bind fun v32 => (rdI F 0 v32 ((25 * x) + x)).bind fun v41 => if r < v41 then (fX10_unrank_50 (A 49) (iN i) x r (A 49) 0 F) else (fX10_unrank_50 (A 49) (iN i) x r (A 49) 3 F))) else (fX10_unrank_50 (A 49) (iN i) x r (A 49) 2 F))) := by
    unfold mX10_unrank
    rw [R_slot hi, Option.bind_some, if_neg ne10]
  have bad : ∀ t : Int32, ¬ t ≤ 0 → ∃ F', RR A F' S W N PT PO QT QO aw t ∧ Agr A RTs F F' ∧ fX10_unrank_50 (A 49) (iN i) x r (A 49) t F = some F' := by
    intro t ht
    obtain ⟨F', e, h', k⟩ := RR_th hA h t
    refine ⟨F', h', k.mono (RTs_of (fun t q => by simp at q; omega)), ?_⟩
    unfold fX10_unrank_50
    rw [e, Option.bind_some, rObj_th h'.1, Option.bind_some, if_neg ht]
  refine ⟨?_, ?_, ?_⟩
  · intro q
    obtain ⟨F', a1, a2, a3⟩ := bad 2 (by decide)
    refine ⟨F', a1, a2, ?_⟩
    rcases q with q | ⟨q1, q2⟩
    · rw [st, if_pos q, a3]
    · rw [st, if_neg q1, if_neg (show ¬ x ≤ 24 from iN_nle (iN_le' (b := 24) q2 (by omega) (by omega))), a3]
  · intro n hn hx q
    subst hx
    obtain ⟨F', a1, a2, a3⟩ := bad 3 (by decide)
    refine ⟨F', a1, a2, ?_⟩
    rcases q with q | ⟨q1, q2⟩
    · rw [st, if_neg (iN_neg (by omega)), if_pos (show iN n ≤ 24 from (iN_le (b := 24) (by omega) (by omega)).mpr hn), if_pos q, a3]
    · rw [st, if_neg (iN_neg (by omega)), if_pos (show iN n ≤ 24 from (iN_le (b := 24) (by omega) (by omega)).mpr hn), if_neg q1, R_g8 h.1, Option.bind_some, il25, iN_mul, iN_add, R_pn h.2.2.2.2 hn hn, Option.bind_some, if_neg (iN_nlt q2), a3]
  · intro n b hn hx hb hr
    subst hx
    subst hr
    have pb := pn_lt (n := n) (m := n) hn hn
    obtain ⟨F1, e, h', k⟩ := RR_th hA h 0
    have k' := k.mono (U := RTs) (RTs_of (fun t q => by simp at q; omega))
    obtain ⟨fl, w3⟩ := h'.2.2.2.2.2.2.1
    have e1 := R_ur76 hA (x1 := iN i) (x4 := iN n) (x5 := iN n) (x6 := 0) (x7 := iN b) (fun (x0 : Nat) (x1 : Int32) (x4 : Int32) (x5 : Int32) (x6 : Int32) (x7 : Int32) (F : Mem) => fX10_unrank_97  (fun (x0 : Nat) (x1 : Int32) (F : Mem) => fX10_unrank_199   x0 x1 F) FU x0 x1 x4 x5 x6 x7 F) (f := fl) 9 FU 0 F1 (by omega) (by omega) h'.1 (by rw [fillF_z]; exact w3)
    generalize hF2 : va_up F1 (A 57) (.inl (0, 9, .inl (fillF 0 9 (fun _ => 0) fl))) = F2 at e1
    have k1 : Agr A [57] F1 F2 := by rw [← hF2]; exact (Agr.refl A _ F1).up hA (by omega) (by simp)
    have c57 : F2 (A 57) = .inl (0, 9, .inl (fillF 0 9 (fun _ => 0) fl)) := by rw [← hF2, up_eq]
    have hw2 : rWk A F2 := rWk57 k1 h'.2.2.2.2 (fun t q => by simp at q; omega) c57
    obtain ⟨g, g1, g2⟩ := R_ur97 hA (x1 := iN i) hn hb (fun (x0 : Nat) (x1 : Int32) (F : Mem) => fX10_unrank_199   x0 x1 F) (f := fillF 0 9 (fun _ => 0) fl) (fun k hk => fillF_in (by omega)) 9 FU 0 F2 (by omega) (by omega) (rObj_fr k1 h'.1 (by simp)) hw2 (by rw [fillF_z]; exact c57)
    generalize hF3 : va_up F2 (A 57) (.inl (0, 9, .inl g)) = F3 at g2
    have k2 : Agr A [57] F1 F3 := by rw [← hF3]; exact k1.up hA (by omega) (by simp)
    have d57 : F3 (A 57) = .inl (0, 9, .inl g) := by rw [← hF3, up_eq]
    have hw3 : rWk A F3 := rWk57 k2 h'.2.2.2.2 (fun t q => by simp at q; omega) d57
    have ho3 := rObj_fr k2 h'.1 (by simp)
    have h3 : RR A F3 S W N PT PO QT QO aw 0 := ⟨ho3, rShp_fr k2 h'.2.1 (by simp), rWrd_fr k2 h'.2.2.1 (by simp), rTab_fr k2 h'.2.2.2.1 (by simp), hw3⟩
    have main : mX10_unrank F (A 49) (iN i) (iN n) (iN b) = fX10_unrank_199 (A 49) (iN i) F3 := by
      rw [st, if_neg (iN_neg (by omega)), if_pos (show iN n ≤ 24 from (iN_le (b := 24) (by omega) (by omega)).mpr hn), if_neg (iN_neg (by omega)), R_g8 h.1, Option.bind_some, il25, iN_mul, iN_add, R_pn h.2.2.2.2 hn hn, Option.bind_some, if_pos ((iN_lt (by omega) (by omega)).mpr hb)]
      unfold fX10_unrank_50
      rw [e, Option.bind_some, rObj_th h'.1, Option.bind_some, if_pos (by decide)]
      exact e1.trans g2
    have kk : Agr A RTs F F3 := k'.trans (k2.mono (RTs_of (fun t q => by simp at q; omega)))
    obtain ⟨u1, u2, u3, u4⟩ := urS_ok (n := n) (b := b) hn hb 8
    have l8 := (urV_le n b 8).1
    refine ⟨fun r0 => ?_, fun r0 => ?_⟩
    · have p8 := urV_pos hn hb r0
      obtain ⟨F4, e4, h4, k4⟩ := RR_th hA h3 4
      refine ⟨F4, h4, kk.trans (k4.mono (RTs_of (fun t q => by simp at q; omega))), ?_⟩
      rw [main]
      unfold fX10_unrank_199
      rw [R_g9 ho3, Option.bind_some, il8, rdI_at d57 (by omega) (by omega), g1 8 (by omega), Option.bind_some, if_neg (show ¬ iN (urV n b 8) ≤ 0 from fun q => by have := (iN_le (b := 0) (by omega) (by omega)).mp q; omega), e4, Option.bind_some]
    · have z8 := urV_zero r0
      obtain ⟨f, f1, f2⟩ := h3.2.1
      have e5 := R_ur218 hA hi (g := fun k => iN (urV n b k)) (f := f) (fl := g) (fun k hk => g1 k (by omega)) 8 FU 0 F3 (by omega) (by omega) ho3 d57 (by rw [fillF_z]; exact f1)
      have k5 : Agr A [50] F3 (va_up F3 (A 50) (.inl (0, 32, .inl (fillF (8 * i) 8 (fun k => iN (urV n b k)) f)))) := (Agr.refl A _ F3).up hA (by omega) (by simp)
      refine ⟨_, ⟨rObj_fr k5 ho3 (by simp), rShp_up hi f2 (fun k hk => by unfold mixL; rw [if_pos hk]) (up_eq _ _ _), rWrd_fr k5 h3.2.2.1 (by simp), rTab_fr k5 h3.2.2.2.1 (by simp), rWk_fr k5 hw3 (fun t q => by simp at q; omega)⟩, kk.trans (k5.mono (RTs_of (fun t q => by simp at q; omega))), ?_⟩
      rw [main]
      unfold fX10_unrank_199
      rw [R_g9 ho3, Option.bind_some, il8, rdI_at d57 (by omega) (by omega), g1 8 (by omega), Option.bind_some, z8, if_pos (by decide)]
      exact e5
theorem R_unrank_no (hA : Inj A) (h : RR A F S W N PT PO QT QO aw th) {y : Int32} (hy : y < 0 ∨ (¬ y < 0 ∧ iN 4 ≤ y)) (x r : Int32) : ∃ F', RR A F' S W N PT PO QT QO aw 1 ∧ Agr A RTs F F' ∧ mX10_unrank F (A 49) y x r = some F' := by
  obtain ⟨F', e, h', k⟩ := RR_th hA h 1
  refine ⟨F', h', k.mono (RTs_of (fun t q => by simp at q; omega)), ?_⟩
  unfold mX10_unrank
  rw [R_noslot hy, Option.bind_some, if_pos rfl]
  unfold fX10_unrank_50
  rw [e, Option.bind_some, rObj_th h'.1, Option.bind_some, if_neg (by decide)]
end UNRANK
