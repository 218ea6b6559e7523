section COLS
/-- the first row from r on whose letter in column c is not less than x, or that has none -/
def fnF (T : Nat → Nat → Nat) (O : Nat → Nat) (c x : Nat) : Nat → Nat → Nat
  | 0, r => r
  | m + 1, r => if c < O r ∧ T r c < x then fnF T O c x m (r + 1) else r
theorem fnF_ok {T : Nat → Nat → Nat} {O : Nat → Nat} {c x : Nat} : ∀ (m r : Nat), O (r + m) = 0 → r ≤ fnF T O c x m r ∧ fnF T O c x m r ≤ r + m ∧ (∀ i, r ≤ i → i < fnF T O c x m r → c < O i ∧ T i c < x) ∧ (c < O (fnF T O c x m r) → x ≤ T (fnF T O c x m r) c) := by
  intro m
  induction m with
  | zero =>
    intro r h
    have h' : O r = 0 := h
    exact ⟨Nat.le_refl _, Nat.le_refl _, fun i a b => by have : i < r := b; omega, fun q => by have : c < O r := q; omega⟩
  | succ m ih =>
    intro r h
    unfold fnF
    by_cases q : c < O r ∧ T r c < x
    · rw [if_pos q]
      obtain ⟨i1, i2, i3, i4⟩ := ih (r + 1) (by rw [← h]; congr 1; omega)
      refine ⟨by omega, by omega, fun i a b => ?_, i4⟩
      by_cases e : i = r
      · rw [e]; exact q
      · exact i3 i (by omega) b
    · rw [if_neg q]
      exact ⟨Nat.le_refl _, by omega, fun i a b => by omega, fun w => by omega⟩
/-- insertion by columns on places -/
def adC : Nat → (Nat → Nat → Nat) → (Nat → Nat) → Nat → Nat → (Nat → Nat → Nat) × (Nat → Nat) × Nat
  | 0, T, O, _, _ => (T, O, 0)
  | m + 1, T, O, c, x => if c < O (fnF T O c x 15 0) then adC m (upT T (fnF T O c x 15 0) c x) O (c + 1) (T (fnF T O c x 15 0) c) else (upT T (fnF T O c x 15 0) (O (fnF T O c x 15 0)) x, upL O (fnF T O c x 15 0) (O (fnF T O c x 15 0) + 1), fnF T O c x 15 0)
theorem okT_col {T : Nat → Nat → Nat} {O : Nat → Nat} (h : okT T O) {r s c : Nat} (hrs : r < s) (hc : c < O s) : T r c < T s c := by
  have : ∀ d, c < O (r + 1 + d) → T r c < T (r + 1 + d) c := by
    intro d
    induction d with
    | zero => intro q; exact h.2.2 r c q
    | succ d ih =>
      intro q
      have pl := h.1 (r + 1 + d)
      have a := ih (by have : O (r + 1 + (d + 1)) = O (r + 1 + d + 1) := rfl; omega)
      have b := h.2.2 (r + 1 + d) c q
      have e : T (r + 1 + (d + 1)) c = T (r + 1 + d + 1) c := rfl
      omega
  have := this (s - (r + 1))
  rw [show r + 1 + (s - (r + 1)) = s by omega] at this
  exact this hc
/-- x may come to column c: it fits behind what stands before it, and the row that gave it bounds the row that takes it -/
def inC (T : Nat → Nat → Nat) (O : Nat → Nat) (c x r0 : Nat) : Prop := c = 0 ∨ (c - 1 < O r0 ∧ T r0 (c - 1) ≤ x ∧ (c < O r0 → x ≤ T r0 c))
theorem inC_row {T : Nat → Nat → Nat} {O : Nat → Nat} {c x r0 : Nat} (h15 : O 15 = 0) (h : inC T O c x r0) (hc : c ≠ 0) : fnF T O c x 15 0 ≤ r0 := by
  obtain ⟨i1, i2, i3, i4⟩ := fnF_ok (T := T) (c := c) (x := x) 15 0 h15
  rcases h with q | ⟨_, _, q⟩
  · exact absurd q hc
  · by_cases w : fnF T O c x 15 0 ≤ r0
    · exact w
    · obtain ⟨a, b⟩ := i3 r0 (Nat.zero_le _) (by omega)
      have := q a
      omega
/-- what stands before the place is not greater -/
theorem inC_left {T : Nat → Nat → Nat} {O : Nat → Nat} {c x r0 : Nat} (hT : okT T O) (h15 : O 15 = 0) (h : inC T O c x r0) (hc : c ≠ 0) : c - 1 < O (fnF T O c x 15 0) ∧ T (fnF T O c x 15 0) (c - 1) ≤ x := by
  have le := inC_row h15 h hc
  rcases h with q | ⟨q1, q2, _⟩
  · exact absurd q hc
  · have pl := par_le hT.1 le
    refine ⟨by omega, ?_⟩
    by_cases e : fnF T O c x 15 0 = r0
    · rw [e]; exact q2
    · have := okT_col hT (show fnF T O c x 15 0 < r0 by omega) q1
      omega
theorem okT_put {T : Nat → Nat → Nat} {O : Nat → Nat} {r c x : Nat} (h : okT T O) (hc : c < O r) (h1 : ∀ i, i < r → T i c < x) (h2 : x ≤ T r c) (h3 : c ≠ 0 → T r (c - 1) ≤ x) : okT (upT T r c x) O := by
  refine ⟨h.1, fun s d q => ?_, fun s d q => ?_⟩
  · have o := h.2.1 s d q
    by_cases e1 : s = r ∧ d = c
    · rw [e1.1, e1.2] at o ⊢
      rw [upT_at, upT_ne (by omega)]
      omega
    · rw [upT_ne e1]
      by_cases e2 : s = r ∧ d + 1 = c
      · rw [e2.1, e2.2, upT_at]
        have := h3 (by omega)
        rw [show d = c - 1 by omega]
        exact this
      · rw [upT_ne e2]; exact o
  · have o := h.2.2 s d q
    by_cases e1 : s = r ∧ d = c
    · rw [e1.1, e1.2] at o ⊢
      rw [upT_at, upT_ne (by omega)]
      omega
    · rw [upT_ne e1]
      by_cases e2 : s + 1 = r ∧ d = c
      · rw [e2.1, e2.2, upT_at]
        exact h1 s (by omega)
      · rw [upT_ne e2]; exact o
theorem okT_end {T : Nat → Nat → Nat} {O : Nat → Nat} {r x : Nat} (h : okT T O) (hp : ∀ i, i < r → O r < O i ∧ T i (O r) < x) (h3 : O r ≠ 0 → T r (O r - 1) ≤ x) : okT (upT T r (O r) x) (upL O r (O r + 1)) := by
  refine ⟨fun s => ?_, fun s d q => ?_, fun s d q => ?_⟩
  · have o := h.1 s
    by_cases e1 : s + 1 = r
    · rw [e1, upL_at, upL_ne (by omega)]
      exact (hp s (by omega)).1
    · rw [upL_ne e1]
      by_cases e2 : s = r
      · rw [e2] at o ⊢
        rw [upL_at]
        omega
      · rw [upL_ne e2]; exact o
  · by_cases e1 : s = r
    · rw [e1] at q ⊢
      rw [upL_at] at q
      rw [upT_ne (s := r) (d := d) (by omega)]
      by_cases e2 : d + 1 = O r
      · rw [e2, upT_at]
        have := h3 (by omega)
        rw [show d = O r - 1 by omega]
        exact this
      · rw [upT_ne (by omega)]
        exact h.2.1 r d (by omega)
    · rw [upL_ne e1] at q
      rw [upT_ne (by omega), upT_ne (by omega)]
      exact h.2.1 s d q
  · by_cases e1 : s + 1 = r
    · rw [e1] at q ⊢
      rw [upL_at] at q
      rw [upT_ne (s := s) (by omega)]
      by_cases e2 : d = O r
      · rw [e2, upT_at]
        exact (hp s (by omega)).2
      · rw [upT_ne (by omega)]
        have o := h.2.2 s d (by rw [e1]; omega)
        rw [e1] at o
        exact o
    · rw [upL_ne e1] at q
      rw [upT_ne (s := s + 1) (by omega)]
      have o := h.2.2 s d q
      have pl := h.1 s
      by_cases e2 : s = r
      · rw [e2] at q pl o ⊢
        rw [upT_ne (by omega)]
        exact o
      · rw [upT_ne (by omega)]
        exact o
theorem adC_ok {lo hi : Nat} : ∀ (m : Nat) (T : Nat → Nat → Nat) (O : Nat → Nat) (c x r0 : Nat), okT T O → O 15 = 0 → O 0 < c + m → c ≤ O 0 → inC T O c x r0 → lo ≤ x → x ≤ hi → (∀ s d, d < O s → lo ≤ T s d ∧ T s d ≤ hi) → okT (adC m T O c x).1 (adC m T O c x).2.1 ∧ (adC m T O c x).2.1 = upL O (adC m T O c x).2.2 (O (adC m T O c x).2.2 + 1) ∧ (adC m T O c x).2.2 ≤ 15 ∧ (∀ s d, d < (adC m T O c x).2.1 s → lo ≤ (adC m T O c x).1 s d ∧ (adC m T O c x).1 s d ≤ hi) := by
  intro m
  induction m with
  | zero => intro T O c x r0 _ _ h1 h2; omega
  | succ m ih =>
    intro T O c x r0 hT h15 h1 h2 hin hlo hhi hlet
    obtain ⟨i1, i2, i3, i4⟩ := fnF_ok (T := T) (c := c) (x := x) 15 0 h15
    have lf := inC_left (c := c) (x := x) hT h15 hin
    unfold adC
    generalize fnF T O c x 15 0 = q at *
    have pl := par_le hT.1 (Nat.zero_le q)
    by_cases e : c < O q
    · rw [if_pos e]
      have hT' : okT (upT T q c x) O := okT_put hT e (fun i hi => (i3 i (Nat.zero_le _) hi).2) (i4 e) (fun w => (lf w).2)
      have lq := hlet q c e
      refine ih (upT T q c x) O (c + 1) (T q c) q hT' h15 (by omega) (by omega) (.inr ⟨e, ?_, fun w => ?_⟩) lq.1 lq.2 (fun s d hd => ?_)
      · show upT T q c x q c ≤ T q c
        rw [upT_at]; exact i4 e
      · rw [upT_ne (by omega)]; exact hT.2.1 q c w
      · by_cases e2 : s = q ∧ d = c
        · rw [e2.1, e2.2, upT_at]; exact ⟨hlo, hhi⟩
        · rw [upT_ne e2]; exact hlet s d hd
    · rw [if_neg e]
      have oc : O q = c := by
        by_cases w : c = 0
        · omega
        · have := (lf w).1
          omega
      refine ⟨okT_end hT (fun i hi => ?_) (fun w => ?_), rfl, by omega, fun s d hd => ?_⟩
      · have := i3 i (Nat.zero_le _) hi
        rw [oc]
        exact this
      · rw [oc] at w ⊢
        exact (lf w).2
      · show lo ≤ upT T q (O q) x s d ∧ upT T q (O q) x s d ≤ hi
        by_cases e2 : s = q ∧ d = O q
        · rw [e2.1, e2.2, upT_at]; exact ⟨hlo, hhi⟩
        · rw [upT_ne e2]
          apply hlet
          by_cases e3 : s = q
          · rw [e3] at hd e2 ⊢
            have hd' : d < upL O q (O q + 1) q := hd
            rw [upL_at] at hd'
            omega
          · have hd' : d < upL O q (O q + 1) s := hd
            rw [upL_ne e3] at hd'
            exact hd'
end COLS
