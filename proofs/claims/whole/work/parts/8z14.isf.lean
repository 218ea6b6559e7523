section ISF
theorem addF_p (p : Nat → Prop) : ∀ (m : Nat) (T : Nat → Nat → Nat) (O : Nat → Nat) (r x : Nat), p x → (∀ s d, d < O s → p (T s d)) → ∀ s d, d < (addF m T O r x).2.1 s → p ((addF m T O r x).1 s d) := by
  have fin : ∀ (T : Nat → Nat → Nat) (O : Nat → Nat) (r x : Nat), p x → (∀ s d, d < O s → p (T s d)) → ∀ s d, d < upL O r (O r + 1) s → p (upT T r (O r) x s d) := by
    intro T O r x hx h s d hd
    by_cases e : s = r ∧ d = O r
    · rw [e.1, e.2, upT_at]; exact hx
    · rw [upT_ne e]
      apply h
      by_cases e2 : s = r
      · rw [e2] at hd e ⊢
        rw [upL_at] at hd
        omega
      · rw [upL_ne e2] at hd
        exact hd
  intro m
  induction m with
  | zero => intro T O r x hx h; exact fin T O r x hx h
  | succ m ih =>
    intro T O r x hx h
    unfold addF
    by_cases q : fgF (T r) x (O r) (O r) 0 < O r
    · rw [if_pos q]
      refine ih _ _ _ _ (h _ _ q) (fun s d hd => ?_)
      by_cases e : s = r ∧ d = fgF (T r) x (O r) (O r) 0
      · rw [e.1, e.2, upT_at]; exact hx
      · rw [upT_ne e]; exact h s d hd
    · rw [if_neg q]; exact fin T O r x hx h
theorem addF_rw : ∀ (m : Nat) (T : Nat → Nat → Nat) (O : Nat → Nat) (r x : Nat), (addF m T O r x).2.2 ≤ r + m := by
  intro m
  induction m with
  | zero => intro T O r x; exact Nat.le_refl _
  | succ m ih =>
    intro T O r x
    unfold addF
    by_cases q : fgF (T r) x (O r) (O r) 0 < O r
    · rw [if_pos q]
      have := ih (upT T r (fgF (T r) x (O r) (O r) 0) x) O (r + 1) (T r (fgF (T r) x (O r) (O r) 0))
      omega
    · rw [if_neg q]
      show r ≤ _
      omega
theorem okT_tab {T : Nat → Nat → Nat} {O : Nat → Nat} (h : okT T O) : rsrt (tabS T I0 O) ∧ cstr (tabS T I0 O) := by
  refine ⟨fun s => seg_srt _ _ (fun i j _ a2 a3 => ?_), fun s => seg_dom _ _ _ (h.1 s) (fun i _ a2 => h.2.2 s i (by rw [Nat.zero_add] at a2; exact a2))⟩
  have : ∀ d, i + d < O s → T s i ≤ T s (i + d) := by
    intro d
    induction d with
    | zero => intro _; exact Nat.le_refl _
    | succ d ih =>
      intro q
      have a := ih (by omega)
      have b := h.2.1 s (i + d) q
      exact Nat.le_trans a b
  have q := this (j - i)
  rw [show i + (j - i) = j by omega] at q
  exact q (by rw [Nat.zero_add] at a3; exact a3)
theorem addF_okT {T : Nat → Nat → Nat} {O : Nat → Nat} {m x : Nat} (h0 : O m = 0) (h : okT T O) : okT (addF m T O 0 x).1 (addF m T O 0 x).2.1 := by
  obtain ⟨a, b⟩ := okT_tab h
  refine okT_of ?_ ?_
  · rw [addF_all h0]; exact insF_srt a
  · rw [addF_all h0]; exact insF_cstr a b
theorem fnF_two {T T' : Nat → Nat → Nat} {O : Nat → Nat} {c x : Nat} (h : ∀ s d, d < O s → T s d = T' s d) : ∀ (m r : Nat), fnF T O c x m r = fnF T' O c x m r := by
  intro m
  induction m with
  | zero => intro r; rfl
  | succ m ih =>
    intro r
    unfold fnF
    by_cases q : c < O r
    · rw [h r c q, ih (r + 1)]
    · rw [if_neg (fun w => q w.1), if_neg (fun w => q w.1)]
theorem adC_two : ∀ (m : Nat) (T T' : Nat → Nat → Nat) (O : Nat → Nat) (c x : Nat), (∀ s d, d < O s → T s d = T' s d) → (adC m T O c x).2 = (adC m T' O c x).2 ∧ ∀ s d, d < (adC m T O c x).2.1 s → (adC m T O c x).1 s d = (adC m T' O c x).1 s d := by
  intro m
  induction m with
  | zero => intro T T' O c x h; exact ⟨rfl, h⟩
  | succ m ih =>
    intro T T' O c x h
    unfold adC
    rw [← fnF_two h 15 0]
    generalize fnF T O c x 15 0 = q
    by_cases e : c < O q
    · rw [if_pos e, if_pos e, ← h q c e]
      refine ih _ _ _ _ _ (fun s d hd => ?_)
      by_cases e2 : s = q ∧ d = c
      · rw [e2.1, e2.2, upT_at, upT_at]
      · rw [upT_ne e2, upT_ne e2]; exact h s d hd
    · rw [if_neg e, if_neg e]
      refine ⟨rfl, fun s d hd => ?_⟩
      show upT T q (O q) x s d = upT T' q (O q) x s d
      have hd' : d < upL O q (O q + 1) s := hd
      by_cases e2 : s = q ∧ d = O q
      · rw [e2.1, e2.2, upT_at, upT_at]
      · rw [upT_ne e2, upT_ne e2]
        apply h
        by_cases e3 : s = q
        · rw [e3] at hd' e2 ⊢
          rw [upL_at] at hd'
          omega
        · rw [upL_ne e3] at hd'
          exact hd'
/-- a letter inserted, by columns or by rows -/
def inS (co : Bool) (T : Nat → Nat → Nat) (O : Nat → Nat) (x : Nat) : (Nat → Nat → Nat) × (Nat → Nat) × Nat := if co = true then adC 24 T O 0 x else addF 15 T O 0 x
/-- i letters of W inserted: P, its lengths (Q's, too), Q, the last row -/
def isF (co : Bool) (W : Nat → Nat) (T0 Q0 : Nat → Nat → Nat) : Nat → (Nat → Nat → Nat) × (Nat → Nat) × (Nat → Nat → Nat) × Nat
  | 0 => (T0, I0, Q0, 0)
  | i + 1 => ((inS co (isF co W T0 Q0 i).1 (isF co W T0 Q0 i).2.1 (W i)).1, (inS co (isF co W T0 Q0 i).1 (isF co W T0 Q0 i).2.1 (W i)).2.1, upT (isF co W T0 Q0 i).2.2.1 (inS co (isF co W T0 Q0 i).1 (isF co W T0 Q0 i).2.1 (W i)).2.2 ((isF co W T0 Q0 i).2.1 (inS co (isF co W T0 Q0 i).1 (isF co W T0 Q0 i).2.1 (W i)).2.2) (i + 1), (inS co (isF co W T0 Q0 i).1 (isF co W T0 Q0 i).2.1 (W i)).2.2)
theorem boxes_more {O : Nat → Nat} {q : Nat} : ∀ m, boxes (upL O q (O q + 1)) m = boxes O m + (if q < m then 1 else 0) := by
  intro m
  induction m with
  | zero => rw [if_neg (by omega)]; rfl
  | succ m ih =>
    show boxes (upL O q (O q + 1)) m + upL O q (O q + 1) m = boxes O m + O m + (if q < m + 1 then 1 else 0)
    rw [ih]
    by_cases e : m = q
    · subst e
      rw [upL_at, if_neg (by omega), if_pos (by omega)]
      omega
    · rw [upL_ne e]
      by_cases w : q < m
      · rw [if_pos w, if_pos (by omega)]; omega
      · rw [if_neg w, if_neg (by omega)]; omega
theorem boxes_low {O : Nat → Nat} (h : par O) {r : Nat} (hr : 0 < O r) : ∀ m, m ≤ r + 1 → m ≤ boxes O m := by
  intro m
  induction m with
  | zero => intro _; exact Nat.zero_le _
  | succ m ih =>
    intro hm
    have := ih (by omega)
    have pl := par_le h (show m ≤ r by omega)
    show m + 1 ≤ boxes O m + O m
    omega
theorem boxes_row {O : Nat → Nat} : ∀ (m : Nat), 0 < m → O 0 ≤ boxes O m := by
  intro m
  induction m with
  | zero => intro q; omega
  | succ m ih =>
    intro _
    show O 0 ≤ boxes O m + O m
    by_cases q : m = 0
    · subst q; omega
    · have := ih (by omega)
      omega
end ISF
