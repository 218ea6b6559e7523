section BUMP
theorem rin_len (x : Nat) (R : List Nat) : (rin x R).1.length + (rin x R).2.length = R.length + 1 := by
  induction R with
  | nil => rfl
  | cons y ys ih =>
    by_cases h : y ≤ x
    · rw [rin_le h]
      simp only [List.length_cons]
      omega
    · rw [rin_gt (by omega)]
      simp
theorem rinW_len (w R : List Nat) : (rinW w R).1.length + (rinW w R).2.length = R.length + w.length := by
  induction w generalizing R with
  | nil => simp [rinW]
  | cons x w ih =>
    have h1 := rin_len x R
    have h2 := ih (rin x R).1
    simp only [rinW, List.length_append, List.length_cons]
    omega
theorem rinW_1 (x : Nat) (R : List Nat) : rinW [x] R = ((rin x R).1, (rin x R).2) := by simp [rinW]
/-- one letter on its way: none or one letter comes to each row -/
theorem wd_1 (P : Tab) (x r : Nat) : wd P [x] r = [] ∨ ∃ c, wd P [x] r = [c] := by
  induction r with
  | zero => exact Or.inr ⟨x, rfl⟩
  | succ r ih =>
    rcases ih with h | ⟨c, h⟩
    · left
      show (rinW (wd P [x] r) (P r)).2 = []
      rw [h]; rfl
    · show (rinW (wd P [x] r) (P r)).2 = [] ∨ ∃ c, (rinW (wd P [x] r) (P r)).2 = [c]
      rw [h, rinW_1]
      rcases rin_bump c (P r) with q | ⟨b, -, q, -⟩
      · exact Or.inl q
      · exact Or.inr ⟨b, q⟩
theorem wd_nil_succ {P : Tab} {w : List Nat} {r : Nat} (h : wd P w r = []) : wd P w (r + 1) = [] := by
  show (rinW (wd P w r) (P r)).2 = []
  rw [h]; rfl
theorem wd_nil_le {P : Tab} {w : List Nat} {r k : Nat} (h : wd P w r = []) (hk : r ≤ k) : wd P w k = [] := by
  induction k with
  | zero => have : r = 0 := by omega
            subst this; exact h
  | succ k ih =>
    by_cases e : r = k + 1
    · subst e; exact h
    · exact wd_nil_succ (ih (by omega))
/-- the columns of a tableau: strict, and rows not longer than those above -/
abbrev cstr (P : Tab) : Prop := ∀ r, dom (P r) (P (r + 1))
theorem dom_len {A B : List Nat} (h : dom A B) : B.length ≤ A.length := by
  induction B generalizing A with
  | nil => exact Nat.zero_le _
  | cons b B ih =>
    cases A with
    | nil => exact h.elim
    | cons a A => simp only [List.length_cons]; have := ih h.2; omega
theorem dom_app {A B : List Nat} (x : Nat) (h : dom A B) : dom (A ++ [x]) B := by
  induction A generalizing B with
  | nil =>
    cases B with
    | nil => trivial
    | cons b B => exact h.elim
  | cons a A ih =>
    cases B with
    | nil => exact dom_nil _
    | cons b B => exact ⟨h.1, ih h.2⟩
theorem dom_rin {A B : List Nat} {x : Nat} (h : dom A B) : dom (rin x A).1 B := by
  induction A generalizing B with
  | nil =>
    cases B with
    | nil => exact dom_nil _
    | cons b B => exact h.elim
  | cons a A ih =>
    cases B with
    | nil => exact dom_nil _
    | cons b B =>
      by_cases c : a ≤ x
      · rw [rin_le c]; exact ⟨h.1, ih h.2⟩
      · rw [rin_gt (by omega)]; exact ⟨by have := h.1; omega, h.2⟩
/-- a letter into the upper row, what it bumps into the lower one: they stay strict -/
theorem dom_ins {A B : List Nat} {x : Nat} (hA : srt A) (h : dom A B) : dom (rin x A).1 (rinW (rin x A).2 B).1 := by
  induction A generalizing B with
  | nil =>
    cases B with
    | nil => exact dom_nil _
    | cons b B => exact h.elim
  | cons a A ih =>
    have h1 := List.pairwise_cons.mp hA
    by_cases c : a ≤ x
    · rw [rin_le c]
      dsimp only
      rcases rin_bump x A with q | ⟨b, hb, q, hxb⟩
      · rw [q]
        show dom (a :: (rin x A).1) B
        have := dom_rin (x := x) h
        rwa [rin_le c] at this
      · rw [q, rinW_1]
        cases B with
        | nil => exact ⟨by omega, dom_nil _⟩
        | cons d B =>
          by_cases e : d ≤ b
          · rw [rin_le e]
            refine ⟨h.1, ?_⟩
            have := ih h1.2 h.2
            rwa [q, rinW_1] at this
          · rw [rin_gt (by omega)]
            exact ⟨by omega, dom_rin h.2⟩
    · rw [rin_gt (by omega)]
      dsimp only
      rw [rinW_1]
      cases B with
      | nil => exact ⟨by omega, dom_nil _⟩
      | cons d B =>
        have := h.1
        rw [rin_gt (by omega)]
        exact ⟨by omega, h.2⟩
theorem insF1_cstr {P : Tab} {x : Nat} (hP : rsrt P) (h : cstr P) : cstr (insF P [x]) := by
  intro r
  show dom (rinW (wd P [x] r) (P r)).1 (rinW (rinW (wd P [x] r) (P r)).2 (P (r + 1))).1
  rcases wd_1 P x r with q | ⟨c, q⟩
  · rw [q]; exact h r
  · rw [q, rinW_1]; exact dom_ins (hP r) (h r)
theorem insF_cstr {P : Tab} {w : List Nat} (hP : rsrt P) (h : cstr P) : cstr (insF P w) := by
  induction w generalizing P with
  | nil => rw [insF_nil]; exact h
  | cons x w ih =>
    have e : insF P (x :: w) = insF (insF P [x]) w := insF_app P [x] w
    rw [e]
    exact ih (insF_srt hP) (insF1_cstr hP h)
/-- rows from N on are empty -/
abbrev hgt (P : Tab) (N : Nat) : Prop := ∀ r, N ≤ r → P r = []
/-- where a letter comes to rest -/
theorem ins_end {P : Tab} {N : Nat} (hN : hgt P N) (x : Nat) : ∃ r1, r1 ≤ N ∧ (∀ r, r ≤ r1 → wd P [x] r ≠ []) ∧ (∀ r, r1 < r → wd P [x] r = []) := by
  have hend : wd P [x] (N + 1) = [] := by
    show (rinW (wd P [x] N) (P N)).2 = []
    rw [hN N (Nat.le_refl _)]
    rcases wd_1 P x N with q | ⟨c, q⟩
    · rw [q]; rfl
    · rw [q]; rfl
  obtain ⟨k, hk, hmin⟩ := pk_least (fun k => wd P [x] (k + 1) = []) ⟨N, hend⟩
  refine ⟨k, ?_, fun r hr => ?_, fun r hr => wd_nil_le hk (by omega)⟩
  · by_cases h : k ≤ N
    · exact h
    · exact absurd hend (hmin N (by omega))
  · cases r with
    | zero => intro h; cases h
    | succ r => exact hmin r (by omega)
theorem ins_lens {P : Tab} {x r1 : Nat} (h1 : ∀ r, r ≤ r1 → wd P [x] r ≠ []) (h2 : ∀ r, r1 < r → wd P [x] r = []) (r : Nat) : (insF P [x] r).length = (P r).length + (if r = r1 then 1 else 0) := by
  have e := rinW_len (wd P [x] r) (P r)
  have e2 : (rinW (wd P [x] r) (P r)).2 = wd P [x] (r + 1) := rfl
  rw [e2] at e
  show (rinW (wd P [x] r) (P r)).1.length = _
  have len1 : ∀ r, wd P [x] r ≠ [] → (wd P [x] r).length = 1 := fun r h => by
    rcases wd_1 P x r with q | ⟨c, q⟩
    · exact absurd q h
    · rw [q]; rfl
  by_cases c : r = r1
  · subst c
    rw [if_pos rfl]
    rw [len1 r (h1 r (Nat.le_refl _)), h2 (r + 1) (by omega)] at e
    simp only [List.length_nil] at e
    omega
  · rw [if_neg c]
    by_cases d : r < r1
    · rw [len1 r (h1 r (by omega)), len1 (r + 1) (h1 (r + 1) (by omega))] at e
      omega
    · rw [h2 r (by omega)]
      simp [rinW]
/-- the row bumping lemma, as far as it is needed: a letter that is not less ends not lower -/
theorem ins_two {P : Tab} (hP : rsrt P) {x y : Nat} (hxy : x ≤ y) (r : Nat) : wd (insF P [x]) [y] r = [] ∨ ∃ b c, wd P [x] r = [b] ∧ wd (insF P [x]) [y] r = [c] ∧ b ≤ c := by
  induction r with
  | zero => exact Or.inr ⟨x, y, rfl, rfl, hxy⟩
  | succ r ih =>
    rcases ih with h | ⟨b, c, h1, h2, h3⟩
    · exact Or.inl (wd_nil_succ h)
    · have e1 : wd (insF P [x]) [y] (r + 1) = (rin c (rin b (P r)).1).2 := by
        show (rinW (wd (insF P [x]) [y] r) (insF P [x] r)).2 = _
        have e3 : insF P [x] r = (rin b (P r)).1 := by
          show (rinW (wd P [x] r) (P r)).1 = _
          rw [h1, rinW_1]
        rw [h2, rinW_1, e3]
      have e2 : wd P [x] (r + 1) = (rin b (P r)).2 := by
        show (rinW (wd P [x] r) (P r)).2 = _
        rw [h1, rinW_1]
      rw [e1, e2]
      rcases rin_two h3 (hP r) with q | ⟨b', c', q1, q2, -, q4, -⟩
      · exact Or.inl q
      · exact Or.inr ⟨b', c', q1, q2, q4⟩
theorem cstr_len {P : Tab} (h : cstr P) {r k : Nat} (hrk : r ≤ k) : (P k).length ≤ (P r).length := by
  induction k with
  | zero => have : r = 0 := by omega
            subst this; exact Nat.le_refl _
  | succ k ih =>
    by_cases e : r = k + 1
    · subst e; exact Nat.le_refl _
    · have := dom_len (h k)
      have := ih (by omega)
      omega
/-- the boxes of the first k columns of the first N rows -/
def cols (k : Nat) (P : Tab) : Nat → Nat
  | 0 => 0
  | N + 1 => cols k P N + min k (P N).length
theorem cols_step {P P' : Tab} {k r1 : Nat} (h : ∀ r, (P' r).length = (P r).length + (if r = r1 then 1 else 0)) (N : Nat) : cols k P' N = cols k P N + (if r1 < N ∧ (P r1).length < k then 1 else 0) := by
  induction N with
  | zero => simp [cols]
  | succ N ih =>
    simp only [cols, ih, h N]
    by_cases c : N = r1
    · subst c
      have e1 : ¬ (N < N ∧ (P N).length < k) := fun q => Nat.lt_irrefl _ q.1
      rw [if_neg e1, if_pos rfl]
      by_cases d : (P N).length < k
      · rw [if_pos ⟨Nat.lt_succ_self N, d⟩]; omega
      · rw [if_neg (fun q => d q.2)]; omega
    · rw [if_neg c]
      by_cases d : r1 < N ∧ (P r1).length < k
      · rw [if_pos d, if_pos ⟨by omega, d.2⟩]; omega
      · rw [if_neg d, if_neg (fun q => d ⟨by omega, q.2⟩)]; omega
/-- a row of letters that don't fall adds at most one box to each column -/
theorem cols_run {k : Nat} : ∀ (U : List Nat) (P : Tab) (N i c x : Nat), rsrt P → cstr P → hgt P N → srt (x :: U) → i ≤ c + 1 → (∀ y, x ≤ y → ∀ r1, (∀ r, r ≤ r1 → wd P [y] r ≠ []) → (∀ r, r1 < r → wd P [y] r = []) → c < (P r1).length) → ∀ M, N + U.length ≤ M → cols k (insF P U) M + min k i ≤ cols k P M + min k (i + U.length) := by
  intro U
  induction U with
  | nil =>
    intro P N i c x hP hc hN hs hi hn M hM
    rw [insF_nil]
    simp
  | cons y U ih =>
    intro P N i c x hP hc hN hs hi hn M hM
    have hs1 := List.pairwise_cons.mp hs
    obtain ⟨r1, a1, a2, a3⟩ := ins_end hN y
    have hcol := hn y (hs1.1 y List.mem_cons_self) r1 a2 a3
    have hl := ins_lens a2 a3
    have e : insF P (y :: U) = insF (insF P [y]) U := insF_app P [y] U
    rw [e]
    have hN' : hgt (insF P [y]) (N + 1) := by
      intro r hr
      have := hl r
      rw [if_neg (by omega), hN r (by omega)] at this
      exact List.eq_nil_of_length_eq_zero (by simpa using this)
    have hP' := insF_srt (w := [y]) hP
    have hc' := insF1_cstr (x := y) hP hc
    have step := ih (insF P [y]) (N + 1) (i + 1) (P r1).length y hP' hc' hN' hs1.2 (by omega) (fun z hz r2 b2 b3 => by
      have hr2 : r2 ≤ r1 := by
        by_cases q : r2 ≤ r1
        · exact q
        · exfalso
          rcases ins_two hP hz r2 with w1 | ⟨b, d, w1, -, -⟩
          · exact b2 r2 (Nat.le_refl _) w1
          · rw [a3 r2 (by omega)] at w1; cases w1
      have l1 := hl r1
      rw [if_pos rfl] at l1
      have l2 := cstr_len hc' hr2
      omega) M (by simp only [List.length_cons] at hM; omega)
    have cst := cols_step (k := k) hl M
    rw [cst] at step
    simp only [List.length_cons]
    by_cases d : r1 < M ∧ (P r1).length < k
    · rw [if_pos d] at step
      omega
    · rw [if_neg d] at step
      omega
end BUMP
