section SHAPES
/-- a run of letters that don't fall, from anywhere -/
theorem cols_run0 {k : Nat} {P : Tab} {N : Nat} (hP : rsrt P) (hc : cstr P) (hN : hgt P N) : ∀ (U : List Nat), srt U → ∀ M, N + U.length ≤ M → cols k (insF P U) M ≤ cols k P M + min k U.length := by
  intro U
  cases U with
  | nil =>
    intro _ M _
    rw [insF_nil]
    omega
  | cons y U =>
    intro hs1 M hM
    obtain ⟨r1, a1, a2, a3⟩ := ins_end hN y
    have hl := ins_lens a2 a3
    have e : insF P (y :: U) = insF (insF P [y]) U := insF_app P [y] U
    rw [e]
    have hN' : hgt (insF P [y]) (N + 1) := by
      intro r hr
      have := hl r
      rw [if_neg (by omega), hN r (by omega)] at this
      exact List.eq_nil_of_length_eq_zero (by simpa using this)
    have hP' := insF_srt (w := [y]) hP
    have hc' := insF1_cstr (x := y) hP hc
    have step := cols_run (k := k) U (insF P [y]) (N + 1) 1 (P r1).length y hP' hc' hN' hs1 (by omega) (fun z hz r2 b2 b3 => by
      have hr2 : r2 ≤ r1 := by
        by_cases q : r2 ≤ r1
        · exact q
        · exfalso
          rcases ins_two hP hz r2 with w1 | ⟨b, d, w1, -, -⟩
          · exact b2 r2 (Nat.le_refl _) w1
          · rw [a3 r2 (by omega)] at w1; cases w1
      have l1 := hl r1
      rw [if_pos rfl] at l1
      have l2 := cstr_len hc' hr2
      omega) M (by simp only [List.length_cons] at hM; omega)
    have cst := cols_step (k := k) hl M
    rw [cst] at step
    simp only [List.length_cons]
    by_cases d : r1 < M ∧ (P r1).length < k
    · rw [if_pos d] at step
      omega
    · rw [if_neg d] at step
      omega
/-- the boxes of the first k columns of rows j .. j + N - 1 -/
def colsF (k : Nat) (P : Tab) (j : Nat) : Nat → Nat
  | 0 => 0
  | N + 1 => min k (P j).length + colsF k P (j + 1) N
theorem colsF_last (k : Nat) (P : Tab) : ∀ (N j : Nat), colsF k P j (N + 1) = colsF k P j N + min k (P (j + N)).length := by
  intro N
  induction N with
  | zero => intro j; simp [colsF]
  | succ N ih =>
    intro j
    have h := ih (j + 1)
    show min k (P j).length + colsF k P (j + 1) (N + 1) = min k (P j).length + colsF k P (j + 1) N + _
    rw [h, show j + 1 + N = j + (N + 1) by omega]
    omega
theorem colsF_cols (k : Nat) (P : Tab) (N : Nat) : colsF k P 0 N = cols k P N := by
  induction N with
  | zero => rfl
  | succ N ih =>
    rw [colsF_last, ih, Nat.zero_add]
    rfl
theorem cols_star {k n : Nat} {T : Tab} (hT : rsrt T) : ∀ (N j : Nat) (P : Tab) (N0 : Nat), rsrt P → cstr P → hgt P N0 → ∀ M, N0 + (rdF T j N).length ≤ M → cols k (insF P (star n (rdF T j N))) M ≤ cols k P M + colsF k T j N := by
  intro N
  induction N with
  | zero =>
    intro j P N0 hP hc hN M hM
    show cols k (insF P []) M ≤ _
    rw [insF_nil]
    simp [colsF]
  | succ N ih =>
    intro j P N0 hP hc hN M hM
    have hl : (rdF T j (N + 1)).length = (rdF T (j + 1) N).length + (T j).length := by
      show (rdF T (j + 1) N ++ T j).length = _
      rw [List.length_append]
    rw [hl] at hM
    have e : star n (rdF T j (N + 1)) = star n (T j) ++ star n (rdF T (j + 1) N) := star_app _ _ _
    rw [e, insF_app]
    have h1 := cols_run0 (k := k) hP hc hN (star n (T j)) (star_srt (hT j)) M (by rw [star_len]; omega)
    have h2 := ih (j + 1) (insF P (star n (T j))) (N0 + (star n (T j)).length) (insF_srt hP) (insF_cstr hP hc) (insF_hgt hN _) M (by rw [star_len]; omega)
    rw [star_len] at h1
    simp only [colsF]
    omega
/-- a word and the reading of its tableau -/
theorem wd_hgt {P : Tab} {N : Nat} (h : hgt P N) : ∀ (w : List Nat), wd P w (N + w.length) = [] := by
  intro w
  have key : ∀ d, (wd P w (N + d)).length ≤ w.length - d := by
    intro d
    induction d with
    | zero =>
      have : ∀ r, (wd P w r).length ≤ w.length := by
        intro r
        induction r with
        | zero => exact Nat.le_refl _
        | succ r ih =>
          have q := rinW_len (wd P w r) (P r)
          have q2 : (P r).length ≤ (rinW (wd P w r) (P r)).1.length := by
            have : ∀ (w R : List Nat), R.length ≤ (rinW w R).1.length := by
              intro w
              induction w with
              | nil => intro R; exact Nat.le_refl _
              | cons x w ih2 =>
                intro R
                have a := ih2 (rin x R).1
                have b := rin_len x R
                have c : (rin x R).2.length ≤ 1 := by
                  rcases rin_bump x R with q | ⟨b, -, q, -⟩ <;> rw [q] <;> simp
                show R.length ≤ (rinW w (rin x R).1).1.length
                omega
            exact this _ _
          show (rinW (wd P w r) (P r)).2.length ≤ w.length
          omega
      exact this N
    | succ d ih =>
      show (rinW (wd P w (N + d)) (P (N + d))).2.length ≤ _
      rw [h (N + d) (by omega)]
      cases hw : wd P w (N + d) with
      | nil => simp [rinW]
      | cons x v =>
        rw [hw] at ih
        have hlen : ∀ (v R : List Nat), R ≠ [] → 0 < (rinW v R).1.length := by
          intro v
          induction v with
          | nil => intro R hR; exact List.length_pos_iff.mpr hR
          | cons y v ih2 =>
            intro R hR
            show 0 < (rinW v (rin y R).1).1.length
            refine ih2 _ (fun hn => ?_)
            have b := rin_len y R
            rw [hn] at b
            have c : (rin y R).2.length ≤ 1 := by
              rcases rin_bump y R with q | ⟨b, -, q, -⟩ <;> rw [q] <;> simp
            have := List.length_pos_iff.mpr hR
            simp only [List.length_nil] at b
            omega
        have q := rinW_len (x :: v) []
        have q2 : 0 < (rinW (x :: v) []).1.length := hlen v [x] (by simp)
        simp only [List.length_cons, List.length_nil] at q ih
        omega
  have := key w.length
  rw [Nat.sub_self] at this
  exact List.eq_nil_of_length_eq_zero (Nat.le_zero.mp this)
theorem KQ_rdF (w : List Nat) : KQ w (rdF (insF T0 w) 0 w.length) := by
  have h := KQ_ins (N := w.length) T0 0 w T0_srt (by have := wd_hgt T0_hgt w; rwa [Nat.zero_add] at this)
  have e1 : ∀ (N k : Nat), rdF T0 k N = [] := by
    intro N
    induction N with
    | zero => intro k; rfl
    | succ N ih => intro k; show rdF T0 (k + 1) N ++ [] = []; rw [ih]; rfl
  rw [e1] at h
  exact h
theorem KQ_length {w w' : List Nat} (h : KQ w w') : w.length = w'.length := by
  have := h (fun z => z.length = w.length) (fun u v a b hab => by
    obtain ⟨p, q, r, hab⟩ := hab
    rcases hab with ⟨-, -, rfl, rfl⟩ | ⟨-, -, rfl, rfl⟩ <;> simp)
  exact (this.mp rfl).symm
theorem cols_star_le {k n : Nat} {w : List Nat} (hw : ∀ a ∈ w, a ≤ n) : ∀ M, w.length ≤ M → cols k (insF T0 (star n w)) M ≤ cols k (insF T0 w) M := by
  intro M hM
  have h1 := KQ_rdF w
  have h2 := KQ_star h1 hw
  have h3 := KQ.ins h2 T0_srt
  rw [h3]
  have h4 := cols_star (k := k) (n := n) (insF_srt (w := w) T0_srt) w.length 0 T0 0 T0_srt T0_cstr T0_hgt M (by rw [← KQ_length h1]; omega)
  have e0 : ∀ M, cols k T0 M = 0 := by
    intro M
    induction M with
    | zero => rfl
    | succ M ih => simp [cols, ih]
  rw [e0, Nat.zero_add, colsF_cols] at h4
  have e5 : ∀ d, cols k (insF T0 w) w.length ≤ cols k (insF T0 w) (w.length + d) := by
    intro d
    induction d with
    | zero => exact Nat.le_refl _
    | succ d ih => exact Nat.le_trans ih (Nat.le_add_right _ _)
  have := e5 (M - w.length)
  rw [show w.length + (M - w.length) = M by omega] at this
  omega
theorem cols_star_eq {k n : Nat} {w : List Nat} (hw : ∀ a ∈ w, 1 ≤ a ∧ a ≤ n) : ∀ M, w.length ≤ M → cols k (insF T0 (star n w)) M = cols k (insF T0 w) M := by
  intro M hM
  have h1 := cols_star_le (k := k) (n := n) (fun a ha => (hw a ha).2) M hM
  have h2 := cols_star_le (k := k) (n := n) (w := star n w) (fun a ha => by
    obtain ⟨b, hb, rfl⟩ := star_mem ha
    have := hw b hb
    omega) M (by rw [star_len]; exact hM)
  rw [star_star (fun a ha => (hw a ha).2)] at h2
  omega
/-- how many of the first M rows are longer than k -/
def cnt (k : Nat) (P : Tab) : Nat → Nat
  | 0 => 0
  | M + 1 => cnt k P M + (if k < (P M).length then 1 else 0)
theorem cols_cnt (k : Nat) (P : Tab) (M : Nat) : cols (k + 1) P M = cols k P M + cnt k P M := by
  induction M with
  | zero => rfl
  | succ M ih =>
    simp only [cols, cnt, ih]
    by_cases c : k < (P M).length
    · rw [if_pos c]; omega
    · rw [if_neg c]; omega
theorem cnt_iff {k : Nat} {P : Tab} (hc : cstr P) (M : Nat) : cnt k P M ≤ M ∧ ∀ s, s < M → (k < (P s).length ↔ s < cnt k P M) := by
  induction M with
  | zero => exact ⟨Nat.le_refl _, fun s hs => absurd hs (Nat.not_lt_zero _)⟩
  | succ M ih =>
    obtain ⟨i1, i2⟩ := ih
    simp only [cnt]
    by_cases c : k < (P M).length
    · rw [if_pos c]
      have full : cnt k P M = M := by
        by_cases q : cnt k P M = M
        · exact q
        · exfalso
          have h1 : cnt k P M < M := by omega
          have h2 := (i2 _ h1).mp (by have := cstr_len hc (Nat.le_of_lt h1); omega)
          exact Nat.lt_irrefl _ h2
      refine ⟨by omega, fun s hs => ?_⟩
      have := cstr_len hc (show s ≤ M by omega)
      constructor <;> intro <;> omega
    · rw [if_neg c]
      refine ⟨by omega, fun s hs => ?_⟩
      by_cases q : s = M
      · subst q
        constructor <;> intro <;> omega
      · exact i2 s (by omega)
theorem shape_eq {P P' : Tab} (hc : cstr P) (hc' : cstr P') {M : Nat} (h : ∀ k, cols k P M = cols k P' M) : ∀ s, s < M → (P s).length = (P' s).length := by
  intro s hs
  have hk : ∀ k, cnt k P M = cnt k P' M := fun k => by
    have h1 := cols_cnt k P M
    have h2 := cols_cnt k P' M
    have h3 := h k
    have h4 := h (k + 1)
    omega
  have iff : ∀ k, k < (P s).length ↔ k < (P' s).length := fun k => by
    rw [(cnt_iff hc M).2 s hs, (cnt_iff hc' M).2 s hs, hk k]
  have a := iff (P s).length
  have b := iff (P' s).length
  omega
/-- the turned word has a tableau of the same shape -/
theorem star_shape {n : Nat} {w : List Nat} (hw : ∀ a ∈ w, 1 ≤ a ∧ a ≤ n) (s : Nat) : (insF T0 (star n w) s).length = (insF T0 w s).length := by
  by_cases c : s < w.length
  · exact shape_eq (insF_cstr T0_srt T0_cstr) (insF_cstr T0_srt T0_cstr) (M := w.length) (fun k => cols_star_eq hw w.length (Nat.le_refl _)) s c
  · have h1 := insF_hgt T0_hgt w s (by omega)
    have h2 := insF_hgt T0_hgt (star n w) s (by rw [star_len]; omega)
    rw [h1, h2]
end SHAPES
