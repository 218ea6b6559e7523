section READC2
variable {A : Nat → Nat} {F : Mem} {S W : Nat → Nat → Nat} {N : Nat → Nat} {PT : Nat → Nat → Nat} {PO : Nat → Nat} {QT : Nat → Nat → Nat} {QO : Nat → Nat} {aw : Bool} {th : Int32}
theorem okT_row {T : Nat → Nat → Nat} {O : Nat → Nat} (h : okT T O) {r c d : Nat} (hcd : c ≤ d) (hd : d < O r) : T r c ≤ T r d := by
  have : ∀ e, c + e < O r → T r c ≤ T r (c + e) := by
    intro e
    induction e with
    | zero => intro _; exact Nat.le_refl _
    | succ e ih =>
      intro q
      exact Nat.le_trans (ih (by omega)) (h.2.1 r (c + e) q)
  have q := this (d - c)
  rw [show c + (d - c) = d by omega] at q
  exact q hd
theorem X7_gl4 {a la ta : Nat} {T : Nat → Nat → Nat} {O : Nat → Nat} (h : isT F a la ta T O) (hO : okO O) (hT : okT T O) (hl : ∀ s d, d < O s → T s d < 100) : ∀ (m n r g : Nat), r + m = 16 → m < n → g < 100 → ∃ g', fX7_greatestLetter_4 n a (iN g) (iN r) F = some (iN g', F) ∧ g' < 100 ∧ (g' ≤ 16 ↔ g ≤ 16 ∧ ∀ s d, r ≤ s → s < 16 → d < O s → T s d ≤ 16) := by
  intro m
  induction m with
  | zero =>
    intro n r g h1 h2 h3
    obtain ⟨n, rfl⟩ : ∃ m, n = m + 1 := ⟨n - 1, by omega⟩
    refine ⟨g, ?_, h3, fun q => ⟨q, fun s d a b _ => by omega⟩, fun q => q.1⟩
    rw [fX7_greatestLetter_4.eq_2, show r = 16 by omega, if_pos (by decide)]
  | succ m ih =>
    intro n r g h1 h2 h3
    obtain ⟨n, rfl⟩ : ∃ m, n = m + 1 := ⟨n - 1, by omega⟩
    have h24 := hO.1 r
    have val : ∃ v, v < 100 ∧ mX7_letterAt F a (iN r) (iN (O r) - 1) = some (iN v, F) ∧ (v ≤ 16 ↔ ∀ d, d < O r → T r d ≤ 16) := by
      by_cases q : O r = 0
      · refine ⟨0, by omega, ?_, fun _ d hd => by omega, fun _ => by omega⟩
        rw [q, X7_letterAny h hO]
        unfold enV
        rw [if_neg (iN_neg (by omega)), if_pos (by decide)]
        rfl
      · refine ⟨T r (O r - 1), hl r _ (by omega), ?_, fun w d hd => ?_, fun w => w _ (by omega)⟩
        · rw [il1, iN_sub (by omega), X7_letterAt h hO.1 hO.2 (by omega) (by omega), if_pos (by omega)]
        · have := okT_row hT (show d ≤ O r - 1 by omega) (show O r - 1 < O r by omega)
          omega
    obtain ⟨v, v1, v2, v3⟩ := val
    obtain ⟨g', e1, e2, e3⟩ := ih n (r + 1) (if g < v then v else g) (by omega) (by omega) (by split <;> omega)
    refine ⟨g', ?_, e2, ?_⟩
    · rw [fX7_greatestLetter_4.eq_2, if_neg (show ¬ (16 : Int32) ≤ iN r from fun w => by have := (iN_le (a := 16) (by omega) (by omega)).mp w; omega), gfR_at (k := 0) (v := la) h.1 rfl, Option.bind_some, rdI_at h.2.1 (by omega) (by omega), Option.bind_some, obj_of h.1, Option.bind_some, v2, Option.bind_some]
      simp only
      rw [iN_one, ← e1]
      by_cases q : g < v
      · rw [if_pos q, if_pos ((iN_lt (by omega) (by omega)).mpr q)]
      · rw [if_neg q, if_neg (fun w => q ((iN_lt (by omega) (by omega)).mp w))]
    · rw [e3]
      constructor
      · intro ⟨q1, q2⟩
        have gv : g ≤ 16 ∧ v ≤ 16 := by split at q1 <;> omega
        refine ⟨gv.1, fun s d a b c => ?_⟩
        by_cases e : s = r
        · rw [e] at c ⊢; exact v3.mp gv.2 d c
        · exact q2 s d (by omega) b c
      · intro ⟨q1, q2⟩
        have gv := v3.mpr (fun d hd => q2 r d (by omega) (by omega) hd)
        exact ⟨by split <;> omega, fun s d a b c => q2 s d (by omega) b c⟩
end READC2
