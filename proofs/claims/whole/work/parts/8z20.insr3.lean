section INSR3
variable {A : Nat → Nat} {F : Mem} {S W : Nat → Nat → Nat} {N : Nat → Nat} {PT : Nat → Nat → Nat} {PO : Nat → Nat} {QT : Nat → Nat → Nat} {QO : Nat → Nat} {aw : Bool} {th : Int32}
/-- rows that are not empty come first -/
theorem rows_par {O : Nat → Nat} (h : par O) {q : Nat} (h0 : O q = 0) (h1 : ∀ s, s < q → 0 < O s) : ∀ m, q ≤ m → rowsN O m = q := by
  have low : ∀ m, m ≤ q → rowsN O m = m := by
    intro m
    induction m with
    | zero => intro _; rfl
    | succ m ih =>
      intro hm
      show rowsN O m + (if 0 < O m then 1 else 0) = m + 1
      rw [ih (by omega), if_pos (h1 m (by omega))]
  intro m
  induction m with
  | zero => intro hm; exact (low 0 (by omega)).trans (by omega)
  | succ m ih =>
    intro hm
    by_cases e : q = m + 1
    · rw [e]; exact low (m + 1) (by omega)
    · show rowsN O m + (if 0 < O m then 1 else 0) = q
      have pl := par_le h (show q ≤ m by omega)
      rw [ih (by omega), if_neg (by omega)]
      rfl
theorem X10_ht2 {b bx ln : Nat} {fs : List Value} {M : Nat → Nat → Nat → Nat} {L : Nat → Nat → Nat} (h : isR F b fs bx ln M L) {k : Nat} (hk : k < 3) (hp : par (L k)) (hO : ∀ s, L k s ≤ 24) (h16 : L k 16 = 0) : ∀ (m n r : Nat), r + m = 16 → m < n → (∀ s, s < r → 0 < L k s) → fX10_height_2 n b (iN k) (iN r) F = some (iN (rowsN (L k) 16), F) := by
  intro m
  induction m with
  | zero =>
    intro n r h1 h2 h3
    obtain ⟨n, rfl⟩ : ∃ m, n = m + 1 := ⟨n - 1, by omega⟩
    have : r = 16 := by omega
    subst this
    rw [fX10_height_2.eq_2, if_neg (by decide), gfR_at h.1 h.2.2.1, Option.bind_some, X10_rdL h hk (by omega), Option.bind_some, h16, if_pos (show iN 0 ≤ 0 by decide), rows_par hp h16 h3 16 (by omega)]
  | succ m ih =>
    intro n r h1 h2 h3
    obtain ⟨n, rfl⟩ : ∃ m, n = m + 1 := ⟨n - 1, by omega⟩
    have hOr := hO r
    rw [fX10_height_2.eq_2, if_neg (show ¬ (24 : Int32) ≤ iN r from fun w => by have := (iN_le (a := 24) (by omega) (by omega)).mp w; omega), gfR_at h.1 h.2.2.1, Option.bind_some, X10_rdL h hk (by omega), Option.bind_some]
    by_cases q : L k r = 0
    · rw [q, if_pos (show iN 0 ≤ 0 by decide), rows_par hp q h3 16 (by omega)]
    · rw [if_neg (show ¬ iN (L k r) ≤ 0 from fun w => q (by have := (iN_le (b := 0) (by omega) (by omega)).mp w; omega)), iN_one]
      exact ih n (r + 1) (by omega) (by omega) (fun s hs => by
        by_cases e : s = r
        · rw [e]; omega
        · exact h3 s (by omega))
end INSR3
