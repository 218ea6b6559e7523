section SHAPEM
abbrev cS (S : Nat → Nat) : Cl := .inl (0, 8, .inl (fun r => iN (S r)))
/-- a shape object at a -/
abbrev isS (F : Mem) (a la : Nat) (S : Nat → Nat) : Prop := F a = .inr (3, [.ref la]) ∧ F la = cS S
theorem X4_rowLength {F : Mem} {a la : Nat} {S : Nat → Nat} (h : isS F a la S) (hS : ∀ s, 8 ≤ s → S s = 0) {r : Nat} (hr : r < 1000) : mX4_rowLength F a (iN r) = some (iN (S r), F) := by
  unfold mX4_rowLength
  rw [if_neg (iN_neg (by omega))]
  by_cases k : r < 8
  · have e : iN r < 8 := (iN_lt (a := r) (b := 8) (by omega) (by omega)).mpr k
    rw [if_pos e, gfR_at (v := la) h.1 rfl, Option.bind_some, rdI_at h.2 k (by omega), Option.bind_some]
  · have e : ¬ iN r < 8 := fun q => k ((iN_lt (a := r) (b := 8) (by omega) (by omega)).mp q)
    rw [if_neg e, hS r (by omega)]
    rfl
theorem X4_cb4 {F : Mem} {a la : Nat} {S : Nat → Nat} (h : isS F a la S) : ∀ (m n r : Nat), r + m = 8 → m < n → fX4_countBoxes_4 n a (iN (boxes S r)) (iN r) F = some (iN (boxes S 8), F) := by
  intro m
  induction m with
  | zero =>
    intro n r h1 h2
    obtain ⟨n', rfl⟩ : ∃ n', n = n' + 1 := ⟨n - 1, by omega⟩
    have : r = 8 := by omega
    subst this
    rw [fX4_countBoxes_4.eq_2, if_pos (by decide)]
  | succ m ih =>
    intro n r h1 h2
    obtain ⟨n', rfl⟩ : ∃ n', n = n' + 1 := ⟨n - 1, by omega⟩
    rw [fX4_countBoxes_4.eq_2, if_neg (fun q => by have := (iN_le (a := 8) (b := r) (by omega) (by omega)).mp q; omega), gfR_at (v := la) h.1 rfl]
    simp only [Option.bind_some]
    rw [rdI_at h.2 (by omega) (by omega)]
    simp only [Option.bind_some]
    rw [iN_add, iN_one]
    exact ih n' (r + 1) (by omega) (by omega)
theorem X4_countBoxes {F : Mem} {a la : Nat} {S : Nat → Nat} (h : isS F a la S) : mX4_countBoxes F a = some (iN (boxes S 8), F) := by
  have := FU_big
  exact X4_cb4 h 8 FU 0 (by omega) (by omega)
end SHAPEM
