section CORNERM
theorem X4_endsColumn {F : Mem} {a la : Nat} {S : Nat → Nat} (h : isS F a la S) (hS : ∀ s, 8 ≤ s → S s = 0) (hB : ∀ s, S s ≤ 24) {r : Nat} (hr : r < 8) : mX4_endsColumn F a (iN r) = some (if S (r + 1) < S r then 1 else 0, F) := by
  have b1 := hB r
  have b2 := hB (r + 1)
  unfold mX4_endsColumn
  rw [obj_of h.1, Option.bind_some, X4_rowLength h hS (by omega), Option.bind_some]
  dsimp only
  rw [obj_of h.1, Option.bind_some, iN_one, X4_rowLength h hS (by omega), Option.bind_some]
  dsimp only
  by_cases k : S (r + 1) < S r
  · rw [if_pos k, if_neg (fun q => by have := (iN_le (by omega) (by omega)).mp q; omega)]
  · rw [if_neg k, if_pos ((iN_le (by omega) (by omega)).mpr (by omega))]
theorem X4_hc2 {F : Mem} {a la : Nat} {S : Nat → Nat} (h : isS F a la S) (hS : ∀ s, 8 ≤ s → S s = 0) (hB : ∀ s, S s ≤ 24) (h0 : 0 < S 0) : ∀ (m n r : Nat), r + m = 7 → m < n → S 0 ≤ S r → ∃ r', r' < 8 ∧ S (r' + 1) < S r' ∧ fX4_highestCorner_2 n a (iN r) F = some (iN r', F) := by
  intro m
  induction m with
  | zero =>
    intro n r h1 h2 h3
    obtain ⟨n', rfl⟩ : ∃ n', n = n' + 1 := ⟨n - 1, by omega⟩
    have : r = 7 := by omega
    subst this
    have e8 : S (7 + 1) = 0 := hS 8 (by omega)
    refine ⟨7, by omega, by omega, ?_⟩
    rw [fX4_highestCorner_2.eq_2, if_pos (by decide)]
  | succ m ih =>
    intro n r h1 h2 h3
    obtain ⟨n', rfl⟩ : ∃ n', n = n' + 1 := ⟨n - 1, by omega⟩
    rw [fX4_highestCorner_2.eq_2, if_neg (fun q => by have := (iN_le (a := 7) (b := r) (by omega) (by omega)).mp q; omega), obj_of h.1, Option.bind_some, X4_endsColumn h hS hB (by omega), Option.bind_some]
    dsimp only
    by_cases k : S (r + 1) < S r
    · rw [if_pos k, if_neg (by decide)]
      exact ⟨r, by omega, k, rfl⟩
    · rw [if_neg k, if_pos rfl, iN_one]
      exact ih n' (r + 1) (by omega) (by omega) (by omega)
theorem X4_highestCorner {F : Mem} {a la : Nat} {S : Nat → Nat} (h : isS F a la S) (hS : ∀ s, 8 ≤ s → S s = 0) (hB : ∀ s, S s ≤ 24) (h0 : 0 < S 0) : ∃ r', r' < 8 ∧ S (r' + 1) < S r' ∧ mX4_highestCorner F a = some (iN r', F) := by
  have := FU_big
  exact X4_hc2 h hS hB h0 7 FU 0 (by omega) (by omega) (Nat.le_refl _)
theorem X4_lc3 {F : Mem} {a la : Nat} {S : Nat → Nat} (h : isS F a la S) (hB : ∀ s, S s ≤ 24) (h0 : 0 < S 0) : ∀ (r n : Nat), r < 8 → r < n → S (r + 1) = 0 → ∃ r', r' < 8 ∧ S (r' + 1) < S r' ∧ fX4_lowestCorner_3 n a (iN r) F = some (iN r', F) := by
  intro r
  induction r with
  | zero =>
    intro n h1 h2 h3
    obtain ⟨n', rfl⟩ : ∃ n', n = n' + 1 := ⟨n - 1, by omega⟩
    refine ⟨0, by omega, by omega, ?_⟩
    rw [fX4_lowestCorner_3.eq_2, if_pos (by decide)]
  | succ r ih =>
    intro n h1 h2 h3
    obtain ⟨n', rfl⟩ : ∃ n', n = n' + 1 := ⟨n - 1, by omega⟩
    have b := hB (r + 1)
    rw [fX4_lowestCorner_3.eq_2, if_neg (fun q => by have := (iN_le (a := r + 1) (b := 0) (by omega) (by omega)).mp q; omega), gfR_at (v := la) h.1 rfl, Option.bind_some, rdI_at h.2 h1 (by omega), Option.bind_some]
    by_cases k : S (r + 1) = 0
    · rw [if_pos (by rw [k]; rfl), iN_pred]
      exact ih n' (by omega) (by omega) k
    · have e : ¬ iN (S (r + 1)) = 0 := fun q => k ((iN_inj (a := S (r + 1)) (b := 0) (by omega) (by omega)).mp q)
      rw [if_neg e]
      exact ⟨r + 1, h1, by omega, rfl⟩
theorem X4_lowestCorner {F : Mem} {a la : Nat} {S : Nat → Nat} (h : isS F a la S) (hS : ∀ s, 8 ≤ s → S s = 0) (hB : ∀ s, S s ≤ 24) (h0 : 0 < S 0) : ∃ r', r' < 8 ∧ S (r' + 1) < S r' ∧ mX4_lowestCorner F a = some (iN r', F) := by
  have := FU_big
  exact X4_lc3 h hB h0 7 FU (by omega) (by omega) (hS 8 (by omega))
end CORNERM
