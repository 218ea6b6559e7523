section SHP
theorem il0 : (0 : Int32) = iN 0 := rfl
theorem il1 : (1 : Int32) = iN 1 := rfl
theorem il2 : (2 : Int32) = iN 2 := rfl
theorem il3 : (3 : Int32) = iN 3 := rfl
theorem il4 : (4 : Int32) = iN 4 := rfl
theorem il5 : (5 : Int32) = iN 5 := rfl
theorem il7 : (7 : Int32) = iN 7 := rfl
theorem il8 : (8 : Int32) = iN 8 := rfl
theorem il9 : (9 : Int32) = iN 9 := rfl
theorem il14 : (14 : Int32) = iN 14 := rfl
theorem il15 : (15 : Int32) = iN 15 := rfl
theorem il16 : (16 : Int32) = iN 16 := rfl
theorem il17 : (17 : Int32) = iN 17 := rfl
theorem il22 : (22 : Int32) = iN 22 := rfl
theorem il23 : (23 : Int32) = iN 23 := rfl
theorem il24 : (24 : Int32) = iN 24 := rfl
theorem il25 : (25 : Int32) = iN 25 := rfl
theorem il40 : (40 : Int32) = iN 40 := rfl
def bI (z : Bool) : Int32 := if z = true then 1 else 0
theorem bI_t : bI true = 1 := rfl
theorem bI_f : bI false = 0 := rfl
theorem bI_z (z : Bool) : bI z = 0 ↔ z = false := by cases z <;> decide
theorem X4_ct2 {F : Mem} {a b la lb : Nat} {S U : Nat → Nat} (h : isS F a la S) (hb : isS F b lb U) (hS : ∀ s, S s ≤ 24) (hU : ∀ s, U s ≤ 24) : ∀ (m n r : Nat), r + m = 8 → m < n → ∃ z : Bool, fX4_contains_2 n a b (iN r) F = some (bI z, F) ∧ (z = true ↔ ∀ k, r ≤ k → k < 8 → U k ≤ S k) := by
  intro m
  induction m with
  | zero =>
    intro n r h1 h2
    obtain ⟨n', rfl⟩ : ∃ n', n = n' + 1 := ⟨n - 1, by omega⟩
    refine ⟨true, ?_, by simp; omega⟩
    rw [fX4_contains_2.eq_2]
    simp (disch := omega) only [il8, iN_le, if_pos, bI_t]
  | succ m ih =>
    intro n r h1 h2
    obtain ⟨n', rfl⟩ : ∃ n', n = n' + 1 := ⟨n - 1, by omega⟩
    have s1 := hS r
    have s2 := hU r
    rw [fX4_contains_2.eq_2]
    simp (disch := omega) only [il8, iN_le, if_neg, gfR_at (k := 0) (v := la) h.1 rfl, gfR_at (k := 0) (v := lb) hb.1 rfl, Option.bind_some, rdI_at h.2, rdI_at hb.2, iN_one]
    by_cases k : U r ≤ S r
    · obtain ⟨z, e1, e2⟩ := ih n' (r + 1) (by omega) (by omega)
      refine ⟨z, by rw [if_pos k, e1], ?_⟩
      rw [e2]
      constructor
      · intro w j a b
        by_cases e : j = r
        · subst e; exact k
        · exact w j (by omega) b
      · intro w j a b
        exact w j (by omega) b
    · refine ⟨false, by rw [if_neg k]; rfl, ?_⟩
      simp only [Bool.false_eq_true, false_iff]
      intro w
      exact k (w r (Nat.le_refl _) (by omega))
theorem X4_contains {F : Mem} {a b la lb : Nat} {S U : Nat → Nat} (h : isS F a la S) (hb : isS F b lb U) (hS : ∀ s, S s ≤ 24) (hU : ∀ s, U s ≤ 24) : ∃ z : Bool, mX4_contains F a b = some (bI z, F) ∧ (z = true ↔ ∀ k, k < 8 → U k ≤ S k) := by
  have := FU_big
  obtain ⟨z, e1, e2⟩ := X4_ct2 h hb hS hU 8 FU 0 (by omega) (by omega)
  refine ⟨z, e1, ?_⟩
  rw [e2]
  exact ⟨fun w k hk => w k (by omega) hk, fun w k _ hk => w k hk⟩
/-- how many of the first m rows are longer than c -/
def clen (S : Nat → Nat) (c : Nat) : Nat → Nat
  | 0 => 0
  | m + 1 => clen S c m + (if c < S m then 1 else 0)
theorem clen_le (S : Nat → Nat) (c : Nat) : ∀ m, clen S c m ≤ m := by
  intro m
  induction m with
  | zero => exact Nat.le_refl _
  | succ m ih => simp only [clen]; split <;> omega
theorem X4_cl4 {F : Mem} {a la : Nat} {S : Nat → Nat} (h : isS F a la S) (hS : ∀ s, S s ≤ 24) {c : Nat} (hc : c < 1000) : ∀ (m n r : Nat), r + m = 8 → m < n → fX4_columnLength_4 n a (iN c) (iN (clen S c r)) (iN r) F = some (iN (clen S c 8), F) := by
  intro m
  induction m with
  | zero =>
    intro n r h1 h2
    obtain ⟨n', rfl⟩ : ∃ n', n = n' + 1 := ⟨n - 1, by omega⟩
    have : r = 8 := by omega
    subst this
    rw [fX4_columnLength_4.eq_2]
    simp (disch := omega) only [il8, iN_le, if_pos]
  | succ m ih =>
    intro n r h1 h2
    obtain ⟨n', rfl⟩ : ∃ n', n = n' + 1 := ⟨n - 1, by omega⟩
    have s1 := hS r
    have q := ih n' (r + 1) (by omega) (by omega)
    rw [fX4_columnLength_4.eq_2]
    simp (disch := omega) only [il8, iN_le, if_neg, gfR_at (k := 0) (v := la) h.1 rfl, Option.bind_some, rdI_at h.2, iN_one, fX4_columnLength_23]
    by_cases k : S r ≤ c
    · rw [if_pos k]
      rw [show clen S c (r + 1) = clen S c r by simp only [clen]; rw [if_neg (by omega)]; rfl] at q
      exact q
    · rw [if_neg k]
      rw [show clen S c (r + 1) = clen S c r + 1 by simp only [clen]; rw [if_pos (by omega)]] at q
      exact q
theorem X4_columnLength {F : Mem} {a la : Nat} {S : Nat → Nat} (h : isS F a la S) (hS : ∀ s, S s ≤ 24) {c : Nat} (hc : c < 1000) : mX4_columnLength F a (iN c) = some (iN (clen S c 8), F) := by
  have := FU_big
  exact X4_cl4 h hS hc 8 FU 0 (by omega) (by omega)
end SHP
