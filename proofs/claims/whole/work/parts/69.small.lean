section SMALL
theorem J_fill5 {la : Nat} {O : Nat → Nat} : ∀ (m n i : Nat) (F : Mem), i + m = 16 → m < n → F la = cO (fun s => if s < i then 0 else O s) → fJ7_fill_53178_5 n la 0 (iN i) (iN 16) F = some (va_up F la (cO (fun s => if s < 16 then 0 else O s))) := by
  intro m
  induction m with
  | zero =>
    intro n i F h1 h2 h
    obtain ⟨n', rfl⟩ : ∃ n', n = n' + 1 := ⟨n - 1, by omega⟩
    have : i = 16 := by omega
    subst this
    rw [fJ7_fill_53178_5.eq_2, if_pos ((iN_le (by omega) (by omega)).mpr (Nat.le_refl _)), up_self h]
  | succ m ih =>
    intro n i F h1 h2 h
    obtain ⟨n', rfl⟩ : ∃ n', n = n' + 1 := ⟨n - 1, by omega⟩
    have e : upL (fun s => if s < i then 0 else O s) i 0 = fun s => if s < i + 1 then 0 else O s := by
      funext s
      by_cases k : s = i
      · subst k; rw [upL_at, if_pos (by omega)]
      · rw [upL_ne k]
        by_cases k2 : s < i
        · rw [if_pos k2, if_pos (by omega)]
        · rw [if_neg k2, if_neg (by omega)]
    rw [fJ7_fill_53178_5.eq_2, if_neg (fun q => by have := (iN_le (by omega) (by omega)).mp q; omega), wrI_at h (by omega) (by omega)]
    rw [show upd (fun r => iN (if r < i then 0 else O r)) i 0 = fun s => iN (upL (fun s => if s < i then 0 else O s) i 0 s) from updO (fun s => if s < i then 0 else O s) i 0]
    simp only [Option.bind_some]
    rw [e, iN_one, ih n' (i + 1) _ (by omega) (by omega) (up_eq _ _ _), up_up]
theorem J_fill {F : Mem} {la : Nat} {O : Nat → Nat} (h : F la = cO O) (hN : ∀ s, 16 ≤ s → O s = 0) : mJ7_fill_53178 F la 0 = some (va_up F la (cO I0)) := by
  have := FU_big
  have e0 : (fun s => if s < 16 then 0 else O s) = I0 := by
    funext s
    by_cases k : s < 16
    · rw [if_pos k]
    · rw [if_neg k, hN s (by omega)]
  have q := J_fill5 (la := la) (O := O) 16 FU 0 F (by omega) (by omega) (by simpa using h)
  rw [e0] at q
  have ea : alI F 0 la = some (iN 16) := by
    unfold alI
    rw [arI_of h]
    rfl
  unfold mJ7_fill_53178
  rw [ea, Option.bind_some]
  exact q
theorem X7_clear {F : Mem} {a la ta : Nat} {T : Nat → Nat → Nat} {O : Nat → Nat} (h : isT F a la ta T O) (hN : ∀ s, 16 ≤ s → O s = 0) : mX7_clear F a = some (va_up F la (cO I0)) := by
  unfold mX7_clear
  rw [gfR_at (v := la) h.1 rfl, Option.bind_some, J_fill h.2.1 hN, Option.bind_some]
/-- how many of the first m rows are not empty -/
def rowsN (O : Nat → Nat) : Nat → Nat
  | 0 => 0
  | m + 1 => rowsN O m + (if 0 < O m then 1 else 0)
theorem X7_cr4 {F : Mem} {a la ta : Nat} {T : Nat → Nat → Nat} {O : Nat → Nat} (h : isT F a la ta T O) (hO : ∀ s, O s ≤ 24) : ∀ (m n r : Nat), r + m = 16 → m < n → fX7_countRows_4 n a (iN (rowsN O r)) (iN r) F = some (iN (rowsN O 16), F) := by
  intro m
  induction m with
  | zero =>
    intro n r h1 h2
    obtain ⟨n', rfl⟩ : ∃ n', n = n' + 1 := ⟨n - 1, by omega⟩
    have : r = 16 := by omega
    subst this
    rw [fX7_countRows_4.eq_2, if_pos (by decide)]
  | succ m ih =>
    intro n r h1 h2
    obtain ⟨n', rfl⟩ : ∃ n', n = n' + 1 := ⟨n - 1, by omega⟩
    have hOr := hO r
    rw [fX7_countRows_4.eq_2, if_neg (fun q => by have := (iN_le (a := 16) (b := r) (by omega) (by omega)).mp q; omega), gfR_at (v := la) h.1 rfl]
    simp only [Option.bind_some]
    rw [rdI_at h.2.1 (by omega) (by omega)]
    simp only [Option.bind_some, fX7_countRows_22]
    have q := ih n' (r + 1) (by omega) (by omega)
    by_cases k : 0 < O r
    · have e : rowsN O (r + 1) = rowsN O r + 1 := by
        show rowsN O r + (if 0 < O r then 1 else 0) = _
        rw [if_pos k]
      have e2 : ¬ iN (O r) ≤ 0 := fun w => by
        have := (iN_le (a := O r) (b := 0) (by omega) (by omega)).mp w
        omega
      rw [e] at q
      rw [if_neg e2, iN_one, iN_one]
      exact q
    · have e : rowsN O (r + 1) = rowsN O r := by
        show rowsN O r + (if 0 < O r then 1 else 0) = _
        rw [if_neg k]
        rfl
      have e2 : iN (O r) ≤ 0 := (iN_le (a := O r) (b := 0) (by omega) (by omega)).mpr (by omega)
      rw [e] at q
      rw [if_pos e2, iN_one]
      exact q
theorem X7_countRows {F : Mem} {a la ta : Nat} {T : Nat → Nat → Nat} {O : Nat → Nat} (h : isT F a la ta T O) (hO : ∀ s, O s ≤ 24) : mX7_countRows F a = some (iN (rowsN O 16), F) := by
  have := FU_big
  exact X7_cr4 h hO 16 FU 0 (by omega) (by omega)
theorem X10_ct4 {F : Mem} {b bx ln : Nat} {fs : List Value} {M : Nat → Nat → Nat → Nat} {L : Nat → Nat → Nat} (h : isR F b fs bx ln M L) {k : Nat} (hk : k < 3) : ∀ (m n r : Nat), r + m = 24 → m < n → fX10_count_4 n b (iN k) (iN (boxes (L k) r)) (iN r) F = some (iN (boxes (L k) 24), F) := by
  intro m
  induction m with
  | zero =>
    intro n r h1 h2
    obtain ⟨n', rfl⟩ : ∃ n', n = n' + 1 := ⟨n - 1, by omega⟩
    have : r = 24 := by omega
    subst this
    rw [fX10_count_4.eq_2, if_pos (by decide)]
  | succ m ih =>
    intro n r h1 h2
    obtain ⟨n', rfl⟩ : ∃ n', n = n' + 1 := ⟨n - 1, by omega⟩
    rw [fX10_count_4.eq_2, if_neg (fun q => by have := (iN_le (a := 24) (b := r) (by omega) (by omega)).mp q; omega), gfR_at h.1 h.2.2.1]
    simp only [Option.bind_some]
    rw [X10_rdL h hk (by omega)]
    simp only [Option.bind_some]
    rw [iN_add, iN_one]
    exact ih n' (r + 1) (by omega) (by omega)
theorem X10_count {F : Mem} {b bx ln : Nat} {fs : List Value} {M : Nat → Nat → Nat → Nat} {L : Nat → Nat → Nat} (h : isR F b fs bx ln M L) {k : Nat} (hk : k < 3) : mX10_count F b (iN k) = some (iN (boxes (L k) 24), F) := by
  have := FU_big
  exact X10_ct4 h hk 24 FU 0 (by omega) (by omega)
end SMALL
