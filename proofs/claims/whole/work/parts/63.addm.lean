section ADDN
theorem X7_add52 {F : Mem} {a la ta : Nat} {T : Nat → Nat → Nat} {O : Nat → Nat} (h : isT F a la ta T O) {r : Nat} (hr : r < 16) (hc : O r < 24) (x : Nat) : fX7_addByRows_52 a (iN x) (iN r) F = some (iN r, va_up (va_up F ta (cT (upT T r (O r) x))) la (cO (upL O r (O r + 1)))) := by
  simp only [fX7_addByRows_52]
  rw [obj_of h.1]
  simp only [Option.bind_some]
  rw [X7_append h hr hc]
  rfl
theorem X7_add12 {a la ta : Nat} {O : Nat → Nat} (hO : ∀ s, O s < 24) (hN : ∀ s, 16 ≤ s → O s = 0) : ∀ (m n r : Nat) (F : Mem) (T : Nat → Nat → Nat) (x : Nat), r + m = 15 → m < n → isT F a la ta T O → x < 100 → (∀ s d, d < O s → T s d < 100) → fX7_addByRows_12 (fun (x0 : Nat) (x2 : Int32) (x3 : Int32) (F : Mem) => fX7_addByRows_52   x0 x2 x3 F) n a (iN x) (iN r) (iN (fgF (T r) x (O r) (O r) 0)) F = some (iN (addF m T O r x).2.2, va_up (va_up F ta (cT (addF m T O r x).1)) la (cO (addF m T O r x).2.1)) := by
  intro m
  induction m with
  | zero =>
    intro n r F T x h1 h2 h hx hl
    obtain ⟨n', rfl⟩ : ∃ n', n = n' + 1 := ⟨n - 1, by omega⟩
    have : r = 15 := by omega
    subst this
    rw [fX7_addByRows_12.eq_2, if_pos (by decide)]
    exact X7_add52 h (by omega) (hO 15) x
  | succ m ih =>
    intro n r F T x h1 h2 h hx hl
    obtain ⟨n', rfl⟩ : ∃ n', n = n' + 1 := ⟨n - 1, by omega⟩
    have hOr := hO r
    obtain ⟨f1, f2, f3, f4⟩ := fgF_ok (f := T r) (x := x) (n := O r) (O r) 0 (by omega)
    rw [fX7_addByRows_12.eq_2, if_neg (fun q => by have := (iN_le (a := 15) (b := r) (by omega) (by omega)).mp q; omega), gfR_at (v := la) h.1 rfl]
    simp only [Option.bind_some]
    rw [rdI_at h.2.1 (by omega) (by omega)]
    simp only [Option.bind_some, addF]
    generalize hc : fgF (T r) x (O r) (O r) 0 = c at f1 f2 f3 f4 ⊢
    by_cases k : c < O r
    · rw [if_pos k, if_neg (fun q => by have := (iN_le (by omega) (by omega)).mp q; omega), obj_of h.1]
      simp only [Option.bind_some]
      rw [X7_replace h (fun s => Nat.le_of_lt (hO s)) hN (by omega) k]
      simp only [Option.bind_some]
      have h' := isT_putT (T' := upT T r c x) h
      have hl' : ∀ s d, d < O s → upT T r c x s d < 100 := fun s d q => by
        by_cases w : s = r ∧ d = c
        · obtain ⟨rfl, rfl⟩ := w; rw [upT_at]; exact hx
        · rw [upT_ne w]; exact hl s d q
      rw [obj_of h'.1]
      simp only [Option.bind_some]
      rw [show iN r + 1 = iN (r + 1) by rw [show (1 : Int32) = iN 1 from rfl, iN_add], X7_firstGreater h' (fun s => Nat.le_of_lt (hO s)) hN (by omega) (hl r c k) (hl' (r + 1))]
      simp only [Option.bind_some]
      rw [ih n' (r + 1) _ (upT T r c x) (T r c) (by omega) (by omega) h' (hl r c k) hl', up_up]
    · rw [if_neg k, if_pos ((iN_le (by omega) (by omega)).mpr (by omega))]
      exact X7_add52 h (by omega) hOr x
/-- the class's insertion by rows -/
theorem X7_addByRows {F : Mem} {a la ta : Nat} {T : Nat → Nat → Nat} {O : Nat → Nat} (h : isT F a la ta T O) (hO : ∀ s, O s < 24) (hN : ∀ s, 16 ≤ s → O s = 0) (hl : ∀ s d, d < O s → T s d < 100) {x : Nat} (hx : x < 100) : mX7_addByRows F a (iN x) = some (iN (addF 15 T O 0 x).2.2, va_up (va_up F ta (cT (addF 15 T O 0 x).1)) la (cO (addF 15 T O 0 x).2.1)) := by
  simp only [mX7_addByRows]
  rw [obj_of h.1]
  simp only [Option.bind_some]
  rw [show (0 : Int32) = iN 0 from rfl, X7_firstGreater h (fun s => Nat.le_of_lt (hO s)) hN (by omega) hx (hl 0)]
  simp only [Option.bind_some]
  have := FU_big
  exact X7_add12 hO hN 15 FU 0 F T x (by omega) (by omega) h hx hl
/-- how many boxes there are in the first m rows -/
def boxes (O : Nat → Nat) : Nat → Nat
  | 0 => 0
  | m + 1 => boxes O m + O m
theorem X7_cb4 {F : Mem} {a la ta : Nat} {T : Nat → Nat → Nat} {O : Nat → Nat} (h : isT F a la ta T O) : ∀ (m n r : Nat), r + m = 16 → m < n → fX7_countBoxes_4 n a (iN (boxes O r)) (iN r) F = some (iN (boxes O 16), F) := by
  intro m
  induction m with
  | zero =>
    intro n r h1 h2
    obtain ⟨n', rfl⟩ : ∃ n', n = n' + 1 := ⟨n - 1, by omega⟩
    have : r = 16 := by omega
    subst this
    rw [fX7_countBoxes_4.eq_2, if_pos (by decide)]
  | succ m ih =>
    intro n r h1 h2
    obtain ⟨n', rfl⟩ : ∃ n', n = n' + 1 := ⟨n - 1, by omega⟩
    rw [fX7_countBoxes_4.eq_2, if_neg (fun q => by have := (iN_le (a := 16) (b := r) (by omega) (by omega)).mp q; omega), gfR_at (v := la) h.1 rfl]
    simp only [Option.bind_some]
    rw [rdI_at h.2.1 (by omega) (by omega)]
    simp only [Option.bind_some]
    rw [iN_add, show iN r + 1 = iN (r + 1) by rw [show (1 : Int32) = iN 1 from rfl, iN_add]]
    exact ih n' (r + 1) (by omega) (by omega)
theorem X7_countBoxes {F : Mem} {a la ta : Nat} {T : Nat → Nat → Nat} {O : Nat → Nat} (h : isT F a la ta T O) : mX7_countBoxes F a = some (iN (boxes O 16), F) := by
  have := FU_big
  exact X7_cb4 h 16 FU 0 (by omega) (by omega)
end ADDN
