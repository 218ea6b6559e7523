section COLM
variable {A : Nat → Nat} {F : Mem}
theorem X7_hasN {a la ta : Nat} {T : Nat → Nat → Nat} {O : Nat → Nat} (h : isT F a la ta T O) (hO : ∀ s, O s ≤ 24) {r c : Nat} (hr : r < 16) (hc : c < 1000) : mX7_has F a (iN r) (iN c) = some (if c < O r then 1 else 0, F) := by
  have hOr := hO r
  unfold mX7_has
  rw [if_neg (iN_neg (by omega)), if_neg (show ¬ (16 : Int32) ≤ iN r from fun w => by have := (iN_le (a := 16) (by omega) (by omega)).mp w; omega), if_neg (iN_neg (by omega)), gfR_at (k := 0) (v := la) h.1 rfl, Option.bind_some, rdI_at h.2.1 hr (by omega), Option.bind_some]
  by_cases q : c < O r
  · rw [if_pos q, if_neg (fun w => by have := (iN_le (by omega) (by omega)).mp w; omega)]
  · rw [if_neg q, if_pos ((iN_le (by omega) (by omega)).mpr (by omega))]
theorem X7_fn2 {a la ta : Nat} {T : Nat → Nat → Nat} {O : Nat → Nat} (h : isT F a la ta T O) (hO : ∀ s, O s ≤ 24) (hN : ∀ s, 16 ≤ s → O s = 0) (hl : ∀ s d, d < O s → T s d < 100) {c x : Nat} (hc : c < 1000) (hx : x < 100) : ∀ (m n r : Nat), r + m = 15 → m < n → fX7_firstNotLess_2 n a (iN c) (iN x) (iN r) F = some (iN (fnF T O c x m r), F) := by
  intro m
  induction m with
  | zero =>
    intro n r h1 h2
    obtain ⟨n, rfl⟩ : ∃ m, n = m + 1 := ⟨n - 1, by omega⟩
    rw [fX7_firstNotLess_2.eq_2, show r = 15 by omega, if_pos (by decide)]
    rfl
  | succ m ih =>
    intro n r h1 h2
    obtain ⟨n, rfl⟩ : ∃ m, n = m + 1 := ⟨n - 1, by omega⟩
    unfold fnF
    rw [fX7_firstNotLess_2.eq_2, if_neg (show ¬ (15 : Int32) ≤ iN r from fun w => by have := (iN_le (a := 15) (by omega) (by omega)).mp w; omega), obj_of h.1, Option.bind_some, X7_hasN h hO (by omega) hc, Option.bind_some]
    by_cases q : c < O r
    · have tl := hl r c q
      rw [if_pos q, if_neg ne10]
      simp only
      rw [obj_of h.1, Option.bind_some, X7_letterAt h hO hN (by omega) hc, Option.bind_some, if_pos q]
      by_cases w : T r c < x
      · rw [if_neg (fun v => by have := (iN_le (by omega) (by omega)).mp v; omega), if_pos ⟨q, w⟩, iN_one]
        exact ih n (r + 1) (by omega) (by omega)
      · rw [if_pos ((iN_le (by omega) (by omega)).mpr (by omega)), if_neg (fun v => w v.2)]
    · rw [if_neg q, if_pos rfl, if_neg (fun v => q v.1)]
theorem X7_firstNotLess {a la ta : Nat} {T : Nat → Nat → Nat} {O : Nat → Nat} (h : isT F a la ta T O) (hO : ∀ s, O s ≤ 24) (hN : ∀ s, 16 ≤ s → O s = 0) (hl : ∀ s d, d < O s → T s d < 100) {c x : Nat} (hc : c < 1000) (hx : x < 100) : mX7_firstNotLess F a (iN c) (iN x) = some (iN (fnF T O c x 15 0), F) := by
  have FB := FU_big
  unfold mX7_firstNotLess
  rw [il0]
  exact X7_fn2 h hO hN hl hc hx 15 FU 0 (by omega) (by omega)
theorem X7_ac12 {a la ta : Nat} {O : Nat → Nat} (hp : par O) (h15 : O 15 = 0) (h0 : O 0 < 23) (hO : ∀ s, O s ≤ 24) (hN : ∀ s, 16 ≤ s → O s = 0) : ∀ (m n : Nat) (T : Nat → Nat → Nat) (c x : Nat) (F : Mem), O 0 < c + m → m < n → c ≤ O 0 → x < 100 → (∀ s d, d < O s → T s d < 100) → isT F a la ta T O → fX7_addByColumns_12 (fun (x0 : Nat) (x2 : Int32) (x4 : Int32) (F : Mem) => fX7_addByColumns_51 x0 x2 x4 F) n a (iN x) (iN c) (iN (fnF T O c x 15 0)) F = some (iN (adC m T O c x).2.2, va_up (va_up F ta (cT (adC m T O c x).1)) la (cO (adC m T O c x).2.1)) := by
  intro m
  induction m with
  | zero => intro n T c x F h1 _ h2; omega
  | succ m ih =>
    intro n T c x F h1 h2 h3 hx hl h
    obtain ⟨n, rfl⟩ : ∃ m, n = m + 1 := ⟨n - 1, by omega⟩
    obtain ⟨i1, i2, i3, i4⟩ := fnF_ok (T := T) (c := c) (x := x) 15 0 h15
    unfold adC
    generalize fnF T O c x 15 0 = q at *
    have pl := par_le hp (Nat.zero_le q)
    rw [fX7_addByColumns_12.eq_2, if_neg (show ¬ (23 : Int32) ≤ iN c from fun w => by have := (iN_le (a := 23) (by omega) (by omega)).mp w; omega), obj_of h.1, Option.bind_some, X7_hasN h hO (by omega) (by omega), Option.bind_some]
    by_cases e : c < O q
    · have tl := hl q c e
      have h' := isT_putT (T' := upT T q c x) h
      have hl' : ∀ s d, d < O s → upT T q c x s d < 100 := fun s d hd => by
        by_cases e2 : s = q ∧ d = c
        · rw [e2.1, e2.2, upT_at]; exact hx
        · rw [upT_ne e2]; exact hl s d hd
      rw [if_pos e, if_neg ne10, if_pos e]
      simp only
      rw [obj_of h.1, Option.bind_some, X7_replace h hO hN (by omega) e x, Option.bind_some]
      simp only
      rw [obj_of h'.1, Option.bind_some, iN_one, X7_firstNotLess h' hO hN hl' (by omega) tl, Option.bind_some]
      refine Eq.trans (ih n (upT T q c x) (c + 1) (T q c) _ (by omega) (by omega) (by omega) tl hl' h') ?_
      rw [up_up]
    · rw [if_neg e, if_pos rfl, if_neg e]
      unfold fX7_addByColumns_51
      rw [obj_of h.1, Option.bind_some, X7_append h (by omega) (by omega) x, Option.bind_some]
theorem X7_addByColumns {a la ta : Nat} {T : Nat → Nat → Nat} {O : Nat → Nat} (h : isT F a la ta T O) (hp : par O) (h15 : O 15 = 0) (h0 : O 0 < 23) (hl : ∀ s d, d < O s → T s d < 100) {x : Nat} (hx : x < 100) : mX7_addByColumns F a (iN x) = some (iN (adC 24 T O 0 x).2.2, va_up (va_up F ta (cT (adC 24 T O 0 x).1)) la (cO (adC 24 T O 0 x).2.1)) := by
  have FB := FU_big
  have hO : ∀ s, O s ≤ 24 := fun s => by have := par_le hp (Nat.zero_le s); omega
  have hN : ∀ s, 16 ≤ s → O s = 0 := fun s hs => by have := par_le hp (show 15 ≤ s by omega); omega
  unfold mX7_addByColumns
  rw [obj_of h.1, Option.bind_some, il0, X7_firstNotLess h hO hN hl (by omega) hx, Option.bind_some]
  exact X7_ac12 hp h15 h0 hO hN 24 FU T 0 x F (by omega) (by omega) (by omega) hx hl h
end COLM
