section WORDM
/-- a word object at a: its letters, how many count -/
abbrev isW (F : Mem) (a wa : Nat) (W : Nat → Nat) (n : Nat) : Prop := F a = .inr (7, [.ref wa, .int (iN n)]) ∧ F wa = cO W
theorem addF_zero : ∀ (m : Nat) (T : Nat → Nat → Nat) (O : Nat → Nat) (r x : Nat), (∀ s, 16 ≤ s → O s = 0) → r + m < 16 → ∀ s, 16 ≤ s → (addF m T O r x).2.1 s = 0 := by
  intro m
  induction m with
  | zero => intro T O r x h h1 s hs; show upL O r (O r + 1) s = 0; rw [upL_ne (by omega)]; exact h s hs
  | succ m ih =>
    intro T O r x h h1 s hs
    simp only [addF]
    split
    · exact ih _ _ _ _ h (by omega) s hs
    · show upL O r (O r + 1) s = 0
      rw [upL_ne (by omega)]; exact h s hs
theorem X8_letterAt {F : Mem} {a wa : Nat} {W : Nat → Nat} {n i : Nat} (h : isW F a wa W n) (hn : n ≤ 16) (hi : i < n) : mX8_letterAt F a (iN i) = some (iN (W i), F) := by
  unfold mX8_letterAt
  rw [if_neg (iN_neg (by omega)), gfI_at (v := iN n) h.1 rfl, Option.bind_some, if_pos ((iN_lt (by omega) (by omega)).mpr hi), gfR_at (v := wa) h.1 rfl, Option.bind_some, rdI_at h.2 (by omega) (by omega), Option.bind_some]
theorem X7_ia6 {t la ta a wa n : Nat} {W : Nat → Nat} (hn : n ≤ 16) (hwl : wa ≠ la) (hw : ∀ i, i < n → W i < 100) : ∀ (m n' i : Nat) (F : Mem) (T : Nat → Nat → Nat) (O : Nat → Nat), i + m = n → m < n' → isT F t la ta T O → isW F a wa W n → tabS T I0 O = insF T0 (seg W 0 i) → (∀ s, O s ≤ i) → (∀ s, 16 ≤ s → O s = 0) → (∀ s d, d < O s → T s d < 100) → ∃ T' O', fX7_insertAll_6 n' t a (iN i) F = some (va_up (va_up F ta (cT T')) la (cO O')) ∧ tabS T' I0 O' = insF T0 (seg W 0 n) ∧ (∀ s, O' s ≤ n) ∧ (∀ s, 16 ≤ s → O' s = 0) ∧ (∀ s d, d < O' s → T' s d < 100) := by
  intro m
  induction m with
  | zero =>
    intro n' i F T O h1 h2 h hW hT hO hN hl
    obtain ⟨n', rfl⟩ : ∃ m', n' = m' + 1 := ⟨n' - 1, by omega⟩
    have : i = n := by omega
    subst this
    refine ⟨T, O, ?_, hT, hO, hN, hl⟩
    rw [fX7_insertAll_6.eq_2, gfI_at (v := iN i) hW.1 rfl, Option.bind_some, if_pos ((iN_le (by omega) (by omega)).mpr (Nat.le_refl _)), up_self h.2.2, up_self h.2.1]
  | succ m ih =>
    intro n' i F T O h1 h2 h hW hT hO hN hl
    obtain ⟨n', rfl⟩ : ∃ m', n' = m' + 1 := ⟨n' - 1, by omega⟩
    have hO15 : O 15 = 0 := by
      rw [← tabS_len T O 15, hT, insF_hgt T0_hgt (seg W 0 i) 15 (by rw [seg_len]; omega)]
      rfl
    have na : a ≠ ta := fun q => by have := hW.1; rw [q, h.2.2] at this; cases this
    have nl : a ≠ la := fun q => by have := hW.1; rw [q, h.2.1] at this; cases this
    have nt : wa ≠ ta := fun q => by have := hW.2; rw [q, h.2.2] at this; cases this
    rw [fX7_insertAll_6.eq_2, gfI_at (v := iN n) hW.1 rfl, Option.bind_some, if_neg (fun q => by have := (iN_le (by omega) (by omega)).mp q; omega), obj_of hW.1, Option.bind_some, X8_letterAt hW hn (by omega), Option.bind_some]
    dsimp only
    rw [obj_of h.1, Option.bind_some, X7_addByRows h (fun s => by have := hO s; omega) hN hl (hw i (by omega)), Option.bind_some]
    dsimp only
    rw [iN_one]
    obtain ⟨T', O', e1, e2, e3, e4, e5⟩ := ih n' (i + 1) _ (addF 15 T O 0 (W i)).1 (addF 15 T O 0 (W i)).2.1 (by omega) (by omega) (isT_putO (isT_putT h)) ⟨by rw [up_ne nl, up_ne na]; exact hW.1, by rw [up_ne hwl, up_ne nt]; exact hW.2⟩ (by
      rw [addF_all hO15, hT, seg_app W i 0 1, insF_app]
      simp [seg]) (fun s => by have := addF_len 15 T O 0 (W i) s; have := hO s; omega) (addF_zero 15 T O 0 (W i) hN (by omega)) (addF_let 15 T O 0 (W i) (hw i (by omega)) hl)
    refine ⟨T', O', ?_, e2, e3, e4, e5⟩
    rw [e1]
    congr 1
    funext x
    by_cases x1 : x = la
    · subst x1; rw [up_eq, up_eq]
    · rw [up_ne x1, up_ne x1]
      by_cases x2 : x = ta
      · subst x2; rw [up_eq, up_eq]
      · rw [up_ne x2, up_ne x2, up_ne x1, up_ne x2]
/-- the class's tableau of a word -/
theorem X7_insertAll {F : Mem} {t la ta a wa n : Nat} {W : Nat → Nat} {T : Nat → Nat → Nat} {O : Nat → Nat} (h : isT F t la ta T O) (hW : isW F a wa W n) (hn : n ≤ 16) (hwl : wa ≠ la) (hw : ∀ i, i < n → W i < 100) (hN : ∀ s, 16 ≤ s → O s = 0) : ∃ T' O', mX7_insertAll F t a = some (va_up (va_up F ta (cT T')) la (cO O')) ∧ tabS T' I0 O' = insF T0 (seg W 0 n) ∧ (∀ s, O' s ≤ n) ∧ (∀ s, 16 ≤ s → O' s = 0) ∧ (∀ s d, d < O' s → T' s d < 100) := by
  have := FU_big
  have nl : a ≠ la := fun q => by have := hW.1; rw [q, h.2.1] at this; cases this
  obtain ⟨T', O', e1, e2⟩ := X7_ia6 (t := t) (la := la) (ta := ta) hn hwl hw n FU 0 (va_up F la (cO I0)) T I0 (by omega) (by omega) (isT_putO h) ⟨by rw [up_ne nl]; exact hW.1, by rw [up_ne hwl]; exact hW.2⟩ (by
    show _ = insF T0 []
    rw [insF_nil]
    rfl) (fun s => Nat.le_refl _) (fun s _ => rfl) (fun s d q => by simp at q)
  refine ⟨T', O', ?_, e2⟩
  unfold mX7_insertAll
  rw [obj_of h.1, Option.bind_some, X7_clear h hN, Option.bind_some, show (0 : Int32) = iN 0 from rfl, e1]
  congr 1
  funext x
  by_cases x1 : x = la
  · subst x1; rw [up_eq, up_eq]
  · rw [up_ne x1, up_ne x1]
    by_cases x2 : x = ta
    · subst x2; rw [up_eq, up_eq]
    · rw [up_ne x2, up_ne x2, up_ne x1]
end WORDM
