section REFI
theorem cL_congr {L L' : Nat → Nat → Nat} (h : ∀ k s, s < 24 → L k s = L' k s) : cL L = cL L' := by
  have : (fun i => iN (L (i / 24) (i % 24))) = fun i => iN (L' (i / 24) (i % 24)) := by
    funext i
    rw [h _ _ (by omega)]
  show (Sum.inl (0, 72, Sum.inl (fun i => iN (L (i / 24) (i % 24)))) : Cl) = _
  rw [this]
theorem X10_cl2 {b bx ln : Nat} {fs : List Value} {M : Nat → Nat → Nat → Nat} {k : Nat} (hk : k < 3) : ∀ (m n r : Nat) (F : Mem) (L : Nat → Nat → Nat), isR F b fs bx ln M L → (∀ s, s < r → L k s = 0) → r + m = 24 → m < n → fX10_clear_2 n b (iN k) (iN r) F = some (va_up F ln (cL (upK L k I0))) := by
  intro m
  induction m with
  | zero =>
    intro n r F L h h1 h2 h3
    obtain ⟨n', rfl⟩ : ∃ n', n = n' + 1 := ⟨n - 1, by omega⟩
    have : r = 24 := by omega
    subst this
    rw [fX10_clear_2.eq_2, if_pos (by decide)]
    have e : cL (upK L k I0) = cL L := cL_congr (fun j s hs => by
      by_cases q : j = k
      · subst q; rw [upK_at, h1 s hs]
      · rw [upK_ne q])
    rw [e, up_self h.2.2.2.2]
  | succ m ih =>
    intro n r F L h h1 h2 h3
    obtain ⟨n', rfl⟩ : ∃ n', n = n' + 1 := ⟨n - 1, by omega⟩
    rw [fX10_clear_2.eq_2, if_neg (fun q => by have := (iN_le (a := 24) (b := r) (by omega) (by omega)).mp q; omega), gfR_at h.1 h.2.2.1]
    simp only [Option.bind_some]
    rw [show (0 : Int32) = iN 0 from rfl, X10_wrL h hk (by omega)]
    simp only [Option.bind_some]
    rw [iN_one, ih n' (r + 1) _ (upK L k (upL (L k) r 0)) (isR_putL h) (fun s hs => by
      rw [upK_at]
      by_cases q : s = r
      · subst q; rw [upL_at]
      · rw [upL_ne q]; exact h1 s (by omega)) (by omega) (by omega), up_up, upK_up]
theorem X10_clear {F : Mem} {b bx ln : Nat} {fs : List Value} {M : Nat → Nat → Nat → Nat} {L : Nat → Nat → Nat} (h : isR F b fs bx ln M L) {k : Nat} (hk : k < 3) : mX10_clear F b (iN k) = some (va_up F ln (cL (upK L k I0))) := by
  have := FU_big
  exact X10_cl2 hk 24 FU 0 F L h (fun s hs => by omega) (by omega) (by omega)
theorem tabS_len (T : Nat → Nat → Nat) (O : Nat → Nat) (s : Nat) : (tabS T I0 O s).length = O s := seg_len (T s) (O s - 0) 0
theorem X10_ir7 {b bx ln rw' : Nat} {fs : List Value} {M : Nat → Nat → Nat → Nat} {L : Nat → Nat → Nat} {W : Nat → Nat} {k n : Nat} (hk : k < 3) (hn : n ≤ 24) (hf : fs[7]? = some (.ref rw')) (hw : ∀ i, i < n → W i < 100) : ∀ (m n' i : Nat) (F : Mem) (T : Nat → Nat → Nat) (O : Nat → Nat), i + m = n → m < n' → isR F b fs bx ln (upK M k T) (upK L k O) → F rw' = cW W → tabS T I0 O = insF T0 (seg W 0 i) → (∀ s, O s ≤ i) → (∀ s d, d < O s → T s d < 100) → ∃ T' O', fX10_insertRow_7 n' b (iN k) (iN n) (iN i) F = some (va_up (va_up F bx (cM (upK M k T'))) ln (cL (upK L k O'))) ∧ tabS T' I0 O' = insF T0 (seg W 0 n) ∧ (∀ s, O' s ≤ n) ∧ (∀ s d, d < O' s → T' s d < 100) := by
  intro m
  induction m with
  | zero =>
    intro n' i F T O h1 h2 h hW hT hO hl
    obtain ⟨n', rfl⟩ : ∃ m', n' = m' + 1 := ⟨n' - 1, by omega⟩
    have : i = n := by omega
    subst this
    rw [fX10_insertRow_7.eq_2, if_pos ((iN_le (by omega) (by omega)).mpr (Nat.le_refl _))]
    exact ⟨T, O, by rw [up_self h.2.2.2.1, up_self h.2.2.2.2], hT, hO, hl⟩
  | succ m ih =>
    intro n' i F T O h1 h2 h hW hT hO hl
    obtain ⟨n', rfl⟩ : ∃ m', n' = m' + 1 := ⟨n' - 1, by omega⟩
    have hOi : O i = 0 := by
      rw [← tabS_len T O i, hT, insF_hgt T0_hgt (seg W 0 i) i (by rw [seg_len]; omega)]
      rfl
    have k1 : ∀ s, upK L k O k s < 24 := fun s => by rw [upK_at]; have := hO s; omega
    rw [fX10_insertRow_7.eq_2, if_neg (fun q => by have := (iN_le (by omega) (by omega)).mp q; omega), gfR_at h.1 hf]
    simp only [Option.bind_some]
    rw [rdI_at hW (by omega) (by omega)]
    simp only [Option.bind_some]
    rw [obj_of h.1]
    simp only [Option.bind_some]
    rw [X10_insertByRows (m := i) h hk k1 (by omega) (by rw [upK_at]; exact hOi) (hw i (by omega)) (by rw [upK_at, upK_at]; exact hl)]
    simp only [Option.bind_some]
    rw [upK_at, upK_at, upK_up, upK_up, iN_one]
    have hb : rw' ≠ ln := fun q => by have := h.2.2.2.2; rw [← q, hW] at this; cases this
    have hbx : rw' ≠ bx := fun q => by have := h.2.2.2.1; rw [← q, hW] at this; cases this
    obtain ⟨T', O', e1, e2, e3, e4⟩ := ih n' (i + 1) _ (addF i T O 0 (W i)).1 (addF i T O 0 (W i)).2.1 (by omega) (by omega) (isR_putL (isR_putM h)) (by rw [up_ne hb, up_ne hbx]; exact hW) (by
      rw [addF_all hOi, hT, seg_app W i 0 1, insF_app]
      simp [seg]) (fun s => by have := addF_len i T O 0 (W i) s; have := hO s; omega) (addF_let i T O 0 (W i) (hw i (by omega)) hl)
    refine ⟨T', O', ?_, e2, e3, e4⟩
    rw [e1]
    congr 1
    have nx : bx ≠ ln := fun q => by have a := h.2.2.2.1; have c := h.2.2.2.2; rw [q, c] at a; cases a
    funext x
    by_cases x1 : x = ln
    · subst x1; rw [up_eq, up_eq]
    · rw [up_ne x1, up_ne x1]
      by_cases x2 : x = bx
      · subst x2; rw [up_eq, up_eq]
      · rw [up_ne x2, up_ne x2, up_ne x1, up_ne x2]
/-- the reference puts the buffer's word into a tableau -/
theorem X10_insertRow {F : Mem} {b bx ln rw' : Nat} {fs : List Value} {M : Nat → Nat → Nat → Nat} {L : Nat → Nat → Nat} {W : Nat → Nat} {k n : Nat} (h : isR F b fs bx ln M L) (hk : k < 3) (hn : n ≤ 24) (hf : fs[7]? = some (.ref rw')) (hW : F rw' = cW W) (hw : ∀ i, i < n → W i < 100) : ∃ T' O', mX10_insertRow F b (iN k) (iN n) = some (va_up (va_up F bx (cM (upK M k T'))) ln (cL (upK L k O'))) ∧ tabS T' I0 O' = insF T0 (seg W 0 n) ∧ (∀ s, O' s ≤ n) ∧ (∀ s d, d < O' s → T' s d < 100) := by
  have := FU_big
  have hb : rw' ≠ ln := fun q => by have := h.2.2.2.2; rw [← q, hW] at this; cases this
  have nx : bx ≠ ln := fun q => by have a := h.2.2.2.1; have c := h.2.2.2.2; rw [q, c] at a; cases a
  have eM : upK M k (M k) = M := by
    funext j
    by_cases q : j = k
    · subst q; rw [upK_at]
    · rw [upK_ne q]
  have h' : isR (va_up F ln (cL (upK L k I0))) b fs bx ln (upK M k (M k)) (upK L k I0) := by rw [eM]; exact isR_putL h
  obtain ⟨T', O', e1, e2, e3, e4⟩ := X10_ir7 (M := M) (L := L) (W := W) hk hn hf hw n FU 0 _ (M k) I0 (by omega) (by omega) h' (by rw [up_ne hb]; exact hW) (by
    show _ = insF T0 []
    rw [insF_nil]
    rfl) (fun s => Nat.le_refl _) (fun s d q => by simp at q)
  refine ⟨T', O', ?_, e2, e3, e4⟩
  simp only [mX10_insertRow]
  rw [obj_of h.1]
  simp only [Option.bind_some]
  rw [X10_clear h hk]
  simp only [Option.bind_some]
  rw [show (0 : Int32) = iN 0 from rfl, e1]
  congr 1
  funext x
  by_cases x1 : x = ln
  · subst x1; rw [up_eq, up_eq]
  · rw [up_ne x1, up_ne x1]
    by_cases x2 : x = bx
    · subst x2; rw [up_eq, up_eq]
    · rw [up_ne x2, up_ne x2, up_ne x1]
end REFI
