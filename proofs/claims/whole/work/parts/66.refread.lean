section REFR
def putL (W : Nat → Nat) : Nat → List Nat → Nat → Nat
  | _, [] => W
  | i, x :: l => putL (upL W i x) (i + 1) l
theorem putL_app (l1 : List Nat) : ∀ (W : Nat → Nat) (i : Nat) (l2 : List Nat), putL W i (l1 ++ l2) = putL (putL W i l1) (i + l1.length) l2 := by
  induction l1 with
  | nil => intro W i l2; rfl
  | cons x l1 ih =>
    intro W i l2
    show putL (upL W i x) (i + 1) (l1 ++ l2) = putL (putL (upL W i x) (i + 1) l1) _ l2
    rw [ih, show i + 1 + l1.length = i + (x :: l1).length by simp only [List.length_cons]; omega]
theorem putL_low (l : List Nat) : ∀ (W : Nat → Nat) (i j : Nat), j < i → putL W i l j = W j := by
  induction l with
  | nil => intro W i j _; rfl
  | cons x l ih =>
    intro W i j h
    show putL (upL W i x) (i + 1) l j = _
    rw [ih _ _ _ (by omega), upL_ne (by omega)]
theorem putL_seg (l : List Nat) : ∀ (W : Nat → Nat) (i : Nat), seg (putL W i l) i l.length = l := by
  induction l with
  | nil => intro W i; rfl
  | cons x l ih =>
    intro W i
    show putL (upL W i x) (i + 1) l i :: seg (putL (upL W i x) (i + 1) l) (i + 1) l.length = _
    rw [putL_low _ _ _ _ (by omega), upL_at, ih]
theorem rdF_last (T : Tab) : ∀ (n k : Nat), rdF T k (n + 1) = T (k + n) ++ rdF T k n := by
  intro n
  induction n with
  | zero => intro k; simp [rdF]
  | succ n ih =>
    intro k
    show rdF T (k + 1) (n + 1) ++ T k = T (k + (n + 1)) ++ (rdF T (k + 1) n ++ T k)
    rw [ih (k + 1), List.append_assoc, show k + 1 + n = k + (n + 1) by omega]
abbrev cW (W : Nat → Nat) : Cl := .inl (0, 24, .inl (fun i => iN (W i)))
theorem iN_one (k : Nat) : iN k + 1 = iN (k + 1) := by rw [show (1 : Int32) = iN 1 from rfl, iN_add]
theorem X10_rd11 {K : Nat → Int32 → Int32 → Mem → Option (Int32 × Mem)} {b bx ln rw' : Nat} {fs : List Value} {M : Nat → Nat → Nat → Nat} {L : Nat → Nat → Nat} {r : Nat} (hr : r < 24) (hL : L 0 r ≤ 24) (hf : fs[7]? = some (.ref rw')) : ∀ (m n c i : Nat) (F : Mem) (W : Nat → Nat), isR F b fs bx ln M L → F rw' = cW W → c + m = L 0 r → i + m ≤ 24 → m < n → fX10_reading_11 K n b (iN i) (iN r) (iN c) F = K b (iN (i + m)) (iN r) (va_up F rw' (cW (putL W i (seg (M 0 r) c m)))) := by
  intro m
  induction m with
  | zero =>
    intro n c i F W h hW h1 h2 h3
    obtain ⟨n', rfl⟩ : ∃ n', n = n' + 1 := ⟨n - 1, by omega⟩
    have e := X10_rdL h (k := 0) (r := r) (by omega) hr
    rw [show (24 : Int32) * iN 0 + iN r = iN r by rw [show (24 : Int32) = iN 24 from rfl, iN_mul, iN_add]; simp] at e
    rw [fX10_reading_11.eq_2, gfR_at h.1 h.2.2.1]
    simp only [Option.bind_some]
    rw [e]
    simp only [Option.bind_some]
    rw [if_pos ((iN_le (by omega) (by omega)).mpr (by omega))]
    show _ = K b (iN i) (iN r) (va_up F rw' (cW W))
    rw [up_self hW]
  | succ m ih =>
    intro n c i F W h hW h1 h2 h3
    obtain ⟨n', rfl⟩ : ∃ n', n = n' + 1 := ⟨n - 1, by omega⟩
    have e := X10_rdL h (k := 0) (r := r) (by omega) hr
    rw [show (24 : Int32) * iN 0 + iN r = iN r by rw [show (24 : Int32) = iN 24 from rfl, iN_mul, iN_add]; simp] at e
    rw [fX10_reading_11.eq_2, gfR_at h.1 h.2.2.1]
    simp only [Option.bind_some]
    rw [e]
    simp only [Option.bind_some]
    rw [if_neg (fun q => by have := (iN_le (by omega) (by omega)).mp q; omega), gfR_at h.1 hf]
    simp only [Option.bind_some]
    rw [gfR_at h.1 h.2.1]
    simp only [Option.bind_some]
    rw [show (0 : Int32) = iN 0 from rfl, X10_box]
    simp only [Option.bind_some]
    rw [X10_rd h (by omega) hr (by omega)]
    simp only [Option.bind_some]
    rw [wrI_at hW (by omega) (by omega), updO]
    simp only [Option.bind_some]
    rw [iN_one, iN_one]
    have hb : b ≠ rw' := fun q => by have := h.1; rw [q, hW] at this; cases this
    have hbx : bx ≠ rw' := fun q => by have := h.2.2.2.1; rw [q, hW] at this; cases this
    have hln : ln ≠ rw' := fun q => by have := h.2.2.2.2; rw [q, hW] at this; cases this
    have h' : isR (va_up F rw' (cW (upL W i (M 0 r c)))) b fs bx ln M L := ⟨by rw [up_ne hb]; exact h.1, h.2.1, h.2.2.1, by rw [up_ne hbx]; exact h.2.2.2.1, by rw [up_ne hln]; exact h.2.2.2.2⟩
    have q := ih n' (c + 1) (i + 1) _ (upL W i (M 0 r c)) h' (up_eq _ _ _) (by omega) (by omega) (by omega)
    rw [up_up, show i + 1 + m = i + (m + 1) by omega] at q
    exact q
theorem X10_rd5 {b bx ln rw' : Nat} {fs : List Value} {M : Nat → Nat → Nat → Nat} {L : Nat → Nat → Nat} (hL : ∀ s, L 0 s ≤ 24) (hf : fs[7]? = some (.ref rw')) : ∀ (m n i : Nat) (F : Mem) (W : Nat → Nat), isR F b fs bx ln M L → F rw' = cW W → m ≤ 24 → i + (rdF (tabS (M 0) I0 (L 0)) 0 m).length ≤ 24 → m < n → fX10_reading_5 n b (iN i) (iN m + (-1)) F = some (iN (i + (rdF (tabS (M 0) I0 (L 0)) 0 m).length), va_up F rw' (cW (putL W i (rdF (tabS (M 0) I0 (L 0)) 0 m)))) := by
  intro m
  induction m with
  | zero =>
    intro n i F W h hW h1 h2 h3
    obtain ⟨n', rfl⟩ : ∃ n', n = n' + 1 := ⟨n - 1, by omega⟩
    rw [fX10_reading_5.eq_2, if_pos (by decide)]
    show _ = some (iN i, va_up F rw' (cW W))
    rw [up_self hW]
  | succ m ih =>
    intro n i F W h hW h1 h2 h3
    obtain ⟨n', rfl⟩ : ∃ n', n = n' + 1 := ⟨n - 1, by omega⟩
    have hLm := hL m
    have sl : (tabS (M 0) I0 (L 0) m).length = L 0 m := by
      have := seg_len (M 0 m) (L 0 m - 0) 0
      exact this
    have er : rdF (tabS (M 0) I0 (L 0)) 0 (m + 1) = tabS (M 0) I0 (L 0) m ++ rdF (tabS (M 0) I0 (L 0)) 0 m := by
      rw [rdF_last, Nat.zero_add]
    rw [er, List.length_append, sl] at h2
    have := FU_big
    rw [iN_pred, fX10_reading_5.eq_2, if_neg (iN_neg (by omega)), show (0 : Int32) = iN 0 from rfl, X10_rd11 (r := m) (by omega) hLm hf (L 0 m) FU 0 i F W h hW (by omega) (by omega) (by omega)]
    have hb : b ≠ rw' := fun q => by have := h.1; rw [q, hW] at this; cases this
    have hbx : bx ≠ rw' := fun q => by have := h.2.2.2.1; rw [q, hW] at this; cases this
    have hln : ln ≠ rw' := fun q => by have := h.2.2.2.2; rw [q, hW] at this; cases this
    have h' : ∀ W', isR (va_up F rw' (cW W')) b fs bx ln M L := fun W' => ⟨by rw [up_ne hb]; exact h.1, h.2.1, h.2.2.1, by rw [up_ne hbx]; exact h.2.2.2.1, by rw [up_ne hln]; exact h.2.2.2.2⟩
    rw [ih n' (i + L 0 m) _ (putL W i (seg (M 0 m) 0 (L 0 m))) (h' _) (up_eq _ _ _) (by omega) (by omega) (by omega), up_up, er, List.length_append, sl, putL_app, sl, Nat.add_assoc]
    rfl
/-- the reference's reading -/
theorem X10_reading {F : Mem} {b bx ln rw' : Nat} {fs : List Value} {M : Nat → Nat → Nat → Nat} {L : Nat → Nat → Nat} {W : Nat → Nat} (h : isR F b fs bx ln M L) (hf : fs[7]? = some (.ref rw')) (hW : F rw' = cW W) (hL : ∀ s, L 0 s ≤ 24) (hlen : (rdF (tabS (M 0) I0 (L 0)) 0 24).length ≤ 24) : mX10_reading F b = some (iN (rdF (tabS (M 0) I0 (L 0)) 0 24).length, va_up F rw' (cW (putL W 0 (rdF (tabS (M 0) I0 (L 0)) 0 24)))) := by
  have := FU_big
  have q := X10_rd5 hL hf 24 FU 0 F W h hW (by omega) (by omega) (by omega)
  rw [show iN 24 + (-1) = (23 : Int32) from by decide, Nat.zero_add] at q
  exact q
/-- what insertion does to lengths and letters -/
theorem addF_len : ∀ (m : Nat) (T : Nat → Nat → Nat) (O : Nat → Nat) (r x s : Nat), (addF m T O r x).2.1 s ≤ O s + 1 := by
  have one : ∀ (O : Nat → Nat) (r s : Nat), upL O r (O r + 1) s ≤ O s + 1 := fun O r s => by
    by_cases q : s = r
    · subst q; rw [upL_at]; omega
    · rw [upL_ne q]; omega
  intro m
  induction m with
  | zero => intro T O r x s; exact one O r s
  | succ m ih =>
    intro T O r x s
    simp only [addF]
    split
    · exact ih _ _ _ _ _
    · exact one O r s
theorem addF_let : ∀ (m : Nat) (T : Nat → Nat → Nat) (O : Nat → Nat) (r x : Nat), x < 100 → (∀ s d, d < O s → T s d < 100) → ∀ s d, d < (addF m T O r x).2.1 s → (addF m T O r x).1 s d < 100 := by
  have one : ∀ (T : Nat → Nat → Nat) (O : Nat → Nat) (r x : Nat), x < 100 → (∀ s d, d < O s → T s d < 100) → ∀ s d, d < upL O r (O r + 1) s → upT T r (O r) x s d < 100 := fun T O r x hx hl s d h => by
    by_cases q : s = r ∧ d = O r
    · obtain ⟨rfl, rfl⟩ := q; rw [upT_at]; exact hx
    · rw [upT_ne q]
      refine hl s d ?_
      by_cases q2 : s = r
      · subst q2; rw [upL_at] at h; omega
      · rwa [upL_ne q2] at h
  intro m
  induction m with
  | zero => intro T O r x hx hl s d h; exact one T O r x hx hl s d h
  | succ m ih =>
    intro T O r x hx hl s d h
    simp only [addF] at h ⊢
    by_cases k : fgF (T r) x (O r) (O r) 0 < O r
    · rw [if_pos k] at h ⊢
      refine ih _ _ _ _ (hl r _ k) (fun s d w => ?_) s d h
      by_cases q : s = r ∧ d = fgF (T r) x (O r) (O r) 0
      · obtain ⟨rfl, rfl⟩ := q; rw [upT_at]; exact hx
      · rw [upT_ne q]; exact hl s d w
    · rw [if_neg k] at h ⊢
      exact one T O r x hx hl s d h
end REFR
