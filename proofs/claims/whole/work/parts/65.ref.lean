section REFM
def upK {α : Type} (M : Nat → α) (k : Nat) (v : α) : Nat → α := fun j => if j = k then v else M j
theorem upK_at {α : Type} (M : Nat → α) (k : Nat) (v : α) : upK M k v k = v := by simp [upK]
theorem upK_ne {α : Type} {M : Nat → α} {k j : Nat} {v : α} (h : j ≠ k) : upK M k v j = M j := by simp [upK, h]
theorem upK_up {α : Type} (M : Nat → α) (k : Nat) (v u : α) : upK (upK M k v) k u = upK M k u := by
  funext j
  by_cases h : j = k
  · subst h; rw [upK_at, upK_at]
  · rw [upK_ne h, upK_ne h, upK_ne h]
abbrev cM (M : Nat → Nat → Nat → Nat) : Cl := .inl (0, 1728, .inl (fun i => iN (M (i / 576) (i % 576 / 24) (i % 24))))
abbrev cL (L : Nat → Nat → Nat) : Cl := .inl (0, 72, .inl (fun i => iN (L (i / 24) (i % 24))))
theorem updM (M : Nat → Nat → Nat → Nat) {k r c : Nat} (hr : r < 24) (hc : c < 24) (x : Nat) : upd (fun i => iN (M (i / 576) (i % 576 / 24) (i % 24))) (576 * k + 24 * r + c) (iN x) = fun i => iN (upK M k (upT (M k) r c x) (i / 576) (i % 576 / 24) (i % 24)) := by
  funext i
  by_cases h : i = 576 * k + 24 * r + c
  · subst h
    rw [show (576 * k + 24 * r + c) / 576 = k by omega, show (576 * k + 24 * r + c) % 576 / 24 = r by omega, show (576 * k + 24 * r + c) % 24 = c by omega, upK_at, upT_at]
    simp [upd]
  · simp only [upd, h, if_false]
    by_cases hk : i / 576 = k
    · rw [hk, upK_at, upT_ne (by omega)]
    · rw [upK_ne hk]
theorem updL2 (L : Nat → Nat → Nat) {k r : Nat} (hr : r < 24) (x : Nat) : upd (fun i => iN (L (i / 24) (i % 24))) (24 * k + r) (iN x) = fun i => iN (upK L k (upL (L k) r x) (i / 24) (i % 24)) := by
  funext i
  by_cases h : i = 24 * k + r
  · subst h
    rw [show (24 * k + r) / 24 = k by omega, show (24 * k + r) % 24 = r by omega, upK_at, upL_at]
    simp [upd]
  · simp only [upd, h, if_false]
    by_cases hk : i / 24 = k
    · rw [hk, upK_at, upL_ne (by omega)]
    · rw [upK_ne hk]
/-- the reference's three tableaux -/
abbrev isR (F : Mem) (b : Nat) (fs : List Value) (bx ln : Nat) (M : Nat → Nat → Nat → Nat) (L : Nat → Nat → Nat) : Prop := F b = .inr (9, fs) ∧ fs[4]? = some (.ref bx) ∧ fs[5]? = some (.ref ln) ∧ F bx = cM M ∧ F ln = cL L
theorem isR_putM {F : Mem} {b bx ln : Nat} {fs : List Value} {M M' : Nat → Nat → Nat → Nat} {L : Nat → Nat → Nat} (h : isR F b fs bx ln M L) : isR (va_up F bx (cM M')) b fs bx ln M' L := by
  obtain ⟨h1, h2, h3, h4, h5⟩ := h
  refine ⟨?_, h2, h3, up_eq _ _ _, ?_⟩
  · rw [up_ne (fun q => by subst q; rw [h1] at h4; cases h4)]; exact h1
  · rw [up_ne (fun q => by subst q; rw [h5] at h4; cases h4)]; exact h5
theorem isR_putL {F : Mem} {b bx ln : Nat} {fs : List Value} {M : Nat → Nat → Nat → Nat} {L L' : Nat → Nat → Nat} (h : isR F b fs bx ln M L) : isR (va_up F ln (cL L')) b fs bx ln M L' := by
  obtain ⟨h1, h2, h3, h4, h5⟩ := h
  refine ⟨?_, h2, h3, ?_, up_eq _ _ _⟩
  · rw [up_ne (fun q => by subst q; rw [h1] at h5; cases h5)]; exact h1
  · rw [up_ne (fun q => by subst q; rw [h4] at h5; cases h5)]; exact h4
theorem X10_box (F : Mem) (k r c : Nat) : mX10_box F (iN k) (iN r) (iN c) = some (iN (576 * k + 24 * r + c), F) := by
  simp only [mX10_box]
  rw [show (576 : Int32) = iN 576 from rfl, show (24 : Int32) = iN 24 from rfl, iN_mul, iN_mul, iN_add, iN_add]
theorem X10_rd {F : Mem} {b bx ln : Nat} {fs : List Value} {M : Nat → Nat → Nat → Nat} {L : Nat → Nat → Nat} (h : isR F b fs bx ln M L) {k r c : Nat} (hk : k < 3) (hr : r < 24) (hc : c < 24) : rdI F 0 bx (iN (576 * k + 24 * r + c)) = some (iN (M k r c)) := by
  rw [rdI_at h.2.2.2.1 (by omega) (by omega), show (576 * k + 24 * r + c) / 576 = k by omega, show (576 * k + 24 * r + c) % 576 / 24 = r by omega, show (576 * k + 24 * r + c) % 24 = c by omega]
theorem X10_wr {F : Mem} {b bx ln : Nat} {fs : List Value} {M : Nat → Nat → Nat → Nat} {L : Nat → Nat → Nat} (h : isR F b fs bx ln M L) {k r c : Nat} (hk : k < 3) (hr : r < 24) (hc : c < 24) (x : Nat) : wrI F bx (iN (576 * k + 24 * r + c)) (iN x) = some (va_up F bx (cM (upK M k (upT (M k) r c x)))) := by
  rw [wrI_at h.2.2.2.1 (by omega) (by omega), updM M hr hc]
theorem X10_rdL {F : Mem} {b bx ln : Nat} {fs : List Value} {M : Nat → Nat → Nat → Nat} {L : Nat → Nat → Nat} (h : isR F b fs bx ln M L) {k r : Nat} (hk : k < 3) (hr : r < 24) : rdI F 0 ln (24 * iN k + iN r) = some (iN (L k r)) := by
  rw [show (24 : Int32) = iN 24 from rfl, iN_mul, iN_add, rdI_at h.2.2.2.2 (by omega) (by omega), show (24 * k + r) / 24 = k by omega, show (24 * k + r) % 24 = r by omega]
theorem X10_wrL {F : Mem} {b bx ln : Nat} {fs : List Value} {M : Nat → Nat → Nat → Nat} {L : Nat → Nat → Nat} (h : isR F b fs bx ln M L) {k r : Nat} (hk : k < 3) (hr : r < 24) (x : Nat) : wrI F ln (24 * iN k + iN r) (iN x) = some (va_up F ln (cL (upK L k (upL (L k) r x)))) := by
  rw [show (24 : Int32) = iN 24 from rfl, iN_mul, iN_add, wrI_at h.2.2.2.2 (by omega) (by omega), updL2 L hr]
theorem X10_ib22 {K : Nat → Int32 → Int32 → Int32 → Int32 → Int32 → Mem → Option (Int32 × Mem)} {F : Mem} {b bx ln : Nat} {fs : List Value} {M : Nat → Nat → Nat → Nat} {L : Nat → Nat → Nat} (h : isR F b fs bx ln M L) {k r x : Nat} (hk : k < 3) (hr : r < 24) (hL : L k r < 24) (hx : x < 100) (hl : ∀ d, d < L k r → M k r d < 100) : ∀ (m n c : Nat), c + m = L k r → m < n → fX10_insertByRows_22 K n b (iN k) (iN x) (iN r) (iN (L k r)) (iN c) F = K b (iN k) (iN x) (iN r) (iN (L k r)) (iN (fgF (M k r) x (L k r) m c)) F := by
  intro m
  induction m with
  | zero =>
    intro n c h1 h2
    obtain ⟨n', rfl⟩ : ∃ n', n = n' + 1 := ⟨n - 1, by omega⟩
    rw [fX10_insertByRows_22.eq_2, if_pos ((iN_le (by omega) (by omega)).mpr (by omega))]
    rfl
  | succ m ih =>
    intro n c h1 h2
    obtain ⟨n', rfl⟩ : ∃ n', n = n' + 1 := ⟨n - 1, by omega⟩
    rw [fX10_insertByRows_22.eq_2, if_neg (fun q => by have := (iN_le (by omega) (by omega)).mp q; omega), gfR_at h.1 h.2.1]
    simp only [Option.bind_some]
    rw [X10_box]
    simp only [Option.bind_some]
    rw [X10_rd h hk hr (by omega)]
    simp only [Option.bind_some, fgF]
    rw [if_neg (show ¬ L k r ≤ c by omega)]
    have := hl c (by omega)
    by_cases q : x < M k r c
    · rw [if_pos q, if_pos ((iN_lt (by omega) (by omega)).mpr q)]
    · rw [if_neg q, if_neg (fun w => q ((iN_lt (by omega) (by omega)).mp w)), show iN c + 1 = iN (c + 1) by rw [show (1 : Int32) = iN 1 from rfl, iN_add]]
      exact ih n' (c + 1) (by omega) (by omega)
theorem X10_ib5 {b bx ln : Nat} {fs : List Value} {L : Nat → Nat → Nat} {k : Nat} (hk : k < 3) (hL : ∀ s, L k s < 24) : ∀ (m n r : Nat) (F : Mem) (M : Nat → Nat → Nat → Nat) (x : Nat), r + m < 24 → L k (r + m) = 0 → m < n → isR F b fs bx ln M L → x < 100 → (∀ s d, d < L k s → M k s d < 100) → fX10_insertByRows_5 (fun (x0 : Nat) (x1 : Int32) (x4 : Int32) (F : Mem) => (gfR F x0 9 5).bind fun v89 => (rdI F 0 v89 ((24 * x1) + x4)).bind fun v100 => (wrI F v89 ((24 * x1) + x4) (v100 + 1)).bind fun F103 => some (x4, F103)) n b (iN k) (iN x) (iN r) F = some (iN (addF m (M k) (L k) r x).2.2, va_up (va_up F bx (cM (upK M k (addF m (M k) (L k) r x).1))) ln (cL (upK L k (addF m (M k) (L k) r x).2.1))) := by
  have stop : ∀ (r : Nat) (F : Mem) (M : Nat → Nat → Nat → Nat) (x : Nat) (K5 : Nat → Int32 → Int32 → Int32 → Mem → Option (Int32 × Mem)), r < 24 → isR F b fs bx ln M L → fX10_insertByRows_52 K5 (fun (x0 : Nat) (x1 : Int32) (x4 : Int32) (F : Mem) => (gfR F x0 9 5).bind fun v89 => (rdI F 0 v89 ((24 * x1) + x4)).bind fun v100 => (wrI F v89 ((24 * x1) + x4) (v100 + 1)).bind fun F103 => some (x4, F103)) b (iN k) (iN x) (iN r) (iN (L k r)) (iN (L k r)) F = some (iN r, va_up (va_up F bx (cM (upK M k (upT (M k) r (L k r) x)))) ln (cL (upK L k (upL (L k) r (L k r + 1))))) := by
    intro r F M x K5 hr h
    have hLr := hL r
    simp only [fX10_insertByRows_52]
    rw [gfR_at h.1 h.2.1]
    simp only [Option.bind_some]
    rw [X10_box]
    simp only [Option.bind_some]
    rw [X10_rd h hk hr (by omega)]
    simp only [Option.bind_some]
    rw [gfR_at h.1 h.2.1]
    simp only [Option.bind_some]
    rw [X10_box]
    simp only [Option.bind_some]
    rw [X10_wr h hk hr (by omega)]
    simp only [Option.bind_some, if_true]
    have h' := isR_putM (M' := upK M k (upT (M k) r (L k r) x)) h
    rw [gfR_at h'.1 h'.2.2.1]
    simp only [Option.bind_some]
    rw [X10_rdL h' hk hr]
    simp only [Option.bind_some]
    rw [show iN (L k r) + 1 = iN (L k r + 1) by rw [show (1 : Int32) = iN 1 from rfl, iN_add], X10_wrL h' hk hr]
    rfl
  intro m
  induction m with
  | zero =>
    intro n r F M x h1 h2 h3 h hx hl
    obtain ⟨n', rfl⟩ : ∃ n', n = n' + 1 := ⟨n - 1, by omega⟩
    have := FU_big
    have h2' : L k r = 0 := h2
    rw [fX10_insertByRows_5.eq_2, gfR_at h.1 h.2.2.1]
    simp only [Option.bind_some]
    rw [X10_rdL h hk (by omega)]
    simp only [Option.bind_some]
    rw [show (0 : Int32) = iN 0 from rfl, X10_ib22 h hk (by omega) (hL r) hx (hl r) (L k r) FU 0 (by omega) (by omega)]
    obtain ⟨f1, f2, f3, f4⟩ := fgF_ok (f := M k r) (x := x) (n := L k r) (L k r) 0 (by omega)
    rw [show fgF (M k r) x (L k r) (L k r) 0 = L k r by omega]
    exact stop r F M x _ (by omega) h
  | succ m ih =>
    intro n r F M x h1 h2 h3 h hx hl
    obtain ⟨n', rfl⟩ : ∃ n', n = n' + 1 := ⟨n - 1, by omega⟩
    have := FU_big
    have hLr := hL r
    rw [fX10_insertByRows_5.eq_2, gfR_at h.1 h.2.2.1]
    simp only [Option.bind_some]
    rw [X10_rdL h hk (by omega)]
    simp only [Option.bind_some]
    rw [show (0 : Int32) = iN 0 from rfl, X10_ib22 h hk (by omega) hLr hx (hl r) (L k r) FU 0 (by omega) (by omega)]
    obtain ⟨f1, f2, f3, f4⟩ := fgF_ok (f := M k r) (x := x) (n := L k r) (L k r) 0 (by omega)
    simp only [addF]
    generalize hc : fgF (M k r) x (L k r) (L k r) 0 = c at f1 f2 f3 f4 ⊢
    by_cases q : c < L k r
    · rw [if_pos q]
      simp only [fX10_insertByRows_52]
      rw [gfR_at h.1 h.2.1]
      simp only [Option.bind_some]
      rw [X10_box]
      simp only [Option.bind_some]
      rw [X10_rd h hk (by omega) (by omega)]
      simp only [Option.bind_some]
      rw [gfR_at h.1 h.2.1]
      simp only [Option.bind_some]
      rw [X10_box]
      simp only [Option.bind_some]
      rw [X10_wr h hk (by omega) (by omega)]
      simp only [Option.bind_some]
      rw [if_neg (fun w => by have := (iN_inj (by omega) (by omega)).mp w; omega), show iN r + 1 = iN (r + 1) by rw [show (1 : Int32) = iN 1 from rfl, iN_add]]
      have h' := isR_putM (M' := upK M k (upT (M k) r c x)) h
      rw [ih n' (r + 1) _ _ (M k r c) (by omega) (by rw [show r + 1 + m = r + (m + 1) by omega]; exact h2) (by omega) h' (hl r c q) (fun s d w => by
        rw [upK_at]
        by_cases e : s = r ∧ d = c
        · obtain ⟨rfl, rfl⟩ := e; rw [upT_at]; exact hx
        · rw [upT_ne e]; exact hl s d w), up_up, upK_at, upK_up]
    · rw [if_neg q]
      have e : c = L k r := by omega
      rw [e]
      exact stop r F M x _ (by omega) h
/-- the reference's insertion by rows -/
theorem X10_insertByRows {F : Mem} {b bx ln : Nat} {fs : List Value} {M : Nat → Nat → Nat → Nat} {L : Nat → Nat → Nat} (h : isR F b fs bx ln M L) {k x m : Nat} (hk : k < 3) (hL : ∀ s, L k s < 24) (hm : m < 24) (h0 : L k m = 0) (hx : x < 100) (hl : ∀ s d, d < L k s → M k s d < 100) : mX10_insertByRows F b (iN k) (iN x) = some (iN (addF m (M k) (L k) 0 x).2.2, va_up (va_up F bx (cM (upK M k (addF m (M k) (L k) 0 x).1))) ln (cL (upK L k (addF m (M k) (L k) 0 x).2.1))) := by
  have := FU_big
  exact X10_ib5 hk hL m FU 0 F M x (by omega) (by rw [Nat.zero_add]; exact h0) (by omega) h hx hl
end REFM
