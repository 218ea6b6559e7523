section ADDM
theorem rin_seg {x : Nat} : ∀ (n a c : Nat) (f : Nat → Nat), a ≤ c → c ≤ a + n → (∀ i, a ≤ i → i < c → f i ≤ x) → (c < a + n → x < f c) → rin x (seg f a n) = if c < a + n then (seg (upL f c x) a n, [f c]) else (seg (upL f c x) a (n + 1), []) := by
  intro n
  induction n with
  | zero =>
    intro a c f h1 h2 h3 h4
    have : c = a := by omega
    subst this
    rw [if_neg (by omega)]
    show ([x], []) = ([upL f c x c], [])
    rw [upL_at]
  | succ n ih =>
    intro a c f h1 h2 h3 h4
    show rin x (f a :: seg f (a + 1) n) = _
    by_cases k : c = a
    · subst k
      rw [if_pos (by omega), rin_gt (h4 (by omega))]
      show _ = (upL f c x c :: seg (upL f c x) (c + 1) n, [f c])
      rw [upL_at, seg_congr (f := upL f c x) (g := f) n (c + 1) (fun i b1 b2 => upL_ne (by omega))]
    · rw [rin_le (h3 a (Nat.le_refl _) (by omega)), ih (a + 1) c f (by omega) (by omega) (fun i b1 b2 => h3 i (by omega) b2) (fun q => h4 (by omega))]
      by_cases k2 : c < a + (n + 1)
      · rw [if_pos (show c < a + 1 + n by omega), if_pos k2]
        show _ = (upL f c x a :: seg (upL f c x) (a + 1) n, [f c])
        rw [upL_ne (by omega)]
      · rw [if_neg (show ¬ c < a + 1 + n by omega), if_neg k2]
        show _ = (upL f c x a :: seg (upL f c x) (a + 1) (n + 1), [])
        rw [upL_ne (by omega)]
/-- the first place from c on, before n, whose letter is greater than x -/
def fgF (f : Nat → Nat) (x n : Nat) : Nat → Nat → Nat
  | 0, c => c
  | m + 1, c => if n ≤ c then c else if x < f c then c else fgF f x n m (c + 1)
theorem fgF_ok {f : Nat → Nat} {x n : Nat} : ∀ (m c : Nat), c + m = n → c ≤ fgF f x n m c ∧ fgF f x n m c ≤ n ∧ (∀ i, c ≤ i → i < fgF f x n m c → f i ≤ x) ∧ (fgF f x n m c < n → x < f (fgF f x n m c)) := by
  intro m
  induction m with
  | zero => intro c h; exact ⟨Nat.le_refl _, by show c ≤ n; omega, fun i a1 a2 => by have : i < c := a2; omega, fun q => by have : c < n := q; omega⟩
  | succ m ih =>
    intro c h
    simp only [fgF]
    rw [if_neg (by omega)]
    by_cases k : x < f c
    · rw [if_pos k]
      exact ⟨Nat.le_refl _, by omega, fun i a1 a2 => by omega, fun _ => k⟩
    · rw [if_neg k]
      obtain ⟨i1, i2, i3, i4⟩ := ih (c + 1) (by omega)
      refine ⟨by omega, i2, fun i a1 a2 => ?_, i4⟩
      by_cases q : i = c
      · subst q; omega
      · exact i3 i (by omega) a2
theorem X7_fg2 {F : Mem} {a la ta : Nat} {T : Nat → Nat → Nat} {O : Nat → Nat} (h : isT F a la ta T O) (hO : ∀ s, O s ≤ 24) (hN : ∀ s, 16 ≤ s → O s = 0) {r x : Nat} (hr : r < 16) (hx : x < 100) (hl : ∀ d, d < O r → T r d < 100) : ∀ (m n c : Nat), c + m = O r → m < n → fX7_firstGreater_2 n a (iN r) (iN x) (iN c) F = some (iN (fgF (T r) x (O r) m c), F) := by
  intro m
  have hOr := hO r
  induction m with
  | zero =>
    intro n c h1 h2
    obtain ⟨n', rfl⟩ : ∃ n', n = n' + 1 := ⟨n - 1, by omega⟩
    rw [fX7_firstGreater_2.eq_2, gfR_at (v := la) h.1 rfl]
    simp only [Option.bind_some]
    rw [rdI_at h.2.1 (by omega) (by omega)]
    simp only [Option.bind_some]
    rw [if_pos ((iN_le (by omega) (by omega)).mpr (by omega))]
    rfl
  | succ m ih =>
    intro n c h1 h2
    obtain ⟨n', rfl⟩ : ∃ n', n = n' + 1 := ⟨n - 1, by omega⟩
    rw [fX7_firstGreater_2.eq_2, gfR_at (v := la) h.1 rfl]
    simp only [Option.bind_some]
    rw [rdI_at h.2.1 (by omega) (by omega)]
    simp only [Option.bind_some]
    rw [if_neg (fun q => by have := (iN_le (by omega) (by omega)).mp q; omega), obj_of h.1]
    simp only [Option.bind_some]
    rw [X7_letterAt h hO hN (by omega) (by omega), if_pos (show c < O r by omega)]
    simp only [Option.bind_some, fgF]
    rw [if_neg (show ¬ O r ≤ c by omega)]
    have hlc := hl c (by omega)
    by_cases k : x < T r c
    · rw [if_pos k, if_pos ((iN_lt (by omega) (by omega)).mpr k)]
    · rw [if_neg k, if_neg (fun q => k ((iN_lt (by omega) (by omega)).mp q))]
      rw [show iN c + 1 = iN (c + 1) by rw [show (1 : Int32) = iN 1 from rfl, iN_add]]
      exact ih n' (c + 1) (by omega) (by omega)
theorem X7_firstGreater {F : Mem} {a la ta : Nat} {T : Nat → Nat → Nat} {O : Nat → Nat} (h : isT F a la ta T O) (hO : ∀ s, O s ≤ 24) (hN : ∀ s, 16 ≤ s → O s = 0) {r x : Nat} (hr : r < 16) (hx : x < 100) (hl : ∀ d, d < O r → T r d < 100) : mX7_firstGreater F a (iN r) (iN x) = some (iN (fgF (T r) x (O r) (O r) 0), F) := by
  have := FU_big
  have := hO r
  exact X7_fg2 h hO hN hr hx hl (O r) FU 0 (by omega) (by omega)
theorem X7_replace {F : Mem} {a la ta : Nat} {T : Nat → Nat → Nat} {O : Nat → Nat} (h : isT F a la ta T O) (hO : ∀ s, O s ≤ 24) (hN : ∀ s, 16 ≤ s → O s = 0) {r c : Nat} (hr : r < 16) (hc : c < O r) (x : Nat) : mX7_replace F a (iN r) (iN c) (iN x) = some (iN (T r c), va_up F ta (cT (upT T r c x))) := by
  have hOr := hO r
  simp only [mX7_replace]
  rw [obj_of h.1]
  simp only [Option.bind_some]
  rw [X7_letterAt h hO hN (by omega) (by omega), if_pos hc]
  simp only [Option.bind_some]
  rw [obj_of h.1]
  simp only [Option.bind_some]
  rw [X7_put h hr (by omega)]
  rfl
theorem X7_append {F : Mem} {a la ta : Nat} {T : Nat → Nat → Nat} {O : Nat → Nat} (h : isT F a la ta T O) {r : Nat} (hr : r < 16) (hc : O r < 24) (x : Nat) : mX7_append F a (iN r) (iN x) = some (va_up (va_up F ta (cT (upT T r (O r) x))) la (cO (upL O r (O r + 1)))) := by
  simp only [mX7_append]
  rw [gfR_at (v := la) h.1 rfl]
  simp only [Option.bind_some]
  rw [rdI_at h.2.1 (by omega) (by omega)]
  simp only [Option.bind_some]
  rw [obj_of h.1]
  simp only [Option.bind_some]
  rw [X7_put h hr hc]
  simp only [Option.bind_some]
  have h' := isT_putT (T' := upT T r (O r) x) h
  rw [gfR_at (v := la) h'.1 rfl]
  simp only [Option.bind_some]
  rw [rdI_at h'.2.1 (by omega) (by omega)]
  simp only [Option.bind_some]
  rw [wrI_at h'.2.1 (by omega) (by omega), show iN (O r) + 1 = iN (O r + 1) by rw [show (1 : Int32) = iN 1 from rfl, iN_add], updO]
  rfl
/-- insertion by rows on places: filling, lengths, the row that got a box -/
def addF : Nat → (Nat → Nat → Nat) → (Nat → Nat) → Nat → Nat → (Nat → Nat → Nat) × (Nat → Nat) × Nat
  | 0, T, O, r, x => (upT T r (O r) x, upL O r (O r + 1), r)
  | m + 1, T, O, r, x =>
    if fgF (T r) x (O r) (O r) 0 < O r then addF m (upT T r (fgF (T r) x (O r) (O r) 0) x) O (r + 1) (T r (fgF (T r) x (O r) (O r) 0))
    else (upT T r (O r) x, upL O r (O r + 1), r)
theorem rowU {T : Nat → Nat → Nat} {r c x : Nat} : upT T r c x r = upL (T r) c x := by
  funext d
  by_cases k : d = c
  · subst k; rw [upT_at, upL_at]
  · rw [upT_ne (by omega), upL_ne k]
theorem rowV {T : Nat → Nat → Nat} {r c x s : Nat} (h : s ≠ r) : upT T r c x s = T s := by
  funext d
  exact upT_ne (by omega)
theorem insF_zero (Q : Tab) (x : Nat) : insF Q [x] 0 = (rin x (Q 0)).1 := by
  show (rinW [x] (Q 0)).1 = _
  rw [rinW_1]
theorem insF_succ (Q : Tab) (w : List Nat) (s : Nat) : insF Q w (s + 1) = insF (fun i => Q (i + 1)) (rinW w (Q 0)).2 s := by
  show (rinW (wd Q w (s + 1)) (Q (s + 1))).1 = (rinW (wd (fun i => Q (i + 1)) (rinW w (Q 0)).2 s) (Q (s + 1))).1
  have q := wd_shift Q w 1 s
  rw [Nat.add_comm 1 s] at q
  rw [q]
  have e : (fun i => Q (1 + i)) = fun i => Q (i + 1) := by funext i; rw [Nat.add_comm]
  rw [e]
  rfl
/-- it is row insertion -/
theorem addF_ins : ∀ (m : Nat) (T : Nat → Nat → Nat) (O : Nat → Nat) (r x : Nat), O (r + m) = 0 → (∀ s, s < r → tabS (addF m T O r x).1 I0 (addF m T O r x).2.1 s = tabS T I0 O s) ∧ (∀ s, tabS (addF m T O r x).1 I0 (addF m T O r x).2.1 (r + s) = insF (fun i => tabS T I0 O (r + i)) [x] s) := by
  have stop : ∀ (T : Nat → Nat → Nat) (O : Nat → Nat) (r x : Nat), ¬ fgF (T r) x (O r) (O r) 0 < O r → (∀ s, s < r → tabS (upT T r (O r) x) I0 (upL O r (O r + 1)) s = tabS T I0 O s) ∧ (∀ s, tabS (upT T r (O r) x) I0 (upL O r (O r + 1)) (r + s) = insF (fun i => tabS T I0 O (r + i)) [x] s) := by
    intro T O r x hk
    obtain ⟨f1, f2, f3, f4⟩ := fgF_ok (f := T r) (x := x) (n := O r) (O r) 0 (by omega)
    have fe : fgF (T r) x (O r) (O r) 0 = O r := by omega
    rw [fe] at f3
    have q := rin_seg (O r) 0 (O r) (T r) (Nat.zero_le _) (by omega) f3 (fun q => by omega)
    rw [if_neg (by omega)] at q
    refine ⟨fun s hs => ?_, fun s => ?_⟩
    · show seg (upT T r (O r) x s) 0 (upL O r (O r + 1) s - 0) = seg (T s) 0 (O s - 0)
      rw [rowV (by omega), upL_ne (by omega)]
    · cases s with
      | zero =>
        rw [insF_zero]
        show seg (upT T r (O r) x r) 0 (upL O r (O r + 1) r - 0) = (rin x (seg (T r) 0 (O r))).1
        rw [q, rowU, upL_at]
        rfl
      | succ s =>
        rw [insF_succ]
        have e2 : (rinW [x] (tabS T I0 O (r + 0))).2 = [] := by
          rw [rinW_1]
          show (rin x (seg (T r) 0 (O r))).2 = []
          rw [q]
        show _ = insF (fun i => tabS T I0 O (r + (i + 1))) (rinW [x] (tabS T I0 O (r + 0))).2 s
        rw [e2, insF_nil]
        show seg (upT T r (O r) x (r + (s + 1))) 0 (upL O r (O r + 1) (r + (s + 1)) - 0) = seg (T (r + (s + 1))) 0 (O (r + (s + 1)) - 0)
        rw [rowV (by omega), upL_ne (by omega)]
  intro m
  induction m with
  | zero =>
    intro T O r x h0
    have h0' : O r = 0 := h0
    exact stop T O r x (by omega)
  | succ m ih =>
    intro T O r x h0
    simp only [addF]
    by_cases k : fgF (T r) x (O r) (O r) 0 < O r
    · rw [if_pos k]
      obtain ⟨f1, f2, f3, f4⟩ := fgF_ok (f := T r) (x := x) (n := O r) (O r) 0 (by omega)
      generalize hc : fgF (T r) x (O r) (O r) 0 = c at k f1 f2 f3 f4 ⊢
      have q := rin_seg (O r) 0 c (T r) (Nat.zero_le _) (by omega) f3 (fun q => f4 (by omega))
      rw [if_pos (by omega)] at q
      obtain ⟨i1, i2⟩ := ih (upT T r c x) O (r + 1) (T r c) (by rw [show r + 1 + m = r + (m + 1) by omega]; exact h0)
      refine ⟨fun s hs => ?_, fun s => ?_⟩
      · rw [i1 s (by omega)]
        show seg (upT T r c x s) 0 (O s - 0) = seg (T s) 0 (O s - 0)
        rw [rowV (by omega)]
      · cases s with
        | zero =>
          rw [insF_zero]
          have := i1 r (by omega)
          show tabS _ I0 _ r = (rin x (seg (T r) 0 (O r))).1
          rw [this, q]
          show seg (upT T r c x r) 0 (O r - 0) = seg (upL (T r) c x) 0 (O r)
          rw [rowU]
          rfl
        | succ s =>
          rw [insF_succ]
          have e2 : (rinW [x] (tabS T I0 O (r + 0))).2 = [T r c] := by
            rw [rinW_1]
            show (rin x (seg (T r) 0 (O r))).2 = _
            rw [q]
          show _ = insF (fun i => tabS T I0 O (r + (i + 1))) (rinW [x] (tabS T I0 O (r + 0))).2 s
          rw [e2]
          have := i2 s
          rw [show r + 1 + s = r + (s + 1) by omega] at this
          rw [this]
          congr 1
          funext i
          show seg (upT T r c x (r + 1 + i)) 0 (O (r + 1 + i) - 0) = seg (T (r + (i + 1))) 0 (O (r + (i + 1)) - 0)
          rw [rowV (by omega), show r + 1 + i = r + (i + 1) by omega]
    · rw [if_neg k]
      exact stop T O r x k
theorem addF_all {T : Nat → Nat → Nat} {O : Nat → Nat} {m x : Nat} (h0 : O m = 0) : tabS (addF m T O 0 x).1 I0 (addF m T O 0 x).2.1 = insF (tabS T I0 O) [x] := by
  funext s
  have := (addF_ins m T O 0 x (by rw [Nat.zero_add]; exact h0)).2 s
  rw [Nat.zero_add] at this
  rw [this]
  congr 1
  funext i
  rw [Nat.zero_add]
end ADDM
