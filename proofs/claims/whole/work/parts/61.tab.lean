section TABM
/-- letters of a filling: from 1 to 99 -/
abbrev lets (T : Nat → Nat → Nat) (I O : Nat → Nat) (r c : Nat) : Prop := ∀ s d, I s ≤ d → d < O s → ¬(s = r ∧ d = c) → 1 ≤ T s d ∧ T s d < 100
theorem X7_slide100 {F : Mem} {a la ta : Nat} {T : Nat → Nat → Nat} {O : Nat → Nat} (h : isT F a la ta T O) (hO : ∀ s, O s ≤ 24) {r : Nat} (hr : r < 16) (hp : 0 < O r) : fX7_slideInto_100 a (iN r) F = some (iN r, va_up F la (cO (upL O r (O r - 1)))) := by
  obtain ⟨h1, h2, h3⟩ := h
  simp only [fX7_slideInto_100]
  rw [gfR_at (v := la) h1 rfl]
  simp only [Option.bind_some]
  rw [rdI_at h2 (by omega) (by omega)]
  simp only [Option.bind_some]
  have e : iN (O r) - 1 = iN (O r - 1) := by rw [show (1 : Int32) = iN 1 from rfl, iN_sub (by omega)]
  rw [wrI_at h2 (by omega) (by omega), e, updO]
  rfl
theorem X7_slide8 {a la ta : Nat} {I O : Nat → Nat} (hO : ∀ s, O s ≤ 24) (hN : ∀ s, 16 ≤ s → O s = 0) : ∀ (m k n : Nat) (F : Mem) (T : Nat → Nat → Nat) (r c : Nat), k + m = 40 → m < n → isT F a la ta T O → skw T I O r c → lets T I O r c → fX7_slideInto_8 (fun (x0 : Nat) (x3 : Int32) (F : Mem) => fX7_slideInto_100   x0 x3 F) (fun (x0 : Nat) (x3 : Int32) (F : Mem) => fX7_slideInto_100   x0 x3 F) n a (iN r) (iN c) (iN k) F = fX7_slideInto_100 a (iN (slF O m T r c).2.1) (va_up F ta (cT (slF O m T r c).1)) ∧ lets (slF O m T r c).1 I O (slF O m T r c).2.1 (slF O m T r c).2.2 := by
  intro m
  induction m with
  | zero =>
    intro k n F T r c hk hn h hs hl
    obtain ⟨n', rfl⟩ : ∃ n', n = n' + 1 := ⟨n - 1, by omega⟩
    have : k = 40 := by omega
    subst this
    rw [fX7_slideInto_8.eq_2]
    refine ⟨?_, hl⟩
    rw [if_pos (by decide)]
    show fX7_slideInto_100 a (iN r) F = fX7_slideInto_100 a (iN r) (va_up F ta (cT T))
    rw [up_self h.2.2]
  | succ m ih =>
    intro k n F T r c hk hn h hs hl
    obtain ⟨n', rfl⟩ : ∃ n', n = n' + 1 := ⟨n - 1, by omega⟩
    have hs' := hs
    obtain ⟨hI, hO', hIO, h1, h2, row, col⟩ := hs'
    have hcr := hO r
    have hr16 : r < 16 := by
      by_cases q : r < 16
      · exact q
      · have := hN r (by omega); omega
    rw [fX7_slideInto_8.eq_2]
    have e40 : ¬ (40 : Int32) ≤ iN k := fun q => by have := (iN_le (a := 40) (b := k) (by omega) (by omega)).mp q; omega
    have er : iN c + 1 = iN (c + 1) := by rw [show (1 : Int32) = iN 1 from rfl, iN_add]
    have eb : iN r + 1 = iN (r + 1) := by rw [show (1 : Int32) = iN 1 from rfl, iN_add]
    have ek : iN k + 1 = iN (k + 1) := by rw [show (1 : Int32) = iN 1 from rfl, iN_add]
    rw [if_neg e40, obj_of h.1]
    simp only [Option.bind_some]
    rw [er, X7_letterAt h hO hN (by omega) (by omega)]
    simp only [Option.bind_some]
    rw [obj_of h.1]
    simp only [Option.bind_some]
    rw [eb, X7_letterAt h hO hN (by omega) (by omega)]
    simp only [Option.bind_some]
    have hIr := hI r (r + 1) (by omega)
    have z0 : ∀ x, 1 ≤ x → x < 100 → ¬ iN x = 0 := fun x x1 x2 q => by
      have := (iN_inj (a := x) (b := 0) (by omega) (by omega)).mp q
      omega
    have right : ∀ n', c + 1 < O r → (O (r + 1) ≤ c ∨ T r (c + 1) < T (r + 1) c) → m < n' → fX7_slideInto_82 (fX7_slideInto_8 (fun (x0 : Nat) (x3 : Int32) (F : Mem) => fX7_slideInto_100   x0 x3 F) (fun (x0 : Nat) (x3 : Int32) (F : Mem) => fX7_slideInto_100   x0 x3 F) n') (fun (x0 : Nat) (x3 : Int32) (F : Mem) => fX7_slideInto_100   x0 x3 F) (fun (x0 : Nat) (x3 : Int32) (F : Mem) => fX7_slideInto_100   x0 x3 F) a (iN r) (iN c) (iN k) (iN (T r (c + 1))) F = fX7_slideInto_100 a (iN (slF O m (upT T r c (T r (c + 1))) r (c + 1)).2.1) (va_up F ta (cT (slF O m (upT T r c (T r (c + 1))) r (c + 1)).1)) ∧ lets (slF O m (upT T r c (T r (c + 1))) r (c + 1)).1 I O (slF O m (upT T r c (T r (c + 1))) r (c + 1)).2.1 (slF O m (upT T r c (T r (c + 1))) r (c + 1)).2.2 := by
      intro n' q1 q2 q3
      simp only [fX7_slideInto_82, fX7_slideInto_94]
      rw [obj_of h.1]
      simp only [Option.bind_some]
      rw [X7_put h hr16 (by omega)]
      simp only [Option.bind_some]
      rw [er, ek]
      have := ih (k + 1) n' (va_up F ta (cT (upT T r c (T r (c + 1))))) _ r (c + 1) (by omega) q3 (isT_putT h) (skw_right hs q1 q2) (fun s d a1 a2 a3 => by
        by_cases w : s = r ∧ d = c
        · obtain ⟨rfl, rfl⟩ := w
          rw [upT_at]
          exact hl s (d + 1) (by omega) q1 (by omega)
        · rw [upT_ne w]; exact hl s d a1 a2 w)
      rw [up_up] at this
      exact this
    have down : ∀ n', c < O (r + 1) → (O r ≤ c + 1 ∨ T (r + 1) c ≤ T r (c + 1)) → m < n' → fX7_slideInto_67 (fX7_slideInto_8 (fun (x0 : Nat) (x3 : Int32) (F : Mem) => fX7_slideInto_100   x0 x3 F) (fun (x0 : Nat) (x3 : Int32) (F : Mem) => fX7_slideInto_100   x0 x3 F) n') (fun (x0 : Nat) (x3 : Int32) (F : Mem) => fX7_slideInto_100   x0 x3 F) (fun (x0 : Nat) (x3 : Int32) (F : Mem) => fX7_slideInto_100   x0 x3 F) a (iN r) (iN c) (iN k) (iN (T (r + 1) c)) F = fX7_slideInto_100 a (iN (slF O m (upT T r c (T (r + 1) c)) (r + 1) c).2.1) (va_up F ta (cT (slF O m (upT T r c (T (r + 1) c)) (r + 1) c).1)) ∧ lets (slF O m (upT T r c (T (r + 1) c)) (r + 1) c).1 I O (slF O m (upT T r c (T (r + 1) c)) (r + 1) c).2.1 (slF O m (upT T r c (T (r + 1) c)) (r + 1) c).2.2 := by
      intro n' q1 q2 q3
      simp only [fX7_slideInto_67, fX7_slideInto_94]
      rw [obj_of h.1]
      simp only [Option.bind_some]
      rw [X7_put h hr16 (by omega)]
      simp only [Option.bind_some]
      rw [eb, ek]
      have := ih (k + 1) n' (va_up F ta (cT (upT T r c (T (r + 1) c)))) _ (r + 1) c (by omega) q3 (isT_putT h) (skw_down hs q1 q2) (fun s d a1 a2 a3 => by
        by_cases w : s = r ∧ d = c
        · obtain ⟨rfl, rfl⟩ := w
          rw [upT_at]
          exact hl (s + 1) d (by omega) q1 (by omega)
        · rw [upT_ne w]; exact hl s d a1 a2 w)
      rw [up_up] at this
      exact this
    have lr : c + 1 < O r → 1 ≤ T r (c + 1) ∧ T r (c + 1) < 100 := fun q => hl r (c + 1) (by omega) q (by omega)
    have lb : c < O (r + 1) → 1 ≤ T (r + 1) c ∧ T (r + 1) c < 100 := fun q => hl (r + 1) c (by omega) q (by omega)
    simp only [slF]
    by_cases k1 : c + 1 < O r
    · have l1 := lr k1
      rw [if_pos k1, if_neg (z0 _ l1.1 l1.2), if_neg (show ¬(O r ≤ c + 1 ∧ O (r + 1) ≤ c) from fun q => by omega)]
      simp only [fX7_slideInto_50]
      by_cases k2 : c < O (r + 1)
      · have l2 := lb k2
        rw [if_pos k2, if_neg (z0 _ l2.1 l2.2), if_neg (z0 _ l1.1 l1.2)]
        by_cases k3 : T r (c + 1) < T (r + 1) c
        · have e3 : iN (T r (c + 1)) < iN (T (r + 1) c) := (iN_lt (by omega) (by omega)).mpr k3
          rw [if_pos e3, if_neg (show ¬(c < O (r + 1) ∧ (O r ≤ c + 1 ∨ T (r + 1) c ≤ T r (c + 1))) from fun q => by omega)]
          exact right n' k1 (Or.inr k3) (by omega)
        · have e3 : ¬ iN (T r (c + 1)) < iN (T (r + 1) c) := fun q => k3 ((iN_lt (by omega) (by omega)).mp q)
          rw [if_neg e3, if_pos (show c < O (r + 1) ∧ (O r ≤ c + 1 ∨ T (r + 1) c ≤ T r (c + 1)) from ⟨k2, Or.inr (by omega)⟩)]
          exact down n' k2 (Or.inr (by omega)) (by omega)
      · rw [if_neg k2, if_pos rfl, if_neg (show ¬(c < O (r + 1) ∧ (O r ≤ c + 1 ∨ T (r + 1) c ≤ T r (c + 1))) from fun q => k2 q.1)]
        exact right n' k1 (Or.inl (by omega)) (by omega)
    · rw [if_neg k1, if_pos rfl]
      by_cases k2 : c < O (r + 1)
      · have l2 := lb k2
        rw [if_pos k2, if_neg (z0 _ l2.1 l2.2), if_neg (show ¬(O r ≤ c + 1 ∧ O (r + 1) ≤ c) from fun q => by omega)]
        simp only [fX7_slideInto_50]
        rw [if_neg (z0 _ l2.1 l2.2), if_pos trivial, if_pos (show c < O (r + 1) ∧ (O r ≤ c + 1 ∨ T (r + 1) c ≤ T r (c + 1)) from ⟨k2, Or.inl (by omega)⟩)]
        exact down n' k2 (Or.inl (by omega)) (by omega)
      · rw [if_neg k2, if_pos rfl, if_pos (show O r ≤ c + 1 ∧ O (r + 1) ≤ c from ⟨by omega, by omega⟩)]
        refine ⟨?_, hl⟩
        show fX7_slideInto_100 a (iN r) F = fX7_slideInto_100 a (iN r) (va_up F ta (cT T))
        rw [up_self h.2.2]
theorem FU_big : 1000000 < FU := by unfold FU; decide
/-- the class's slide -/
theorem X7_slideInto {F : Mem} {a la ta : Nat} {T : Nat → Nat → Nat} {I O : Nat → Nat} {r c : Nat} (hO : ∀ s, O s ≤ 24) (hN : ∀ s, 16 ≤ s → O s = 0) (h : isT F a la ta T O) (hs : skw T I O r c) (hl : lets T I O r c) : ∃ T' r' c', slF O 40 T r c = (T', r', c') ∧ skw T' I O r' c' ∧ O r' = c' + 1 ∧ O (r' + 1) ≤ c' ∧ lets T' I O r' c' ∧ mX7_slideInto F a (iN r) (iN c) = some (iN r', va_up (va_up F ta (cT T')) la (cO (upL O r' c'))) := by
  obtain ⟨T', r', c', e1, e2, e3, e4, e5⟩ := slF_ok (C := 24) hO hN 40 T r c hs (by omega)
  obtain ⟨q1, q2⟩ := X7_slide8 hO hN 40 0 FU F T r c (by omega) (by have := FU_big; omega) h hs hl
  rw [e1] at q1 q2
  refine ⟨T', r', c', e1, e2, e3, e4, q2, ?_⟩
  simp only [mX7_slideInto]
  rw [show (0 : Int32) = iN 0 from rfl, q1]
  have hr16 : r' < 16 := by
    by_cases q : r' < 16
    · exact q
    · have := hN r' (by omega); omega
  rw [X7_slide100 (isT_putT h) hO hr16 (by omega), show O r' - 1 = c' by omega]
end TABM
