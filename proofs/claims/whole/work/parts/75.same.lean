section SAMEM
/-- rows alike from place c on, m places -/
def eqS (f g : Nat → Nat) : Nat → Nat → Bool
  | _, 0 => true
  | c, m + 1 => decide (f c = g c) && eqS f g (c + 1) m
theorem eqS_iff (f g : Nat → Nat) : ∀ (m c : Nat), eqS f g c m = true ↔ seg f c m = seg g c m := by
  intro m
  induction m with
  | zero => intro c; exact ⟨fun _ => rfl, fun _ => rfl⟩
  | succ m ih =>
    intro c
    show (decide (f c = g c) && eqS f g (c + 1) m) = true ↔ f c :: seg f (c + 1) m = g c :: seg g (c + 1) m
    rw [Bool.and_eq_true, decide_eq_true_eq, ih (c + 1), List.cons.injEq]
theorem X7_sa27 {K : Nat → Nat → Int32 → Mem → Option (Int32 × Mem)} {F : Mem} {a la ta b lb tb : Nat} {T T' : Nat → Nat → Nat} {O O' : Nat → Nat} (h : isT F a la ta T O) (h' : isT F b lb tb T' O') (hO : ∀ s, O s ≤ 24) (hO' : ∀ s, O' s ≤ 24) (hN : ∀ s, 16 ≤ s → O s = 0) (hN' : ∀ s, 16 ≤ s → O' s = 0) (hl : ∀ s d, d < O s → T s d < 100) (hl' : ∀ s d, d < O' s → T' s d < 100) {r : Nat} (hr : r < 16) (hrr : O r = O' r) : ∀ (m n c : Nat), c + m = O r → m < n → fX7_isSameAs_27 K n a b (iN r) (iN c) F = if eqS (T r) (T' r) c m = true then K a b (iN r) F else some (0, F) := by
  have hOr := hO r
  intro m
  induction m with
  | zero =>
    intro n c h1 h2
    obtain ⟨n', rfl⟩ : ∃ n', n = n' + 1 := ⟨n - 1, by omega⟩
    rw [fX7_isSameAs_27.eq_2, gfR_at (v := la) h.1 rfl, Option.bind_some, rdI_at h.2.1 hr (by omega), Option.bind_some, if_pos ((iN_le (by omega) (by omega)).mpr (by omega)), if_pos (show eqS (T r) (T' r) c 0 = true from rfl)]
  | succ m ih =>
    intro n c h1 h2
    obtain ⟨n', rfl⟩ : ∃ n', n = n' + 1 := ⟨n - 1, by omega⟩
    have l1 := hl r c (by omega)
    have l2 := hl' r c (by omega)
    rw [fX7_isSameAs_27.eq_2, gfR_at (v := la) h.1 rfl, Option.bind_some, rdI_at h.2.1 hr (by omega), Option.bind_some, if_neg (fun q => by have := (iN_le (by omega) (by omega)).mp q; omega), obj_of h.1, Option.bind_some, X7_letterAt h hO hN (by omega) (by omega), if_pos (show c < O r by omega), Option.bind_some]
    dsimp only
    rw [obj_of h'.1, Option.bind_some, X7_letterAt h' hO' hN' (by omega) (by omega), if_pos (show c < O' r by omega), Option.bind_some]
    dsimp only
    simp only [eqS]
    by_cases k : T r c = T' r c
    · rw [if_pos (by rw [k]), iN_one, ih n' (c + 1) (by omega) (by omega)]
      simp only [k, decide_true, Bool.true_and]
    · rw [if_neg (fun q => k ((iN_inj (by omega) (by omega)).mp q))]
      simp only [k, decide_false, Bool.false_and]
      rfl
def eqT (T T' : Nat → Nat → Nat) (O O' : Nat → Nat) : Nat → Nat → Bool
  | _, 0 => true
  | r, m + 1 => decide (O r = O' r) && (eqS (T r) (T' r) 0 (O r) && eqT T T' O O' (r + 1) m)
theorem eqT_iff (T T' : Nat → Nat → Nat) (O O' : Nat → Nat) : ∀ (m r : Nat), eqT T T' O O' r m = true ↔ ∀ s, r ≤ s → s < r + m → tabS T I0 O s = tabS T' I0 O' s := by
  intro m
  induction m with
  | zero => intro r; exact ⟨fun _ s h1 h2 => by omega, fun _ => rfl⟩
  | succ m ih =>
    intro r
    show (decide (O r = O' r) && (eqS (T r) (T' r) 0 (O r) && eqT T T' O O' (r + 1) m)) = true ↔ _
    rw [Bool.and_eq_true, Bool.and_eq_true, decide_eq_true_eq, eqS_iff, ih (r + 1)]
    constructor
    · rintro ⟨h1, h2, h3⟩ s hs1 hs2
      by_cases k : s = r
      · subst k
        show seg (T s) 0 (O s) = seg (T' s) 0 (O' s)
        rw [← h1]; exact h2
      · exact h3 s (by omega) (by omega)
    · intro h
      have hr : seg (T r) 0 (O r) = seg (T' r) 0 (O' r) := h r (Nat.le_refl _) (by omega)
      have hl := congrArg List.length hr
      rw [seg_len, seg_len] at hl
      refine ⟨hl, by rw [hr, hl], fun s h1 h2 => h s (by omega) (by omega)⟩
theorem X7_sa2 {F : Mem} {a la ta b lb tb : Nat} {T T' : Nat → Nat → Nat} {O O' : Nat → Nat} (h : isT F a la ta T O) (h' : isT F b lb tb T' O') (hO : ∀ s, O s ≤ 24) (hO' : ∀ s, O' s ≤ 24) (hN : ∀ s, 16 ≤ s → O s = 0) (hN' : ∀ s, 16 ≤ s → O' s = 0) (hl : ∀ s d, d < O s → T s d < 100) (hl' : ∀ s d, d < O' s → T' s d < 100) : ∀ (m n r : Nat), r + m = 16 → m < n → fX7_isSameAs_2 n a b (iN r) F = some (if eqT T T' O O' r m = true then 1 else 0, F) := by
  have hFU := FU_big
  intro m
  induction m with
  | zero =>
    intro n r h1 h2
    obtain ⟨n', rfl⟩ : ∃ n', n = n' + 1 := ⟨n - 1, by omega⟩
    have : r = 16 := by omega
    subst this
    rw [fX7_isSameAs_2.eq_2, if_pos (by decide), if_pos (show eqT T T' O O' 16 0 = true from rfl)]
  | succ m ih =>
    intro n r h1 h2
    obtain ⟨n', rfl⟩ : ∃ n', n = n' + 1 := ⟨n - 1, by omega⟩
    have o1 := hO r
    have o2 := hO' r
    rw [fX7_isSameAs_2.eq_2, if_neg (fun q => by have := (iN_le (a := 16) (b := r) (by omega) (by omega)).mp q; omega), gfR_at (v := la) h.1 rfl, Option.bind_some, rdI_at h.2.1 (by omega) (by omega), Option.bind_some, gfR_at (v := lb) h'.1 rfl, Option.bind_some, rdI_at h'.2.1 (by omega) (by omega), Option.bind_some]
    rw [show eqT T T' O O' r (m + 1) = (decide (O r = O' r) && (eqS (T r) (T' r) 0 (O r) && eqT T T' O O' (r + 1) m)) from rfl]
    by_cases k : O r = O' r
    · rw [if_pos (by rw [k]), show (0 : Int32) = iN 0 from rfl, X7_sa27 h h' hO hO' hN hN' hl hl' (by omega) k (O r) FU 0 (by omega) (by omega)]
      have kd : decide (O r = O' r) = true := decide_eq_true k
      rw [kd, Bool.true_and]
      cases k2 : eqS (T r) (T' r) 0 (O r) with
      | true => rw [if_pos rfl, iN_one, ih n' (r + 1) (by omega) (by omega), Bool.true_and]; rfl
      | false => rw [if_neg (by decide), Bool.false_and]; rfl
    · have kd : decide (O r = O' r) = false := decide_eq_false k
      have e : ¬ iN (O r) = iN (O' r) := fun q => k ((iN_inj (by omega) (by omega)).mp q)
      rw [if_neg e, kd, Bool.false_and]
      rfl
end SAMEM
