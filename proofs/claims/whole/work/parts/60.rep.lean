section REP
abbrev iN (n : Nat) : Int32 := Int32.ofNat n
theorem iN_int {n : Nat} (h : n < 2 ^ 31) : (iN n).toInt = n := Int32.toInt_ofNat_of_lt h
theorem iN_nat {n : Nat} (h : n < 2 ^ 31) : (iN n).toNatClampNeg = n := by
  show (iN n).toInt.toNat = n
  rw [iN_int h]
  rfl
theorem iN_lt {a b : Nat} (ha : a < 2 ^ 31) (hb : b < 2 ^ 31) : iN a < iN b ↔ a < b := by
  rw [Int32.lt_iff_toInt_lt, iN_int ha, iN_int hb]
  omega
theorem iN_le {a b : Nat} (ha : a < 2 ^ 31) (hb : b < 2 ^ 31) : iN a ≤ iN b ↔ a ≤ b := by
  rw [Int32.le_iff_toInt_le, iN_int ha, iN_int hb]
  omega
theorem iN_inj {a b : Nat} (ha : a < 2 ^ 31) (hb : b < 2 ^ 31) : iN a = iN b ↔ a = b := by
  constructor
  · intro h
    have := congrArg Int32.toInt h
    rw [iN_int ha, iN_int hb] at this
    omega
  · intro h; rw [h]
theorem iN_neg {n : Nat} (h : n < 2 ^ 31) : ¬ iN n < 0 := by
  intro q
  have := (iN_lt (a := n) (b := 0) h (by omega)).mp q
  omega
theorem iN_add (a b : Nat) : iN a + iN b = iN (a + b) := (Int32.ofNat_add a b).symm
theorem iN_mul (a b : Nat) : iN a * iN b = iN (a * b) := (Int32.ofNat_mul a b).symm
theorem iN_sub {a b : Nat} (h : b ≤ a) : iN a - iN b = iN (a - b) := by
  have e : iN a = iN (a - b) + iN b := by rw [iN_add, Nat.sub_add_cancel h]
  rw [e, Int32.add_sub_cancel]
theorem iN_inb {i n : Nat} (h : i < 2 ^ 31) : inb (iN i) n = decide (i < n) := by
  simp only [inb, iN_neg h, iN_nat h, not_false_eq_true, decide_true, Bool.true_and]
theorem up_eq (F : Mem) (a : Nat) (x : Cl) : va_up F a x a = x := by simp [va_up]
theorem up_ne {F : Mem} {a b : Nat} {x : Cl} (h : b ≠ a) : va_up F a x b = F b := by simp [va_up, h]
theorem up_up (F : Mem) (a : Nat) (x y : Cl) : va_up (va_up F a x) a y = va_up F a y := by
  funext b
  by_cases h : b = a
  · subst h; rw [up_eq, up_eq]
  · rw [up_ne h, up_ne h, up_ne h]
theorem up_self {F : Mem} {a : Nat} {x : Cl} (h : F a = x) : va_up F a x = F := by
  funext b
  by_cases q : b = a
  · subst q; rw [up_eq, h]
  · rw [up_ne q]
theorem rdI_at {F : Mem} {t a n i : Nat} {f : Nat → Int32} (h : F a = .inl (t, n, .inl f)) (hi : i < n) (hn : n ≤ 2 ^ 31) : rdI F t a (iN i) = some (f i) := by
  simp only [rdI, arI_of h, Option.bind_some, iN_inb (show i < 2 ^ 31 by omega), hi, decide_true, if_true, iN_nat (show i < 2 ^ 31 by omega)]
theorem wrI_at {F : Mem} {a n i : Nat} {f : Nat → Int32} (h : F a = .inl (0, n, .inl f)) (hi : i < n) (hn : n ≤ 2 ^ 31) (x : Int32) : wrI F a (iN i) x = some (va_up F a (.inl (0, n, .inl (upd f i x)))) := by
  simp only [wrI, arI_of h, Option.bind_some, iN_inb (show i < 2 ^ 31 by omega), hi, decide_true, if_true, iN_nat (show i < 2 ^ 31 by omega)]
theorem gfR_at {F : Mem} {a ci k v : Nat} {fs : List Value} (h : F a = .inr (ci, fs)) (hk : fs[k]? = some (.ref v)) : gfR F a ci k = some v := by
  simp only [gfR, obj_of h, Option.bind_some, hk]
theorem gfI_at {F : Mem} {a ci k : Nat} {v : Int32} {fs : List Value} (h : F a = .inr (ci, fs)) (hk : fs[k]? = some (.int v)) : gfI F a ci k = some v := by
  simp only [gfI, obj_of h, Option.bind_some, hk]
/-- a tableau's arrays -/
abbrev cO (O : Nat → Nat) : Cl := .inl (0, 16, .inl (fun r => iN (O r)))
abbrev cT (T : Nat → Nat → Nat) : Cl := .inl (0, 384, .inl (fun i => iN (T (i / 24) (i % 24))))
theorem updO (O : Nat → Nat) (r x : Nat) : upd (fun r => iN (O r)) r (iN x) = fun s => iN (upL O r x s) := by
  funext s
  by_cases h : s = r
  · subst h; rw [upL_at]; simp [upd]
  · rw [upL_ne h]; simp [upd, h]
theorem updT (T : Nat → Nat → Nat) {r c : Nat} (hc : c < 24) (x : Nat) : upd (fun i => iN (T (i / 24) (i % 24))) (r * 24 + c) (iN x) = fun i => iN (upT T r c x (i / 24) (i % 24)) := by
  funext i
  by_cases h : i = r * 24 + c
  · subst h
    rw [show (r * 24 + c) / 24 = r by omega, show (r * 24 + c) % 24 = c by omega, upT_at]
    simp [upd]
  · rw [upT_ne (by omega)]
    simp [upd, h]
/-- a tableau object at a -/
abbrev isT (F : Mem) (a la ta : Nat) (T : Nat → Nat → Nat) (O : Nat → Nat) : Prop := F a = .inr (6, [.ref la, .ref ta]) ∧ F la = cO O ∧ F ta = cT T
theorem isT_putT {F : Mem} {a la ta : Nat} {T T' : Nat → Nat → Nat} {O : Nat → Nat} (h : isT F a la ta T O) : isT (va_up F ta (cT T')) a la ta T' O := by
  obtain ⟨h1, h2, h3⟩ := h
  refine ⟨?_, ?_, up_eq _ _ _⟩
  · rw [up_ne (fun q => by subst q; rw [h1] at h3; cases h3)]; exact h1
  · rw [up_ne (fun q => by subst q; rw [h2] at h3; cases h3)]; exact h2
theorem isT_putO {F : Mem} {a la ta : Nat} {T : Nat → Nat → Nat} {O O' : Nat → Nat} (h : isT F a la ta T O) : isT (va_up F la (cO O')) a la ta T O' := by
  obtain ⟨h1, h2, h3⟩ := h
  refine ⟨?_, up_eq _ _ _, ?_⟩
  · rw [up_ne (fun q => by subst q; rw [h1] at h2; cases h2)]; exact h1
  · rw [up_ne (fun q => by subst q; rw [h2] at h3; cases h3)]; exact h3
theorem X7_letterAt {F : Mem} {a la ta : Nat} {T : Nat → Nat → Nat} {O : Nat → Nat} (h : isT F a la ta T O) (hO : ∀ s, O s ≤ 24) (hN : ∀ s, 16 ≤ s → O s = 0) {r c : Nat} (hr : r < 1000) (hc : c < 1000) : mX7_letterAt F a (iN r) (iN c) = some (if c < O r then iN (T r c) else 0, F) := by
  obtain ⟨h1, h2, h3⟩ := h
  have hOr := hO r
  simp only [mX7_letterAt, obj_of h1, Option.bind_some, mX7_has, iN_neg (show r < 2 ^ 31 by omega), iN_neg (show c < 2 ^ 31 by omega), if_false]
  by_cases k : 16 ≤ r
  · have e : (16 : Int32) ≤ iN r := (iN_le (a := 16) (b := r) (by omega) (by omega)).mpr k
    rw [if_pos e]
    have := hN r k
    rw [if_neg (show ¬ c < O r by omega)]
    simp
  · have e : ¬ (16 : Int32) ≤ iN r := fun q => k ((iN_le (a := 16) (b := r) (by omega) (by omega)).mp q)
    rw [if_neg e, gfR_at (v := la) h1 rfl]
    simp only [Option.bind_some]
    rw [rdI_at h2 (by omega) (by omega)]
    simp only [Option.bind_some]
    by_cases k2 : c < O r
    · have e2 : ¬ iN (O r) ≤ iN c := fun q => by have := (iN_le (by omega) (by omega)).mp q; omega
      rw [if_neg e2, if_pos k2]
      simp only [Option.bind_some]
      rw [if_neg (by decide), gfR_at (v := ta) h1 rfl]
      simp only [Option.bind_some]
      have e3 : iN r * 24 + iN c = iN (r * 24 + c) := by rw [show (24 : Int32) = iN 24 from rfl, iN_mul, iN_add]
      rw [e3, rdI_at h3 (by omega) (by omega)]
      simp only [Option.bind_some]
      rw [show (r * 24 + c) / 24 = r by omega, show (r * 24 + c) % 24 = c by omega]
    · have e2 : iN (O r) ≤ iN c := (iN_le (by omega) (by omega)).mpr (by omega)
      rw [if_pos e2, if_neg k2]
      simp
theorem X7_put {F : Mem} {a la ta : Nat} {T : Nat → Nat → Nat} {O : Nat → Nat} (h : isT F a la ta T O) {r c : Nat} (hr : r < 16) (hc : c < 24) (x : Nat) : mX7_put F a (iN r) (iN c) (iN x) = some (va_up F ta (cT (upT T r c x))) := by
  obtain ⟨h1, h2, h3⟩ := h
  have e3 : iN r * 24 + iN c = iN (r * 24 + c) := by rw [show (24 : Int32) = iN 24 from rfl, iN_mul, iN_add]
  simp only [mX7_put]
  rw [gfR_at (v := ta) h1 rfl]
  simp only [Option.bind_some]
  rw [e3, wrI_at h3 (by omega) (by omega), updT T hc]
  rfl
end REP
