section SHP2
theorem i32_cases (v : Int32) (n : Nat) (hn : n < 2 ^ 31) : v < 0 ∨ (∃ k, k < n ∧ v = iN k) ∨ (¬ v < 0 ∧ iN n ≤ v) := by
  by_cases h : v < 0
  · exact Or.inl h
  · right
    have h0 : 0 ≤ v.toInt := by
      rw [Int32.lt_iff_toInt_lt] at h
      have : (0 : Int32).toInt = 0 := rfl
      omega
    have e : v = iN v.toInt.toNat := by
      apply Int32.toInt_inj.mp
      have := Int32.toInt_lt v
      rw [iN_int (by omega)]
      omega
    by_cases k : v.toInt.toNat < n
    · exact Or.inl ⟨_, k, e⟩
    · right
      refine ⟨h, ?_⟩
      rw [Int32.le_iff_toInt_le, iN_int hn]
      omega
/-- g up to i, f from there on -/
def mixL (i : Nat) (g f : Nat → Nat) : Nat → Nat := fun s => if s < i then g s else f s
theorem mixL_z (g f : Nat → Nat) : mixL 0 g f = f := by funext s; simp [mixL]
theorem mixL_s (i : Nat) (g f : Nat → Nat) : upL (mixL i g f) i (g i) = mixL (i + 1) g f := by
  funext s
  by_cases h : s = i
  · subst h; rw [upL_at]; simp [mixL]
  · rw [upL_ne h]
    unfold mixL
    by_cases h2 : s < i
    · rw [if_pos h2, if_pos (by omega)]
    · rw [if_neg h2, if_neg (by omega)]
theorem isS_up {F : Mem} {a la : Nat} {S V : Nat → Nat} (h : isS F a la S) : isS (va_up F la (cS V)) a la V := by
  refine ⟨?_, up_eq _ _ _⟩
  rw [up_ne (fun q => by have := h.1; rw [q, h.2] at this; cases this)]
  exact h.1
theorem X4_un2 {a la : Nat} {w : Int64} {U : Nat → Nat} : ∀ (m n i : Nat) (F : Mem), i + m = 8 → m < n → isS F a la (mixL i (byt w) U) → fX4_unpack_2 n a w (iN i) F = some (va_up F la (cS (mixL 8 (byt w) U))) := by
  intro m
  induction m with
  | zero =>
    intro n i F h1 h2 h
    obtain ⟨n', rfl⟩ : ∃ n', n = n' + 1 := ⟨n - 1, by omega⟩
    have : i = 8 := by omega
    subst this
    rw [fX4_unpack_2.eq_2, if_pos (by decide), up_self h.2]
  | succ m ih =>
    intro n i F h1 h2 h
    obtain ⟨n', rfl⟩ : ∃ n', n = n' + 1 := ⟨n - 1, by omega⟩
    have e := ih n' (i + 1) (va_up F la (cS (mixL (i + 1) (byt w) U))) (by omega) (by omega) (isS_up h)
    rw [fX4_unpack_2.eq_2, (byte_ok w i (by omega)).1]
    simp (disch := omega) only [il8, iN_le, if_neg, gfR_at (k := 0) (v := la) h.1 rfl, Option.bind_some, wrI_at h.2, iN_one, updO, mixL_s]
    rw [e, up_up]
theorem X4_unpack {F : Mem} {a la : Nat} {U : Nat → Nat} (h : isS F a la U) (w : Int64) : mX4_unpack F a w = some (va_up F la (cS (mixL 8 (byt w) U))) := by
  have := FU_big
  exact X4_un2 8 FU 0 F (by omega) (by omega) (by rw [mixL_z]; exact h)
def fal (S : Nat → Nat) (i : Nat) : Prop := ∀ k, i ≤ k → k < 8 → S k ≤ S (k - 1)
theorem X4_al2 {F : Mem} {a la : Nat} {S : Nat → Nat} (h : isS F a la S) (hS : ∀ s, s < 8 → S s < 256) (K : Nat → Mem → Option (Int32 × Mem)) : ∀ (m n i : Nat), 1 ≤ i → i + m = 8 → m < n → (fal S i → fX4_isAllowed_2 K n a (iN i) F = K a F) ∧ (¬ fal S i → fX4_isAllowed_2 K n a (iN i) F = some (0, F)) := by
  intro m
  induction m with
  | zero =>
    intro n i h0 h1 h2
    obtain ⟨n', rfl⟩ : ∃ n', n = n' + 1 := ⟨n - 1, by omega⟩
    refine ⟨fun _ => ?_, fun q => absurd (fun k a b => by omega) q⟩
    rw [fX4_isAllowed_2.eq_2]
    simp (disch := omega) only [il8, iN_le, if_pos]
  | succ m ih =>
    intro n i h0 h1 h2
    obtain ⟨n', rfl⟩ : ∃ n', n = n' + 1 := ⟨n - 1, by omega⟩
    have s1 := hS i (by omega)
    have s2 := hS (i - 1) (by omega)
    have e : fX4_isAllowed_2 K (n' + 1) a (iN i) F = if S i ≤ S (i - 1) then fX4_isAllowed_2 K n' a (iN (i + 1)) F else some (0, F) := by
      rw [fX4_isAllowed_2.eq_2]
      simp (disch := omega) only [il8, il1, iN_le, if_neg, gfR_at (k := 0) (v := la) h.1 rfl, Option.bind_some, rdI_at h.2, iN_sub, iN_add]
    rw [e]
    by_cases k : S i ≤ S (i - 1)
    · rw [if_pos k]
      obtain ⟨e1, e2⟩ := ih n' (i + 1) (by omega) (by omega) (by omega)
      refine ⟨fun q => e1 (fun k a b => q k (by omega) b), fun q => e2 (fun w => q (fun j a b => ?_))⟩
      by_cases ji : j = i
      · subst ji; exact k
      · exact w j (by omega) b
    · rw [if_neg k]
      exact ⟨fun q => absurd (q i (Nat.le_refl _) (by omega)) k, fun _ => rfl⟩
theorem boxes_bd {S : Nat → Nat} {b : Nat} : ∀ m, (∀ s, s < m → S s ≤ b) → boxes S m ≤ m * b := by
  intro m
  induction m with
  | zero => intro _; simp [boxes]
  | succ m ih =>
    intro h
    have h1 := ih (fun s hs => h s (by omega))
    have h2 := h m (by omega)
    simp only [boxes]
    rw [Nat.add_mul]
    omega
theorem X4_isAllowed {F : Mem} {a la : Nat} {S : Nat → Nat} (h : isS F a la S) (hS : ∀ s, s < 8 → S s < 256) : ∃ z : Bool, mX4_isAllowed F a = some (bI z, F) ∧ (z = true ↔ fal S 1 ∧ boxes S 8 ≤ 24) := by
  have := FU_big
  have b := boxes_bd (S := S) (b := 255) 8 (fun s hs => by have := hS s hs; omega)
  obtain ⟨e1, e2⟩ := X4_al2 h hS (fun (x0 : Nat) (F : Mem) => (obj F x0 3).bind fun _ => (mX4_countBoxes F x0).bind fun v34 => if 24 < v34.1 then (some (0, v34.2)) else (some (1, v34.2))) 7 FU 1 (by omega) (by omega) (by omega)
  unfold mX4_isAllowed
  by_cases k : fal S 1
  · have e := e1 k
    simp (disch := omega) only [obj_of h.1, Option.bind_some, X4_countBoxes h, il24, iN_lt] at e
    by_cases k2 : boxes S 8 ≤ 24
    · rw [if_neg (by omega)] at e
      exact ⟨true, e, by simp [k, k2]⟩
    · rw [if_pos (by omega)] at e
      exact ⟨false, e, by simp [k2]⟩
  · exact ⟨false, e2 k, by simp [k]⟩
theorem cpyS {U V : Nat → Nat} (hU : ∀ s, 8 ≤ s → U s = 0) (hV : ∀ s, 8 ≤ s → V s = 0) : va_cpy (fun r => iN (U r)) (fun r => iN (V r)) 0 0 8 = fun r => iN (U r) := by
  funext j
  by_cases k : j < 8
  · rw [pk_cpy_in (Nat.zero_le _) (by omega)]
    simp
  · rw [pk_cpy_out (Or.inr (by omega)), hV j (by omega), hU j (by omega)]
theorem X4_copyFrom {F : Mem} {a la b lb : Nat} {U V : Nat → Nat} (hb : isS F b lb U) (ha : isS F a la V) (hU : ∀ s, 8 ≤ s → U s = 0) (hV : ∀ s, 8 ≤ s → V s = 0) : mX4_copyFrom F a b = some (va_up F la (cS U)) := by
  have e := cpI_at (sp := 0) (dp := 0) (n := 8) hb.2 ha.2 (by omega) (by omega) (by omega) (by omega)
  rw [cpyS hU hV] at e
  unfold mX4_copyFrom
  simp only [gfR_at (k := 0) (v := la) ha.1 rfl, gfR_at (k := 0) (v := lb) hb.1 rfl, Option.bind_some, il0, il8, e]
end SHP2
