section KNUTH
/-- a letter put into a row: the new row, and what it bumps (none or one letter) -/
def rin (x : Nat) : List Nat → List Nat × List Nat
  | [] => ([x], [])
  | y :: ys => if y ≤ x then (y :: (rin x ys).1, (rin x ys).2) else (x :: ys, [y])
/-- a word put into a row -/
def rinW : List Nat → List Nat → List Nat × List Nat
  | [], R => (R, [])
  | x :: w, R => ((rinW w (rin x R).1).1, (rin x R).2 ++ (rinW w (rin x R).1).2)
abbrev srt (R : List Nat) : Prop := R.Pairwise (· ≤ ·)
theorem rin_le {x y : Nat} {ys : List Nat} (h : y ≤ x) : rin x (y :: ys) = (y :: (rin x ys).1, (rin x ys).2) := by simp [rin, h]
theorem rin_gt {x y : Nat} {ys : List Nat} (h : x < y) : rin x (y :: ys) = (x :: ys, [y]) := by
  have : ¬ y ≤ x := by omega
  simp [rin, this]
theorem rin_mem {x a : Nat} {R : List Nat} (h : a ∈ (rin x R).1) : a = x ∨ a ∈ R := by
  induction R with
  | nil => simp [rin] at h; exact Or.inl h
  | cons y ys ih =>
    by_cases hy : y ≤ x
    · rw [rin_le hy] at h
      rcases List.mem_cons.mp h with h | h
      · exact Or.inr (by rw [h]; exact List.mem_cons_self)
      · rcases ih h with h | h
        · exact Or.inl h
        · exact Or.inr (List.mem_cons_of_mem _ h)
    · rw [rin_gt (by omega)] at h
      rcases List.mem_cons.mp h with h | h
      · exact Or.inl h
      · exact Or.inr (List.mem_cons_of_mem _ h)
theorem rin_srt {x : Nat} {R : List Nat} (h : srt R) : srt (rin x R).1 := by
  induction R with
  | nil => simp [rin]
  | cons y ys ih =>
    have h1 := List.pairwise_cons.mp h
    by_cases hy : y ≤ x
    · rw [rin_le hy]
      refine List.pairwise_cons.mpr ⟨fun a ha => ?_, ih h1.2⟩
      rcases rin_mem ha with rfl | ha
      · exact hy
      · exact h1.1 a ha
    · rw [rin_gt (by omega)]
      exact List.pairwise_cons.mpr ⟨fun a ha => by have := h1.1 a ha; omega, h1.2⟩
theorem rin_bump (x : Nat) (R : List Nat) : (rin x R).2 = [] ∨ ∃ b, b ∈ R ∧ (rin x R).2 = [b] ∧ x < b := by
  induction R with
  | nil => exact Or.inl rfl
  | cons y ys ih =>
    by_cases hy : y ≤ x
    · rw [rin_le hy]
      rcases ih with h | ⟨b, h1, h2, h3⟩
      · exact Or.inl h
      · exact Or.inr ⟨b, List.mem_cons_of_mem _ h1, h2, h3⟩
    · rw [rin_gt (by omega)]
      exact Or.inr ⟨y, List.mem_cons_self, rfl, by omega⟩
/-- y, then z that is not less -/
theorem rin_two {y z : Nat} (hyz : y ≤ z) {R : List Nat} (h : srt R) : ((rin z (rin y R).1).2 = []) ∨ ∃ b c, (rin y R).2 = [b] ∧ (rin z (rin y R).1).2 = [c] ∧ y < b ∧ b ≤ c ∧ z < c := by
  induction R with
  | nil => left; simp [rin, hyz]
  | cons r rs ih =>
    have h1 := List.pairwise_cons.mp h
    by_cases hr : r ≤ y
    · rw [rin_le hr]
      dsimp only
      rw [rin_le (by omega : r ≤ z)]
      exact ih h1.2
    · rw [rin_gt (by omega)]
      dsimp only
      rw [rin_le hyz]
      dsimp only
      rcases rin_bump z rs with hb | ⟨c, hc1, hc2, hc3⟩
      · exact Or.inl hb
      · exact Or.inr ⟨r, c, rfl, hc2, by omega, h1.1 c hc1, hc3⟩
/-- z, then y that is less -/
theorem rin_back {y z : Nat} (hyz : y < z) (R : List Nat) : ∃ c, (rin y (rin z R).1).2 = [c] ∧ y < c ∧ c ≤ z ∧ (c = z ∨ c ∈ R) := by
  induction R with
  | nil => exact ⟨z, by simp [rin, Nat.not_le.mpr hyz], hyz, Nat.le_refl _, Or.inl rfl⟩
  | cons r rs ih =>
    by_cases hr : r ≤ z
    · rw [rin_le hr]
      dsimp only
      by_cases hry : r ≤ y
      · rw [rin_le hry]
        obtain ⟨c, h1, h2, h3, h4⟩ := ih
        exact ⟨c, h1, h2, h3, h4.imp id (List.mem_cons_of_mem _)⟩
      · rw [rin_gt (by omega)]
        exact ⟨r, rfl, by omega, hr, Or.inr List.mem_cons_self⟩
    · rw [rin_gt (by omega)]
      dsimp only
      rw [rin_gt hyz]
      exact ⟨z, rfl, hyz, Nat.le_refl _, Or.inl rfl⟩
/-- the two elementary moves -/
def K3 (a b : List Nat) : Prop := ∃ x y z : Nat, (x < y ∧ y ≤ z ∧ a = [y, z, x] ∧ b = [y, x, z]) ∨ (x ≤ y ∧ y < z ∧ a = [x, z, y] ∧ b = [z, x, y])
def K3e (a b : List Nat) : Prop := a = b ∨ K3 a b ∨ K3 b a
theorem rinW_3 (a b c : Nat) (R : List Nat) : rinW [a, b, c] R = ((rin c (rin b (rin a R).1).1).1, (rin a R).2 ++ ((rin b (rin a R).1).2 ++ ((rin c (rin b (rin a R).1).1).2 ++ []))) := rfl
theorem K3_row {a b R : List Nat} (hR : srt R) (hk : K3 a b) : (rinW a R).1 = (rinW b R).1 ∧ K3e (rinW a R).2 (rinW b R).2 := by
  obtain ⟨x, y, z, hk⟩ := hk
  rcases hk with ⟨hxy, hyz, rfl, rfl⟩ | ⟨hxy, hyz, rfl, rfl⟩
  · induction R with
    | nil =>
      have e1 : ¬ y ≤ x := by omega
      have e2 : x ≤ z := by omega
      simp [rinW, rin, hyz, e1, e2, K3e]
    | cons r rs ih =>
      have h1 := List.pairwise_cons.mp hR
      rw [rinW_3, rinW_3] at *
      by_cases c1 : r ≤ x
      · simp only [rin_le (by omega : r ≤ y), rin_le (by omega : r ≤ z), rin_le c1]
        obtain ⟨i1, i2⟩ := ih h1.2
        exact ⟨by rw [i1], i2⟩
      · by_cases c2 : r ≤ y
        · simp only [rin_le c2, rin_le (by omega : r ≤ z), rin_gt (by omega : x < r), rin_le (by omega : x ≤ z)]
          refine ⟨trivial, ?_⟩
          rcases rin_two hyz h1.2 with h | ⟨b, c, e1, e2, e3, e4, e5⟩
          · left; simp [h]
          · right; left
            rw [e1, e2]
            exact ⟨r, b, c, Or.inl ⟨by omega, e4, rfl, rfl⟩⟩
        · simp only [rin_gt (by omega : y < r), rin_le hyz, rin_gt hxy, rin_le (by omega : x ≤ z)]
          refine ⟨trivial, ?_⟩
          rcases rin_bump z rs with h | ⟨b, h2, h3, h4⟩
          · left; simp [h]
          · right; left
            rw [h3]
            exact ⟨y, r, b, Or.inl ⟨by omega, h1.1 b h2, rfl, rfl⟩⟩
  · induction R with
    | nil =>
      have e1 : ¬ z ≤ y := by omega
      have e2 : x ≤ z := by omega
      have e3 : ¬ z ≤ x := by omega
      simp [rinW, rin, hxy, e1, e2, e3, K3e]
    | cons r rs ih =>
      have h1 := List.pairwise_cons.mp hR
      rw [rinW_3, rinW_3] at *
      obtain ⟨c, k1, k2, k3, k4⟩ := rin_back hyz rs
      by_cases c1 : r ≤ x
      · simp only [rin_le (by omega : r ≤ y), rin_le (by omega : r ≤ z), rin_le c1]
        obtain ⟨i1, i2⟩ := ih h1.2
        exact ⟨by rw [i1], i2⟩
      · by_cases c2 : r ≤ z
        · simp only [rin_gt (by omega : x < r), rin_le c2, rin_le (by omega : x ≤ z), rin_le hxy]
          refine ⟨trivial, ?_⟩
          have hrc : r ≤ c := by
            rcases k4 with rfl | k4
            · exact c2
            · exact h1.1 c k4
          rcases rin_bump z rs with h | ⟨b, h2, h3, h4⟩
          · left; simp [h]
          · right; left
            rw [h3, k1]
            exact ⟨r, c, b, Or.inr ⟨hrc, by omega, rfl, rfl⟩⟩
        · simp only [rin_gt (by omega : x < r), rin_gt (by omega : z < r), rin_le (by omega : x ≤ z), rin_le hxy, rin_gt (by omega : x < z)]
          cases rs with
          | nil =>
            have e1 : ¬ z ≤ y := by omega
            refine ⟨by simp [rin, e1], ?_⟩
            left; simp [rin, e1]
          | cons s ss =>
            have hrs := h1.1 s List.mem_cons_self
            simp only [rin_gt (by omega : z < s), rin_gt (by omega : y < z), rin_gt (by omega : y < s)]
            refine ⟨trivial, ?_⟩
            right; left
            exact ⟨z, r, s, Or.inl ⟨by omega, hrs, rfl, rfl⟩⟩
end KNUTH
