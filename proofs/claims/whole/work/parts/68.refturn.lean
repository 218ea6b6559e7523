section REFT
theorem seg_get (f : Nat → Nat) : ∀ (n a i : Nat), i < n → (seg f a n)[i]? = some (f (a + i)) := by
  intro n
  induction n with
  | zero => intro a i h; omega
  | succ n ih =>
    intro a i hi
    cases i with
    | zero => rfl
    | succ i =>
      show (seg f (a + 1) n)[i]? = _
      rw [ih (a + 1) i (by omega), show a + 1 + i = a + (i + 1) by omega]
theorem seg_star (W g : Nat → Nat) (N : Nat) (h : ∀ i, i < N → g i = N + 1 - W (N - 1 - i)) : seg g 0 N = star N (seg W 0 N) := by
  refine List.ext_getElem? (fun i => ?_)
  by_cases k : i < N
  · rw [seg_get g N 0 i k, Nat.zero_add, h i k]
    unfold star
    rw [List.getElem?_reverse (by rw [List.length_map, seg_len]; exact k), List.length_map, seg_len, List.getElem?_map, seg_get W N 0 (N - 1 - i) (by omega), Nat.zero_add]
    rfl
  · rw [List.getElem?_eq_none (by rw [seg_len]; omega), List.getElem?_eq_none (by rw [star_len, seg_len]; omega)]
def revW (W : Nat → Nat) (N j : Nat) : Nat → Nat := fun i => if i < N ∧ (i < j ∨ N - 1 - i < j) then W (N - 1 - i) else W i
def comW (W : Nat → Nat) (N j : Nat) : Nat → Nat := fun i => if i < j then N + 1 - W i else W i
theorem revW_step (W : Nat → Nat) {N j : Nat} (h : j < N - 1 - j) : upL (upL (revW W N j) j (revW W N j (N - 1 - j))) (N - 1 - j) (revW W N j j) = revW W N (j + 1) := by
  have a1 : revW W N j j = W j := by
    unfold revW
    rw [if_neg (by omega)]
  have a2 : revW W N j (N - 1 - j) = W (N - 1 - j) := by
    unfold revW
    rw [if_neg (by omega)]
  rw [a1, a2]
  funext i
  by_cases k1 : i = N - 1 - j
  · subst k1
    rw [upL_at]
    unfold revW
    rw [if_pos (by omega), show N - 1 - (N - 1 - j) = j by omega]
  · rw [upL_ne k1]
    by_cases k2 : i = j
    · subst k2
      rw [upL_at]
      unfold revW
      rw [if_pos (by omega)]
    · rw [upL_ne k2]
      unfold revW
      by_cases k3 : i < N ∧ (i < j ∨ N - 1 - i < j)
      · rw [if_pos k3, if_pos (by omega)]
      · rw [if_neg k3, if_neg (by omega)]
theorem X10_t31 {K : Nat → Int32 → Mem → Option Mem} {b rw' N : Nat} {fs : List Value} {W : Nat → Nat} (hN : N ≤ 24) (hf : fs[7]? = some (.ref rw')) : ∀ (m n j : Nat) (F : Mem), j + m = N → m < n → F b = .inr (9, fs) → F rw' = cW (revW W N j) → fX10_turn_31 K n b (iN N) (iN j) F = K b (iN N) (va_up F rw' (cW (revW W N N))) := by
  have fin : ∀ (j n : Nat) (F : Mem), j ≤ N → N ≤ 1 + 2 * j → F rw' = cW (revW W N j) → fX10_turn_31 K (n + 1) b (iN N) (iN j) F = K b (iN N) (va_up F rw' (cW (revW W N N))) := by
    intro j n F h1 h2 hW
    have e : revW W N N = revW W N j := by
      funext i
      unfold revW
      by_cases q : i < N
      · rw [if_pos (by omega)]
        by_cases q2 : i < N ∧ (i < j ∨ N - 1 - i < j)
        · rw [if_pos q2]
        · rw [if_neg q2, show N - 1 - i = i by omega]
      · rw [if_neg (by omega), if_neg (by omega)]
    rw [e, up_self hW, fX10_turn_31.eq_2, if_pos]
    by_cases q : j + 1 ≤ N
    · rw [show (1 : Int32) = iN 1 from rfl, iN_sub (by omega), iN_sub (by omega)]
      exact (iN_le (by omega) (by omega)).mpr (by omega)
    · have : N = j := by omega
      subst this
      rw [(show ∀ N, N < 25 → iN N - 1 - iN N = (-1 : Int32) by decide) N (by omega)]
      rw [Int32.le_iff_toInt_le, iN_int (by omega)]
      have : (-1 : Int32).toInt = -1 := by decide
      omega
  intro m
  induction m with
  | zero =>
    intro n j F h1 h2 hb hW
    obtain ⟨n', rfl⟩ : ∃ n', n = n' + 1 := ⟨n - 1, by omega⟩
    exact fin j n' F (by omega) (by omega) hW
  | succ m ih =>
    intro n j F h1 h2 hb hW
    obtain ⟨n', rfl⟩ : ∃ n', n = n' + 1 := ⟨n - 1, by omega⟩
    by_cases k : N ≤ 1 + 2 * j
    · exact fin j n' F (by omega) k hW
    · have e : iN N - 1 - iN j = iN (N - 1 - j) := by rw [show (1 : Int32) = iN 1 from rfl, iN_sub (by omega), iN_sub (by omega)]
      have nb : b ≠ rw' := fun q => by rw [q, hW] at hb; cases hb
      rw [fX10_turn_31.eq_2, e, if_neg (fun q => by have := (iN_le (by omega) (by omega)).mp q; omega), gfR_at hb hf]
      simp only [Option.bind_some]
      rw [rdI_at hW (by omega) (by omega)]
      simp only [Option.bind_some]
      rw [rdI_at hW (by omega) (by omega)]
      simp only [Option.bind_some]
      rw [wrI_at hW (by omega) (by omega), updO]
      simp only [Option.bind_some]
      have hb1 : ∀ X, va_up F rw' X b = .inr (9, fs) := fun X => by rw [up_ne nb]; exact hb
      rw [gfR_at (hb1 _) hf]
      simp only [Option.bind_some]
      rw [wrI_at (up_eq _ _ _) (by omega) (by omega), updO, revW_step W (by omega), up_up]
      simp only [Option.bind_some]
      rw [iN_one, ih n' (j + 1) _ (by omega) (by omega) (hb1 _) (up_eq _ _ _), up_up]
theorem X10_t82 {K : Nat → Int32 → Mem → Option Mem} {b rw' N : Nat} {fs : List Value} {W : Nat → Nat} (hN : N ≤ 24) (hf : fs[7]? = some (.ref rw')) (hw : ∀ i, i < N → W i ≤ N + 1) : ∀ (m n j : Nat) (F : Mem), j + m = N → m < n → F b = .inr (9, fs) → F rw' = cW (comW W N j) → fX10_turn_82 K n b (iN N) (iN j) F = K b (iN N) (va_up F rw' (cW (comW W N N))) := by
  intro m
  induction m with
  | zero =>
    intro n j F h1 h2 hb hW
    obtain ⟨n', rfl⟩ : ∃ n', n = n' + 1 := ⟨n - 1, by omega⟩
    have : j = N := by omega
    subst this
    rw [fX10_turn_82.eq_2, if_pos ((iN_le (by omega) (by omega)).mpr (Nat.le_refl _)), up_self hW]
  | succ m ih =>
    intro n j F h1 h2 hb hW
    obtain ⟨n', rfl⟩ : ∃ n', n = n' + 1 := ⟨n - 1, by omega⟩
    have nb : b ≠ rw' := fun q => by rw [q, hW] at hb; cases hb
    have ew : comW W N j j = W j := by unfold comW; rw [if_neg (by omega)]
    have hwj := hw j (by omega)
    rw [fX10_turn_82.eq_2, if_neg (fun q => by have := (iN_le (by omega) (by omega)).mp q; omega), gfR_at hb hf]
    simp only [Option.bind_some]
    rw [rdI_at hW (by omega) (by omega)]
    simp only [Option.bind_some]
    rw [ew, iN_one, iN_sub hwj, wrI_at hW (by omega) (by omega), updO]
    simp only [Option.bind_some]
    have es : upL (comW W N j) j (N + 1 - W j) = comW W N (j + 1) := by
      funext i
      by_cases k : i = j
      · subst k; rw [upL_at]; unfold comW; rw [if_pos (by omega)]
      · rw [upL_ne k]
        unfold comW
        by_cases k2 : i < j
        · rw [if_pos k2, if_pos (by omega)]
        · rw [if_neg k2, if_neg (by omega)]
    rw [es, iN_one, ih n' (j + 1) _ (by omega) (by omega) (by rw [up_ne nb]; exact hb) (up_eq _ _ _), up_up]
theorem turn_word (W : Nat → Nat) (N : Nat) : seg (comW (revW W N N) N N) 0 N = star N (seg W 0 N) := by
  refine seg_star W _ N (fun i hi => ?_)
  unfold comW revW
  rw [if_pos hi, if_pos (by omega)]
end REFT
