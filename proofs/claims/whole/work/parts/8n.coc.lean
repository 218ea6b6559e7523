section COC
variable {A : Nat → Nat} {F : Mem} {S W : Nat → Nat → Nat} {N : Nat → Nat} {PT : Nat → Nat → Nat} {PO : Nat → Nat} {QT : Nat → Nat → Nat} {QO : Nat → Nat} {aw : Bool} {th : Int32}
/-- the letters of row r, by how many of each there are -/
def LIn (M : Nat → Nat) (R : Nat → Nat) (lets : Nat → Int32) (r : Nat) : Prop := ∀ q, q < rowS M r 8 → ∃ l, l < 8 ∧ lets (boxes R r + q) = iN (l + 1) ∧ rowS M r 8 ≤ q + rowS M r (l + 1) ∧ q + rowS M r l < rowS M r 8
/-- what the search knows: row i has s boxes left, letters below j may come -/
def PIn (a R b : Nat → Nat) (i s j : Nat) (M : Nat → Nat) (lets us : Nat → Int32) : Prop := i < 8 ∧ 1 ≤ j ∧ j ≤ 8 ∧ (∀ r, r < i → rowS M r 8 = R r) ∧ rowS M i 8 + s = R i ∧ (∀ n, 8 * (i + 1) ≤ n → M n = 0) ∧ (∀ y, y + 1 < j → M (8 * i + y) = 0) ∧ (rowS M i 8 = 0 → j = 8) ∧ (0 < rowS M i 8 → lets (boxes R i + rowS M i 8 - 1) = iN j) ∧ (∀ r, r ≤ i → LIn M R lets r) ∧ us 0 = iN 24 ∧ (∀ x, x < 8 → us (x + 1) = iN (colS M x i + M (8 * i + x))) ∧ (∀ x, x < 8 → colS M x i + M (8 * i + x) ≤ b x)
/-- the class's rooms -/
def CSn (A : Nat → Nat) (F : Mem) (T : Nat) (bA bR : Nat → Int32) (b : Nat → Nat) (lets us : Nat → Int32) : Prop := F (A 30) = .inr (2, [.ref (A 31), .ref (A 32), .ref (A 33), .ref (A 34), .ref (A 35), .int (iN T)]) ∧ F (A 31) = .inl (0, 24, .inl lets) ∧ F (A 32) = .inl (0, 24, .inl bA) ∧ F (A 33) = .inl (0, 24, .inl bR) ∧ F (A 34) = .inl (0, 9, .inl us) ∧ isS F (A 35) (A 36) b
theorem CSn_put (hA : Inj A) {T : Nat} {bA bR : Nat → Int32} {b : Nat → Nat} {lets us lets' us' : Nat → Int32} (h : CSn A F T bA bR b lets us) : CSn A (va_up (va_up F (A 31) (.inl (0, 24, .inl lets'))) (A 34) (.inl (0, 9, .inl us'))) T bA bR b lets' us' := by
  obtain ⟨h1, h2, h3, h4, h5, h6⟩ := h
  have e : ∀ k, k < 67 → k ≠ 31 → k ≠ 34 → va_up (va_up F (A 31) (.inl (0, 24, .inl lets'))) (A 34) (.inl (0, 9, .inl us')) (A k) = F (A k) := fun k hk k1 k2 => by
    rw [up_ne (hA.ne hk (by omega) k2), up_ne (hA.ne hk (by omega) k1)]
  refine ⟨(e 30 (by omega) (by omega) (by omega)).trans h1, ?_, (e 32 (by omega) (by omega) (by omega)).trans h3, (e 33 (by omega) (by omega) (by omega)).trans h4, up_eq _ _ _, isS_fr h6 (e 35 (by omega) (by omega) (by omega)) (e 36 (by omega) (by omega) (by omega))⟩
  rw [up_ne (hA.ne (by omega) (by omega) (by omega)), up_eq]
theorem rowS_up {M : Nat → Nat} {i x v : Nat} (hx : x < 8) : ∀ r y, y ≤ 8 → rowS (upL M (8 * i + x) v) r y + (if r = i ∧ x < y then M (8 * i + x) else 0) = rowS M r y + (if r = i ∧ x < y then v else 0) := by
  intro r y
  induction y with
  | zero => intro _; rw [if_neg (by omega), if_neg (by omega)]; rfl
  | succ y ih =>
    intro hy
    have q := ih (by omega)
    rw [rowS_succ, rowS_succ]
    by_cases c : r = i ∧ x = y
    · obtain ⟨c1, c2⟩ := c
      subst c1; subst c2
      rw [upL_at, if_pos (by omega), if_pos (by omega)]
      rw [if_neg (by omega), if_neg (by omega)] at q
      omega
    · rw [upL_ne (by omega)]
      by_cases d : r = i ∧ x < y
      · rw [if_pos (by omega), if_pos (by omega)]
        rw [if_pos d, if_pos d] at q
        omega
      · rw [if_neg (by omega), if_neg (by omega)]
        rw [if_neg d, if_neg d] at q
        omega
theorem rowS_zero {M : Nat → Nat} {i x : Nat} (h : ∀ y, y < x → M (8 * i + y) = 0) : rowS M i x = 0 := sumN_zero (fun y hy => h y hy)
/-- one letter more -/
theorem PIn_add {a R b : Nat → Nat} {i s j x : Nat} {M : Nat → Nat} {lets us : Nat → Int32} (h : PIn a R b i (s + 1) j M lets us) (hx : x < j) (hu : colS M x i + M (8 * i + x) < b x) : PIn a R b i s (x + 1) (upL M (8 * i + x) (M (8 * i + x) + 1)) (upd lets (boxes R i + rowS M i 8) (iN (x + 1))) (upd us (x + 1) (iN (colS M x i + M (8 * i + x) + 1))) := by
  obtain ⟨h1, h2, h3, h4, h5, h6, h7, h8, h9, h10, h11, h12, h13⟩ := h
  have zx : rowS M i x = 0 := rowS_zero (fun y hy => h7 y (by omega))
  have r8 : rowS (upL M (8 * i + x) (M (8 * i + x) + 1)) i 8 = rowS M i 8 + 1 := by
    have := rowS_up (M := M) (i := i) (x := x) (v := M (8 * i + x) + 1) (by omega) i 8 (Nat.le_refl _)
    rw [if_pos (by omega), if_pos (by omega)] at this
    omega
  have rother : ∀ r y, r ≠ i → y ≤ 8 → rowS (upL M (8 * i + x) (M (8 * i + x) + 1)) r y = rowS M r y := fun r y hr hy => by
    have := rowS_up (M := M) (i := i) (x := x) (v := M (8 * i + x) + 1) (by omega) r y hy
    rw [if_neg (by omega), if_neg (by omega)] at this
    omega
  have rlow : ∀ y, y ≤ x → rowS (upL M (8 * i + x) (M (8 * i + x) + 1)) i y = rowS M i y := fun y hy => by
    have := rowS_up (M := M) (i := i) (x := x) (v := M (8 * i + x) + 1) (by omega) i y (by omega)
    rw [if_neg (by omega), if_neg (by omega)] at this
    omega
  have rhigh : ∀ y, x < y → y ≤ 8 → rowS (upL M (8 * i + x) (M (8 * i + x) + 1)) i y = rowS M i y + 1 := fun y hy hy8 => by
    have := rowS_up (M := M) (i := i) (x := x) (v := M (8 * i + x) + 1) (by omega) i y hy8
    rw [if_pos (by omega), if_pos (by omega)] at this
    omega
  have cs : ∀ y, y < 8 → colS (upL M (8 * i + x) (M (8 * i + x) + 1)) y i = colS M y i := fun y hy => colS_cong hy (fun n hn => upL_ne (by omega))
  refine ⟨h1, by omega, by omega, fun r hr => by rw [rother r 8 (by omega) (Nat.le_refl _)]; exact h4 r hr, by rw [r8]; omega, fun n hn => by rw [upL_ne (by omega)]; exact h6 n hn, fun y hy => by rw [upL_ne (by omega)]; exact h7 y (by omega), fun e => by rw [r8] at e; omega, fun _ => ?_, fun r hr => ?_, ?_, fun y hy => ?_, fun y hy => ?_⟩
  · rw [r8, show boxes R i + (rowS M i 8 + 1) - 1 = boxes R i + rowS M i 8 by omega]
    simp [upd]
  · intro q hq
    by_cases c : r = i
    · subst c
      rw [r8] at hq ⊢
      by_cases d : q = rowS M r 8
      · subst d
        refine ⟨x, by omega, by simp [upd], ?_, ?_⟩
        · rw [rhigh (x + 1) (by omega) (by omega)]; omega
        · rw [rlow x (Nat.le_refl _), zx]; omega
      · obtain ⟨l, l1, l2, l3, l4⟩ := h10 r (Nat.le_refl _) q (by omega)
        have lx : x ≤ l := by
          apply Nat.le_of_not_lt
          intro hl
          have : rowS M r (l + 1) = 0 := rowS_zero (fun y hy => h7 y (by omega))
          omega
        refine ⟨l, l1, ?_, ?_, ?_⟩
        · simp only [upd]
          rw [if_neg (by omega)]
          exact l2
        · rw [rhigh (l + 1) (by omega) (by omega)]; omega
        · by_cases e : l = x
          · subst e; rw [rlow l (Nat.le_refl _)]; omega
          · rw [rhigh l (by omega) (by omega)]; omega
    · rw [rother r 8 c (Nat.le_refl _)] at hq ⊢
      obtain ⟨l, l1, l2, l3, l4⟩ := h10 r hr q hq
      refine ⟨l, l1, ?_, by rw [rother r _ c (by omega)]; exact l3, by rw [rother r _ c (by omega)]; exact l4⟩
      have hlt : boxes R r + q < boxes R i := by
        have e1 := h4 r (by omega)
        have mono : ∀ d k, boxes R k ≤ boxes R (k + d) := by
          intro d
          induction d with
          | zero => intro k; exact Nat.le_refl _
          | succ d ih => intro k; have := ih k; rw [← Nat.add_assoc]; simp only [boxes]; omega
        have := mono (i - (r + 1)) (r + 1)
        rw [show r + 1 + (i - (r + 1)) = i by omega] at this
        simp only [boxes] at this
        omega
      simp only [upd]
      rw [if_neg (by omega)]
      exact l2
  · simp only [upd]
    rw [if_neg (by omega)]
    exact h11
  · rw [cs y hy]
    by_cases c : y = x
    · subst c
      rw [upL_at]
      show (if y + 1 = y + 1 then iN (colS M y i + M (8 * i + y) + 1) else us (y + 1)) = _
      rw [if_pos rfl, Nat.add_assoc]
    · rw [upL_ne (by omega)]
      simp only [upd]
      rw [if_neg (by omega)]
      exact h12 y hy
  · rw [cs y hy]
    by_cases c : y = x
    · subst c; rw [upL_at]; omega
    · rw [upL_ne (by omega)]; exact h13 y hy
/-- the next row -/
theorem PIn_row {a R b : Nat → Nat} {i j : Nat} {M : Nat → Nat} {lets us : Nat → Int32} (h : PIn a R b i 0 j M lets us) (hi : i + 1 < 8) : PIn a R b (i + 1) (R (i + 1)) 8 M lets us := by
  obtain ⟨h1, h2, h3, h4, h5, h6, h7, h8, h9, h10, h11, h12, h13⟩ := h
  have z : ∀ y, y ≤ 8 → rowS M (i + 1) y = 0 := fun y hy => rowS_zero (fun t ht => h6 _ (by omega))
  refine ⟨hi, by omega, by omega, fun r hr => ?_, by rw [z 8 (Nat.le_refl _)]; omega, fun n hn => h6 n (by omega), fun y hy => h6 _ (by omega), fun _ => rfl, fun e => by rw [z 8 (Nat.le_refl _)] at e; omega, fun r hr => ?_, h11, fun x hx => ?_, fun x hx => ?_⟩
  · by_cases c : r = i
    · subst c; omega
    · exact h4 r (by omega)
  · by_cases c : r = i + 1
    · subst c; intro q hq; rw [z 8 (Nat.le_refl _)] at hq; omega
    · exact h10 r (by omega)
  · rw [colS_succ, h6 (8 * (i + 1) + x) (by omega), Nat.add_zero]; exact h12 x hx
  · rw [colS_succ, h6 (8 * (i + 1) + x) (by omega), Nat.add_zero]; exact h13 x hx
/-- the boxes' neighbours -/
def nbA (a R : Nat → Nat) (bA bR : Nat → Int32) : Prop := ∀ r q, r < 8 → q < R r → bA (boxes R r + q) = (if 0 < r ∧ a (r - 1) ≤ a r + (R r - 1 - q) then iN (boxes R (r - 1) + (a (r - 1) + R (r - 1) - 1 - (a r + (R r - 1 - q)))) else -1) ∧ bR (boxes R r + q) = (if q = 0 then -1 else iN (boxes R r + q - 1))
end COC
