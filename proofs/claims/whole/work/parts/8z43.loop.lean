section LOOP
variable {A : Nat → Nat} {F : Mem}
theorem law_v {β : Type} {cv : β → Int64} {ml : Option (Int32 × Mem)} {mr : Mem → Option (β × Mem)} {G : Mem → Option (Int32 × Mem)} (h : Res1 A ml mr cv) (nx : ∀ F, ST A F → ∃ res, G F = some res ∧ res.1 = 1) : ∃ res, (ml.bind fun vk => (obj vk.2 (A 49) 9).bind fun _ => (mr vk.2).bind fun vr => (obj vr.2 (A 49) 9).bind fun _ => (mX10_thrown vr.2 (A 49)).bind fun vt => if vt.1 = vk.1 then (if vk.1 = 0 then ((rdJ vt.2 (A 66) 0).bind fun j => if (lg_cmp j (cv vr.1)) = 0 then (G vt.2) else (some (0, vt.2))) else (G vt.2)) else (some (0, vt.2))) = some res ∧ res.1 = 1 := by
  obtain ⟨k, F1, r, F2, e1, ⟨fs1, e2⟩, e3, ⟨fs2, e4⟩, e5, e6, e7⟩ := h
  rw [e1, Option.bind_some, e2, Option.bind_some, e3, Option.bind_some, e4, Option.bind_some, e5, Option.bind_some, if_pos rfl]
  by_cases q : k = 0
  · rw [if_pos q, e6 q, Option.bind_some, if_pos ((lg_cmp_eq _ _).mpr rfl)]
    exact nx F2 e7
  · rw [if_neg q]
    exact nx F2 e7
theorem law_b {ml : Option (Int32 × Mem)} {mr : Mem → Option (Int32 × Mem)} {G : Mem → Option (Int32 × Mem)} (h : Res1 A ml mr cvB) (nx : ∀ F, ST A F → ∃ res, G F = some res ∧ res.1 = 1) : ∃ res, (ml.bind fun vk => (obj vk.2 (A 49) 9).bind fun _ => (mr vk.2).bind fun vr => (obj vr.2 (A 49) 9).bind fun _ => (mX10_thrown vr.2 (A 49)).bind fun vt => if vt.1 = vk.1 then (if vk.1 = 0 then ((rdJ vt.2 (A 66) 0).bind fun j => if vr.1 = 0 then (if (lg_cmp j 0) = 0 then (G vt.2) else (some (0, vt.2))) else (if (lg_cmp j 1) = 0 then (G vt.2) else (some (0, vt.2)))) else (G vt.2)) else (some (0, vt.2))) = some res ∧ res.1 = 1 := by
  obtain ⟨k, F1, r, F2, e1, ⟨fs1, e2⟩, e3, ⟨fs2, e4⟩, e5, e6, e7⟩ := h
  rw [e1, Option.bind_some, e2, Option.bind_some, e3, Option.bind_some, e4, Option.bind_some, e5, Option.bind_some, if_pos rfl]
  by_cases q : k = 0
  · rw [if_pos q, e6 q, Option.bind_some]
    unfold cvB
    by_cases w : r = 0
    · rw [if_pos w, if_pos w, if_pos ((lg_cmp_eq _ _).mpr rfl)]
      exact nx F2 e7
    · rw [if_neg w, if_neg w, if_pos ((lg_cmp_eq _ _).mpr rfl)]
      exact nx F2 e7
  · rw [if_neg q]
    exact nx F2 e7
theorem law_n {ml : Option (Int32 × Mem)} {mr : Mem → Option Mem} {G : Mem → Option (Int32 × Mem)} (h : Res2 A ml mr) (nx : ∀ F, ST A F → ∃ res, G F = some res ∧ res.1 = 1) : ∃ res, (ml.bind fun vk => (obj vk.2 (A 49) 9).bind fun _ => (mr vk.2).bind fun vr => (obj vr (A 49) 9).bind fun _ => (mX10_thrown vr (A 49)).bind fun vt => if vt.1 = vk.1 then (G vt.2) else (some (0, vt.2))) = some res ∧ res.1 = 1 := by
  obtain ⟨k, F1, F2, e1, ⟨fs1, e2⟩, e3, ⟨fs2, e4⟩, e5, e7⟩ := h
  rw [e1, Option.bind_some, e2, Option.bind_some, e3, Option.bind_some, e4, Option.bind_some, e5, Option.bind_some, if_pos rfl]
  exact nx F2 e7
theorem law_end {Ls p : Nat} (hL : Ls ≤ 320) (hp : p ≤ 1000) : (Int32.ofNat Ls) - 5 < iN p ↔ Ls < p + 5 := by
  by_cases q : 5 ≤ Ls
  · rw [show (Int32.ofNat Ls) - 5 = iN (Ls - 5) from by rw [il5, show Int32.ofNat Ls = iN Ls from rfl, iN_sub q], iN_lt (by omega) (by omega)]
    omega
  · have neg : (Int32.ofNat Ls) - 5 < 0 := by
      match Ls, q with
      | 0, _ => decide
      | 1, _ => decide
      | 2, _ => decide
      | 3, _ => decide
      | 4, _ => decide
      | n + 5, q => omega
    exact ⟨fun _ => by omega, fun _ => neg_lt neg (by omega)⟩
theorem law_loop (hA : Inj A) {xs : Nat → Int32} {Ls : Nat} (hL : Ls ≤ 320) : ∀ (m n p : Nat) (F : Mem), Ls ≤ p + 5 * m + 4 → m < n → p + 5 * m ≤ 1000 → ST A F → ∃ res, fL_law_23 xs Ls n (A 0) (A 49) (A 66) (iN p) F = some res ∧ res.1 = 1 := by
  intro m
  induction m with
  | zero =>
    intro n p F h1 h2 h3 h
    obtain ⟨n, rfl⟩ : ∃ m, n = m + 1 := ⟨n - 1, by omega⟩
    rw [fL_law_23.eq_2, if_pos ((law_end hL (by omega)).mpr (by omega))]
    exact ⟨_, rfl, rfl⟩
  | succ m ih =>
    intro n p F h1 h2 h3 h
    obtain ⟨n, rfl⟩ : ∃ m, n = m + 1 := ⟨n - 1, by omega⟩
    by_cases q : Ls < p + 5
    · rw [fL_law_23.eq_2, if_pos ((law_end hL (by omega)).mpr q)]
      exact ⟨_, rfl, rfl⟩
    · have sc : ∀ d, d < 5 → scr xs Ls (iN (p + d)) = some (xs (p + d)) := fun d hd => by
        unfold scr
        rw [iN_inb (by omega), decide_eq_true (by omega), if_pos rfl, iN_nat (by omega)]
      have s0 : scr xs Ls (iN p) = some (xs p) := sc 0 (by omega)
      have s1 : scr xs Ls (iN p + 1) = some (xs (p + 1)) := by rw [iN_one]; exact sc 1 (by omega)
      have s2 : scr xs Ls (iN p + 2) = some (xs (p + 2)) := by rw [il2, iN_add]; exact sc 2 (by omega)
      have s3 : scr xs Ls (iN p + 3) = some (xs (p + 3)) := by rw [il3, iN_add]; exact sc 3 (by omega)
      have s4 : scr xs Ls (iN p + 4) = some (xs (p + 4)) := by rw [il4, iN_add]; exact sc 4 (by omega)
      have nx : ∀ F, ST A F → ∃ res, fL_law_1481 xs Ls (fL_law_23 xs Ls n) (A 0) (A 49) (A 66) (iN p) F = some res ∧ res.1 = 1 := fun F hF => by
        unfold fL_law_1481
        rw [il5, iN_add]
        exact ih n (p + 5) F (by omega) (by omega) (by omega) hF
      rw [fL_law_23.eq_2, if_neg (fun w => q ((law_end hL (by omega)).mp w)), s0, Option.bind_some]
      generalize xs p &&& 31 = v
      by_cases c : v = 0
      · rw [if_pos c]
        simp only [s1, s2, s3, Option.bind_some, fL_law_234]
        exact law_b (L_shape hA h _ _) nx
      rw [if_neg c]; clear c
      by_cases c : v = 1
      · rw [if_pos c]
        simp only [s1, s2, Option.bind_some]
        exact law_v (L_row hA h _ _) nx
      rw [if_neg c]; clear c
      by_cases c : v = 2
      · rw [if_pos c]
        simp only [s1, Option.bind_some, fL_law_365]
        exact law_b (L_conjugate hA h _) nx
      rw [if_neg c]; clear c
      by_cases c : v = 3
      · rw [if_pos c]
        simp only [s1, Option.bind_some]
        exact law_v (L_rank hA h _) nx
      rw [if_neg c]; clear c
      by_cases c : v = 4
      · rw [if_pos c]
        simp only [s1, s2, s3, Option.bind_some]
        exact law_n (L_unrank hA h _ _ _) nx
      rw [if_neg c]; clear c
      by_cases c : v = 5
      · rw [if_pos c]
        simp only [s1, s2, Option.bind_some, fL_law_556]
        exact law_b (L_letter hA h _ _) nx
      rw [if_neg c]; clear c
      by_cases c : v = 6
      · rw [if_pos c]
        simp only [s1, s2, Option.bind_some, fL_law_631]
        exact law_b (L_cut hA h _ _) nx
      rw [if_neg c]; clear c
      by_cases c : v = 7
      · rw [if_pos c]
        simp only [s1, Option.bind_some]
        exact law_v (L_length hA h _) nx
      rw [if_neg c]; clear c
      by_cases c : v = 8
      · rw [if_pos c]
        simp only [s1, s2, Option.bind_some]
        exact law_v (L_at hA h _ _) nx
      rw [if_neg c]; clear c
      by_cases c : v = 9
      · rw [if_pos c]
        by_cases z : xs (p + 2) = 0
        · simp only [s1, s2, Option.bind_some, if_pos z, fL_law_785, fL_law_812]
          exact law_v (L_insert hA h _ 0) nx
        · simp only [s1, s2, Option.bind_some, if_neg z, fL_law_785, fL_law_812]
          exact law_v (L_insert hA h _ 1) nx
      rw [if_neg c]; clear c
      by_cases c : v = 10
      · rw [if_pos c]
        by_cases z : xs (p + 1) = 0
        · obtain ⟨u, F2, e1, ⟨fs1, e2⟩, ⟨fs2, e3⟩, e4, e5⟩ := L_entry hA h 0 (xs (p + 2)) (xs (p + 3))
          rw [s1, Option.bind_some, if_pos z]
          unfold fL_law_863 fL_law_893
          rw [s2, Option.bind_some, s3, Option.bind_some, e2, Option.bind_some, e1, Option.bind_some, s1, Option.bind_some, if_pos z, Option.bind_some, Option.bind_some, e3, Option.bind_some, e4, Option.bind_some, if_pos rfl]
          exact nx F2 e5
        · obtain ⟨u, F2, e1, ⟨fs1, e2⟩, ⟨fs2, e3⟩, e4, e5⟩ := L_entry hA h 1 (xs (p + 2)) (xs (p + 3))
          rw [s1, Option.bind_some, if_neg z]
          unfold fL_law_863 fL_law_893
          rw [s2, Option.bind_some, s3, Option.bind_some, e2, Option.bind_some, e1, Option.bind_some, s1, Option.bind_some, if_neg z, Option.bind_some, Option.bind_some, e3, Option.bind_some, e4, Option.bind_some, if_pos rfl]
          exact nx F2 e5
      rw [if_neg c]; clear c
      by_cases c : v = 11
      · rw [if_pos c]
        simp only [s1, Option.bind_some]
        exact law_n (L_recover hA h _) nx
      rw [if_neg c]; clear c
      by_cases c : v = 12
      · rw [if_pos c]
        simp only [s1, Option.bind_some]
        exact law_n (L_read hA h _) nx
      rw [if_neg c]; clear c
      by_cases c : v = 13
      · obtain ⟨u, F1, F2, e1, ⟨fs1, e2⟩, ⟨fs2, e3⟩, e4, e5⟩ := L_equivalent hA h
        rw [if_pos c, e2, Option.bind_some, e1, Option.bind_some, e3, Option.bind_some, e4, Option.bind_some, if_pos rfl]
        exact nx F2 e5
      rw [if_neg c]; clear c
      by_cases c : v = 14
      · rw [if_pos c]
        simp only [s1, s2, s3, s4, Option.bind_some]
        exact law_v (L_rectify hA h _ _ _ _) nx
      rw [if_neg c]; clear c
      by_cases c : v = 15
      · rw [if_pos c]
        exact law_n (L_turn hA h) nx
      rw [if_neg c]; clear c
      by_cases c : v = 16
      · rw [if_pos c]
        simp only [s1, s2, s3, Option.bind_some]
        exact law_v (L_draw hA h _ _) nx
      rw [if_neg c]; clear c
      by_cases c : v = 17
      · rw [if_pos c]
        simp only [s1, Option.bind_some]
        exact law_v (L_standard hA h _) nx
      rw [if_neg c]; clear c
      by_cases c : v = 18
      · rw [if_pos c]
        simp only [s1, s2, Option.bind_some]
        exact law_v (L_fillings hA h _ _) nx
      rw [if_neg c]; clear c
      by_cases c : v = 19
      · rw [if_pos c]
        simp only [s1, s2, s3, Option.bind_some]
        exact law_v (L_coefficient hA h _ _ _) nx
      rw [if_neg c]; clear c
      by_cases c : v = 20
      · rw [if_pos c]
        simp only [s1, s2, Option.bind_some]
        exact law_v (L_character hA h _ _) nx
      rw [if_neg c]
      exact nx F h
end LOOP
