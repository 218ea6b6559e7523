section RECT
abbrev letsF (T : Nat → Nat → Nat) (I O : Nat → Nat) : Prop := ∀ s d, I s ≤ d → d < O s → 1 ≤ T s d ∧ T s d < 100
theorem boxes_up {S : Nat → Nat} {r x : Nat} : ∀ N, N ≤ r → boxes (upL S r x) N = boxes S N := by
  intro N
  induction N with
  | zero => intro _; rfl
  | succ N ih => intro h; simp only [boxes]; rw [ih (by omega), upL_ne (by omega)]
theorem boxes_down {S : Nat → Nat} {r : Nat} (h0 : 0 < S r) : ∀ N, r < N → boxes (upL S r (S r - 1)) N + 1 = boxes S N := by
  intro N
  induction N with
  | zero => intro h; omega
  | succ N ih =>
    intro h
    simp only [boxes]
    by_cases k : r = N
    · subst k; rw [boxes_up r (Nat.le_refl _), upL_at]; omega
    · have := ih (by omega)
      rw [upL_ne (by omega)]
      omega
theorem boxes_none {S : Nat → Nat} : ∀ N, boxes S N = 0 → ∀ s, s < N → S s = 0 := by
  intro N
  induction N with
  | zero => intro _ s h; omega
  | succ N ih =>
    intro h s hs
    simp only [boxes] at h
    by_cases k : s = N
    · subst k; omega
    · exact ih (by omega) s (by omega)
/-- one step of the class's slides: the corner r of the inner shape goes -/
theorem X9_sl67 {K : Nat → Int32 → Int32 → Int32 → Mem → Option (Int32 × Mem)} {F : Mem} {b ws ls w' lw tw r : Nat} {fs : List Value} {T : Nat → Nat → Nat} {I O : Nat → Nat} (hb : F b = .inr (8, fs)) (hf7 : fs[7]? = some (.ref ws)) (hf5 : fs[5]? = some (.ref w')) (hs : isS F ws ls I) (hW : isT F w' lw tw T O) (hC : ∀ s, O s ≤ 24) (hN : ∀ s, 16 ≤ s → O s = 0) (hfil : fil T I O) (hl : letsF T I O) (hr : r < 8) (hc : I (r + 1) < I r) (x1 x2 x3 : Int32) : ∃ T' O', fX9_slideUntilStraight_67 K b x1 x2 x3 (iN r) F = K b x1 x2 (x3 + 1) (va_up (va_up (va_up F ls (cS (upL I r (I r - 1)))) tw (cT T')) lw (cO O')) ∧ fil T' (upL I r (I r - 1)) O' ∧ letsF T' (upL I r (I r - 1)) O' ∧ (∀ s, O' s ≤ 24) ∧ (∀ s, 16 ≤ s → O' s = 0) ∧ KQ (rdF (tabS T I O) 0 16) (rdF (tabS T' (upL I r (I r - 1)) O') 0 16) := by
  have hIr : I r ≤ 24 := Nat.le_trans (hfil.2.2.1 r) (hC r)
  obtain ⟨c, hcc⟩ : ∃ c, I r = c + 1 := ⟨I r - 1, by omega⟩
  have hcm : I r - 1 = c := by omega
  rw [hcm]
  have sk := fil_skw hfil hcc (show I (r + 1) ≤ c by omega)
  have ll : lets T (upL I r c) O r c := fun s d a1 a2 a3 => by
    refine hl s d ?_ a2
    by_cases k : s = r
    · subst k; rw [upL_at] at a1; omega
    · rwa [upL_ne k] at a1
  generalize hF1 : va_up F ls (cS (upL I r c)) = F1
  have n1 : b ≠ ls := fun q => by rw [q, hs.2] at hb; cases hb
  have n2 : ws ≠ ls := fun q => by have := hs.1; rw [q, hs.2] at this; cases this
  have n3 : w' ≠ ls := fun q => by have := hW.1; rw [q, hs.2] at this; cases this
  have n4 : lw ≠ ls := fun q => by have := hW.2.1; rw [q, hs.2] at this; cases this
  have n5 : tw ≠ ls := fun q => by have := hW.2.2; rw [q, hs.2] at this; cases this
  have hb1 : F1 b = .inr (8, fs) := by rw [← hF1, up_ne n1]; exact hb
  have hs1 : isS F1 ws ls (upL I r c) := by rw [← hF1]; exact ⟨by rw [up_ne n2]; exact hs.1, up_eq _ _ _⟩
  have hW1 : isT F1 w' lw tw T O := by rw [← hF1]; exact ⟨by rw [up_ne n3]; exact hW.1, by rw [up_ne n4]; exact hW.2.1, by rw [up_ne n5]; exact hW.2.2⟩
  obtain ⟨T', r', c', g1, g2, g3, g4, g5, g6⟩ := X7_slideInto hC hN hW1 sk ll
  have q5 := slF_ok (N := 16) hC hN 40 T r c sk (by omega)
  obtain ⟨T2, r2, c2, p1, -, -, -, p5⟩ := q5
  rw [g1] at p1
  cases p1
  rw [rdF_eq (rowH_in hcc) 0 16, rdF_eq (rowH_out g3) 0 16] at p5
  refine ⟨T', upL O r' c', ?_, skw_fil g2 g3 g4, fun s d a1 a2 => ?_, fun s => ?_, fun s hs => ?_, p5⟩
  · unfold fX9_slideUntilStraight_67
    rw [gfR_at hb hf7, Option.bind_some, gfR_at (v := ls) hs.1 rfl, Option.bind_some, rdI_at hs.2 hr (by omega), Option.bind_some]
    have e : iN (I r) - 1 = iN c := by rw [show (1 : Int32) = iN 1 from rfl, iN_sub (by omega), hcm]
    rw [e, wrI_at hs.2 hr (by omega), updO, hF1, Option.bind_some, gfR_at hb1 hf5, Option.bind_some, gfR_at hb1 hf7, Option.bind_some, gfR_at (v := ls) hs1.1 rfl, Option.bind_some, rdI_at hs1.2 hr (by omega), Option.bind_some, upL_at, obj_of hW1.1, Option.bind_some, g6, Option.bind_some]
  · by_cases k : s = r'
    · subst k; rw [upL_at] at a2; exact g5 s d a1 (by omega) (by omega)
    · rw [upL_ne k] at a2; exact g5 s d a1 a2 (by omega)
  · by_cases k : s = r'
    · subst k; rw [upL_at]; have := hC s; omega
    · rw [upL_ne k]; exact hC s
  · have q : s ≠ r' := fun q => by subst q; have := hN s hs; omega
    rw [upL_ne q]; exact hN s hs
end RECT
