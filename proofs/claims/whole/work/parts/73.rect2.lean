section RECTB
theorem X9_sl43 {K : Nat → Int32 → Int32 → Int32 → Mem → Option (Int32 × Mem)} {F : Mem} {b ws ls w' lw tw : Nat} {fs : List Value} {T : Nat → Nat → Nat} {I O : Nat → Nat} (hb : F b = .inr (8, fs)) (hf7 : fs[7]? = some (.ref ws)) (hf5 : fs[5]? = some (.ref w')) (hs : isS F ws ls I) (hW : isT F w' lw tw T O) (hC : ∀ s, O s ≤ 24) (hN : ∀ s, 16 ≤ s → O s = 0) (hfil : fil T I O) (hl : letsF T I O) (hI8 : ∀ s, 8 ≤ s → I s = 0) (h0 : 0 < I 0) (x1 x2 x3 s0 : Int32) : ∃ r T' O', r < 8 ∧ 0 < I r ∧ fX9_slideUntilStraight_43 K b x1 x2 x3 s0 F = K b x1 x2 (x3 + 1) (va_up (va_up (va_up F ls (cS (upL I r (I r - 1)))) tw (cT T')) lw (cO O')) ∧ fil T' (upL I r (I r - 1)) O' ∧ letsF T' (upL I r (I r - 1)) O' ∧ (∀ s, O' s ≤ 24) ∧ (∀ s, 16 ≤ s → O' s = 0) ∧ KQ (rdF (tabS T I O) 0 16) (rdF (tabS T' (upL I r (I r - 1)) O') 0 16) := by
  have hI24 : ∀ s, I s ≤ 24 := fun s => Nat.le_trans (hfil.2.2.1 s) (hC s)
  unfold fX9_slideUntilStraight_43
  by_cases k : s0 = 0
  · obtain ⟨r, r1, r2, r3⟩ := X4_highestCorner hs hI8 hI24 h0
    obtain ⟨T', O', e1, e2⟩ := X9_sl67 (K := K) hb hf7 hf5 hs hW hC hN hfil hl r1 r2 x1 x2 x3
    refine ⟨r, T', O', r1, by omega, ?_, e2⟩
    rw [if_pos k, gfR_at hb hf7, Option.bind_some, obj_of hs.1, Option.bind_some, r3, Option.bind_some]
    exact e1
  · obtain ⟨r, r1, r2, r3⟩ := X4_lowestCorner hs hI8 hI24 h0
    obtain ⟨T', O', e1, e2⟩ := X9_sl67 (K := K) hb hf7 hf5 hs hW hC hN hfil hl r1 r2 x1 x2 x3
    refine ⟨r, T', O', r1, by omega, ?_, e2⟩
    rw [if_neg k, gfR_at hb hf7, Option.bind_some, obj_of hs.1, Option.bind_some, r3, Option.bind_some]
    exact e1
theorem X9_sl10 {b ws ls w' lw tw tot : Nat} {fs : List Value} (hf7 : fs[7]? = some (.ref ws)) (hf5 : fs[5]? = some (.ref w')) (htot : tot < 1000) (x1 : Int32) : ∀ (m n i : Nat) (F : Mem) (T : Nat → Nat → Nat) (I O : Nat → Nat), i + m = tot → m < n → boxes I 8 = m → F b = .inr (8, fs) → isS F ws ls I → isT F w' lw tw T O → (∀ s, O s ≤ 24) → (∀ s, 16 ≤ s → O s = 0) → fil T I O → letsF T I O → (∀ s, 8 ≤ s → I s = 0) → ∃ T' O', fX9_slideUntilStraight_10 n b x1 (iN tot) (iN i) F = some (iN tot, va_up (va_up (va_up F ls (cS I0)) tw (cT T')) lw (cO O')) ∧ fil T' I0 O' ∧ letsF T' I0 O' ∧ (∀ s, O' s ≤ 24) ∧ (∀ s, 16 ≤ s → O' s = 0) ∧ KQ (rdF (tabS T I O) 0 16) (rdF (tabS T' I0 O') 0 16) := by
  intro m
  induction m with
  | zero =>
    intro n i F T I O h1 h2 h3 hb hs hW hC hN hfil hl hI8
    obtain ⟨n', rfl⟩ : ∃ n', n = n' + 1 := ⟨n - 1, by omega⟩
    have eI : I = I0 := by
      funext s
      by_cases k : s < 8
      · exact boxes_none 8 h3 s k
      · exact hI8 s (by omega)
    subst eI
    have : i = tot := by omega
    subst this
    refine ⟨T, O, ?_, hfil, hl, hC, hN, KQ.rf _⟩
    rw [fX9_slideUntilStraight_10.eq_2, if_pos ((iN_le (by omega) (by omega)).mpr (Nat.le_refl _)), up_self hs.2, up_self hW.2.2, up_self hW.2.1]
  | succ m ih =>
    intro n i F T I O h1 h2 h3 hb hs hW hC hN hfil hl hI8
    obtain ⟨n', rfl⟩ : ∃ n', n = n' + 1 := ⟨n - 1, by omega⟩
    have h0 : 0 < I 0 := by
      by_cases k : 0 < I 0
      · exact k
      · exfalso
        have z : ∀ s, I s = 0 := fun s => by have := hfil.1 0 s (Nat.zero_le _); omega
        have : boxes I 8 = 0 := by simp only [boxes, z]
        omega
    have step : ∀ s0 : Int32, ∃ T' O', fX9_slideUntilStraight_43 (fX9_slideUntilStraight_10 n') b x1 (iN tot) (iN i) s0 F = some (iN tot, va_up (va_up (va_up F ls (cS I0)) tw (cT T')) lw (cO O')) ∧ fil T' I0 O' ∧ letsF T' I0 O' ∧ (∀ s, O' s ≤ 24) ∧ (∀ s, 16 ≤ s → O' s = 0) ∧ KQ (rdF (tabS T I O) 0 16) (rdF (tabS T' I0 O') 0 16) := by
      intro s0
      obtain ⟨r, T1, O1, r1, r2, e1, e2, e3, e4, e5, e6⟩ := X9_sl43 (K := fX9_slideUntilStraight_10 n') hb hf7 hf5 hs hW hC hN hfil hl hI8 h0 x1 (iN tot) (iN i) s0
      have n1 : b ≠ ls := fun q => by rw [q, hs.2] at hb; cases hb
      have n1' : b ≠ lw := fun q => by rw [q, hW.2.1] at hb; cases hb
      have n1'' : b ≠ tw := fun q => by rw [q, hW.2.2] at hb; cases hb
      have n2 : ws ≠ ls := fun q => by have := hs.1; rw [q, hs.2] at this; cases this
      have n2' : ws ≠ lw := fun q => by have := hs.1; rw [q, hW.2.1] at this; cases this
      have n2'' : ws ≠ tw := fun q => by have := hs.1; rw [q, hW.2.2] at this; cases this
      have n3 : w' ≠ ls := fun q => by have := hW.1; rw [q, hs.2] at this; cases this
      have n4 : lw ≠ ls := fun q => by have := hW.2.1; rw [q, hs.2] at this; cases this
      have n5 : tw ≠ ls := fun q => by have := hW.2.2; rw [q, hs.2] at this; cases this
      have n6 : tw ≠ lw := fun q => by have := hW.2.2; rw [q, hW.2.1] at this; cases this
      have hW0 : isT (va_up F ls (cS (upL I r (I r - 1)))) w' lw tw T O := ⟨by rw [up_ne n3]; exact hW.1, by rw [up_ne n4]; exact hW.2.1, by rw [up_ne n5]; exact hW.2.2⟩
      have hd := boxes_down r2 8 r1
      obtain ⟨T', O', f1, f2, f3, f4, f5, f6⟩ := ih n' (i + 1) _ T1 (upL I r (I r - 1)) O1 (by omega) (by omega) (by omega) (show va_up (va_up (va_up F ls (cS (upL I r (I r - 1)))) tw (cT T1)) lw (cO O1) b = _ by rw [up_ne n1', up_ne n1'', up_ne n1]; exact hb) ⟨by rw [up_ne n2', up_ne n2'', up_ne n2]; exact hs.1, by rw [up_ne (Ne.symm n4), up_ne (Ne.symm n5), up_eq]⟩ (isT_putO (isT_putT hW0)) e4 e5 e2 e3 (fun s hs => by rw [upL_ne (by omega)]; exact hI8 s hs)
      refine ⟨T', O', ?_, f2, f3, f4, f5, e6.tr f6⟩
      rw [e1, iN_one, f1]
      congr 2
      funext x
      by_cases x1 : x = lw
      · subst x1; rw [up_eq, up_eq]
      · rw [up_ne x1, up_ne x1]
        by_cases x2 : x = tw
        · subst x2; rw [up_eq, up_eq]
        · rw [up_ne x2, up_ne x2]
          by_cases x3 : x = ls
          · subst x3; rw [up_eq, up_eq]
          · rw [up_ne x3, up_ne x3, up_ne x1, up_ne x2, up_ne x3]
    rw [fX9_slideUntilStraight_10.eq_2, if_neg (fun q => by have := (iN_le (by omega) (by omega)).mp q; omega)]
    by_cases k1 : x1 = 2
    · rw [if_pos k1]
      unfold irem0
      rw [if_neg (by decide), Option.bind_some]
      by_cases k2 : iN i - iN i / 2 * 2 = 0
      · rw [if_pos k2]; exact step 1
      · rw [if_neg k2]; exact step 0
    · rw [if_neg k1]
      by_cases k2 : x1 = 0
      · rw [if_pos k2]; exact step 1
      · rw [if_neg k2]; exact step 0
/-- the class's slides: the tableau of the reading -/
theorem X9_slides {F : Mem} {b ws ls w' lw tw : Nat} {fs : List Value} {T : Nat → Nat → Nat} {I O : Nat → Nat} (hb : F b = .inr (8, fs)) (hf7 : fs[7]? = some (.ref ws)) (hf5 : fs[5]? = some (.ref w')) (hs : isS F ws ls I) (hW : isT F w' lw tw T O) (hC : ∀ s, O s ≤ 24) (hN : ∀ s, 16 ≤ s → O s = 0) (hfil : fil T I O) (hl : letsF T I O) (hI8 : ∀ s, 8 ≤ s → I s = 0) (hbx : boxes I 8 < 1000) (x1 : Int32) : ∃ T' O', mX9_slideUntilStraight F b x1 = some (iN (boxes I 8), va_up (va_up (va_up F ls (cS I0)) tw (cT T')) lw (cO O')) ∧ tabS T' I0 O' = insF T0 (rdF (tabS T I O) 0 16) ∧ fil T' I0 O' ∧ letsF T' I0 O' ∧ (∀ s, O' s ≤ 24) ∧ (∀ s, 16 ≤ s → O' s = 0) := by
  have := FU_big
  obtain ⟨T', O', f1, f2, f3, f4, f5, f6⟩ := X9_sl10 hf7 hf5 hbx x1 (boxes I 8) FU 0 F T I O (by omega) (by omega) rfl hb hs hW hC hN hfil hl hI8
  refine ⟨T', O', ?_, (tabS_known f5 f2 f6).symm, f2, f3, f4, f5⟩
  unfold mX9_slideUntilStraight
  rw [gfR_at hb hf7, Option.bind_some, obj_of hs.1, Option.bind_some, X4_countBoxes hs, Option.bind_some]
  exact f1
end RECTB
