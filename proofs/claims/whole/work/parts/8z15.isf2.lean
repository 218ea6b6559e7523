section ISF2
theorem inS_ok {lo hi : Nat} (co : Bool) {T : Nat → Nat → Nat} {O : Nat → Nat} {x i : Nat} (hT : okT T O) (hb : boxes O 16 = i) (hN : ∀ s, 16 ≤ s → O s = 0) (hi16 : i < 16) (hlo : lo ≤ x) (hhi : x ≤ hi) (hlet : ∀ s d, d < O s → lo ≤ T s d ∧ T s d ≤ hi) : okT (inS co T O x).1 (inS co T O x).2.1 ∧ (inS co T O x).2.1 = upL O (inS co T O x).2.2 (O (inS co T O x).2.2 + 1) ∧ (inS co T O x).2.2 ≤ 15 ∧ (∀ s d, d < (inS co T O x).2.1 s → lo ≤ (inS co T O x).1 s d ∧ (inS co T O x).1 s d ≤ hi) := by
  have h15 : O 15 = 0 := by
    by_cases q : O 15 = 0
    · exact q
    · have := boxes_low hT.1 (show 0 < O 15 by omega) 16 (by omega)
      omega
  have h0 := boxes_row (O := O) 16 (by omega)
  unfold inS
  cases co with
  | true =>
    rw [if_pos rfl]
    exact adC_ok 24 T O 0 x 0 hT h15 (by omega) (by omega) (.inl rfl) hlo hhi hlet
  | false =>
    rw [if_neg (by decide)]
    refine ⟨addF_okT h15 hT, addF_row 15 T O 0 x, by have := addF_rw 15 T O 0 x; omega, addF_p (fun y => lo ≤ y ∧ y ≤ hi) 15 T O 0 x ⟨hlo, hhi⟩ hlet⟩
theorem okT_0 (T : Nat → Nat → Nat) : okT T I0 := ⟨fun _ => Nat.le_refl _, (fun _ _ h => by cases h), (fun _ _ h => by cases h)⟩
theorem boxes_0 : ∀ m, boxes I0 m = 0 := by
  intro m
  induction m with
  | zero => rfl
  | succ m ih => show boxes I0 m + 0 = 0; omega
/-- what holds after i letters -/
theorem isF_ok (co : Bool) {W : Nat → Nat} {n lo hi : Nat} (T0 Q0 : Nat → Nat → Nat) (hn : n ≤ 16) (hW : ∀ k, k < n → lo ≤ W k ∧ W k ≤ hi) : ∀ i, i ≤ n → okT (isF co W T0 Q0 i).1 (isF co W T0 Q0 i).2.1 ∧ boxes (isF co W T0 Q0 i).2.1 16 = i ∧ (∀ s, 16 ≤ s → (isF co W T0 Q0 i).2.1 s = 0) ∧ (∀ s d, d < (isF co W T0 Q0 i).2.1 s → lo ≤ (isF co W T0 Q0 i).1 s d ∧ (isF co W T0 Q0 i).1 s d ≤ hi) := by
  intro i
  induction i with
  | zero => intro _; exact ⟨okT_0 T0, boxes_0 16, fun _ _ => rfl, (fun _ _ h => by cases h)⟩
  | succ i ih =>
    intro hi'
    obtain ⟨a1, a2, a3, a4⟩ := ih (by omega)
    obtain ⟨b1, b2, b3, b4⟩ := inS_ok (lo := lo) (hi := hi) co (x := W i) a1 a2 a3 (by omega) (hW i (by omega)).1 (hW i (by omega)).2 a4
    refine ⟨b1, ?_, fun s hs => ?_, b4⟩
    · show boxes (inS co (isF co W T0 Q0 i).1 (isF co W T0 Q0 i).2.1 (W i)).2.1 16 = i + 1
      rw [b2, boxes_more, if_pos (by omega), a2]
    · show (inS co (isF co W T0 Q0 i).1 (isF co W T0 Q0 i).2.1 (W i)).2.1 s = 0
      rw [b2, upL_ne (by omega)]
      exact a3 s hs
/-- what lay there before does not matter -/
theorem isF_two (co : Bool) {W : Nat → Nat} {n : Nat} (T0 Q0 T0' Q0' : Nat → Nat → Nat) (hn : n ≤ 16) (hW : ∀ k, k < n → W k ≤ 99) : ∀ i, i ≤ n → (∀ s, (isF co W T0 Q0 i).2.1 s = (isF co W T0' Q0' i).2.1 s) ∧ (∀ s d, d < (isF co W T0 Q0 i).2.1 s → (isF co W T0 Q0 i).1 s d = (isF co W T0' Q0' i).1 s d) ∧ (∀ s d, d < (isF co W T0 Q0 i).2.1 s → (isF co W T0 Q0 i).2.2.1 s d = (isF co W T0' Q0' i).2.2.1 s d) ∧ (isF co W T0 Q0 i).2.2.2 = (isF co W T0' Q0' i).2.2.2 := by
  intro i
  induction i with
  | zero => intro _; exact ⟨fun _ => rfl, (fun _ _ h => by cases h), (fun _ _ h => by cases h), rfl⟩
  | succ i ih =>
    intro hi
    obtain ⟨a1, a2, a3, a4⟩ := ih (by omega)
    obtain ⟨c1, c2, c3, c4⟩ := isF_ok co (lo := 0) (hi := 99) T0 Q0 hn (fun k hk => ⟨Nat.zero_le _, hW k hk⟩) i (by omega)
    obtain ⟨b1, b2, b3, b4⟩ := inS_ok (lo := 0) (hi := 99) co (x := W i) c1 c2 c3 (by omega) (Nat.zero_le _) (hW i (by omega)) c4
    have eO : (isF co W T0 Q0 i).2.1 = (isF co W T0' Q0' i).2.1 := funext a1
    have h15 : (isF co W T0 Q0 i).2.1 15 = 0 := by
      by_cases q : (isF co W T0 Q0 i).2.1 15 = 0
      · exact q
      · have := boxes_low c1.1 (show 0 < (isF co W T0 Q0 i).2.1 15 by omega) 16 (by omega)
        omega
    have two : (inS co (isF co W T0 Q0 i).1 (isF co W T0 Q0 i).2.1 (W i)).2.2 = (inS co (isF co W T0' Q0' i).1 (isF co W T0' Q0' i).2.1 (W i)).2.2 ∧ (∀ s, (inS co (isF co W T0 Q0 i).1 (isF co W T0 Q0 i).2.1 (W i)).2.1 s = (inS co (isF co W T0' Q0' i).1 (isF co W T0' Q0' i).2.1 (W i)).2.1 s) ∧ ∀ s d, d < (inS co (isF co W T0 Q0 i).1 (isF co W T0 Q0 i).2.1 (W i)).2.1 s → (inS co (isF co W T0 Q0 i).1 (isF co W T0 Q0 i).2.1 (W i)).1 s d = (inS co (isF co W T0' Q0' i).1 (isF co W T0' Q0' i).2.1 (W i)).1 s d := by
      unfold inS
      cases co with
      | true =>
        rw [if_pos rfl, if_pos rfl]
        obtain ⟨e1, e2⟩ := adC_two 24 (isF true W T0 Q0 i).1 (isF true W T0' Q0' i).1 (isF true W T0 Q0 i).2.1 0 (W i) a2
        rw [← eO]
        exact ⟨by rw [e1], fun s => by rw [e1], e2⟩
      | false =>
        rw [if_neg (by decide), if_neg (by decide)]
        exact addF_two h15 (by rw [← eO]; exact h15) a1 a2
    obtain ⟨t1, t2, t3⟩ := two
    refine ⟨t2, t3, fun s d hd => ?_, t1⟩
    have hd' : d < (inS co (isF co W T0 Q0 i).1 (isF co W T0 Q0 i).2.1 (W i)).2.1 s := hd
    rw [b2] at hd'
    show upT _ _ _ _ s d = upT _ _ _ _ s d
    rw [← t1, ← eO]
    generalize (inS co (isF co W T0 Q0 i).1 (isF co W T0 Q0 i).2.1 (W i)).2.2 = q at *
    by_cases e2 : s = q ∧ d = (isF co W T0 Q0 i).2.1 q
    · rw [e2.1, e2.2, upT_at, upT_at]
    · rw [upT_ne e2, upT_ne e2]
      apply a3
      by_cases e3 : s = q
      · rw [e3] at hd' e2 ⊢
        rw [upL_at] at hd'
        omega
      · rw [upL_ne e3] at hd'
        exact hd'
end ISF2
