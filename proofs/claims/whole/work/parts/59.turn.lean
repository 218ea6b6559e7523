section TURN
/-- the turn: slides out of the corner, the freed boxes get the letters from k down -/
def evF : Nat → (Nat → Nat → Nat) → (Nat → Nat) → (Nat → Nat → Nat) → (Nat → Nat → Nat) × (Nat → Nat) × (Nat → Nat → Nat)
  | 0, T, O, E => (T, O, E)
  | k + 1, T, O, E => evF k (slF O 40 T 0 0).1 (upL O (slF O 40 T 0 0).2.1 (slF O 40 T 0 0).2.2) (upT E (slF O 40 T 0 0).2.1 (slF O 40 T 0 0).2.2 (k + 1))
theorem evac_run {n : Nat} {w : List Nat} {O0 : Nat → Nat} (hw : ∀ a ∈ w, 1 ≤ a ∧ a ≤ n) (hall : ∀ a, 1 ≤ a → a ≤ n → a ∈ w) (hnd : w.Nodup) : ∀ (k i : Nat) (T : Nat → Nat → Nat) (O : Nat → Nat) (E : Nat → Nat → Nat), i + k = n → (∀ s, O s ≤ 24) → (∀ s, 16 ≤ s → O s = 0) → fil T I0 O → KQ (gtf i w) (rdF (tabS T I0 O) 0 16) → (∀ s d, O s ≤ d → d < O0 s → (insF T0 (star n w) s)[d]? = some (E s d)) → ∀ s d, d < O0 s → (insF T0 (star n w) s)[d]? = some ((evF k T O E).2.2 s d) := by
  intro k
  induction k with
  | zero =>
    intro i T O E hik hC hN hf hK hE s d hd
    have e : i = n := by omega
    subst e
    refine hE s d ?_ hd
    have q := tabS_known hN hf hK
    have z : gtf i w = [] := List.filter_eq_nil_iff.mpr (fun a ha => by have := hw a ha; simp; omega)
    rw [z, insF_nil] at q
    have q2 := congrArg List.length (congrFun q s)
    have q3 : (tabS T I0 O s).length = O s - 0 := seg_len _ _ _
    rw [q3] at q2
    simp at q2
    omega
  | succ k ih =>
    intro i T O E hik hC hN hf hK hE
    obtain ⟨T', r', c', e1, e2, e3, e4⟩ := evac_one (n := 40) (C := 24) hC hN (by omega) hf hK hnd (hall (i + 1) (by omega) (by omega))
    have l1 := evac_lens hN hf hK hw (by omega)
    have hN' : ∀ s, 16 ≤ s → upL O r' c' s = 0 := fun s hs => by
      have q : s ≠ r' := fun q => by subst q; have := hN s hs; omega
      rw [upL_ne q]; exact hN s hs
    have hC' : ∀ s, upL O r' c' s ≤ 24 := fun s => by
      by_cases q : s = r'
      · subst q; rw [upL_at]; have := hC s; omega
      · rw [upL_ne q]; exact hC s
    have l2 := evac_lens (i := i + 1) hN' e3 e4 hw (by omega)
    simp only [evF, e1]
    refine ih (i + 1) T' _ _ (by omega) hC' hN' e3 e4 (fun s d h1 h2 => ?_)
    by_cases q : s = r' ∧ d = c'
    · obtain ⟨rfl, rfl⟩ := q
      rw [upT_at]
      have m1 := l1 s
      have m2 := l2 s
      rw [upL_at] at m2
      rw [e2, show n - i = k + 1 by omega] at m1
      rw [show n - (i + 1) = k by omega] at m2
      exact srt_box (insF_srt T0_srt s) m2 m1
    · rw [upT_ne q]
      refine hE s d ?_ h2
      by_cases q2 : s = r'
      · subst q2
        rw [upL_at] at h1
        omega
      · rwa [upL_ne q2] at h1
/-- the turn of a straight standard tableau is the tableau of the turned reading -/
theorem evac_all {n : Nat} {T : Nat → Nat → Nat} {O : Nat → Nat} (hC : ∀ s, O s ≤ 24) (hN : ∀ s, 16 ≤ s → O s = 0) (hf : fil T I0 O) (hw : ∀ a ∈ rdF (tabS T I0 O) 0 16, 1 ≤ a ∧ a ≤ n) (hall : ∀ a, 1 ≤ a → a ≤ n → a ∈ rdF (tabS T I0 O) 0 16) (hnd : (rdF (tabS T I0 O) 0 16).Nodup) : insF T0 (star n (rdF (tabS T I0 O) 0 16)) = tabS (evF n T O T).2.2 I0 O := by
  have z : gtf 0 (rdF (tabS T I0 O) 0 16) = rdF (tabS T I0 O) 0 16 := List.filter_eq_self.mpr (fun a ha => by have := (hw a ha).1; exact decide_eq_true (by omega))
  have h := evac_run (O0 := O) hw hall hnd n 0 T O T (by omega) hC hN hf (by rw [z]; exact KQ.rf _) (fun s d h1 h2 => by omega)
  funext s
  have len : (insF T0 (star n (rdF (tabS T I0 O) 0 16)) s).length = O s := by
    rw [star_shape hw, tabS_ins hN hf]
    have := seg_len (T s) (O s - 0) 0
    exact this
  refine List.ext_getElem? (fun d => ?_)
  by_cases c : d < O s
  · rw [h s d c]
    have seg_get : ∀ (f : Nat → Nat) (n a i : Nat), i < n → (seg f a n)[i]? = some (f (a + i)) := by
      intro f n
      induction n with
      | zero => intro a i h; omega
      | succ n ih =>
        intro a i hi
        cases i with
        | zero => rfl
        | succ i =>
          show (seg f (a + 1) n)[i]? = _
          rw [ih (a + 1) i (by omega), show a + 1 + i = a + (i + 1) by omega]
    have q := seg_get ((evF n T O T).2.2 s) (O s - 0) 0 d (by omega)
    rw [Nat.zero_add] at q
    exact q.symm
  · rw [List.getElem?_eq_none (by omega), List.getElem?_eq_none]
    show (seg _ 0 (O s - 0)).length ≤ d
    rw [seg_len]
    omega
end TURN
