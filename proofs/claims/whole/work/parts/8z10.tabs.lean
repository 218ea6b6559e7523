section TABS
theorem seg_srt_inv {f : Nat → Nat} : ∀ (n a : Nat), srt (seg f a n) → ∀ i j, a ≤ i → i < j → j < a + n → f i ≤ f j := by
  intro n
  induction n with
  | zero => intro a _ i j h1 h2 h3; omega
  | succ n ih =>
    intro a h i j h1 h2 h3
    have h' : (∀ y, y ∈ seg f (a + 1) n → f a ≤ y) ∧ srt (seg f (a + 1) n) := List.pairwise_cons.mp h
    by_cases q : i = a
    · subst q
      apply h'.1
      have : ∀ (n b : Nat), b ≤ j → j < b + n → f j ∈ seg f b n := by
        intro n
        induction n with
        | zero => intro b h1 h2; omega
        | succ n ih =>
          intro b h1 h2
          show f j ∈ f b :: seg f (b + 1) n
          by_cases e : j = b
          · rw [e]; exact List.mem_cons_self
          · exact List.mem_cons_of_mem _ (ih (b + 1) (by omega) (by omega))
      exact this n (i + 1) (by omega) (by omega)
    · exact ih (a + 1) h'.2 i j (by omega) h2 (by omega)
theorem seg_dom_inv {f g : Nat → Nat} : ∀ (m n a : Nat), dom (seg f a n) (seg g a m) → m ≤ n ∧ ∀ i, a ≤ i → i < a + m → f i < g i := by
  intro m
  induction m with
  | zero => intro n a _; exact ⟨Nat.zero_le _, fun i h1 h2 => by omega⟩
  | succ m ih =>
    intro n a h
    cases n with
    | zero => exact absurd h (fun q => q)
    | succ n =>
      have h' : f a < g a ∧ dom (seg f (a + 1) n) (seg g (a + 1) m) := h
      obtain ⟨i1, i2⟩ := ih n (a + 1) h'.2
      refine ⟨by omega, fun i q1 q2 => ?_⟩
      by_cases e : i = a
      · rw [e]; exact h'.1
      · exact i2 i (by omega) (by omega)
/-- a straight tableau -/
def okT (T : Nat → Nat → Nat) (O : Nat → Nat) : Prop := par O ∧ (∀ r c, c + 1 < O r → T r c ≤ T r (c + 1)) ∧ (∀ r c, c < O (r + 1) → T r c < T (r + 1) c)
theorem okT_of {T : Nat → Nat → Nat} {O : Nat → Nat} (h1 : rsrt (tabS T I0 O)) (h2 : cstr (tabS T I0 O)) : okT T O := by
  have d : ∀ s, O (s + 1) ≤ O s ∧ ∀ i, i < O (s + 1) → T s i < T (s + 1) i := by
    intro s
    obtain ⟨a, b⟩ := seg_dom_inv _ _ _ (h2 s)
    exact ⟨a, fun i hi => b i (Nat.zero_le _) (by rw [Nat.zero_add]; exact hi)⟩
  refine ⟨fun s => (d s).1, fun r c q => ?_, fun r c q => (d r).2 c q⟩
  exact seg_srt_inv _ _ (h1 r) c (c + 1) (Nat.zero_le _) (by omega) (by rw [Nat.zero_add]; exact q)
theorem tabS_eq {T T' : Nat → Nat → Nat} {O O' : Nat → Nat} (h : tabS T I0 O = tabS T' I0 O') : (∀ s, O s = O' s) ∧ ∀ s d, d < O s → T s d = T' s d := by
  have l : ∀ s, O s = O' s := fun s => by
    have := congrArg List.length (congrFun h s)
    rwa [tabS_len, tabS_len] at this
  refine ⟨l, fun s d hd => ?_⟩
  have e : seg (T s) 0 (O s) = seg (T' s) 0 (O s) := by
    have := congrFun h s
    have e2 : tabS T' I0 O' s = seg (T' s) 0 (O s) := by show seg (T' s) 0 (O' s - 0) = _; rw [← l s]; rfl
    exact Eq.trans this e2
  have inv : ∀ (n a : Nat), seg (T s) a n = seg (T' s) a n → ∀ i, a ≤ i → i < a + n → T s i = T' s i := by
    intro n
    induction n with
    | zero => intro a _ i h1 h2; omega
    | succ n ih =>
      intro a h i h1 h2
      have h' : T s a :: seg (T s) (a + 1) n = T' s a :: seg (T' s) (a + 1) n := h
      by_cases q : i = a
      · rw [q]; exact (List.cons.inj h').1
      · exact ih (a + 1) (List.cons.inj h').2 i (by omega) (by omega)
  exact inv (O s) 0 e d (Nat.zero_le _) (by omega)
theorem tabS_same {T T' : Nat → Nat → Nat} {O O' : Nat → Nat} (l : ∀ s, O s = O' s) (h : ∀ s d, d < O s → T s d = T' s d) : tabS T I0 O = tabS T' I0 O' := by
  funext s
  show seg (T s) 0 (O s - 0) = seg (T' s) 0 (O' s - 0)
  rw [← l s]
  exact seg_congr _ _ (fun i _ h2 => h s i (by omega))
/-- a box more in one row -/
theorem addF_row : ∀ (m : Nat) (T : Nat → Nat → Nat) (O : Nat → Nat) (r x : Nat), (addF m T O r x).2.1 = upL O (addF m T O r x).2.2 (O (addF m T O r x).2.2 + 1) := by
  intro m
  induction m with
  | zero => intro T O r x; rfl
  | succ m ih =>
    intro T O r x
    unfold addF
    by_cases q : fgF (T r) x (O r) (O r) 0 < O r
    · rw [if_pos q]; exact ih _ _ _ _
    · rw [if_neg q]
/-- both sides insert alike -/
theorem addF_two {T T' : Nat → Nat → Nat} {O O' : Nat → Nat} {m m' x : Nat} (h0 : O m = 0) (h0' : O' m' = 0) (l : ∀ s, O s = O' s) (h : ∀ s d, d < O s → T s d = T' s d) : (addF m T O 0 x).2.2 = (addF m' T' O' 0 x).2.2 ∧ (∀ s, (addF m T O 0 x).2.1 s = (addF m' T' O' 0 x).2.1 s) ∧ ∀ s d, d < (addF m T O 0 x).2.1 s → (addF m T O 0 x).1 s d = (addF m' T' O' 0 x).1 s d := by
  have e : tabS (addF m T O 0 x).1 I0 (addF m T O 0 x).2.1 = tabS (addF m' T' O' 0 x).1 I0 (addF m' T' O' 0 x).2.1 := by
    rw [addF_all h0, addF_all h0', tabS_same l h]
  obtain ⟨e1, e2⟩ := tabS_eq e
  refine ⟨?_, e1, e2⟩
  have r1 := addF_row m T O 0 x
  have r2 := addF_row m' T' O' 0 x
  have q := e1 (addF m T O 0 x).2.2
  rw [r1, r2, upL_at] at q
  by_cases c : (addF m T O 0 x).2.2 = (addF m' T' O' 0 x).2.2
  · exact c
  · rw [upL_ne c, ← l] at q
    omega
end TABS
