section SUBS
/-- how many ways rows i and on can go on, row i being at most v -/
def enR (a : Nat) (nx : Nat → Nat) : Nat → Nat
  | 0 => 1
  | v + 1 => enR a nx v + (if v + 1 ≤ a then nx (v + 1) else 0)
def en (S : Nat → Nat) : Nat → Nat → Nat → Nat
  | 0, _, _ => 1
  | m + 1, i, v => enR (S i) (en S m (i + 1)) v
theorem en_z (S : Nat → Nat) (m i : Nat) : en S m i 0 = 1 := by cases m <;> rfl
theorem en_ss (S : Nat → Nat) (m i v : Nat) : en S (m + 1) i (v + 1) = en S (m + 1) i v + (if v + 1 ≤ S i then en S m (i + 1) (v + 1) else 0) := rfl
theorem en_min (S : Nat → Nat) (m i : Nat) : ∀ v, en S (m + 1) i v = en S (m + 1) i (min v (S i)) := by
  intro v
  induction v with
  | zero => simp
  | succ v ih =>
    by_cases c : v + 1 ≤ S i
    · rw [Nat.min_eq_left c]
    · simp only [en_ss]
      rw [if_neg c, Nat.add_zero, ih, Nat.min_eq_right (by omega), Nat.min_eq_right (by omega)]
/-- the number of shapes before g, rows i and on -/
def rkt (S g : Nat → Nat) : Nat → Nat → Nat
  | 0, _ => 0
  | m + 1, i => (if 0 < g i then en S (m + 1) i (g i - 1) else 0) + rkt S g m (i + 1)
theorem rkt_zero {S g : Nat → Nat} : ∀ m i, (∀ k, i ≤ k → g k = 0) → rkt S g m i = 0 := by
  intro m
  induction m with
  | zero => intro i _; rfl
  | succ m ih =>
    intro i h
    simp only [rkt]
    rw [h i (Nat.le_refl _), if_neg (by omega), ih (i + 1) (fun k hk => h k (by omega))]
theorem rkt_cong {S g h : Nat → Nat} : ∀ m i, (∀ k, i ≤ k → g k = h k) → rkt S g m i = rkt S h m i := by
  intro m
  induction m with
  | zero => intro i _; rfl
  | succ m ih =>
    intro i e
    simp only [rkt]
    rw [e i (Nat.le_refl _), ih (i + 1) (fun k hk => e k (by omega))]
/-- the last ones -/
theorem rkt_max {S g : Nat → Nat} : ∀ (m i b : Nat), (∀ k, i ≤ k → k < i + m → g k = min (if k = i then b else g (k - 1)) (S k)) → rkt S g m i + 1 = en S m i b := by
  intro m
  induction m with
  | zero => intro i b _; rfl
  | succ m ih =>
    intro i b h
    have h0 := h i (Nat.le_refl _) (by omega)
    rw [if_pos rfl] at h0
    simp only [rkt]
    have t := ih (i + 1) (g i) (fun k a b' => by
      have := h k (by omega) (by omega)
      rw [if_neg (by omega)] at this
      by_cases e : k = i + 1
      · subst e; rw [if_pos rfl]; rw [show i + 1 - 1 = i by omega] at this; exact this
      · rw [if_neg e]; exact this)
    rw [en_min S m i b, ← h0]
    by_cases c : 0 < g i
    · rw [if_pos c]
      obtain ⟨v, hv⟩ : ∃ v, g i = v + 1 := ⟨g i - 1, by omega⟩
      rw [hv] at t ⊢
      simp only [en_ss, Nat.add_sub_cancel]
      rw [if_pos (by omega)]
      omega
    · rw [if_neg c]
      have : g i = 0 := by omega
      rw [this] at t ⊢
      rw [en_z] at t ⊢
      omega
theorem rkt_lt {S g : Nat → Nat} (hp : par g) (hs : ∀ k, g k ≤ S k) : ∀ (m i b : Nat), g i ≤ b → rkt S g m i + 1 ≤ en S m i b := by
  intro m
  induction m with
  | zero => intro i b _; exact Nat.le_refl _
  | succ m ih =>
    intro i b h
    have mono : ∀ v w, v ≤ w → en S (m + 1) i v ≤ en S (m + 1) i w := by
      intro v w
      induction w with
      | zero => intro q; rw [show v = 0 by omega]; exact Nat.le_refl _
      | succ w ihw =>
        intro q
        by_cases e : v = w + 1
        · rw [e]; exact Nat.le_refl _
        · have := ihw (by omega)
          simp only [en_ss]
          omega
    have t := ih (i + 1) (g i) (hp i)
    refine Nat.le_trans ?_ (mono (g i) b h)
    simp only [rkt]
    by_cases c : 0 < g i
    · rw [if_pos c]
      obtain ⟨v, hv⟩ : ∃ v, g i = v + 1 := ⟨g i - 1, by omega⟩
      have := hs i
      rw [hv] at t ⊢
      simp only [en_ss, Nat.add_sub_cancel]
      rw [if_pos (by omega)]
      omega
    · rw [if_neg c]
      have : g i = 0 := by omega
      rw [this] at t ⊢
      rw [en_z] at t ⊢
      omega
theorem en_mono (S : Nat → Nat) (m i : Nat) : ∀ v w, v ≤ w → en S m i v ≤ en S m i w := by
  intro v w
  induction w with
  | zero => intro q; rw [show v = 0 by omega]; exact Nat.le_refl _
  | succ w ihw =>
    intro q
    by_cases e : v = w + 1
    · rw [e]; exact Nat.le_refl _
    · have := ihw (by omega)
      cases m with
      | zero => exact Nat.le_refl _
      | succ m => simp only [en_ss]; omega
/-- shapes have their own numbers -/
theorem rkt_inj {S g h : Nat → Nat} (gp : par g) (gs : ∀ k, g k ≤ S k) (hp : par h) (hs : ∀ k, h k ≤ S k) : ∀ (m i : Nat), rkt S g m i = rkt S h m i → ∀ k, i ≤ k → k < i + m → g k = h k := by
  have key : ∀ (g h : Nat → Nat), par g → (∀ k, g k ≤ S k) → ∀ (m i : Nat), g i < h i → rkt S g (m + 1) i < rkt S h (m + 1) i := by
    intro g h gp gs m i hlt
    have a := rkt_lt gp gs (m + 1) i (g i) (Nat.le_refl _)
    have b := en_mono S (m + 1) i (g i) (h i - 1) (by omega)
    have c : en S (m + 1) i (h i - 1) ≤ rkt S h (m + 1) i := by
      simp only [rkt]
      rw [if_pos (by omega)]
      omega
    omega
  intro m
  induction m with
  | zero => intro i _ k a b; omega
  | succ m ih =>
    intro i e k a b
    have e0 : g i = h i := by
      rcases Nat.lt_trichotomy (g i) (h i) with q | q | q
      · have := key g h gp gs m i q; omega
      · exact q
      · have := key h g hp hs m i q; omega
    by_cases c : k = i
    · rw [c]; exact e0
    · simp only [rkt] at e
      rw [e0] at e
      exact ih (i + 1) (by omega) k (by omega) (by omega)
/-- one box less -/
theorem rkt_dcb {S g : Nat → Nat} (gs : ∀ k, g k ≤ S k) : ∀ (m i j d : Nat), i + d = j → d < m → 0 < g j → rkt S (dcb g j) m i + en S (m - d - 1) (j + 1) (g j - 1) = rkt S g m i := by
  intro m
  induction m with
  | zero => intro i j d _ h; omega
  | succ m ih =>
    intro i j d h1 h2 h3
    simp only [rkt]
    by_cases c : d = 0
    · subst c
      have hij : i = j := by omega
      subst hij
      have tail : rkt S (dcb g i) m (i + 1) = rkt S g m (i + 1) := rkt_cong m (i + 1) (fun k hk => by unfold dcb; rw [upL_ne (by omega)])
      rw [tail, if_pos h3]
      have e0 : dcb g i i = g i - 1 := by unfold dcb; rw [upL_at]
      rw [e0, show m + 1 - 0 - 1 = m by omega]
      have := gs i
      by_cases c1 : 0 < g i - 1
      · rw [if_pos c1]
        obtain ⟨v, hv⟩ : ∃ v, g i = v + 2 := ⟨g i - 2, by omega⟩
        rw [hv, show v + 2 - 1 - 1 = v by omega, show v + 2 - 1 = v + 1 by omega]
        simp only [en_ss]
        rw [if_pos (by omega)]
        omega
      · rw [if_neg c1, show g i - 1 = 0 by omega, en_z, en_z]
        omega
    · have e0 : dcb g j i = g i := by unfold dcb; rw [upL_ne (by omega)]
      rw [e0]
      have := ih (i + 1) j (d - 1) (by omega) (by omega) h3
      rw [show m - (d - 1) - 1 = m + 1 - d - 1 by omega] at this
      omega
/-- no shape of at most 16 boxes has more than 181 within -/
def sub8 (l : List Nat) : Nat := en (fun k => (l.reverse).getD k 0) 8 0 ((l.reverse).getD 0 0)
theorem sub8_ok : ∀ n : Fin 17, ∀ l ∈ gwl 8 0 n.val, sub8 l ≤ 181 := by decide +kernel
theorem en_cong {S U : Nat → Nat} : ∀ (m i v : Nat), (∀ k, i ≤ k → k < i + m → S k = U k) → en S m i v = en U m i v := by
  intro m
  induction m with
  | zero => intro i v _; rfl
  | succ m ih =>
    intro i v h
    induction v with
    | zero => rfl
    | succ v ihv =>
      simp only [en_ss]
      rw [ihv, h i (Nat.le_refl _) (by omega), ih (i + 1) (v + 1) (fun k a b => h k (by omega) (by omega))]
theorem rev_tup (f : Nat → Nat) : (tupL (fun t => f (7 - t)) 0 8).reverse = tupL f 0 8 := rfl
theorem within_le {S : Nat → Nat} (hS : okS S) (hb : boxes S 8 ≤ 16) : en S 8 0 (S 0) ≤ 181 := by
  have hm : tupL (fun t => S (7 - t)) 0 8 ∈ gwl 8 0 (boxes S 8) := by
    apply gwl_mem
    · intro j _ hj
      have := hS.1 (7 - (j + 1))
      rw [show 7 - (j + 1) + 1 = 7 - j by omega] at this
      exact this
    · intro _; exact Nat.zero_le _
    · show 0 + S 7 + S 6 + S 5 + S 4 + S 3 + S 2 + S 1 + S 0 = 0 + S 0 + S 1 + S 2 + S 3 + S 4 + S 5 + S 6 + S 7
      omega
  have := sub8_ok ⟨boxes S 8, by omega⟩ _ hm
  unfold sub8 at this
  rw [rev_tup] at this
  have e0 : (tupL S 0 8).getD 0 0 = S 0 := rfl
  rw [e0] at this
  rw [en_cong (U := fun k => (tupL S 0 8).getD k 0) 8 0 (S 0) (fun k _ hk => by rw [tupL_get S 8 0 k (by omega), Nat.zero_add])]
  exact this
end SUBS
