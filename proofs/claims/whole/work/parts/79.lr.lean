section LRC
/-- sums over the numbers at the given places, one after the other -/
def csum (M : Nat) (g : (Nat → Nat) → Nat) : List Nat → (Nat → Nat) → Nat
  | [], a => g a
  | p :: ps, a => sumN (fun v => csum M g ps (upL a p v)) M
theorem csum_app {M : Nat} (g : (Nat → Nat) → Nat) : ∀ (ps qs : List Nat) (a : Nat → Nat), csum M g (ps ++ qs) a = csum M (fun b => csum M g qs b) ps a := by
  intro ps
  induction ps with
  | nil => intro qs a; rfl
  | cons p ps ih =>
    intro qs a
    simp only [List.cons_append, csum]
    exact sumN_congr (fun v _ => ih _ _)
theorem csum_cong {M : Nat} {g h : (Nat → Nat) → Nat} : ∀ (ps : List Nat) (a : Nat → Nat), (∀ b, (∀ j, j ∉ ps → b j = a j) → g b = h b) → csum M g ps a = csum M h ps a := by
  intro ps
  induction ps with
  | nil => intro a e; exact e a (fun _ _ => rfl)
  | cons p ps ih =>
    intro a e
    simp only [csum]
    apply sumN_congr
    intro v _
    apply ih
    intro b hb
    apply e
    intro j hj
    rw [List.mem_cons, not_or] at hj
    rw [hb j hj.2, upL_ne hj.1]
theorem csum_zero {M : Nat} {g : (Nat → Nat) → Nat} : ∀ (ps : List Nat) (a : Nat → Nat), (∀ b, (∀ j, j ∉ ps → b j = a j) → g b = 0) → csum M g ps a = 0 := by
  intro ps
  induction ps with
  | nil => intro a e; exact e a (fun _ _ => rfl)
  | cons p ps ih =>
    intro a e
    simp only [csum]
    apply sumN_zero
    intro v _
    apply ih
    intro b hb
    apply e
    intro j hj
    rw [List.mem_cons, not_or] at hj
    rw [hb j hj.2, upL_ne hj.1]
theorem upL_comm (a : Nat → Nat) {p q : Nat} (h : p ≠ q) (v w : Nat) : upL (upL a p v) q w = upL (upL a q w) p v := by
  funext j
  by_cases h1 : j = q
  · subst h1; rw [upL_at, upL_ne (fun e => h e.symm), upL_at]
  · rw [upL_ne h1]
    by_cases h2 : j = p
    · subst h2; rw [upL_at, upL_at]
    · rw [upL_ne h2, upL_ne h2, upL_ne h1]
theorem csum_perm {M : Nat} (g : (Nat → Nat) → Nat) {ps qs : List Nat} (h : List.Perm ps qs) : ∀ a, csum M g ps a = csum M g qs a := by
  induction h with
  | nil => intro a; rfl
  | cons p _ ih => intro a; simp only [csum]; exact sumN_congr (fun v _ => ih _)
  | swap p q l =>
    intro a
    simp only [csum]
    by_cases e : p = q
    · subst e; rfl
    · rw [sumN_swap]
      exact sumN_congr (fun v _ => sumN_congr (fun w _ => by rw [upL_comm a e]))
  | trans _ _ h1 h2 => intro a; rw [h1, h2]
theorem csum_map {M : Nat} {t : Nat → Nat} (ht : ∀ n, t (t n) = n) (g : (Nat → Nat) → Nat) : ∀ (ps : List Nat) (a : Nat → Nat), csum M (fun b => g (fun n => b (t n))) (ps.map t) a = csum M g ps (fun n => a (t n)) := by
  intro ps
  induction ps with
  | nil => intro a; rfl
  | cons p ps ih =>
    intro a
    simp only [List.map_cons, csum]
    apply sumN_congr
    intro v _
    rw [ih]
    congr 1
    funext n
    by_cases h : n = p
    · subst h; rw [upL_at, upL_at]
    · rw [upL_ne h, upL_ne (fun e => h (by rw [← ht n, e, ht]))]
/-- what stands in column j above row i; what stands in row i left of column j -/
def colS (M : Nat → Nat) (j i : Nat) : Nat := sumN (fun s => M (8 * s + j)) i
def rowS (M : Nat → Nat) (i j : Nat) : Nat := sumN (fun x => M (8 * i + x)) j
/-- whether a letter j may come into row i, where s boxes are left and u of its kind stand already -/
def cnd (A B C : Nat → Nat) (i j s u : Nat) (M : Nat → Nat) : Prop := colS M j i + u < C j ∧ (j = 0 ∨ B j + colS M j i + u < B (j - 1) + colS M (j - 1) i) ∧ (i = 0 ∨ A i + s ≤ A (i - 1) + rowS M (i - 1) j)
theorem colS_cong {M N : Nat → Nat} {i j : Nat} (hj : j < 8) (h : ∀ n, n < 8 * i → M n = N n) : colS M j i = colS N j i := sumN_congr (fun s hs => h _ (by omega))
theorem rowS_cong {M N : Nat → Nat} {i j : Nat} (h : ∀ n, 8 * i ≤ n → n < 8 * i + j → M n = N n) : rowS M i j = rowS N i j := sumN_congr (fun x hx => h _ (by omega) (by omega))
theorem cnd_cong {A B C : Nat → Nat} {i j s u : Nat} {M N : Nat → Nat} (hj : j < 8) (h : ∀ n, n < 8 * i → M n = N n) : cnd A B C i j s u M ↔ cnd A B C i j s u N := by
  unfold cnd
  rw [colS_cong hj h, colS_cong (j := j - 1) (by omega) h]
  by_cases i0 : i = 0
  · simp [i0]
  · rw [rowS_cong (M := M) (N := N) (i := i - 1) (j := j) (fun n a b => h n (by omega))]
/-- a row by the numbers of its letters -/
noncomputable def rowN (A B C : Nat → Nat) (i : Nat) (next : (Nat → Nat) → Nat) : Nat → Nat → (Nat → Nat) → Nat
  | 0, s, M => ivN (s = 0) (next M)
  | j + 1, s, M => sumN (fun n => ivN (n ≤ s ∧ ∀ t, t < n → cnd A B C i j (s - t) t M) (rowN A B C i next j (s - n) (upL M (8 * i + j) n))) KM
/-- a row box by box -/
noncomputable def boxN (A B C : Nat → Nat) (i : Nat) (next : (Nat → Nat) → Nat) : Nat → Nat → (Nat → Nat) → Nat
  | 0, _, M => next M
  | s + 1, j, M => sumN (fun x => ivN (cnd A B C i x (s + 1) (M (8 * i + x)) M) (boxN A B C i next s (x + 1) (upL M (8 * i + x) (M (8 * i + x) + 1)))) j
theorem upL_self {M : Nat → Nat} {p v : Nat} (h : M p = v) : upL M p v = M := by
  funext j
  by_cases e : j = p
  · subst e; rw [upL_at, h]
  · rw [upL_ne e]
theorem upL_up (M : Nat → Nat) (p v w : Nat) : upL (upL M p v) p w = upL M p w := by
  funext j
  by_cases e : j = p
  · subst e; rw [upL_at, upL_at]
  · rw [upL_ne e, upL_ne e, upL_ne e]
theorem rowN_zero {A B C : Nat → Nat} {i : Nat} {next : (Nat → Nat) → Nat} : ∀ (j : Nat) (M : Nat → Nat), (∀ x, x < j → M (8 * i + x) = 0) → rowN A B C i next j 0 M = next M := by
  intro j
  induction j with
  | zero => intro M _; exact ivN_pos rfl
  | succ j ih =>
    intro M h
    simp only [rowN]
    rw [sumN_single (i0 := 0) (by unfold KM; omega) (fun n _ hne => ivN_neg (fun q => hne (by omega)))]
    rw [ivN_pos ⟨Nat.le_refl _, fun t ht => by omega⟩, upL_self (h j (by omega))]
    exact ih M (fun x hx => h x (by omega))
theorem boxN_both {A B C : Nat → Nat} {i : Nat} {next : (Nat → Nat) → Nat} : ∀ (s : Nat), s < KM → (∀ (j : Nat) (M : Nat → Nat), j ≤ 8 → (∀ x, x < j → M (8 * i + x) = 0) → boxN A B C i next s j M = rowN A B C i next j s M ∨ (s = 0 ∧ boxN A B C i next s j M = rowN A B C i next j s M)) ∧ (∀ (j : Nat) (M : Nat → Nat), j < 8 → (∀ x, x < j → M (8 * i + x) = 0) → boxN A B C i next s (j + 1) M = sumN (fun n => ivN (n ≤ s ∧ ∀ t, t < n → cnd A B C i j (s - t) (M (8 * i + j) + t) M) (rowN A B C i next j (s - n) (upL M (8 * i + j) (M (8 * i + j) + n)))) KM) := by
  intro s
  induction s with
  | zero =>
    intro hs
    refine ⟨fun j M _ h => Or.inl ?_, fun j M hj h => ?_⟩
    · rw [rowN_zero j M h]; rfl
    · rw [sumN_single (i0 := 0) (by unfold KM; omega) (fun n _ hne => ivN_neg (fun q => hne (by omega)))]
      rw [ivN_pos ⟨Nat.le_refl _, fun t ht => by omega⟩, upL_self (M := M) (p := 8 * i + j) (v := M (8 * i + j) + 0) rfl]
      exact (rowN_zero j M h).symm
  | succ s ih =>
    intro hs
    obtain ⟨_, ih2⟩ := ih (by omega)
    have gen : ∀ (j : Nat), j ≤ 8 → (∀ (M : Nat → Nat), (∀ x, x < j → M (8 * i + x) = 0) → boxN A B C i next (s + 1) j M = rowN A B C i next j (s + 1) M) ∧ (j < 8 → ∀ (M : Nat → Nat), (∀ x, x < j → M (8 * i + x) = 0) → boxN A B C i next (s + 1) (j + 1) M = sumN (fun n => ivN (n ≤ s + 1 ∧ ∀ t, t < n → cnd A B C i j (s + 1 - t) (M (8 * i + j) + t) M) (rowN A B C i next j (s + 1 - n) (upL M (8 * i + j) (M (8 * i + j) + n)))) KM) := by
      have step : ∀ (j : Nat), j < 8 → (∀ (M : Nat → Nat), (∀ x, x < j → M (8 * i + x) = 0) → boxN A B C i next (s + 1) j M = rowN A B C i next j (s + 1) M) → (∀ (M : Nat → Nat), (∀ x, x < j → M (8 * i + x) = 0) → boxN A B C i next (s + 1) (j + 1) M = sumN (fun n => ivN (n ≤ s + 1 ∧ ∀ t, t < n → cnd A B C i j (s + 1 - t) (M (8 * i + j) + t) M) (rowN A B C i next j (s + 1 - n) (upL M (8 * i + j) (M (8 * i + j) + n)))) KM) := by
        intro j hj hrow M hM
        have e1 : boxN A B C i next (s + 1) (j + 1) M = boxN A B C i next (s + 1) j M + ivN (cnd A B C i j (s + 1) (M (8 * i + j)) M) (boxN A B C i next s (j + 1) (upL M (8 * i + j) (M (8 * i + j) + 1))) := rfl
        rw [e1, hrow M hM]
        obtain ⟨K, hK⟩ : ∃ K, KM = K + 1 := ⟨24, rfl⟩
        rw [hK, sumN_shift, ivN_pos (P := 0 ≤ s + 1 ∧ ∀ t, t < 0 → cnd A B C i j (s + 1 - t) (M (8 * i + j) + t) M) ⟨by omega, fun t ht => by omega⟩, upL_self (M := M) (p := 8 * i + j) (v := M (8 * i + j) + 0) rfl, Nat.sub_zero]
        congr 1
        by_cases k : cnd A B C i j (s + 1) (M (8 * i + j)) M
        · rw [ivN_pos k, ih2 j (upL M (8 * i + j) (M (8 * i + j) + 1)) hj (fun x hx => by rw [upL_ne (by omega)]; exact hM x hx), hK]
          rw [sumN_ext (m := K) (n := K + 1) (by omega) (fun n a b => ivN_neg (fun q => by omega))]
          apply sumN_congr
          intro n hn
          rw [upL_at, upL_up]
          have ec : (n ≤ s ∧ ∀ t, t < n → cnd A B C i j (s - t) (M (8 * i + j) + 1 + t) (upL M (8 * i + j) (M (8 * i + j) + 1))) ↔ (n + 1 ≤ s + 1 ∧ ∀ t, t < n + 1 → cnd A B C i j (s + 1 - t) (M (8 * i + j) + t) M) := by
            constructor
            · rintro ⟨q1, q2⟩
              refine ⟨by omega, fun t ht => ?_⟩
              by_cases t0 : t = 0
              · subst t0; exact k
              · have := q2 (t - 1) (by omega)
                rw [cnd_cong hj (N := M) (fun n hn => upL_ne (by omega)), show s - (t - 1) = s + 1 - t by omega, show M (8 * i + j) + 1 + (t - 1) = M (8 * i + j) + t by omega] at this
                exact this
            · rintro ⟨q1, q2⟩
              refine ⟨by omega, fun t ht => ?_⟩
              have := q2 (t + 1) (by omega)
              rw [cnd_cong hj (N := M) (fun n hn => upL_ne (by omega)), show s - t = s + 1 - (t + 1) by omega, show M (8 * i + j) + 1 + t = M (8 * i + j) + (t + 1) by omega]
              exact this
          by_cases w : n ≤ s ∧ ∀ t, t < n → cnd A B C i j (s - t) (M (8 * i + j) + 1 + t) (upL M (8 * i + j) (M (8 * i + j) + 1))
          · rw [ivN_pos w, ivN_pos (ec.mp w), show s + 1 - (n + 1) = s - n by omega, show M (8 * i + j) + 1 + n = M (8 * i + j) + (n + 1) by omega]
          · rw [ivN_neg w, ivN_neg (fun u => w (ec.mpr u))]
        · rw [ivN_neg k]
          symm
          apply sumN_zero
          intro n hn
          apply ivN_neg
          intro q
          exact k (q.2 0 (by omega))
      intro j
      induction j with
      | zero =>
        intro _
        have r0 : ∀ (M : Nat → Nat), (∀ x, x < 0 → M (8 * i + x) = 0) → boxN A B C i next (s + 1) 0 M = rowN A B C i next 0 (s + 1) M := by
          intro M _
          show 0 = ivN (s + 1 = 0) (next M)
          rw [ivN_neg (by omega)]
        exact ⟨r0, fun hj => step 0 hj r0⟩
      | succ j ihj =>
        intro hj
        have r1 : ∀ (M : Nat → Nat), (∀ x, x < j + 1 → M (8 * i + x) = 0) → boxN A B C i next (s + 1) (j + 1) M = rowN A B C i next (j + 1) (s + 1) M := by
          intro M hM
          rw [(ihj (by omega)).2 (by omega) M (fun x hx => hM x (by omega)), hM j (by omega)]
          simp only [rowN, Nat.zero_add]
        exact ⟨r1, fun hj2 => step (j + 1) hj2 r1⟩
    exact ⟨fun j M hj h => Or.inl ((gen j hj).1 M h), fun j M hj h => (gen j (by omega)).2 hj M h⟩
theorem boxN_row {A B C : Nat → Nat} {i : Nat} {next : (Nat → Nat) → Nat} {s : Nat} (hs : s < KM) {M : Nat → Nat} (hM : ∀ x, x < 8 → M (8 * i + x) = 0) : boxN A B C i next s 8 M = rowN A B C i next 8 s M := by
  rcases (boxN_both s hs).1 8 M (Nat.le_refl _) hM with h | h
  · exact h
  · exact h.2
/-- the places of a row, the last first -/
def rpl (i : Nat) : Nat → List Nat
  | 0 => []
  | j + 1 => (8 * i + j) :: rpl i j
theorem rpl_mem {i : Nat} : ∀ {j n : Nat}, n ∈ rpl i j ↔ 8 * i ≤ n ∧ n < 8 * i + j := by
  intro j
  induction j with
  | zero => intro n; simp [rpl]
  | succ j ih => intro n; simp only [rpl, List.mem_cons, ih]; omega
def RC (A B C : Nat → Nat) (i j s : Nat) (M : Nat → Nat) : Prop := rowS M i j = s ∧ ∀ x, x < j → ∀ t, t < M (8 * i + x) → cnd A B C i x (rowS M i (x + 1) - t) t M
theorem rowN_csum {A B C : Nat → Nat} {i : Nat} {next : (Nat → Nat) → Nat} : ∀ (j s : Nat) (M : Nat → Nat), j ≤ 8 → rowN A B C i next j s M = csum KM (fun N => ivN (RC A B C i j s N) (next N)) (rpl i j) M := by
  intro j
  induction j with
  | zero =>
    intro s M _
    show ivN (s = 0) (next M) = ivN (RC A B C i 0 s M) (next M)
    by_cases k : s = 0
    · rw [ivN_pos k, ivN_pos ⟨k.symm, fun x hx => by omega⟩]
    · rw [ivN_neg k, ivN_neg (fun q => k q.1.symm)]
  | succ j ih =>
    intro s M hj
    simp only [rowN, rpl, csum]
    apply sumN_congr
    intro n _
    rw [ih _ _ (by omega)]
    by_cases k : n ≤ s ∧ ∀ t, t < n → cnd A B C i j (s - t) t M
    · rw [ivN_pos k]
      apply csum_cong
      intro N hN
      have h1 : N (8 * i + j) = n := by rw [hN _ (fun q => by rw [rpl_mem] at q; omega), upL_at]
      have h2 : ∀ m, m < 8 * i → N m = M m := fun m hm => by rw [hN _ (fun q => by rw [rpl_mem] at q; omega), upL_ne (by omega)]
      have h3 : rowS N i (j + 1) = rowS N i j + n := by show sumN _ j + N (8 * i + j) = _; rw [h1]; rfl
      by_cases w : RC A B C i j (s - n) N
      · rw [ivN_pos w, ivN_pos]
        refine ⟨by rw [h3, w.1]; omega, fun x hx t ht => ?_⟩
        by_cases e : x = j
        · subst e
          rw [h1] at ht
          rw [h3, w.1, cnd_cong (by omega) h2, show s - n + n - t = s - t by omega]
          exact k.2 t ht
        · exact w.2 x (by omega) t ht
      · rw [ivN_neg w, ivN_neg]
        intro u
        apply w
        refine ⟨by have := u.1; rw [h3] at this; omega, fun x hx t ht => u.2 x (by omega) t ht⟩
    · rw [ivN_neg k]
      symm
      apply csum_zero
      intro N hN
      have h1 : N (8 * i + j) = n := by rw [hN _ (fun q => by rw [rpl_mem] at q; omega), upL_at]
      have h2 : ∀ m, m < 8 * i → N m = M m := fun m hm => by rw [hN _ (fun q => by rw [rpl_mem] at q; omega), upL_ne (by omega)]
      have h3 : rowS N i (j + 1) = rowS N i j + n := by show sumN _ j + N (8 * i + j) = _; rw [h1]; rfl
      apply ivN_neg
      intro u
      apply k
      refine ⟨by have := u.1; omega, fun t ht => ?_⟩
      have := u.2 j (by omega) t (by rw [h1]; exact ht)
      rw [u.1, cnd_cong (by omega) h2] at this
      exact this
/-- all rows, n of them being left -/
noncomputable def allN (A B R C : Nat → Nat) : Nat → (Nat → Nat) → Nat
  | 0, _ => 1
  | n + 1, M => rowN A B C (7 - n) (allN A B R C n) 8 (R (7 - n)) M
def PSn : Nat → List Nat
  | 0 => []
  | n + 1 => rpl (7 - n) 8 ++ PSn n
theorem PSn_mem : ∀ {n m : Nat}, n ≤ 8 → m ∈ PSn n → 8 * (8 - n) ≤ m := by
  intro n
  induction n with
  | zero => intro m _ h; simp [PSn] at h
  | succ n ih =>
    intro m hn h
    simp only [PSn, List.mem_append] at h
    rcases h with h | h
    · rw [rpl_mem] at h; omega
    · have := ih (by omega) h; omega
def ACn (A B R C : Nat → Nat) : Nat → (Nat → Nat) → Prop
  | 0, _ => True
  | n + 1, M => RC A B C (7 - n) 8 (R (7 - n)) M ∧ ACn A B R C n M
theorem RC_cong {A B C : Nat → Nat} {i s : Nat} {M N : Nat → Nat} (h : ∀ n, n < 8 * i + 8 → M n = N n) : RC A B C i 8 s M ↔ RC A B C i 8 s N := by
  unfold RC
  rw [rowS_cong (M := M) (N := N) (fun n a b => h n (by omega))]
  have key : ∀ x, x < 8 → ∀ t, (cnd A B C i x (rowS M i (x + 1) - t) t M ↔ cnd A B C i x (rowS N i (x + 1) - t) t N) := by
    intro x hx t
    rw [rowS_cong (M := M) (N := N) (fun n a b => h n (by omega)), cnd_cong hx (fun n hn => h n (by omega))]
  constructor
  · rintro ⟨q1, q2⟩
    exact ⟨q1, fun x hx t ht => (key x hx t).mp (q2 x hx t (by rw [h _ (by omega)]; exact ht))⟩
  · rintro ⟨q1, q2⟩
    exact ⟨q1, fun x hx t ht => (key x hx t).mpr (q2 x hx t (by rw [← h _ (by omega)]; exact ht))⟩
theorem allN_csum {A B R C : Nat → Nat} : ∀ (n : Nat) (M : Nat → Nat), n ≤ 8 → allN A B R C n M = csum KM (fun N => ivN (ACn A B R C n N) 1) (PSn n) M := by
  intro n
  induction n with
  | zero => intro M _; exact (ivN_pos (P := ACn A B R C 0 M) trivial).symm
  | succ n ih =>
    intro M hn
    simp only [allN, PSn]
    rw [rowN_csum 8 _ _ (Nat.le_refl _), csum_app]
    apply csum_cong
    intro N _
    rw [ih N (by omega)]
    by_cases k : RC A B C (7 - n) 8 (R (7 - n)) N
    · rw [ivN_pos k]
      apply csum_cong
      intro P hP
      have hk : RC A B C (7 - n) 8 (R (7 - n)) P := (RC_cong (M := N) (N := P) (fun m hm => (hP m (fun q => by have := PSn_mem (by omega) q; omega)).symm)).mp k
      by_cases w : ACn A B R C n P
      · rw [ivN_pos w, ivN_pos (P := ACn A B R C (n + 1) P) ⟨hk, w⟩]
      · rw [ivN_neg w, ivN_neg (P := ACn A B R C (n + 1) P) (fun u => w u.2)]
    · rw [ivN_neg k]
      symm
      apply csum_zero
      intro P hP
      apply ivN_neg
      intro u
      apply k
      exact (RC_cong (M := N) (N := P) (fun m hm => (hP m (fun q => by have := PSn_mem (by omega) q; omega)).symm)).mpr u.1
theorem ACn_all {A B R C : Nat → Nat} {M : Nat → Nat} : ∀ n, n ≤ 8 → (ACn A B R C n M ↔ ∀ i, 8 - n ≤ i → i < 8 → RC A B C i 8 (R i) M) := by
  intro n
  induction n with
  | zero => intro _; exact ⟨fun _ i a b => by omega, fun _ => trivial⟩
  | succ n ih =>
    intro hn
    show (RC A B C (7 - n) 8 (R (7 - n)) M ∧ ACn A B R C n M) ↔ _
    rw [ih (by omega)]
    constructor
    · rintro ⟨h1, h2⟩ i a b
      by_cases e : i = 7 - n
      · subst e; exact h1
      · exact h2 i (by omega) b
    · intro h
      exact ⟨h (7 - n) (by omega) (by omega), fun i a b => h i (by omega) b⟩
/-- the same without order -/
def Sym (A B R C : Nat → Nat) (M : Nat → Nat) : Prop := (∀ i, i < 8 → rowS M i 8 = R i) ∧ (∀ j, j < 8 → colS M j 8 = C j) ∧ (∀ i j, i < 8 → j + 1 < 8 → B (j + 1) + colS M (j + 1) (i + 1) ≤ B j + colS M j i) ∧ (∀ i j, i + 1 < 8 → j < 8 → A (i + 1) + rowS M (i + 1) (j + 1) ≤ A i + rowS M i j)
theorem colS_succ (M : Nat → Nat) (j i : Nat) : colS M j (i + 1) = colS M j i + M (8 * i + j) := rfl
theorem rowS_succ (M : Nat → Nat) (i j : Nat) : rowS M i (j + 1) = rowS M i j + M (8 * i + j) := rfl
theorem colS_mono (M : Nat → Nat) (j : Nat) : ∀ (d i : Nat), colS M j i ≤ colS M j (i + d) := by
  intro d
  induction d with
  | zero => intro i; exact Nat.le_refl _
  | succ d ih => intro i; have := ih i; rw [← Nat.add_assoc, colS_succ]; omega
theorem rowS_mono (M : Nat → Nat) (i : Nat) : ∀ (d j : Nat), rowS M i j ≤ rowS M i (j + d) := by
  intro d
  induction d with
  | zero => intro i; exact Nat.le_refl _
  | succ d ih => intro j; have := ih j; rw [← Nat.add_assoc, rowS_succ]; omega
theorem sumN_le_eq {f g : Nat → Nat} : ∀ {n : Nat}, (∀ i, i < n → f i ≤ g i) → sumN f n = sumN g n → ∀ i, i < n → f i = g i := by
  have le : ∀ {n : Nat}, (∀ i, i < n → f i ≤ g i) → sumN f n ≤ sumN g n := by
    intro n
    induction n with
    | zero => intro _; exact Nat.le_refl _
    | succ n ih => intro h; simp only [sumN]; have := ih (fun i hi => h i (by omega)); have := h n (by omega); omega
  intro n
  induction n with
  | zero => intro _ _ i hi; omega
  | succ n ih =>
    intro h e i hi
    simp only [sumN] at e
    have h1 := le (n := n) (fun i hi => h i (by omega))
    have h2 := h n (by omega)
    by_cases k : i = n
    · subst k; omega
    · exact ih (fun i hi => h i (by omega)) (by omega) i (by omega)
theorem AC_sym {A B R C : Nat → Nat} {M : Nat → Nat} (hA : ∀ i, i + 1 < 8 → A (i + 1) ≤ A i) (hB : ∀ j, j + 1 < 8 → B (j + 1) ≤ B j) (hRC : sumN R 8 = sumN C 8) : ACn A B R C 8 M ↔ Sym A B R C M := by
  rw [ACn_all 8 (Nat.le_refl _)]
  constructor
  · intro h
    have h0 : ∀ i, i < 8 → RC A B C i 8 (R i) M := fun i hi => h i (by omega) hi
    have e3 : ∀ j, j + 1 < 8 → ∀ i, i < 8 → B (j + 1) + colS M (j + 1) (i + 1) ≤ B j + colS M j i := by
      intro j hj i
      induction i with
      | zero =>
        intro hi
        by_cases k : M (8 * 0 + (j + 1)) = 0
        · rw [colS_succ, k]
          have := hB j hj
          show B (j + 1) + 0 + 0 ≤ B j + 0
          omega
        · have := ((h0 0 hi).2 (j + 1) hj (M (8 * 0 + (j + 1)) - 1) (by omega)).2.1
          rw [show j + 1 - 1 = j by omega] at this
          rw [colS_succ]
          omega
      | succ i ihi =>
        intro hi
        have q := ihi (by omega)
        by_cases k : M (8 * (i + 1) + (j + 1)) = 0
        · rw [colS_succ, k]
          have := colS_succ M j i
          omega
        · have := ((h0 (i + 1) hi).2 (j + 1) hj (M (8 * (i + 1) + (j + 1)) - 1) (by omega)).2.1
          rw [show j + 1 - 1 = j by omega] at this
          rw [colS_succ]
          omega
    have e4 : ∀ i, i + 1 < 8 → ∀ j, j < 8 → A (i + 1) + rowS M (i + 1) (j + 1) ≤ A i + rowS M i j := by
      intro i hi j
      induction j with
      | zero =>
        intro hj
        by_cases k : M (8 * (i + 1) + 0) = 0
        · rw [rowS_succ, k]
          have := hA i hi
          show A (i + 1) + 0 + 0 ≤ A i + 0
          omega
        · have := ((h0 (i + 1) hi).2 0 hj 0 (by omega)).2.2
          rw [show i + 1 - 1 = i by omega] at this
          rw [Nat.sub_zero] at this
          omega
      | succ j ihj =>
        intro hj
        have q := ihj (by omega)
        by_cases k : M (8 * (i + 1) + (j + 1)) = 0
        · rw [rowS_succ, k]
          have := rowS_succ M i j
          omega
        · have := ((h0 (i + 1) hi).2 (j + 1) hj 0 (by omega)).2.2
          rw [show i + 1 - 1 = i by omega, Nat.sub_zero] at this
          omega
    have cle : ∀ j, j < 8 → ∀ i, i ≤ 8 → colS M j i ≤ C j := by
      intro j hj i
      induction i with
      | zero => intro _; exact Nat.zero_le _
      | succ i ihi =>
        intro hi
        have q := ihi (by omega)
        by_cases k : M (8 * i + j) = 0
        · rw [colS_succ, k]; omega
        · have := ((h0 i hi).2 j hj (M (8 * i + j) - 1) (by omega)).1
          rw [colS_succ]
          omega
    have tot : sumN (fun j => colS M j 8) 8 = sumN C 8 := by
      rw [← hRC]
      show sumN (fun j => sumN (fun s => M (8 * s + j)) 8) 8 = _
      rw [sumN_swap]
      exact sumN_congr (fun i hi => (h0 i hi).1)
    exact ⟨fun i hi => (h0 i hi).1, fun j hj => sumN_le_eq (f := fun j => colS M j 8) (fun j hj => cle j hj 8 (Nat.le_refl _)) tot j hj, fun i j hi hj => e3 j hj i hi, fun i j hi hj => e4 i hi j hj⟩
  · rintro ⟨s1, s2, s3, s4⟩ i _ hi
    refine ⟨s1 i hi, fun x hx t ht => ⟨?_, ?_, ?_⟩⟩
    · have h1 := colS_mono M x (8 - (i + 1)) (i + 1)
      rw [show i + 1 + (8 - (i + 1)) = 8 by omega, s2 x hx, colS_succ] at h1
      omega
    · by_cases x0 : x = 0
      · exact Or.inl x0
      · right
        have := s3 i (x - 1) hi (by omega)
        rw [show x - 1 + 1 = x by omega, colS_succ] at this
        omega
    · by_cases i0 : i = 0
      · exact Or.inl i0
      · right
        have := s4 (i - 1) x (by omega) hx
        rw [show i - 1 + 1 = i by omega] at this
        omega
def trp (n : Nat) : Nat := if n < 64 then 8 * (n % 8) + n / 8 else n
theorem trp_trp (n : Nat) : trp (trp n) = n := by
  unfold trp
  by_cases h : n < 64
  · rw [if_pos h, if_pos (by omega)]; omega
  · rw [if_neg h, if_neg h]
theorem sym_trp {A B R C : Nat → Nat} {M : Nat → Nat} : Sym A B R C M ↔ Sym B A C R (fun n => M (trp n)) := by
  have r1 : ∀ i j, i < 8 → j ≤ 8 → rowS (fun n => M (trp n)) i j = colS M i j := fun i j hi hj => sumN_congr (fun x hx => by
    show M (trp (8 * i + x)) = M (8 * x + i)
    congr 1
    unfold trp
    rw [if_pos (by omega)]
    omega)
  have r2 : ∀ i j, j < 8 → i ≤ 8 → colS (fun n => M (trp n)) j i = rowS M j i := fun i j hj hi => sumN_congr (fun x hx => by
    show M (trp (8 * x + j)) = M (8 * j + x)
    congr 1
    unfold trp
    rw [if_pos (by omega)]
    omega)
  unfold Sym
  constructor
  · rintro ⟨s1, s2, s3, s4⟩
    refine ⟨fun i hi => by rw [r1 i 8 hi (by omega)]; exact s2 i hi, fun j hj => by rw [r2 8 j hj (by omega)]; exact s1 j hj, fun i j hi hj => ?_, fun i j hi hj => ?_⟩
    · rw [r2 _ _ hj (by omega), r2 _ _ (by omega) (by omega)]; exact s4 j i hj hi
    · rw [r1 _ _ hi (by omega), r1 _ _ (by omega) (by omega)]; exact s3 j i hj hi
  · rintro ⟨s1, s2, s3, s4⟩
    refine ⟨fun i hi => by rw [← r2 8 i hi (by omega)]; exact s2 i hi, fun j hj => by rw [← r1 j 8 hj (by omega)]; exact s1 j hj, fun i j hi hj => ?_, fun i j hi hj => ?_⟩
    · rw [← r1 _ _ hj (by omega), ← r1 _ _ (by omega) (by omega)]; exact s4 j i hj hi
    · rw [← r2 _ _ hi (by omega), ← r2 _ _ (by omega) (by omega)]; exact s3 j i hj hi
/-- fillings of a skew shape against fillings of the content's shape -/
theorem lr_sym {A B R C : Nat → Nat} (hA : ∀ i, i + 1 < 8 → A (i + 1) ≤ A i) (hB : ∀ j, j + 1 < 8 → B (j + 1) ≤ B j) (hRC : sumN R 8 = sumN C 8) : allN A B R C 8 (fun _ => 0) = allN B A C R 8 (fun _ => 0) := by
  rw [allN_csum 8 _ (Nat.le_refl _), allN_csum 8 _ (Nat.le_refl _)]
  have h1 : csum KM (fun N => ivN (ACn B A C R 8 N) 1) (PSn 8) (fun _ => 0) = csum KM (fun N => ivN (ACn B A C R 8 (fun n => N (trp n))) 1) ((PSn 8).map trp) (fun _ => 0) := (csum_map trp_trp (fun N => ivN (ACn B A C R 8 N) 1) (PSn 8) (fun _ => 0)).symm
  rw [h1, csum_perm _ (show List.Perm ((PSn 8).map trp) (PSn 8) by decide +kernel)]
  apply csum_cong
  intro N _
  have e : ACn A B R C 8 N ↔ ACn B A C R 8 (fun n => N (trp n)) := by
    rw [AC_sym hA hB hRC, AC_sym hB hA hRC.symm, sym_trp]
  by_cases k : ACn A B R C 8 N
  · rw [ivN_pos k, ivN_pos (e.mp k)]
  · rw [ivN_neg k, ivN_neg (fun u => k (e.mpr u))]
end LRC
