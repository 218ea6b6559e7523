section KOS
/-- the sum of the first n values -/
def sumN (g : Nat → Nat) : Nat → Nat
  | 0 => 0
  | n + 1 => sumN g n + g n
theorem sumN_congr {g h : Nat → Nat} : ∀ {n : Nat}, (∀ i, i < n → g i = h i) → sumN g n = sumN h n := by
  intro n
  induction n with
  | zero => intro _; rfl
  | succ n ih =>
    intro e
    simp only [sumN]
    rw [ih (fun i hi => e i (by omega)), e n (by omega)]
theorem sumN_zero {g : Nat → Nat} : ∀ {n : Nat}, (∀ i, i < n → g i = 0) → sumN g n = 0 := by
  intro n
  induction n with
  | zero => intro _; rfl
  | succ n ih =>
    intro e
    simp only [sumN]
    rw [ih (fun i hi => e i (by omega)), e n (by omega)]
theorem sumN_add (g h : Nat → Nat) : ∀ n, sumN (fun i => g i + h i) n = sumN g n + sumN h n := by
  intro n
  induction n with
  | zero => rfl
  | succ n ih =>
    simp only [sumN]
    rw [ih]
    omega
theorem sumN_swap (g : Nat → Nat → Nat) (m : Nat) : ∀ n, sumN (fun i => sumN (fun j => g i j) m) n = sumN (fun j => sumN (fun i => g i j) n) m := by
  intro n
  induction n with
  | zero =>
    simp only [sumN]
    exact (sumN_zero (fun i _ => rfl)).symm
  | succ n ih =>
    simp only [sumN]
    rw [ih, ← sumN_add]
theorem sumN_single {g : Nat → Nat} {i0 : Nat} : ∀ {n : Nat}, i0 < n → (∀ i, i < n → i ≠ i0 → g i = 0) → sumN g n = g i0 := by
  intro n
  induction n with
  | zero => intro h; omega
  | succ n ih =>
    intro h e
    simp only [sumN]
    by_cases k : i0 = n
    · subst k
      rw [sumN_zero (fun i hi => e i (by omega) (by omega))]
      omega
    · rw [ih (by omega) (fun i hi hne => e i (by omega) hne), e n (by omega) (by omega)]
      omega
theorem sumN_ext {g : Nat → Nat} {m : Nat} : ∀ {n : Nat}, m ≤ n → (∀ i, m ≤ i → i < n → g i = 0) → sumN g n = sumN g m := by
  intro n
  induction n with
  | zero => intro h _; rw [show m = 0 by omega]
  | succ n ih =>
    intro h e
    by_cases k : m = n + 1
    · rw [k]
    · simp only [sumN]
      rw [ih (by omega) (fun i a b => e i a (by omega)), e n (by omega) (by omega)]
      omega
theorem sumN_shift (g : Nat → Nat) : ∀ n, sumN g (n + 1) = g 0 + sumN (fun i => g (i + 1)) n := by
  intro n
  induction n with
  | zero => simp [sumN]
  | succ n ih =>
    rw [sumN, ih]
    simp only [sumN]
    omega
/-- a sum with its values counted elsewhere -/
theorem sumN_bij {p q : Nat → Prop} [DecidablePred p] [DecidablePred q] {M : Nat} {f s : Nat → Nat} {G H : Nat → Nat} (h1 : ∀ v, v < M → p v → q (f v) ∧ f v < M ∧ s (f v) = v) (h2 : ∀ w, w < M → q w → p (s w) ∧ s w < M ∧ f (s w) = w) (hG : ∀ v, v < M → ¬ p v → G v = 0) (hH : ∀ w, w < M → ¬ q w → H w = 0) (hGH : ∀ v, v < M → p v → G v = H (f v)) : sumN G M = sumN H M := by
  have e1 : sumN G M = sumN (fun v => sumN (fun w => if p v ∧ f v = w then H w else 0) M) M := by
    apply sumN_congr
    intro v hv
    by_cases k : p v
    · have := h1 v hv k
      rw [sumN_single (i0 := f v) this.2.1 (fun w _ hne => by rw [if_neg (fun c => hne c.2.symm)]), if_pos ⟨k, rfl⟩, hGH v hv k]
    · rw [hG v hv k]
      exact (sumN_zero (fun w _ => by rw [if_neg (fun c => k c.1)])).symm
  rw [e1, sumN_swap]
  apply sumN_congr
  intro w hw
  by_cases k : q w
  · have := h2 w hw k
    rw [sumN_single (i0 := s w) this.2.1 (fun v hv hne => by
      rw [if_neg]
      intro c
      have := (h1 v hv c.1).2.2
      rw [c.2] at this
      exact hne this.symm), if_pos ⟨this.1, this.2.2⟩]
  · rw [hH w hw k]
    exact sumN_zero (fun v hv => by
      rw [if_neg]
      intro c
      have := (h1 v hv c.1).1
      rw [c.2] at this
      exact k this)
/-- the sum over all rows of k numbers below M, the first ones innermost -/
def bsum (M : Nat) (g : (Nat → Nat) → Nat) : Nat → (Nat → Nat) → Nat
  | 0, a => g a
  | k + 1, a => sumN (fun v => bsum M g k (upL a k v)) M
theorem bsum_congr {M : Nat} {g h : (Nat → Nat) → Nat} (e : ∀ a, g a = h a) : ∀ k a, bsum M g k a = bsum M h k a := by
  intro k a
  rw [show g = h from funext e]
/-- only rows whose numbers from k on are a's count -/
theorem bsum_zero {M : Nat} {g : (Nat → Nat) → Nat} : ∀ k a, (∀ b, (∀ j, k ≤ j → b j = a j) → g b = 0) → bsum M g k a = 0 := by
  intro k
  induction k with
  | zero => intro a h; exact h a (fun j _ => rfl)
  | succ k ih =>
    intro a h
    simp only [bsum]
    apply sumN_zero
    intro v _
    apply ih
    intro b hb
    apply h
    intro j hj
    rw [hb j (by omega), upL_ne (by omega)]
theorem bsum_cong2 {M : Nat} {g h : (Nat → Nat) → Nat} : ∀ k a, (∀ b, (∀ j, k ≤ j → b j = a j) → g b = h b) → bsum M g k a = bsum M h k a := by
  intro k
  induction k with
  | zero => intro a e; exact e a (fun j _ => rfl)
  | succ k ih =>
    intro a e
    simp only [bsum]
    apply sumN_congr
    intro v _
    apply ih
    intro b hb
    apply e
    intro j hj
    rw [hb j (by omega), upL_ne (by omega)]
theorem bsum_sum {M m : Nat} (g : (Nat → Nat) → Nat → Nat) : ∀ k a, bsum M (fun a => sumN (fun j => g a j) m) k a = sumN (fun j => bsum M (fun a => g a j) k a) m := by
  intro k
  induction k with
  | zero => intro a; rfl
  | succ k ih =>
    intro a
    simp only [bsum]
    rw [sumN_swap]
    exact sumN_congr (fun v _ => ih _)
theorem bsum_swap {M : Nat} (g : (Nat → Nat) → (Nat → Nat) → Nat) (k : Nat) (a : Nat → Nat) : ∀ l b, bsum M (fun a => bsum M (fun b => g a b) l b) k a = bsum M (fun b => bsum M (fun a => g a b) k a) l b := by
  intro l
  induction l with
  | zero => intro b; rfl
  | succ l ih =>
    intro b
    simp only [bsum]
    rw [bsum_sum]
    exact sumN_congr (fun v _ => ih _)
/-- rows counted elsewhere -/
theorem bsum_bij {M n : Nat} {p q : Nat → Nat → Prop} [∀ j, DecidablePred (p j)] [∀ j, DecidablePred (q j)] {f s : Nat → Nat → Nat} {G H : (Nat → Nat) → Nat} (h1 : ∀ j v, j < n → v < M → p j v → q j (f j v) ∧ f j v < M ∧ s j (f j v) = v) (h2 : ∀ j w, j < n → w < M → q j w → p j (s j w) ∧ s j w < M ∧ f j (s j w) = w) (hG : ∀ a, ∀ j, j < n → ¬ p j (a j) → G a = 0) (hH : ∀ a, ∀ j, j < n → ¬ q j (a j) → H a = 0) (hGH : ∀ a, (∀ j, j < n → p j (a j) ∧ a j < M) → (∀ j, n ≤ j → a j = 0) → G a = H (fun j => if j < n then f j (a j) else 0)) : ∀ k, k ≤ n → ∀ a b, (∀ j, n ≤ j → a j = 0) → (∀ j, n ≤ j → b j = 0) → (∀ j, k ≤ j → j < n → p j (a j) ∧ a j < M ∧ b j = f j (a j)) → bsum M G k a = bsum M H k b := by
  intro k
  induction k with
  | zero =>
    intro hk a b ha hb hab
    show G a = H b
    rw [hGH a (fun j hj => ⟨(hab j (by omega) hj).1, (hab j (by omega) hj).2.1⟩) ha]
    congr 1
    funext j
    by_cases c : j < n
    · rw [if_pos c, (hab j (by omega) c).2.2]
    · rw [if_neg c, hb j (by omega)]
  | succ k ih =>
    intro hk a b ha hb hab
    simp only [bsum]
    apply sumN_bij (p := p k) (q := q k) (f := f k) (s := s k)
    · exact fun v hv hp => h1 k v (by omega) hv hp
    · exact fun w hw hq => h2 k w (by omega) hw hq
    · intro v hv hp
      apply bsum_zero
      intro c hc
      apply hG c k (by omega)
      rw [hc k (Nat.le_refl _), upL_at]
      exact hp
    · intro w hw hq
      apply bsum_zero
      intro c hc
      apply hH c k (by omega)
      rw [hc k (Nat.le_refl _), upL_at]
      exact hq
    · intro v hv hp
      apply ih (by omega)
      · intro j hj; rw [upL_ne (by omega)]; exact ha j hj
      · intro j hj; rw [upL_ne (by omega)]; exact hb j hj
      · intro j hj hjn
        by_cases c : j = k
        · subst c
          rw [upL_at, upL_at]
          exact ⟨hp, hv, rfl⟩
        · rw [upL_ne c, upL_ne c]
          exact hab j (by omega) hjn
theorem boxes_add (a b : Nat → Nat) : ∀ n, boxes (fun j => a j + b j) n = boxes a n + boxes b n := by
  intro n
  induction n with
  | zero => rfl
  | succ n ih =>
    simp only [boxes]
    rw [ih]
    omega
theorem boxes_congr {a b : Nat → Nat} : ∀ {n : Nat}, (∀ j, j < n → a j = b j) → boxes a n = boxes b n := by
  intro n
  induction n with
  | zero => intro _; rfl
  | succ n ih =>
    intro e
    simp only [boxes]
    rw [ih (fun j hj => e j (by omega)), e n (by omega)]
/-- n, if it holds -/
noncomputable def ivN (P : Prop) (n : Nat) : Nat := @ite _ P (Classical.propDecidable P) n 0
theorem ivN_pos {P : Prop} {n : Nat} (h : P) : ivN P n = n := by unfold ivN; rw [if_pos h]
theorem ivN_neg {P : Prop} {n : Nat} (h : ¬ P) : ivN P n = 0 := by unfold ivN; rw [if_neg h]
/-- the differences of a shape's rows -/
def dif (S : Nat → Nat) (k : Nat) : Nat := S k - S (k + 1)
def par (S : Nat → Nat) : Prop := ∀ k, S (k + 1) ≤ S k
def sbt (S a : Nat → Nat) : Nat → Nat := fun j => S j - a j
def KM : Nat := 25
/-- ways to take strips of the given sizes off, one behind the other -/
noncomputable def kos : List Nat → (Nat → Nat) → Nat
  | [], S => if boxes S 8 = 0 then 1 else 0
  | c :: cs, S => bsum KM (fun a => ivN ((∀ j, j < 8 → a j ≤ dif S j) ∧ boxes a 8 = c) (kos cs (sbt S a))) 8 (fun _ => 0)
/-- two strips, by what they take together -/
theorem kos_two (G : (Nat → Nat) → Nat) {S : Nat → Nat} (hS : par S) (h8 : ∀ k, 8 ≤ k → S k = 0) (hB : ∀ k, S k < KM) (c e : Nat) : bsum KM (fun a => ivN ((∀ j, j < 8 → a j ≤ dif S j) ∧ boxes a 8 = c) (bsum KM (fun b => ivN ((∀ j, j < 8 → b j ≤ dif (sbt S a) j) ∧ boxes b 8 = e) (G (sbt (sbt S a) b))) 8 (fun _ => 0))) 8 (fun _ => 0) = bsum KM (fun t => bsum KM (fun a => ivN ((∀ j, j < 8 → t j ≤ S j ∧ (t (j) - dif S j) ≤ a (j + 1) ∧ a j ≤ dif S j ∧ a j ≤ t j) ∧ a 8 = 0 ∧ boxes a 8 = c ∧ boxes t 8 = c + e) (G (sbt S t))) 8 (fun _ => 0)) 8 (fun _ => 0) := by
  rw [← bsum_swap]
  apply bsum_cong2
  intro a ha
  have a8 : ∀ j, 8 ≤ j → a j = 0 := ha
  by_cases k : (∀ j, j < 8 → a j ≤ dif S j) ∧ boxes a 8 = c
  · rw [ivN_pos k]
    have aS : ∀ j, a j ≤ S j := fun j => by
      by_cases q : j < 8
      · have := k.1 j q; unfold dif at this; omega
      · rw [a8 j (by omega)]; omega
    apply bsum_bij (n := 8) (p := fun j b => a j + b < KM) (q := fun j t => a j ≤ t) (f := fun j b => a j + b) (s := fun j t => t - a j)
    · intro j v _ hv hp
      omega
    · intro j w _ hw hq
      omega
    · intro b j hj hp
      rw [ivN_neg]
      intro w
      have := w.1 j hj
      unfold dif sbt at this
      have := hB j
      have := aS j
      omega
    · intro t j hj hq
      rw [ivN_neg]
      intro w
      have := (w.1 j hj).2.2.2
      exact hq this
    · intro b hb b8
      have ec : (∀ j, j < 8 → b j ≤ dif (sbt S a) j) ↔ (∀ j, j < 8 → (if j < 8 then a j + b j else 0) ≤ S j ∧ ((if j < 8 then a j + b j else 0) - dif S j) ≤ a (j + 1) ∧ a j ≤ dif S j ∧ a j ≤ (if j < 8 then a j + b j else 0)) := by
        constructor
        · intro h j hj
          have h1 := h j hj
          have h2 := k.1 j hj
          have h3 := aS j
          have h4 := aS (j + 1)
          have h5 := hS j
          rw [if_pos hj]
          unfold dif sbt at *
          omega
        · intro h j hj
          have h1 := h j hj
          have h2 := k.1 j hj
          have h3 := aS j
          have h4 := aS (j + 1)
          have h5 := hS j
          rw [if_pos hj] at h1
          unfold dif sbt at *
          omega
      have es : boxes (fun j => if j < 8 then a j + b j else 0) 8 = c + boxes b 8 := by
        rw [boxes_congr (b := fun j => a j + b j) (fun j hj => by rw [if_pos hj]), boxes_add, k.2]
      have eg : sbt (sbt S a) b = sbt S (fun j => if j < 8 then a j + b j else 0) := by
        funext j
        unfold sbt
        by_cases q : j < 8
        · simp only [if_pos q]; omega
        · simp only [if_neg q]; rw [h8 j (by omega)]; omega
      by_cases w : (∀ j, j < 8 → b j ≤ dif (sbt S a) j) ∧ boxes b 8 = e
      · rw [ivN_pos w, ivN_pos ⟨ec.mp w.1, a8 8 (by omega), k.2, by rw [es, w.2]⟩, eg]
      · rw [ivN_neg w, ivN_neg]
        intro u
        apply w
        refine ⟨ec.mpr u.1, ?_⟩
        have := u.2.2.2
        rw [es] at this
        omega
    · exact Nat.le_refl _
    · intro j _; rfl
    · intro j _; rfl
    · intro j hj hjn; omega
  · rw [ivN_neg k]
    symm
    apply bsum_zero
    intro t _
    rw [ivN_neg]
    intro w
    exact k ⟨fun j hj => (w.1 j hj).2.2.1, w.2.2.1⟩
theorem boxes_lohi (lo hi t : Nat → Nat) (h0 : lo 0 = 0) : ∀ n, (∀ j, j < n → hi j + lo (j + 1) = t j) → boxes hi n + boxes lo (n + 1) = boxes t n := by
  intro n
  induction n with
  | zero => intro _; simp [boxes, h0]
  | succ n ih =>
    intro h
    have h1 := ih (fun j hj => h j (by omega))
    have h2 := h n (by omega)
    simp only [boxes] at h1 ⊢
    omega
theorem kos_swap2 (G : (Nat → Nat) → Nat) {S : Nat → Nat} (hS : par S) (h8 : ∀ k, 8 ≤ k → S k = 0) (hB : ∀ k, S k < KM) (c e : Nat) : bsum KM (fun t => bsum KM (fun a => ivN ((∀ j, j < 8 → t j ≤ S j ∧ (t (j) - dif S j) ≤ a (j + 1) ∧ a j ≤ dif S j ∧ a j ≤ t j) ∧ a 8 = 0 ∧ boxes a 8 = c ∧ boxes t 8 = c + e) (G (sbt S t))) 8 (fun _ => 0)) 8 (fun _ => 0) = bsum KM (fun t => bsum KM (fun a => ivN ((∀ j, j < 8 → t j ≤ S j ∧ (t (j) - dif S j) ≤ a (j + 1) ∧ a j ≤ dif S j ∧ a j ≤ t j) ∧ a 8 = 0 ∧ boxes a 8 = e ∧ boxes t 8 = e + c) (G (sbt S t))) 8 (fun _ => 0)) 8 (fun _ => 0) := by
  apply bsum_cong2
  intro t ht
  have t8 : ∀ j, 8 ≤ j → t j = 0 := ht
  -- the least and the greatest that the first strip can take in a row
  generalize hlo : (fun j => if j = 0 then 0 else t (j - 1) - dif S (j - 1)) = lo
  generalize hhi : (fun j => min (dif S j) (t j)) = hi
  have lo0 : lo 0 = 0 := by rw [← hlo]; rfl
  have los : ∀ j, lo (j + 1) = t j - dif S j := fun j => by rw [← hlo]; simp
  have his : ∀ j, hi j = min (dif S j) (t j) := fun j => by rw [← hhi]
  by_cases k7 : t 7 - dif S 7 = 0 ∧ (∀ j, j < 8 → t j ≤ S j)
  · have tot := boxes_lohi lo hi t lo0 8 (fun j _ => by rw [los, his]; omega)
    have tot2 : boxes hi 8 + boxes lo 8 = boxes t 8 := by
      have : boxes lo 9 = boxes lo 8 + lo 8 := rfl
      rw [this, los 7, k7.1] at tot
      omega
    apply bsum_bij (n := 8) (p := fun j v => lo j ≤ v ∧ v ≤ hi j) (q := fun j v => lo j ≤ v ∧ v ≤ hi j) (f := fun j v => hi j + lo j - v) (s := fun j v => hi j + lo j - v)
    · intro j v hj hv hp
      have := hB j
      have := his j
      unfold dif at this
      omega
    · intro j v hj hv hp
      have := hB j
      have := his j
      unfold dif at this
      omega
    · intro a j hj hp
      rw [ivN_neg]
      intro w
      apply hp
      have h1 := w.1 j hj
      refine ⟨?_, by rw [his]; omega⟩
      by_cases j0 : j = 0
      · subst j0; rw [lo0]; omega
      · have h2 := (w.1 (j - 1) (by omega)).2.1
        have := los (j - 1)
        rw [show j - 1 + 1 = j by omega] at this h2
        omega
    · intro a j hj hp
      rw [ivN_neg]
      intro w
      apply hp
      have h1 := w.1 j hj
      refine ⟨?_, by rw [his]; omega⟩
      by_cases j0 : j = 0
      · subst j0; rw [lo0]; omega
      · have h2 := (w.1 (j - 1) (by omega)).2.1
        have := los (j - 1)
        rw [show j - 1 + 1 = j by omega] at this h2
        omega
    · intro a ha a8
      have c1 : ∀ (b : Nat → Nat), (∀ j, j < 8 → lo j ≤ b j ∧ b j ≤ hi j) → b 8 = 0 → (∀ j, j < 8 → t j ≤ S j ∧ (t (j) - dif S j) ≤ b (j + 1) ∧ b j ≤ dif S j ∧ b j ≤ t j) := by
        intro b hb b8 j hj
        have h1 := hb j hj
        have h2 := his j
        refine ⟨k7.2 j hj, ?_, by omega, by omega⟩
        by_cases j7 : j = 7
        · subst j7; rw [k7.1]; omega
        · have := (hb (j + 1) (by omega)).1
          rw [los] at this
          exact this
      have hb : ∀ j, j < 8 → lo j ≤ (if j < 8 then hi j + lo j - a j else 0) ∧ (if j < 8 then hi j + lo j - a j else 0) ≤ hi j := fun j hj => by
        rw [if_pos hj]
        have := (ha j hj).1
        omega
      have sm : boxes (fun j => if j < 8 then hi j + lo j - a j else 0) 8 + boxes a 8 = boxes t 8 := by
        rw [← tot2, ← boxes_add, ← boxes_add]
        apply boxes_congr
        intro j hj
        have := (ha j hj).1
        simp only [if_pos hj]
        omega
      by_cases w : boxes a 8 = c ∧ boxes t 8 = c + e
      · rw [ivN_pos ⟨c1 a (fun j hj => (ha j hj).1) (a8 8 (by omega)), a8 8 (by omega), w.1, w.2⟩, ivN_pos ⟨c1 _ hb (by simp), by simp, by omega, by omega⟩]
      · rw [ivN_neg (fun u => w u.2.2), ivN_neg]
        intro u
        apply w
        have := u.2.2.1
        have := u.2.2.2
        omega
    · exact Nat.le_refl _
    · intro j _; rfl
    · intro j _; rfl
    · intro j hj hjn; omega
  · have z : ∀ (c e : Nat), bsum KM (fun a => ivN ((∀ j, j < 8 → t j ≤ S j ∧ (t (j) - dif S j) ≤ a (j + 1) ∧ a j ≤ dif S j ∧ a j ≤ t j) ∧ a 8 = 0 ∧ boxes a 8 = c ∧ boxes t 8 = c + e) (G (sbt S t))) 8 (fun _ => 0) = 0 := by
      intro c e
      apply bsum_zero
      intro a _
      rw [ivN_neg]
      intro w
      apply k7
      refine ⟨?_, fun j hj => (w.1 j hj).1⟩
      have := (w.1 7 (by omega)).2.1
      rw [w.2.1] at this
      omega
    rw [z c e, z e c]
theorem par_sbt {S a : Nat → Nat} (hS : par S) (h8 : ∀ k, 8 ≤ k → S k = 0) (ha : ∀ j, j < 8 → a j ≤ dif S j) : par (sbt S a) := by
  intro k
  unfold sbt
  by_cases q : k < 8
  · have := ha k q
    have := hS k
    unfold dif at *
    omega
  · rw [h8 (k + 1) (by omega)]; omega
theorem kos_swap {S : Nat → Nat} (hS : par S) (h8 : ∀ k, 8 ≤ k → S k = 0) (hB : ∀ k, S k < KM) (c e : Nat) (cs : List Nat) : kos (c :: e :: cs) S = kos (e :: c :: cs) S := by
  show bsum KM (fun a => ivN ((∀ j, j < 8 → a j ≤ dif S j) ∧ boxes a 8 = c) (bsum KM (fun b => ivN ((∀ j, j < 8 → b j ≤ dif (sbt S a) j) ∧ boxes b 8 = e) (kos cs (sbt (sbt S a) b))) 8 (fun _ => 0))) 8 (fun _ => 0) = bsum KM (fun a => ivN ((∀ j, j < 8 → a j ≤ dif S j) ∧ boxes a 8 = e) (bsum KM (fun b => ivN ((∀ j, j < 8 → b j ≤ dif (sbt S a) j) ∧ boxes b 8 = c) (kos cs (sbt (sbt S a) b))) 8 (fun _ => 0))) 8 (fun _ => 0)
  rw [kos_two _ hS h8 hB, kos_two _ hS h8 hB]
  exact kos_swap2 _ hS h8 hB c e
theorem kos_perm {cs ds : List Nat} (h : List.Perm cs ds) : ∀ {S : Nat → Nat}, par S → (∀ k, 8 ≤ k → S k = 0) → (∀ k, S k < KM) → kos cs S = kos ds S := by
  induction h with
  | nil => intro S _ _ _; rfl
  | cons a _ ih =>
    intro S hS h8 hB
    simp only [kos]
    apply bsum_cong2
    intro b hb
    by_cases k : (∀ j, j < 8 → b j ≤ dif S j) ∧ boxes b 8 = a
    · rw [ivN_pos k, ivN_pos k]
      exact ih (par_sbt hS h8 k.1) (fun j hj => by unfold sbt; rw [h8 j hj]; omega) (fun j => by unfold sbt; have := hB j; omega)
    · rw [ivN_neg k, ivN_neg k]
  | swap a b l => intro S hS h8 hB; exact kos_swap hS h8 hB b a l
  | trans _ _ h1 h2 => intro S hS h8 hB; rw [h1 hS h8 hB, h2 hS h8 hB]
end KOS
