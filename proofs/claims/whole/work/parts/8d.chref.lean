section CHREF
/-- rows of k numbers, none less than the one before -/
def gwl : Nat → Nat → Nat → List (List Nat)
  | 0, _, s => if s = 0 then [[]] else []
  | k + 1, lo, s => (List.range (s + 1)).flatMap (fun v => if lo ≤ v ∧ v * (k + 1) ≤ s then (gwl k v (s - v)).map (fun l => v :: l) else [])
theorem gwl_len : ∀ n : Fin 17, (gwl 8 0 n.val).length < 2000 := by decide +kernel
def tupL (f : Nat → Nat) (i : Nat) : Nat → List Nat
  | 0 => []
  | k + 1 => f i :: tupL f (i + 1) k
theorem gwl_mem {f : Nat → Nat} : ∀ (k i lo s : Nat), (∀ j, i ≤ j → j + 1 < i + k → f j ≤ f (j + 1)) → (0 < k → lo ≤ f i) → sumN (fun t => f (i + t)) k = s → tupL f i k ∈ gwl k lo s := by
  intro k
  induction k with
  | zero =>
    intro i lo s _ _ h
    simp only [sumN] at h
    simp [gwl, tupL, ← h]
  | succ k ih =>
    intro i lo s h1 h2 h3
    have mono : ∀ d, d < k + 1 → f i ≤ f (i + d) := by
      intro d
      induction d with
      | zero => intro _; exact Nat.le_refl _
      | succ d ihd =>
        intro hd
        have q1 := ihd (by omega)
        have q2 := h1 (i + d) (by omega) (by omega)
        rw [← Nat.add_assoc]
        omega
    have big : ∀ m, m ≤ k + 1 → f i * m ≤ sumN (fun t => f (i + t)) m := by
      intro m
      induction m with
      | zero => intro _; simp [sumN]
      | succ m ihm =>
        intro hm
        have q1 := ihm (by omega)
        have q2 := mono m (by omega)
        simp only [sumN]
        rw [Nat.mul_succ]
        omega
    have b1 := big (k + 1) (Nat.le_refl _)
    rw [h3] at b1
    have sh := sumN_shift (fun t => f (i + t)) k
    rw [h3] at sh
    simp only [Nat.add_zero] at sh
    simp only [gwl, tupL]
    rw [List.mem_flatMap]
    refine ⟨f i, List.mem_range.mpr (by omega), ?_⟩
    rw [if_pos ⟨h2 (by omega), b1⟩, List.mem_map]
    refine ⟨tupL f (i + 1) k, ih (i + 1) (f i) (s - f i) (fun j a b => h1 j (by omega) (by omega)) (fun hk => h1 i (Nat.le_refl _) (by omega)) ?_, rfl⟩
    have : sumN (fun t => f (i + 1 + t)) k = sumN (fun t => f (i + (t + 1))) k := sumN_congr (fun t _ => by rw [show i + 1 + t = i + (t + 1) by omega])
    rw [this]
    omega
theorem tupL_map (f g : Nat → Nat) : ∀ (k i : Nat), (∀ j, i ≤ j → j < i + k → f j = g j) → tupL f i k = tupL g i k := by
  intro k
  induction k with
  | zero => intro i _; rfl
  | succ k ih =>
    intro i h
    simp only [tupL]
    rw [h i (Nat.le_refl _) (by omega), ih (i + 1) (fun j a b => h j (by omega) (by omega))]
theorem tupL_get (f : Nat → Nat) : ∀ (k i t : Nat), t < k → (tupL f i k).getD t 0 = f (i + t) := by
  intro k
  induction k with
  | zero => intro i t h; omega
  | succ k ih =>
    intro i t h
    cases t with
    | zero => rfl
    | succ t =>
      simp only [tupL, List.getD_cons_succ]
      rw [ih (i + 1) t (by omega), show i + 1 + t = i + (t + 1) by omega]
/-- beads on 40 places -/
def wtN (n : Nat) : Nat → Nat
  | 0 => 0
  | m + 1 => wtN n m + (if n.testBit m = true then m else 0)
def VB (n B : Nat) : Prop := B < 2 ^ 40 ∧ popN B 40 = 8 ∧ wtN B 40 = 28 + n
theorem popN_sum (B : Nat) : ∀ m, popN B m = sumN (fun i => if B.testBit i = true then 1 else 0) m := by
  intro m
  induction m with
  | zero => rfl
  | succ m ih => simp only [popN, sumN]; rw [ih]
theorem wtN_sum (B : Nat) : ∀ m, wtN B m = sumN (fun i => if B.testBit i = true then i else 0) m := by
  intro m
  induction m with
  | zero => rfl
  | succ m ih => simp only [wtN, sumN]; rw [ih]
theorem mv_bit (B p k q : Nat) : (B ^^^ 2 ^ p ^^^ 2 ^ (p + k)).testBit q = ((B.testBit q ^^ decide (p = q)) ^^ decide (p + k = q)) := by
  rw [Nat.testBit_xor, Nat.testBit_xor, Nat.testBit_two_pow, Nat.testBit_two_pow]
theorem VB_up {n B p k : Nat} (h : VB n B) (hk : 0 < k) (hpk : p + k < 40) (h1 : B.testBit p = true) (h2 : B.testBit (p + k) = false) : VB (n + k) (B ^^^ 2 ^ p ^^^ 2 ^ (p + k)) := by
  obtain ⟨a1, a2, a3⟩ := h
  refine ⟨Nat.xor_lt_two_pow (Nat.xor_lt_two_pow a1 (Nat.pow_lt_pow_right (by omega) (by omega))) (Nat.pow_lt_pow_right (by omega) hpk), ?_, ?_⟩
  · rw [popN_sum] at a2 ⊢
    have e : sumN (fun i => (if (B ^^^ 2 ^ p ^^^ 2 ^ (p + k)).testBit i = true then 1 else 0) + (if i = p then 1 else 0)) 40 = sumN (fun i => (if B.testBit i = true then 1 else 0) + (if i = p + k then 1 else 0)) 40 := by
      apply sumN_congr
      intro i _
      rw [mv_bit]
      by_cases c1 : i = p
      · subst c1
        simp [h1, show ¬ i + k = i by omega, show ¬ i = i + k by omega, show k ≠ 0 by omega]
      · by_cases c2 : i = p + k
        · subst c2
          simp [h2, show ¬ p = p + k by omega, show k ≠ 0 by omega]
        · simp [c1, c2, show ¬ p = i from fun e => c1 e.symm, show ¬ p + k = i from fun e => c2 e.symm]
    rw [sumN_add, sumN_add, sumN_single (g := fun i => if i = p then 1 else 0) (i0 := p) (by omega) (fun i _ hne => if_neg hne), sumN_single (g := fun i => if i = p + k then 1 else 0) (i0 := p + k) hpk (fun i _ hne => if_neg hne), if_pos rfl, if_pos rfl] at e
    omega
  · rw [wtN_sum] at a3 ⊢
    have e : sumN (fun i => (if (B ^^^ 2 ^ p ^^^ 2 ^ (p + k)).testBit i = true then i else 0) + (if i = p then p else 0)) 40 = sumN (fun i => (if B.testBit i = true then i else 0) + (if i = p + k then p + k else 0)) 40 := by
      apply sumN_congr
      intro i _
      rw [mv_bit]
      by_cases c1 : i = p
      · subst c1
        simp [h1, show ¬ i + k = i by omega, show ¬ i = i + k by omega, show k ≠ 0 by omega]
      · by_cases c2 : i = p + k
        · subst c2
          simp [h2, show ¬ p = p + k by omega, show k ≠ 0 by omega]
        · simp [c1, c2, show ¬ p = i from fun e => c1 e.symm, show ¬ p + k = i from fun e => c2 e.symm]
    rw [sumN_add, sumN_add, sumN_single (g := fun i => if i = p then p else 0) (i0 := p) (by omega) (fun i _ hne => if_neg hne), sumN_single (g := fun i => if i = p + k then p + k else 0) (i0 := p + k) hpk (fun i _ hne => if_neg hne), if_pos rfl, if_pos rfl] at e
    omega
/-- the places of the beads, the first ones first -/
def posL (B : Nat) : Nat → List Nat
  | 0 => []
  | m + 1 => if B.testBit m = true then posL B m ++ [m] else posL B m
theorem posL_len (B : Nat) : ∀ m, (posL B m).length = popN B m := by
  intro m
  induction m with
  | zero => rfl
  | succ m ih =>
    simp only [posL, popN]
    split
    · rw [List.length_append, ih]; rfl
    · rw [ih]; rfl
theorem posL_sum (B : Nat) : ∀ m, (posL B m).sum = wtN B m := by
  intro m
  induction m with
  | zero => rfl
  | succ m ih =>
    simp only [posL, wtN]
    split
    · rw [List.sum_append, ih]; simp
    · rw [ih]; rfl
theorem posL_mem (B : Nat) : ∀ m q, q ∈ posL B m ↔ q < m ∧ B.testBit q = true := by
  intro m
  induction m with
  | zero => intro q; simp [posL]
  | succ m ih =>
    intro q
    simp only [posL]
    by_cases c : B.testBit m = true
    · rw [if_pos c, List.mem_append, ih, List.mem_singleton]
      constructor
      · rintro (h | h)
        · exact ⟨by omega, h.2⟩
        · subst h; exact ⟨by omega, c⟩
      · rintro ⟨h1, h2⟩
        by_cases e : q = m
        · exact Or.inr e
        · exact Or.inl ⟨by omega, h2⟩
    · rw [if_neg c, ih]
      constructor
      · rintro ⟨h1, h2⟩; exact ⟨by omega, h2⟩
      · rintro ⟨h1, h2⟩
        refine ⟨?_, h2⟩
        apply Nat.lt_of_le_of_ne (by omega)
        intro e
        subst e
        exact c h2
theorem posL_inc (B : Nat) : ∀ m, (∀ t, t + 1 < (posL B m).length → (posL B m).getD t 0 < (posL B m).getD (t + 1) 0) ∧ (∀ t, t < (posL B m).length → (posL B m).getD t 0 < m) := by
  intro m
  induction m with
  | zero => exact ⟨fun t h => by simp [posL] at h, fun t h => by simp [posL] at h⟩
  | succ m ih =>
    obtain ⟨i1, i2⟩ := ih
    simp only [posL]
    by_cases c : B.testBit m = true
    · rw [if_pos c]
      have g1 : ∀ t, t < (posL B m).length → (posL B m ++ [m]).getD t 0 = (posL B m).getD t 0 := fun t ht => by
        rw [List.getD_eq_getElem?_getD, List.getD_eq_getElem?_getD, List.getElem?_append_left ht]
      have g2 : (posL B m ++ [m]).getD (posL B m).length 0 = m := by
        rw [List.getD_eq_getElem?_getD, List.getElem?_append_right (Nat.le_refl _)]
        simp
      refine ⟨fun t h => ?_, fun t h => ?_⟩
      · rw [List.length_append] at h
        simp only [List.length_cons, List.length_nil] at h
        by_cases e : t + 1 = (posL B m).length
        · rw [g1 t (by omega), e, g2]
          exact i2 t (by omega)
        · rw [g1 t (by omega), g1 (t + 1) (by omega)]
          exact i1 t (by omega)
      · rw [List.length_append] at h
        simp only [List.length_cons, List.length_nil] at h
        by_cases e : t = (posL B m).length
        · rw [e, g2]; omega
        · rw [g1 t (by omega)]
          have := i2 t (by omega)
          omega
    · rw [if_neg c]
      exact ⟨i1, fun t h => by have := i2 t h; omega⟩
def orL (l : List Nat) : Nat := l.foldr (fun p a => 2 ^ p ||| a) 0
theorem orL_bit : ∀ (l : List Nat) (q : Nat), (orL l).testBit q = true ↔ q ∈ l := by
  intro l
  induction l with
  | nil => intro q; simp [orL]
  | cons p l ih =>
    intro q
    show (2 ^ p ||| orL l).testBit q = true ↔ _
    rw [Nat.testBit_or, Bool.or_eq_true, ih, Nat.testBit_two_pow, decide_eq_true_iff, List.mem_cons]
    constructor
    · rintro (h | h)
      · exact Or.inl h.symm
      · exact Or.inr h
    · rintro (h | h)
      · exact Or.inl h.symm
      · exact Or.inr h
theorem orL_pos {B : Nat} (h : B < 2 ^ 40) : orL (posL B 40) = B := by
  apply Nat.eq_of_testBit_eq
  intro q
  apply Bool.eq_iff_iff.mpr
  rw [orL_bit, posL_mem]
  constructor
  · exact fun w => w.2
  · intro w
    refine ⟨?_, w⟩
    apply Nat.lt_of_not_le
    intro e
    rw [Nat.testBit_lt_two_pow (Nat.lt_of_lt_of_le h (Nat.pow_le_pow_right (n := 2) (by omega) e))] at w
    cases w
theorem list_tup : ∀ (l : List Nat) (i : Nat) (f : Nat → Nat), (∀ t, t < l.length → l.getD t 0 = f (i + t)) → l = tupL f i l.length := by
  intro l
  induction l with
  | nil => intro i f _; rfl
  | cons a l ih =>
    intro i f h
    simp only [List.length_cons, tupL]
    have h0 := h 0 (by simp)
    simp only [List.getD_cons_zero, Nat.add_zero] at h0
    rw [← h0]
    congr 1
    apply ih
    intro t ht
    have := h (t + 1) (by simp; omega)
    simp only [List.getD_cons_succ] at this
    rw [this, show i + (t + 1) = i + 1 + t by omega]
theorem sum_tup (f : Nat → Nat) : ∀ (k i : Nat), (tupL f i k).sum = sumN (fun t => f (i + t)) k := by
  intro k
  induction k with
  | zero => intro i; rfl
  | succ k ih =>
    intro i
    simp only [tupL, List.sum_cons]
    rw [ih, sumN_shift, Nat.add_zero]
    congr 1
    exact sumN_congr (fun t _ => by rw [show i + 1 + t = i + (t + 1) by omega])
/-- the code of a row of differences -/
def encB (l : List Nat) : Int64 := jN (orL (tupL (fun t => l.getD t 0 + t) 0 8))
theorem VB_mem {n B : Nat} (h : VB n B) : jN B ∈ (gwl 8 0 n).map encB := by
  obtain ⟨h1, h2, h3⟩ := h
  have hl := posL_len B 40
  rw [h2] at hl
  obtain ⟨i1, i2⟩ := posL_inc B 40
  rw [hl] at i1 i2
  have ge : ∀ t, t < 8 → t ≤ (posL B 40).getD t 0 := by
    intro t
    induction t with
    | zero => intro _; omega
    | succ t ih =>
      intro ht
      have q1 := ih (by omega)
      have q2 := i1 t (by omega)
      omega
  rw [List.mem_map]
  refine ⟨tupL (fun t => (posL B 40).getD t 0 - t) 0 8, ?_, ?_⟩
  · apply gwl_mem
    · intro j _ hj
      have q1 := i1 j (by omega)
      have q2 := ge j (by omega)
      omega
    · intro _; omega
    · have e1 : (posL B 40).sum = sumN (fun t => (posL B 40).getD t 0) 8 := by
        have := list_tup (posL B 40) 0 (fun t => (posL B 40).getD t 0) (fun t _ => by rw [Nat.zero_add])
        rw [hl] at this
        rw [this, sum_tup]
        apply sumN_congr
        intro t ht
        rw [← this, Nat.zero_add]
      have e2 : sumN (fun t => (posL B 40).getD (0 + t) 0 - (0 + t)) 8 + sumN (fun t => t) 8 = sumN (fun t => (posL B 40).getD t 0) 8 := by
        rw [← sumN_add]
        apply sumN_congr
        intro t ht
        have := ge t ht
        rw [Nat.zero_add]
        omega
      rw [posL_sum, h3] at e1
      have e3 : sumN (fun t => t) 8 = 28 := rfl
      omega
  · unfold encB
    congr 1
    have e : tupL (fun t => (tupL (fun t => (posL B 40).getD t 0 - t) 0 8).getD t 0 + t) 0 8 = tupL (fun t => (posL B 40).getD t 0) 0 8 := by
      apply tupL_map
      intro j _ hj
      rw [tupL_get _ 8 0 j (by omega), Nat.zero_add]
      have := ge j (by omega)
      omega
    rw [e]
    have := list_tup (posL B 40) 0 (fun t => (posL B 40).getD t 0) (fun t _ => by rw [Nat.zero_add])
    rw [hl] at this
    rw [← this, orL_pos h1]
def VL (n : Nat) (L : List (Int64 × Int64)) : Prop := (L.map Prod.fst).Nodup ∧ ∀ c, c ∈ L.map Prod.fst → ∃ B, c = jN B ∧ VB n B
theorem VL_len {n : Nat} {L : List (Int64 × Int64)} (hn : n < 17) (h : VL n L) : L.length < 2000 := by
  have := nodup_le (L.map Prod.fst) ((gwl 8 0 n).map encB) h.1 (fun c hc => by
    obtain ⟨B, e, hB⟩ := h.2 c hc
    rw [e]
    exact VB_mem hB)
  rw [List.length_map, List.length_map] at this
  have g := gwl_len ⟨n, hn⟩
  dsimp only at g
  omega
/-- an old code's hooks put on, up to place m -/
def stp (B : Nat) (o : Int64) (k : Nat) : Nat → List (Int64 × Int64) → List (Int64 × Int64)
  | 0, L => L
  | p + 1, L => if B.testBit p = true ∧ B.testBit (p + k) = false then noteL (stp B o k p L) (jN (B ^^^ 2 ^ p ^^^ 2 ^ (p + k))) (if psd B p (k - 1) % 2 = 0 then o else -o) else stp B o k p L
theorem VL_stp {n B k : Nat} {o : Int64} {L : List (Int64 × Int64)} (hB : VB n B) (hk : 0 < k) (hk2 : k ≤ 14) (h : VL (n + k) L) : ∀ m, m ≤ 22 → VL (n + k) (stp B o k m L) := by
  intro m
  induction m with
  | zero => intro _; exact h
  | succ m ih =>
    intro hm
    have q := ih (by omega)
    simp only [stp]
    by_cases c : B.testBit m = true ∧ B.testBit (m + k) = false
    · rw [if_pos c]
      refine ⟨nodup_note _ _ _ q.1, fun y hy => ?_⟩
      rw [mem_note] at hy
      rcases hy with hy | hy
      · exact q.2 y hy
      · exact ⟨_, hy, VB_up hB hk (by omega) c.1 c.2⟩
    · rw [if_neg c]; exact q
def stF (k : Nat) (M acc : List (Int64 × Int64)) : List (Int64 × Int64) := M.foldl (fun acc e => stp e.1.toNatClampNeg e.2 k 22 acc) acc
theorem jN_nat {B : Nat} (h : B < 2 ^ 63) : (jN B).toNatClampNeg = B := by
  show (jN B).toInt.toNat = B
  rw [Int64.toInt_ofNat_of_lt h]
  rfl
theorem VL_stF {n k : Nat} (hk : 0 < k) (hk2 : k ≤ 14) : ∀ (M acc : List (Int64 × Int64)), (∀ c, c ∈ M.map Prod.fst → ∃ B, c = jN B ∧ VB n B) → VL (n + k) acc → VL (n + k) (stF k M acc) := by
  intro M
  induction M with
  | nil => intro acc _ h; exact h
  | cons e M ih =>
    intro acc h1 h2
    obtain ⟨B, e1, e2⟩ := h1 e.1 (by simp)
    show VL (n + k) (stF k M (stp e.1.toNatClampNeg e.2 k 22 acc))
    apply ih
    · intro c hc; exact h1 c (by simp only [List.map_cons, List.mem_cons]; exact Or.inr hc)
    · rw [e1, jN_nat (Nat.lt_trans e2.1 (by decide))]
      exact VL_stp e2 hk hk2 h2 22 (Nat.le_refl _)
/-- sums of longs -/
def sumJ (g : Nat → Int64) : Nat → Int64
  | 0 => 0
  | n + 1 => sumJ g n + g n
theorem sumJ_congr {g h : Nat → Int64} : ∀ {n : Nat}, (∀ i, i < n → g i = h i) → sumJ g n = sumJ h n := by
  intro n
  induction n with
  | zero => intro _; rfl
  | succ n ih =>
    intro e
    simp only [sumJ]
    rw [ih (fun i hi => e i (by omega)), e n (by omega)]
theorem sumJ_add (g h : Nat → Int64) : ∀ n, sumJ (fun i => g i + h i) n = sumJ g n + sumJ h n := by
  intro n
  induction n with
  | zero => rfl
  | succ n ih =>
    simp only [sumJ]
    rw [ih]
    ac_rfl
theorem sumJ_of (g : Nat → Int) : ∀ n, sumJ (fun i => Int64.ofInt (g i)) n = Int64.ofInt (sumZ g n) := by
  intro n
  induction n with
  | zero => rfl
  | succ n ih =>
    simp only [sumJ, sumZ]
    rw [ih, Int64.ofInt_add]
theorem lk_stp (B : Nat) (o : Int64) (k : Nat) (y : Int64) : ∀ (m : Nat) (L : List (Int64 × Int64)), lkL (stp B o k m L) y = lkL L y + sumJ (fun p => if (B.testBit p = true ∧ B.testBit (p + k) = false) ∧ jN (B ^^^ 2 ^ p ^^^ 2 ^ (p + k)) = y then (if psd B p (k - 1) % 2 = 0 then o else -o) else 0) m := by
  intro m
  induction m with
  | zero => intro L; simp only [stp, sumJ, Int64.add_zero]
  | succ m ih =>
    intro L
    simp only [stp, sumJ]
    by_cases c : B.testBit m = true ∧ B.testBit (m + k) = false
    · rw [if_pos c, lk_note, ih, Int64.add_assoc]
      by_cases d : jN (B ^^^ 2 ^ m ^^^ 2 ^ (m + k)) = y
      · have cd : (B.testBit m = true ∧ B.testBit (m + k) = false) ∧ jN (B ^^^ 2 ^ m ^^^ 2 ^ (m + k)) = y := ⟨c, d⟩
        rw [if_pos d, if_pos cd]
      · rw [if_neg d, if_neg (fun w => d w.2)]
    · rw [if_neg c, ih, if_neg (fun w => c w.1), Int64.add_zero]
theorem psd_cong {B Y p : Nat} : ∀ n, (∀ q, p < q → q ≤ p + n → B.testBit q = Y.testBit q) → psd B p n = psd Y p n := by
  intro n
  induction n with
  | zero => intro _; rfl
  | succ n ih =>
    intro h
    simp only [psd]
    rw [ih (fun q a b => h q a (by omega)), h (p + n + 1) (by omega) (by omega)]
/-- a step, seen from its end -/
theorem mv_rev {B Y p k : Nat} (hk : 0 < k) : ((B.testBit p = true ∧ B.testBit (p + k) = false) ∧ B ^^^ 2 ^ p ^^^ 2 ^ (p + k) = Y) ↔ ((Y.testBit (p + k) = true ∧ Y.testBit p = false) ∧ B = Y ^^^ 2 ^ p ^^^ 2 ^ (p + k)) := by
  have inv : ∀ Z : Nat, Z ^^^ 2 ^ p ^^^ 2 ^ (p + k) ^^^ 2 ^ p ^^^ 2 ^ (p + k) = Z := by
    intro Z
    rw [Nat.xor_assoc Z, Nat.xor_assoc Z, Nat.xor_assoc Z]
    rw [show 2 ^ p ^^^ 2 ^ (p + k) ^^^ 2 ^ p ^^^ 2 ^ (p + k) = 0 by rw [Nat.xor_assoc (2 ^ p ^^^ 2 ^ (p + k)), Nat.xor_self], Nat.xor_zero]
  constructor
  · rintro ⟨⟨h1, h2⟩, h3⟩
    refine ⟨⟨?_, ?_⟩, ?_⟩
    · rw [← h3, mv_bit, h2, decide_eq_false (by omega), decide_eq_true rfl]; rfl
    · rw [← h3, mv_bit, h1, decide_eq_true rfl, decide_eq_false (by omega)]; rfl
    · rw [← h3, inv]
  · rintro ⟨⟨h1, h2⟩, h3⟩
    refine ⟨⟨?_, ?_⟩, ?_⟩
    · rw [h3, mv_bit, h2, decide_eq_true rfl, decide_eq_false (by omega)]; rfl
    · rw [h3, mv_bit, h1, decide_eq_false (by omega), decide_eq_true rfl]; rfl
    · rw [h3, inv]
theorem lk_stF {n k : Nat} (hk : 0 < k) (hk2 : k ≤ 14) {Y : Nat} (hY : Y < 2 ^ 40) : ∀ (M acc : List (Int64 × Int64)), (∀ c, c ∈ M.map Prod.fst → ∃ B, c = jN B ∧ VB n B) → lkL (stF k M acc) (jN Y) = lkL acc (jN Y) + sumJ (fun p => if Y.testBit (p + k) = true ∧ Y.testBit p = false then (if psd Y p (k - 1) % 2 = 0 then lkL M (jN (Y ^^^ 2 ^ p ^^^ 2 ^ (p + k))) else -lkL M (jN (Y ^^^ 2 ^ p ^^^ 2 ^ (p + k)))) else 0) 22 := by
  intro M
  induction M with
  | nil =>
    intro acc _
    have : sumJ (fun p => if Y.testBit (p + k) = true ∧ Y.testBit p = false then (if psd Y p (k - 1) % 2 = 0 then lkL [] (jN (Y ^^^ 2 ^ p ^^^ 2 ^ (p + k))) else -lkL [] (jN (Y ^^^ 2 ^ p ^^^ 2 ^ (p + k)))) else 0) 22 = 0 := by
      have z : ∀ n, sumJ (fun _ => 0) n = 0 := by
        intro n
        induction n with
        | zero => rfl
        | succ n ih => simp only [sumJ]; rw [ih]; rfl
      rw [sumJ_congr (h := fun _ => 0) (fun p _ => by simp only [lkL, Int64.neg_zero, ite_self]), z]
    rw [this, Int64.add_zero]
    rfl
  | cons e M ih =>
    intro acc h1
    obtain ⟨B, e1, e2⟩ := h1 e.1 (by simp)
    show lkL (stF k M (stp e.1.toNatClampNeg e.2 k 22 acc)) (jN Y) = _
    rw [ih _ (fun c hc => h1 c (by simp only [List.map_cons, List.mem_cons]; exact Or.inr hc)), e1, jN_nat (Nat.lt_trans e2.1 (by decide)), lk_stp, Int64.add_assoc, ← sumJ_add]
    refine congrArg (fun z => lkL acc (jN Y) + z) ?_
    apply sumJ_congr
    intro p hp
    have hmv : B ^^^ 2 ^ p ^^^ 2 ^ (p + k) < 2 ^ 40 := Nat.xor_lt_two_pow (Nat.xor_lt_two_pow e2.1 (Nat.pow_lt_pow_right (by omega) (by omega))) (Nat.pow_lt_pow_right (by omega) (by omega))
    have hmy : Y ^^^ 2 ^ p ^^^ 2 ^ (p + k) < 2 ^ 40 := Nat.xor_lt_two_pow (Nat.xor_lt_two_pow hY (Nat.pow_lt_pow_right (by omega) (by omega))) (Nat.pow_lt_pow_right (by omega) (by omega))
    have i1 : jN (B ^^^ 2 ^ p ^^^ 2 ^ (p + k)) = jN Y ↔ B ^^^ 2 ^ p ^^^ 2 ^ (p + k) = Y := jN_inj (Nat.lt_trans hmv (by decide)) (Nat.lt_trans hY (by decide))
    have i2 : jN B = jN (Y ^^^ 2 ^ p ^^^ 2 ^ (p + k)) ↔ B = Y ^^^ 2 ^ p ^^^ 2 ^ (p + k) := jN_inj (Nat.lt_trans e2.1 (by decide)) (Nat.lt_trans hmy (by decide))
    simp only [lkL, e1]
    by_cases c : Y.testBit (p + k) = true ∧ Y.testBit p = false
    · rw [if_pos c, if_pos c]
      by_cases d : B = Y ^^^ 2 ^ p ^^^ 2 ^ (p + k)
      · have r := (mv_rev hk).mpr ⟨c, d⟩
        have ps : psd B p (k - 1) = psd Y p (k - 1) := psd_cong (k - 1) (fun q a b => by
          rw [d, mv_bit, decide_eq_false (by omega), decide_eq_false (by omega), Bool.xor_false, Bool.xor_false])
        rw [if_pos ⟨r.1, i1.mpr r.2⟩, if_pos (i2.mpr d), ps]
        split
        · rfl
        · rw [Int64.neg_add, Int64.sub_eq_add_neg]
      · have r : ¬ ((B.testBit p = true ∧ B.testBit (p + k) = false) ∧ jN (B ^^^ 2 ^ p ^^^ 2 ^ (p + k)) = jN Y) := fun w => d ((mv_rev hk).mp ⟨w.1, i1.mp w.2⟩).2
        rw [if_neg r, if_neg (fun w => d (i2.mp w)), Int64.zero_add, Int64.zero_add]
    · have r : ¬ ((B.testBit p = true ∧ B.testBit (p + k) = false) ∧ jN (B ^^^ 2 ^ p ^^^ 2 ^ (p + k)) = jN Y) := fun w => c ((mv_rev hk).mp ⟨w.1, i1.mp w.2⟩).1
      rw [if_neg r, if_neg c, if_neg c]
      rfl
abbrev bs255 : Nat → Int := fun B => if B = 255 then 1 else 0
theorem lk_step {n k : Nat} (hk : 0 < k) (hk2 : k ≤ 14) {L : List (Int64 × Int64)} (hL : VL n L) {ks : List Nat} (h : ∀ Y, Y < 2 ^ 40 → lkL L (jN Y) = Int64.ofInt (phiN bs255 ks Y)) : ∀ Y, Y < 2 ^ 40 → lkL (stF k L []) (jN Y) = Int64.ofInt (phiN bs255 (k :: ks) Y) := by
  intro Y hY
  rw [lk_stF hk hk2 hY L [] hL.2]
  show 0 + _ = Int64.ofInt (sumZ _ 22)
  rw [Int64.zero_add, ← sumJ_of]
  apply sumJ_congr
  intro p hp
  have hmy : Y ^^^ 2 ^ p ^^^ 2 ^ (p + k) < 2 ^ 40 := Nat.xor_lt_two_pow (Nat.xor_lt_two_pow hY (Nat.pow_lt_pow_right (by omega) (by omega))) (Nat.pow_lt_pow_right (by omega) (by omega))
  by_cases c : Y.testBit (p + k) = true ∧ Y.testBit p = false
  · rw [if_pos c, if_pos c, h _ hmy, Int64.ofInt_mul]
    unfold sgn
    split
    · rw [show Int64.ofInt 1 = 1 from rfl, Int64.one_mul]
    · rw [show Int64.ofInt (-1) = -1 from rfl, Int64.neg_mul, Int64.one_mul]
  · rw [if_neg c, if_neg c]
    rfl
end CHREF
