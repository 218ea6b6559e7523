section CHARC
variable {A : Nat → Nat} {F : Mem} {S W : Nat → Nat → Nat} {N : Nat → Nat} {PT : Nat → Nat → Nat} {PO : Nat → Nat} {QT : Nat → Nat → Nat} {QO : Nat → Nat} {aw : Bool} {th : Int32}
theorem and_pow (B q : Nat) : B &&& 2 ^ q = if B.testBit q = true then 2 ^ q else 0 := by
  apply Nat.eq_of_testBit_eq
  intro i
  rw [Nat.testBit_and, Nat.testBit_two_pow]
  by_cases h : q = i
  · subst h
    cases hb : B.testBit q
    · simp
    · simp [Nat.testBit_two_pow]
  · cases hb : B.testBit q
    · simp [h]
    · simp [h, Nat.testBit_two_pow]
theorem xor_set : ∀ (q B : Nat), B.testBit q = false → B ^^^ 2 ^ q = B + 2 ^ q := by
  intro q
  induction q with
  | zero =>
    intro B h
    have h0 : B % 2 = 0 := by
      rw [Nat.testBit_zero] at h
      simp at h
      omega
    have e1 := Nat.div_add_mod (B ^^^ 2 ^ 0) 2
    have e2 : (B ^^^ 2 ^ 0) / 2 = B / 2 := by
      have := Nat.xor_div_two_pow (a := B) (b := 2 ^ 0) (n := 1)
      simpa using this
    have e3 : (B ^^^ 2 ^ 0) % 2 = 1 := by
      have := Nat.xor_mod_two_pow (a := B) (b := 2 ^ 0) (n := 1)
      rw [show (2 : Nat) ^ 1 = 2 from rfl, h0] at this
      simpa using this
    rw [e2, e3] at e1
    have := Nat.div_add_mod B 2
    omega
  | succ q ih =>
    intro B h
    have h1 : (B / 2).testBit q = false := by rw [← h, Nat.testBit_succ]
    have e1 := Nat.div_add_mod (B ^^^ 2 ^ (q + 1)) 2
    have p2 : 2 ^ (q + 1) = 2 ^ q * 2 := Nat.pow_succ ..
    have e2 : (B ^^^ 2 ^ (q + 1)) / 2 = B / 2 + 2 ^ q := by
      have := Nat.xor_div_two_pow (a := B) (b := 2 ^ (q + 1)) (n := 1)
      rw [show (2 : Nat) ^ 1 = 2 from rfl, show 2 ^ (q + 1) / 2 = 2 ^ q by omega, ih _ h1] at this
      exact this
    have e3 : (B ^^^ 2 ^ (q + 1)) % 2 = B % 2 := by
      have := Nat.xor_mod_two_pow (a := B) (b := 2 ^ (q + 1)) (n := 1)
      rw [show (2 : Nat) ^ 1 = 2 from rfl, show 2 ^ (q + 1) % 2 = 0 by omega, Nat.xor_zero] at this
      exact this
    rw [e2, e3] at e1
    have := Nat.div_add_mod B 2
    omega
theorem xor_clr {q B : Nat} (h : B.testBit q = true) : (B ^^^ 2 ^ q) + 2 ^ q = B := by
  have h1 : (B ^^^ 2 ^ q).testBit q = false := by rw [Nat.testBit_xor, h, Nat.testBit_two_pow]; simp
  rw [← xor_set q _ h1, Nat.xor_assoc, Nat.xor_self, Nat.xor_zero]
theorem mask_bit (p k i : Nat) : (2 ^ (p + k) - 2 ^ p).testBit i = decide (p ≤ i ∧ i < p + k) := by
  have e : 2 ^ (p + k) - 2 ^ p = 2 ^ p * (2 ^ k - 1) := by
    rw [Nat.mul_sub, ← Nat.pow_add, Nat.mul_one]
  rw [e, Nat.testBit_two_pow_mul, Nat.testBit_two_pow_sub_one]
  by_cases h1 : p ≤ i
  · by_cases h2 : i < p + k
    · simp [h1, h2, show i - p < k by omega]
    · simp [h1, h2, show ¬ i - p < k by omega]
  · simp [h1]
theorem popN_mask {B p k : Nat} (hk : 0 < k) (hb : B.testBit p = false) : ∀ m, p + k ≤ m → popN (B &&& (2 ^ (p + k) - 2 ^ p)) m = psd B p (k - 1) := by
  have bit : ∀ i, (B &&& (2 ^ (p + k) - 2 ^ p)).testBit i = (B.testBit i && decide (p ≤ i ∧ i < p + k)) := fun i => by rw [Nat.testBit_and, mask_bit]
  have lo : ∀ m, m ≤ p → popN (B &&& (2 ^ (p + k) - 2 ^ p)) m = 0 := by
    intro m
    induction m with
    | zero => intro _; rfl
    | succ m ih =>
      intro h
      simp only [popN]
      rw [ih (by omega), bit m, decide_eq_false (by omega), Bool.and_false]
      rfl
  have mid : ∀ j, j < k → popN (B &&& (2 ^ (p + k) - 2 ^ p)) (p + 1 + j) = psd B p j := by
    intro j
    induction j with
    | zero =>
      intro _
      show popN _ p + _ = 0
      rw [lo p (Nat.le_refl _), bit p, hb]
      rfl
    | succ j ih =>
      intro h
      show popN (B &&& (2 ^ (p + k) - 2 ^ p)) (p + 1 + j) + (if (B &&& (2 ^ (p + k) - 2 ^ p)).testBit (p + 1 + j) = true then 1 else 0) = psd B p j + (if B.testBit (p + j + 1) = true then 1 else 0)
      rw [ih (by omega), bit (p + 1 + j), decide_eq_true (by omega), Bool.and_true, show p + 1 + j = p + j + 1 by omega]
  intro m
  induction m with
  | zero => intro h; omega
  | succ m ih =>
    intro h
    by_cases c : m = p + (k - 1)
    · have := mid (k - 1) (by omega)
      rw [show p + 1 + (k - 1) = m + 1 by omega] at this
      exact this
    · simp only [popN]
      rw [ih (by omega), bit m, decide_eq_false (by omega), Bool.and_false]
      rfl
/-- the hooks that are left -/
def hkl (H : Nat → Nat) : Nat → Nat → List Nat
  | 0, _ => []
  | m + 1, i => if H i = 0 then [] else H i :: hkl H m (i + 1)
theorem pow_lt22 {p : Nat} (h : p < 22) : 2 ^ p < 2 ^ 22 := Nat.pow_lt_pow_right (by omega) h
theorem bit_hi {B q : Nat} (hB : B < 2 ^ 22) (h : 22 ≤ q) : B.testBit q = false := Nat.testBit_lt_two_pow (Nat.lt_of_lt_of_le hB (Nat.pow_le_pow_right (n := 2) (by omega) h))
theorem move_lt {B p k : Nat} (hB : B < 2 ^ 22) (h1 : B.testBit (p + k) = true) (h2 : B.testBit p = false) : B ^^^ 2 ^ p ^^^ 2 ^ (p + k) < 2 ^ 22 := by
  have hq : p + k < 22 := by
    apply Nat.lt_of_not_le
    intro q
    rw [bit_hi hB q] at h1
    cases h1
  exact Nat.xor_lt_two_pow (Nat.xor_lt_two_pow hB (pow_lt22 (by omega))) (pow_lt22 hq)
theorem move_eq {B p k : Nat} (hk : 0 < k) (h1 : B.testBit (p + k) = true) (h2 : B.testBit p = false) : B - 2 ^ (p + k) + 2 ^ p = B ^^^ 2 ^ p ^^^ 2 ^ (p + k) ∧ 2 ^ (p + k) ≤ B := by
  have e1 := xor_clr h1
  have h3 : (B ^^^ 2 ^ (p + k)).testBit p = false := by
    rw [Nat.testBit_xor, h2, Nat.testBit_two_pow, decide_eq_false (by omega)]
    rfl
  have e2 := xor_set p _ h3
  have e3 : B ^^^ 2 ^ p ^^^ 2 ^ (p + k) = B ^^^ 2 ^ (p + k) ^^^ 2 ^ p := by
    rw [Nat.xor_assoc, Nat.xor_comm (2 ^ p), ← Nat.xor_assoc]
  rw [e3, e2]
  omega
theorem X3_sf18 {h k i : Nat} {B : Nat} (hB : B < 2 ^ 22) (hk : 0 < k) (hk2 : k ≤ 14) (hi : i < 8) {ks : List Nat} (rc : Mem → Int32 → Int32 → Nat → Option (Int64 × Mem)) (hrc : ∀ B', B' < 2 ^ 22 → rc F (iN (i + 1)) (iN B') h = some (Int64.ofInt (phiN (fun _ => 1) ks B'), F)) : ∀ (m n j : Nat), k + j + m = 22 → m < n → fX3_sumFrom_18 rc n (iN i) (iN B) h (iN k) (Int64.ofInt (sumZ (fun p => if B.testBit (p + k) = true ∧ B.testBit p = false then sgn (psd B p (k - 1)) * phiN (fun _ => 1) ks (B ^^^ 2 ^ p ^^^ 2 ^ (p + k)) else 0) j)) (iN (k + j)) F = some (Int64.ofInt (sumZ (fun p => if B.testBit (p + k) = true ∧ B.testBit p = false then sgn (psd B p (k - 1)) * phiN (fun _ => 1) ks (B ^^^ 2 ^ p ^^^ 2 ^ (p + k)) else 0) (22 - k)), F) := by
  intro m
  induction m with
  | zero =>
    intro n j h1 h2
    obtain ⟨n', rfl⟩ : ∃ n', n = n' + 1 := ⟨n - 1, by omega⟩
    have ej : j = 22 - k := by omega
    rw [fX3_sumFrom_18.eq_2, show k + j = 22 by omega, if_pos (by decide), ej]
  | succ m ih =>
    intro n j h1 h2
    obtain ⟨n', rfl⟩ : ∃ n', n = n' + 1 := ⟨n - 1, by omega⟩
    have q := ih n' (j + 1) (by omega) (by omega)
    rw [sumZ, show k + (j + 1) = k + j + 1 by omega] at q
    have pj := pow_lt22 (p := j) (by omega)
    have pk := pow_lt22 (p := j + k) (by omega)
    rw [fX3_sumFrom_18.eq_2, if_neg (show ¬ (22 : Int32) ≤ iN (k + j) from fun w => by have := (iN_le (a := 22) (by omega) (by omega)).mp w; omega), i_shl (by omega), iN_sub (show k ≤ k + j by omega), show k + j - k = j by omega, i_shl (by omega), iN_and, iN_and, and_pow, and_pow, show k + j = j + k by omega]
    unfold fX3_sumFrom_101
    rw [iN_one]
    rw [show k + j + 1 = j + k + 1 by omega] at q
    by_cases c1 : B.testBit (j + k) = true
    · rw [if_pos c1]
      have z1 : ¬ iN (2 ^ (j + k)) = 0 := fun w => by
        have := (iN_inj (b := 0) (by omega) (by omega)).mp w
        have := Nat.two_pow_pos (j + k)
        omega
      rw [if_neg z1]
      by_cases c2 : B.testBit j = true
      · rw [if_pos c2]
        have z2 : ¬ iN (2 ^ j) = 0 := fun w => by
          have := (iN_inj (b := 0) (by omega) (by omega)).mp w
          have := Nat.two_pow_pos j
          omega
        rw [if_neg z2]
        rw [if_neg (fun w => by rw [c2] at w; exact absurd w.2 (by decide)), Int.add_zero] at q
        exact q
      · have c2' : B.testBit j = false := by
          cases hh : B.testBit j
          · rfl
          · exact absurd hh c2
        obtain ⟨e1, e2⟩ := move_eq hk c1 c2'
        have ml := move_lt hB c1 c2'
        have mono : 2 ^ j ≤ 2 ^ (j + k) := Nat.pow_le_pow_right (by omega) (by omega)
        rw [if_neg c2, if_pos (show iN 0 = 0 from rfl), iN_sub mono, iN_and, J_bitCount (Nat.lt_of_le_of_lt Nat.and_le_left (by omega)), Option.bind_some, popN_mask hk c2' 24 (by omega), iN_sub e2, iN_add, e1, iN_one]
        dsimp only
        have pb : psd B j (k - 1) < 100 := by
          have : ∀ n, psd B j n ≤ n := by
            intro n
            induction n with
            | zero => exact Nat.le_refl _
            | succ n ih => simp only [psd]; split <;> omega
          have := this (k - 1)
          omega
        rw [hrc _ ml, Option.bind_some, show (2 : Int32) = iN 2 from rfl, irem_at (by omega) (by omega) (by omega), Option.bind_some]
        rw [if_pos ⟨c1, c2'⟩, Int64.ofInt_add, Int64.ofInt_mul] at q
        unfold fX3_sumFrom_98 fX3_sumFrom_101
        rw [iN_one]
        unfold sgn at q
        by_cases c3 : psd B j (k - 1) % 2 = 0
        · rw [if_pos c3, show Int64.ofInt 1 = 1 from rfl, Int64.one_mul] at q
          rw [if_pos (show iN (psd B j (k - 1) % 2) = 0 by rw [c3]; rfl)]
          exact q
        · rw [if_neg c3, show Int64.ofInt (-1) = -1 from rfl, Int64.neg_mul, Int64.one_mul] at q
          rw [if_neg (show ¬ iN (psd B j (k - 1) % 2) = 0 by rw [show psd B j (k - 1) % 2 = 1 by omega]; decide)]
          exact q
    · rw [if_neg c1, if_pos (show iN 0 = 0 from rfl)]
      rw [if_neg (fun w => c1 w.1), Int.add_zero] at q
      exact q
theorem X3_sumFrom {h la : Nat} {H : Nat → Nat} (hH : isS F h la H) (h8 : ∀ s, 8 ≤ s → H s = 0) (h14 : ∀ s, H s ≤ 14) : ∀ (m i d B : Nat), i + m = 8 → m < d → B < 2 ^ 22 → mX3_sumFrom d F (iN i) (iN B) h = some (Int64.ofInt (phiN (fun _ => 1) (hkl H m i) B), F) := by
  have := FU_big
  intro m
  induction m with
  | zero =>
    intro i d B h1 h2 hB
    obtain ⟨d', rfl⟩ : ∃ d', d = d' + 1 := ⟨d - 1, by omega⟩
    rw [mX3_sumFrom.eq_2, obj_of hH.1, Option.bind_some, X4_rowLength hH h8 (by omega), Option.bind_some, h8 i (by omega), if_pos (show iN 0 = 0 from rfl)]
    rfl
  | succ m ih =>
    intro i d B h1 h2 hB
    obtain ⟨d', rfl⟩ : ∃ d', d = d' + 1 := ⟨d - 1, by omega⟩
    have hi := h14 i
    rw [mX3_sumFrom.eq_2, obj_of hH.1, Option.bind_some, X4_rowLength hH h8 (by omega), Option.bind_some]
    simp only [hkl]
    by_cases c : H i = 0
    · rw [c, if_pos (show iN 0 = 0 from rfl), if_pos rfl]
      rfl
    · rw [if_neg (show ¬ iN (H i) = 0 from fun w => c ((iN_inj (b := 0) (by omega) (by omega)).mp w)), if_neg c]
      have e := X3_sf18 (F := F) (h := h) (k := H i) (i := i) hB (by omega) hi (by omega) (ks := hkl H m (i + 1)) (mX3_sumFrom d') (fun B' hB' => ih (i + 1) d' B' (by omega) (by omega) hB') (22 - H i) FU 0 (by omega) (by omega)
      rw [Nat.add_zero] at e
      refine e.trans ?_
      congr 3
      show _ = sumZ _ 22
      symm
      have ext : ∀ (g : Nat → Int) (a : Nat) (n : Nat), a ≤ n → (∀ i, a ≤ i → i < n → g i = 0) → sumZ g n = sumZ g a := by
        intro g a n
        induction n with
        | zero => intro h _; rw [show a = 0 by omega]
        | succ n ih =>
          intro h hz
          by_cases k : a = n + 1
          · rw [k]
          · simp only [sumZ]
            rw [ih (by omega) (fun i a b => hz i a (by omega)), hz n (by omega) (by omega), Int.add_zero]
      apply ext _ _ _ (by omega)
      intro p p1 p2
      rw [if_neg (fun w => by rw [bit_hi hB (by omega)] at w; exact absurd w.1 (by decide))]
/-- the beads of a shape -/
def bdN (V : Nat → Nat) : Nat → Nat
  | 0 => 0
  | m + 1 => bdN V m ||| 2 ^ (V m + 7 - m)
theorem bdN_lt {V : Nat → Nat} (h14 : ∀ s, V s ≤ 14) : ∀ m, m ≤ 8 → bdN V m < 2 ^ 22 := by
  intro m
  induction m with
  | zero => intro _; exact Nat.two_pow_pos 22
  | succ m ih =>
    intro h
    have := h14 m
    exact Nat.or_lt_two_pow (ih (by omega)) (pow_lt22 (by omega))
theorem X3_bo4 {a la : Nat} {V : Nat → Nat} (hV : isS F a la V) (h14 : ∀ s, V s ≤ 14) : ∀ (m n i : Nat), i + m = 8 → m < n → fX3_beadsOf_4 n a (iN (bdN V i)) (iN i) F = some (iN (bdN V 8), F) := by
  intro m
  induction m with
  | zero =>
    intro n i h1 h2
    obtain ⟨n', rfl⟩ : ∃ n', n = n' + 1 := ⟨n - 1, by omega⟩
    have : i = 8 := by omega
    subst this
    rw [fX3_beadsOf_4.eq_2, if_pos (by decide)]
  | succ m ih =>
    intro n i h1 h2
    obtain ⟨n', rfl⟩ : ∃ n', n = n' + 1 := ⟨n - 1, by omega⟩
    have hv := h14 i
    rw [fX3_beadsOf_4.eq_2]
    simp (disch := omega) only [il8, il1, iN_le, if_neg, gfR_at (k := 0) (v := la) hV.1 rfl, Option.bind_some, rdI_at hV.2, iN_add, iN_sub]
    rw [← il1, show V i + 8 - 1 - i = V i + 7 - i by omega, i_shl (by omega), iN_or]
    exact ih n' (i + 1) (by omega) (by omega)
theorem X3_characterOf {a la h lh : Nat} {V H : Nat → Nat} (hV : isS F a la V) (hH : isS F h lh H) (v14 : ∀ s, V s ≤ 14) (h8 : ∀ s, 8 ≤ s → H s = 0) (h14 : ∀ s, H s ≤ 14) : mX3_characterOf F a h = some (Int64.ofInt (phiN (fun _ => 1) (hkl H 8 0) (bdN V 8)), F) := by
  have := FU_big
  have e1 : mX3_beadsOf F a = some (iN (bdN V 8), F) := X3_bo4 hV v14 8 FU 0 (by omega) (by omega)
  unfold mX3_characterOf
  rw [e1, Option.bind_some]
  dsimp only
  rw [il0, X3_sumFrom hH h8 h14 8 0 30 (bdN V 8) (by omega) (by omega) (bdN_lt v14 8 (by omega)), Option.bind_some]
theorem okS_le2 {V : Nat → Nat} {b : Nat} (h : okS V) (hb : boxes V 8 ≤ b) : ∀ s, V s ≤ b := by
  have h0 : V 0 ≤ b := by
    simp only [boxes] at hb
    omega
  intro s
  induction s with
  | zero => exact h0
  | succ s ih => have := h.1 s; omega
theorem C_character (h : CC A F S W N PT PO QT QO aw) (hS : ∀ i, i < 4 → okS (S i)) {i j : Nat} (hi : i < 4) (hj : j < 4) : mX9_character F (A 0) (iN i) (iN j) = some (if boxes (S i) 8 = boxes (S j) 8 then (if boxes (S i) 8 ≤ 14 then .inr (Int64.ofInt (phiN (fun _ => 1) (hkl (S j) 8 0) (bdN (S i) 8))) else .inl "java/lang/UnsupportedOperationException") else .inl "java/lang/IllegalStateException", F) := by
  have ti := h.2.2.2.1 i hi
  have tj := h.2.2.2.1 j hj
  have bi := (hS i hi).2.2
  have bj := (hS j hj).2.2
  unfold mX9_character
  rw [obj_of h.1.1, Option.bind_some, C_slot h.1 hi, thn_r, obj_of h.1.1, Option.bind_some, C_slot h.1 hj, thn_r, obj_of ti.1, Option.bind_some, X4_countBoxes ti, Option.bind_some]
  dsimp only
  rw [obj_of tj.1, Option.bind_some, X4_countBoxes tj, Option.bind_some]
  dsimp only
  simp (disch := omega) only [iN_inj, obj_of ti.1, Option.bind_some, X4_countBoxes ti, il14, iN_le]
  by_cases c : boxes (S i) 8 = boxes (S j) 8
  · rw [if_pos c, if_pos c]
    by_cases c2 : boxes (S i) 8 ≤ 14
    · rw [if_pos c2, if_pos c2, X3_characterOf ti tj (okS_le2 (hS i hi) c2) (hS j hj).2.1 (okS_le2 (hS j hj) (by omega)), Option.bind_some]
    · rw [if_neg c2, if_neg c2]
  · rw [if_neg c, if_neg c]
/-- beads as places -/
def bdX (V : Nat → Nat) (i : Nat) : Int := (V i : Int) + 7 - i
theorem bdN_bits (V : Nat → Nat) : ∀ m, m ≤ 8 → ∀ p, (bdN V m).testBit p = true ↔ ∃ i, i < m ∧ bdX V i = (p : Int) := by
  intro m
  induction m with
  | zero =>
    intro _ p
    simp [bdN]
  | succ m ih =>
    intro hm p
    simp only [bdN]
    rw [Nat.testBit_or, Bool.or_eq_true, ih (by omega), Nat.testBit_two_pow, decide_eq_true_iff]
    constructor
    · rintro (⟨i, h1, h2⟩ | h)
      · exact ⟨i, by omega, h2⟩
      · exact ⟨m, by omega, by unfold bdX; omega⟩
    · rintro ⟨i, h1, h2⟩
      by_cases c : i = m
      · subst c; right; unfold bdX at h2; omega
      · left; exact ⟨i, by omega, h2⟩
theorem bdX_sum (V : Nat → Nat) : sumZ (bdX V) 8 = 28 + (boxes V 8 : Int) := by
  simp only [sumZ, boxes, bdX]
  omega
theorem hkl_sum {H : Nat → Nat} (hp : par H) : ∀ m i, (hkl H m i).sum = boxes (fun t => H (i + t)) m := by
  intro m
  induction m with
  | zero => intro i; rfl
  | succ m ih =>
    intro i
    simp only [hkl]
    by_cases c : H i = 0
    · rw [if_pos c]
      have z : ∀ d, H (i + d) = 0 := by
        intro d
        induction d with
        | zero => exact c
        | succ d ih => have := hp (i + d); rw [ih] at this; rw [← Nat.add_assoc]; omega
      have : ∀ n, boxes (fun t => H (i + t)) n = 0 := by
        intro n
        induction n with
        | zero => rfl
        | succ n ih => simp only [boxes]; rw [ih, z]
      rw [this]
      rfl
    · rw [if_neg c, List.sum_cons, ih]
      have sh : ∀ n, H i + boxes (fun t => H (i + 1 + t)) n = boxes (fun t => H (i + t)) (n + 1) := by
        intro n
        induction n with
        | zero => simp [boxes]
        | succ n ih =>
          have e1 : boxes (fun t => H (i + 1 + t)) (n + 1) = boxes (fun t => H (i + 1 + t)) n + H (i + 1 + n) := rfl
          have e2 : boxes (fun t => H (i + t)) (n + 1 + 1) = boxes (fun t => H (i + t)) (n + 1) + H (i + (n + 1)) := rfl
          rw [e1, e2, ← ih, show i + 1 + n = i + (n + 1) by omega]
          omega
      exact sh m
theorem hkl_pos (H : Nat → Nat) : ∀ m i k, k ∈ hkl H m i → 0 < k := by
  intro m
  induction m with
  | zero => intro i k h; simp [hkl] at h
  | succ m ih =>
    intro i k h
    simp only [hkl] at h
    by_cases c : H i = 0
    · rw [if_pos c] at h; simp at h
    · rw [if_neg c, List.mem_cons] at h
      rcases h with h | h
      · omega
      · exact ih _ _ h
/-- the class's character as the reference counts it -/
theorem char_eq {V H : Nat → Nat} (hV : okS V) (hH : okS H) (he : boxes V 8 = boxes H 8) (h14 : boxes V 8 ≤ 14) : phiN (fun _ => 1) (hkl H 8 0) (bdN V 8) = phiN (fun B => if B = 255 then 1 else 0) (hkl H 8 0).reverse (bdN V 8) := by
  refine phi_perm (x := bdX V) rfl rfl (List.reverse_perm _).symm (hkl_pos H 8 0) (fun p => bdN_bits V 8 (Nat.le_refl _) p) ?_ ?_ ?_
  · intro i hi
    have := hV.1 i
    unfold bdX
    omega
  · intro i hi
    have := okS_le2 hV h14 i
    unfold bdX
    omega
  · rw [bdX_sum, hkl_sum hH.1, he]
    have : (fun t => H (0 + t)) = H := by funext t; rw [Nat.zero_add]
    rw [this]
end CHARC
