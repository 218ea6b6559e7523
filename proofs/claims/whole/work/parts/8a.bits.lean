section BITS2
abbrev jN (n : Nat) : Int64 := Int64.ofNat n
theorem iN_and (a b : Nat) : iN a &&& iN b = iN (a &&& b) := Int32.toBitVec.inj (BitVec.ofNat_and (w := 32)).symm
theorem iN_or (a b : Nat) : iN a ||| iN b = iN (a ||| b) := Int32.toBitVec.inj (BitVec.ofNat_or (w := 32)).symm
theorem jN_and (a b : Nat) : jN a &&& jN b = jN (a &&& b) := Int64.toBitVec.inj (BitVec.ofNat_and (w := 64)).symm
theorem jN_or (a b : Nat) : jN a ||| jN b = jN (a ||| b) := Int64.toBitVec.inj (BitVec.ofNat_or (w := 64)).symm
theorem jN_xor (a b : Nat) : jN a ^^^ jN b = jN (a ^^^ b) := Int64.toBitVec.inj (BitVec.ofNat_xor (w := 64)).symm
theorem jN_add (a b : Nat) : jN a + jN b = jN (a + b) := (Int64.ofNat_add a b).symm
theorem jN_inj {a b : Nat} (ha : a < 2 ^ 63) (hb : b < 2 ^ 63) : jN a = jN b ↔ a = b := by
  constructor
  · intro h
    have := congrArg Int64.toInt h
    rw [Int64.toInt_ofNat_of_lt ha, Int64.toInt_ofNat_of_lt hb] at this
    omega
  · intro h; rw [h]
theorem i_shl {p : Nat} (h : p < 31) : (1 : Int32) <<< (iN p &&& 31) = iN (2 ^ p) := by
  have key : ∀ p : Fin 31, (1 : Int32) <<< (iN p.val &&& 31) = iN (2 ^ p.val) := by decide +kernel
  exact key ⟨p, h⟩
theorem j_shl {p : Nat} (h : p < 63) : (1 : Int64) <<< (Int32.toInt64 (iN p) &&& 63) = jN (2 ^ p) := by
  have key : ∀ p : Fin 63, (1 : Int64) <<< (Int32.toInt64 (iN p.val) &&& 63) = jN (2 ^ p.val) := by decide +kernel
  exact key ⟨p, h⟩
theorem j_amt {p : Nat} (h : p < 63) : (Int32.toInt64 (iN p) &&& 63).toBitVec.smod 64 = BitVec.ofNat 64 p := by
  have key : ∀ p : Fin 63, (Int32.toInt64 (iN p.val) &&& 63).toBitVec.smod 64 = BitVec.ofNat 64 p.val := by decide +kernel
  exact key ⟨p, h⟩
theorem j_bit {B p : Nat} (hB : B < 2 ^ 63) (h : p < 63) : (jN B >>> (Int32.toInt64 (iN p) &&& 63)) &&& 1 = jN (if B.testBit p = true then 1 else 0) := by
  apply Int64.toBitVec.inj
  show BitVec.sshiftRight' (BitVec.ofNat 64 B) ((Int32.toInt64 (iN p) &&& 63).toBitVec.smod 64) &&& 1#64 = BitVec.ofNat 64 _
  rw [j_amt h]
  show (BitVec.ofNat 64 B).sshiftRight (BitVec.ofNat 64 p).toNat &&& 1#64 = _
  rw [BitVec.toNat_ofNat, Nat.mod_eq_of_lt (by omega)]
  apply BitVec.eq_of_getLsbD_eq
  intro i hi
  rw [BitVec.getLsbD_and, BitVec.getLsbD_sshiftRight]
  by_cases i0 : i = 0
  · subst i0
    have h1 : p + 0 < 64 := by omega
    simp only [show ¬ (64 ≤ 0) by omega, decide_false, Bool.not_false, Bool.true_and, h1, if_true]
    have e1 : (BitVec.ofNat 64 B).getLsbD (p + 0) = B.testBit p := by
      rw [BitVec.getLsbD_ofNat]
      simp [h1, show p < 64 by omega]
    rw [e1]
    cases B.testBit p <;> rfl
  · have e0 : (1#64).getLsbD i = false := by
      rw [BitVec.getLsbD_ofNat]
      have : Nat.testBit 1 i = false := Nat.testBit_lt_two_pow (Nat.lt_of_lt_of_le (by decide) (Nat.pow_le_pow_right (n := 2) (by omega) (show 1 ≤ i by omega)))
      rw [this, Bool.and_false]
    rw [e0, Bool.and_false]
    symm
    rw [BitVec.getLsbD_ofNat]
    cases B.testBit p
    · simp
    · have : Nat.testBit 1 i = false := Nat.testBit_lt_two_pow (Nat.lt_of_lt_of_le (by decide) (Nat.pow_le_pow_right (n := 2) (by omega) (show 1 ≤ i by omega)))
      simp [this]
theorem iN_div {a b : Nat} (ha : a < 2 ^ 31) (hb : b < 2 ^ 31) (h0 : 0 < b) : iN a / iN b = iN (a / b) := by
  have m1 : Int32.minValue.toInt = -2147483648 := by decide
  have m2 : Int32.maxValue.toInt = 2147483647 := by decide
  have := Int32.ofInt_tdiv (a := (a : Int)) (b := (b : Int)) (by rw [m1]; omega) (by rw [m2]; omega) (by rw [m1]; omega) (by rw [m2]; omega)
  rw [← Int.ofNat_tdiv, Int32.ofInt_eq_ofNat, Int32.ofInt_eq_ofNat, Int32.ofInt_eq_ofNat] at this
  exact this.symm
theorem irem_at {a b : Nat} (ha : a < 2 ^ 31) (hb : b < 2 ^ 31) (h0 : 0 < b) : irem0 (iN a) (iN b) = some (iN (a % b)) := by
  unfold irem0
  rw [if_neg (show ¬ iN b = 0 from fun q => by have := (iN_inj (b := 0) hb (by omega)).mp q; omega), iN_div ha hb h0, iN_mul, iN_sub (Nat.div_mul_le_self a b)]
  congr 2
  have := Nat.div_add_mod a b
  rw [Nat.mul_comm] at this
  omega
theorem idiv_at {a b : Nat} (ha : a < 2 ^ 31) (hb : b < 2 ^ 31) (h0 : 0 < b) : idiv0 (iN a) (iN b) = some (iN (a / b)) := by
  unfold idiv0
  rw [if_neg (show ¬ iN b = 0 from fun q => by have := (iN_inj (b := 0) hb (by omega)).mp q; omega), iN_div ha hb h0]
theorem iush_at {a k : Nat} (ha : a < 2 ^ 31) (hk : k < 31) : iush (iN a) (iN k) = iN (a / 2 ^ k) := by
  have key : ∀ k : Fin 31, ((iN k.val).toUInt32 &&& Int32.toUInt32 31).toNat = k.val := by decide +kernel
  unfold iush
  apply Int32.toBitVec.inj
  show (UInt32.ofNat a >>> ((iN k).toUInt32 &&& Int32.toUInt32 31)).toBitVec = BitVec.ofNat 32 _
  apply BitVec.eq_of_toNat_eq
  show (UInt32.ofNat a >>> ((iN k).toUInt32 &&& Int32.toUInt32 31)).toNat = _
  rw [UInt32.toNat_shiftRight, key ⟨k, hk⟩, BitVec.toNat_ofNat, UInt32.toNat_ofNat', Nat.mod_eq_of_lt (a := a) (by omega)]
  show a >>> (k % 32) = _
  rw [Nat.mod_eq_of_lt (a := k) (by omega), Nat.shiftRight_eq_div_pow]
  rw [Nat.mod_eq_of_lt]
  have := Nat.div_le_self a (2 ^ k)
  omega
/-! bits counted by bytes -/
theorem and_split (x m : Nat) : x &&& m = (x % 256 &&& m % 256) + 256 * (x / 256 &&& m / 256) := by
  have h := Nat.div_add_mod (x &&& m) 256
  rw [show (256 : Nat) = 2 ^ 8 from rfl] at h ⊢
  rw [Nat.and_div_two_pow, Nat.and_mod_two_pow] at h
  omega
theorem and3 {x0 x1 x2 k K : Nat} (h0 : x0 < 256) (h1 : x1 < 256) (h2 : x2 < 256) (hk : k < 256) (hK : K = k + 256 * (k + 256 * (k + 256 * k))) : (x0 + 256 * (x1 + 256 * x2)) &&& K = (x0 &&& k) + 256 * ((x1 &&& k) + 256 * (x2 &&& k)) := by
  subst hK
  rw [and_split, show (x0 + 256 * (x1 + 256 * x2)) % 256 = x0 by omega, show (x0 + 256 * (x1 + 256 * x2)) / 256 = x1 + 256 * x2 by omega, show (k + 256 * (k + 256 * (k + 256 * k))) % 256 = k by omega, show (k + 256 * (k + 256 * (k + 256 * k))) / 256 = k + 256 * (k + 256 * k) by omega]
  rw [and_split (x1 + 256 * x2), show (x1 + 256 * x2) % 256 = x1 by omega, show (x1 + 256 * x2) / 256 = x2 by omega, show (k + 256 * (k + 256 * k)) % 256 = k by omega, show (k + 256 * (k + 256 * k)) / 256 = k + 256 * k by omega]
  rw [and_split x2, show x2 % 256 = x2 by omega, show x2 / 256 = 0 by omega, show (k + 256 * k) % 256 = k by omega, Nat.zero_and]
  omega
def bcA (b : Nat) : Nat := b - (b / 2 &&& 85)
def bcB (b : Nat) : Nat := (b &&& 51) + (b / 4 &&& 51)
def bcC (b : Nat) : Nat := (b + b / 16) &&& 15
def popN (n : Nat) : Nat → Nat
  | 0 => 0
  | m + 1 => popN n m + (if n.testBit m = true then 1 else 0)
theorem bc_byte : ∀ b : Fin 256, bcA b.val < 256 ∧ (b.val / 2 &&& 85) ≤ b.val ∧ (b.val / 2 + 128 &&& 85) = (b.val / 2 &&& 85) ∧ (bcB (bcA b.val) ≤ 68 ∧ bcB (bcA b.val) % 16 ≤ 4) ∧ bcC (bcB (bcA b.val)) = popN b.val 8 := by decide +kernel
theorem bc_byte2 : ∀ b : Fin 256, ∀ c : Fin 4, (b.val / 4 + 64 * c.val &&& 51) = (b.val / 4 &&& 51) := by decide +kernel
theorem bc_byte3 : ∀ b : Fin 69, ∀ c : Fin 16, (b.val + (b.val / 16 + 16 * c.val) &&& 15) = bcC b.val ∧ bcC b.val < 16 := by decide +kernel
theorem popN_split {b r : Nat} (hb : b < 256) : ∀ m, popN (b + 256 * r) (8 + m) = popN b 8 + popN r m := by
  intro m
  induction m with
  | zero =>
    show popN (b + 256 * r) 8 = popN b 8 + 0
    have key : ∀ j, j ≤ 8 → popN (b + 256 * r) j = popN b j := by
      intro j
      induction j with
      | zero => intro _; rfl
      | succ j ih =>
        intro hj
        simp only [popN]
        rw [ih (by omega)]
        have := Nat.testBit_two_pow_mul_add r (b := b) (i := 8) hb j
        rw [show 2 ^ 8 * r + b = b + 256 * r by omega, if_pos (by omega)] at this
        rw [this]
    exact key 8 (Nat.le_refl _)
  | succ m ih =>
    show popN (b + 256 * r) (8 + m) + (if (b + 256 * r).testBit (8 + m) = true then 1 else 0) = popN b 8 + (popN r m + (if r.testBit m = true then 1 else 0))
    rw [ih]
    have := Nat.testBit_two_pow_mul_add r (b := b) (i := 8) hb (8 + m)
    rw [show 2 ^ 8 * r + b = b + 256 * r by omega, if_neg (by omega), show 8 + m - 8 = m by omega] at this
    rw [this]
    omega
theorem J_bitCount {F : Mem} {n : Nat} (hn : n < 2 ^ 24) : mJ6_bitCount_0f7a4 F (iN n) = some (iN (popN n 24), F) := by
  obtain ⟨b0, b1, b2, h0, h1, h2, hb⟩ : ∃ b0 b1 b2, b0 < 256 ∧ b1 < 256 ∧ b2 < 256 ∧ n = b0 + 256 * (b1 + 256 * b2) := ⟨n % 256, n / 256 % 256, n / 65536, by omega, by omega, by omega, by omega⟩
  obtain ⟨a0, a0', a0'', a0b, a0c⟩ := bc_byte ⟨b0, h0⟩
  obtain ⟨a1, a1', a1'', a1b, a1c⟩ := bc_byte ⟨b1, h1⟩
  obtain ⟨a2, a2', a2'', a2b, a2c⟩ := bc_byte ⟨b2, h2⟩
  dsimp only at a0 a0' a0'' a0b a0c a1 a1' a1'' a1b a1c a2 a2' a2'' a2b a2c
  have s1 : iN n - (iush (iN n) 1 &&& 1431655765) = iN (bcA b0 + 256 * (bcA b1 + 256 * bcA b2)) := by
    rw [show iush (iN n) 1 = iN (n / 2 ^ 1) from iush_at (k := 1) (by omega) (by omega), show (1431655765 : Int32) = iN 1431655765 from rfl, iN_and]
    have e : n / 2 ^ 1 = (b0 / 2 + 128 * (b1 % 2)) + 256 * ((b1 / 2 + 128 * (b2 % 2)) + 256 * (b2 / 2)) := by omega
    rw [e, and3 (k := 85) (by omega) (by omega) (by omega) (by omega) rfl]
    have c0 : (b0 / 2 + 128 * (b1 % 2) &&& 85) = (b0 / 2 &&& 85) := by
      rcases Nat.mod_two_eq_zero_or_one b1 with q | q
      · rw [q]; rfl
      · rw [q]; exact a0''
    have c1 : (b1 / 2 + 128 * (b2 % 2) &&& 85) = (b1 / 2 &&& 85) := by
      rcases Nat.mod_two_eq_zero_or_one b2 with q | q
      · rw [q]; rfl
      · rw [q]; exact a1''
    rw [c0, c1, iN_sub (by omega)]
    congr 1
    unfold bcA
    omega
  have s2 : ∀ t0 t1 t2 : Nat, t0 < 256 → t1 < 256 → t2 < 256 → (iN (t0 + 256 * (t1 + 256 * t2)) &&& 858993459) + (iush (iN (t0 + 256 * (t1 + 256 * t2))) 2 &&& 858993459) = iN (bcB t0 + 256 * (bcB t1 + 256 * bcB t2)) := by
    intro t0 t1 t2 g0 g1 g2
    rw [show iush (iN (t0 + 256 * (t1 + 256 * t2))) 2 = iN ((t0 + 256 * (t1 + 256 * t2)) / 2 ^ 2) from iush_at (k := 2) (by omega) (by omega), show (858993459 : Int32) = iN 858993459 from rfl, iN_and, iN_and]
    have e : (t0 + 256 * (t1 + 256 * t2)) / 2 ^ 2 = (t0 / 4 + 64 * (t1 % 4)) + 256 * ((t1 / 4 + 64 * (t2 % 4)) + 256 * (t2 / 4)) := by omega
    rw [e, and3 (k := 51) g0 g1 g2 (by omega) rfl, and3 (k := 51) (by omega) (by omega) (by omega) (by omega) rfl, bc_byte2 ⟨t0, g0⟩ ⟨t1 % 4, by omega⟩, bc_byte2 ⟨t1, g1⟩ ⟨t2 % 4, by omega⟩, iN_add]
    congr 1
    unfold bcB
    dsimp only
    omega
  have s3 : ∀ u0 u1 u2 : Nat, u0 ≤ 68 ∧ u0 % 16 ≤ 4 → u1 ≤ 68 ∧ u1 % 16 ≤ 4 → u2 ≤ 68 ∧ u2 % 16 ≤ 4 → (iN (u0 + 256 * (u1 + 256 * u2)) + iush (iN (u0 + 256 * (u1 + 256 * u2))) 4) &&& 252645135 = iN (bcC u0 + 256 * (bcC u1 + 256 * bcC u2)) := by
    intro u0 u1 u2 g0 g1 g2
    rw [show iush (iN (u0 + 256 * (u1 + 256 * u2))) 4 = iN ((u0 + 256 * (u1 + 256 * u2)) / 2 ^ 4) from iush_at (k := 4) (by omega) (by omega), show (252645135 : Int32) = iN 252645135 from rfl, iN_add, iN_and]
    have e : u0 + 256 * (u1 + 256 * u2) + (u0 + 256 * (u1 + 256 * u2)) / 2 ^ 4 = (u0 + (u0 / 16 + 16 * (u1 % 16))) + 256 * ((u1 + (u1 / 16 + 16 * (u2 % 16))) + 256 * (u2 + (u2 / 16 + 16 * 0))) := by omega
    rw [e, and3 (k := 15) (by omega) (by omega) (by omega) (by omega) rfl, (bc_byte3 ⟨u0, by omega⟩ ⟨u1 % 16, by omega⟩).1, (bc_byte3 ⟨u1, by omega⟩ ⟨u2 % 16, by omega⟩).1, (bc_byte3 ⟨u2, by omega⟩ ⟨0, by omega⟩).1]
  have s4 : ∀ c0 c1 c2 : Nat, c0 < 16 → c1 < 16 → c2 < 16 → iN (c0 + 256 * (c1 + 256 * c2)) + iush (iN (c0 + 256 * (c1 + 256 * c2))) 8 = iN ((c0 + c1) + 256 * ((c1 + c2) + 256 * c2)) := by
    intro c0 c1 c2 g0 g1 g2
    rw [show iush (iN (c0 + 256 * (c1 + 256 * c2))) 8 = iN ((c0 + 256 * (c1 + 256 * c2)) / 2 ^ 8) from iush_at (k := 8) (by omega) (by omega), iN_add]
    congr 1
    omega
  have s5 : ∀ c0 c1 c2 : Nat, c0 < 16 → c1 < 16 → c2 < 16 → (iN ((c0 + c1) + 256 * ((c1 + c2) + 256 * c2)) + iush (iN ((c0 + c1) + 256 * ((c1 + c2) + 256 * c2))) 16) &&& 63 = iN (c0 + c1 + c2) := by
    intro c0 c1 c2 g0 g1 g2
    rw [show iush (iN ((c0 + c1) + 256 * ((c1 + c2) + 256 * c2))) 16 = iN (((c0 + c1) + 256 * ((c1 + c2) + 256 * c2)) / 2 ^ 16) from iush_at (k := 16) (by omega) (by omega), iN_add, show (63 : Int32) = iN (2 ^ 6 - 1) from rfl, iN_and, Nat.and_two_pow_sub_one_eq_mod]
    have ed : ((c0 + c1) + 256 * ((c1 + c2) + 256 * c2)) / 2 ^ 16 = c2 := by omega
    rw [ed]
    congr 1
    omega
  have g0 := (bc_byte3 ⟨bcB (bcA b0), by omega⟩ ⟨0, by omega⟩).2
  have g1 := (bc_byte3 ⟨bcB (bcA b1), by omega⟩ ⟨0, by omega⟩).2
  have g2 := (bc_byte3 ⟨bcB (bcA b2), by omega⟩ ⟨0, by omega⟩).2
  dsimp only at g0 g1 g2
  unfold mJ6_bitCount_0f7a4
  rw [s1, s2 _ _ _ a0 a1 a2, s3 _ _ _ a0b a1b a2b, s4 _ _ _ g0 g1 g2, s5 _ _ _ g0 g1 g2, a0c, a1c, a2c]
  have e24 : popN n 24 = popN b0 8 + popN b1 8 + popN b2 8 := by
    rw [hb, show 24 = 8 + 16 from rfl, popN_split h0, show 16 = 8 + 8 from rfl, popN_split h1]
    omega
  rw [e24]
end BITS2
