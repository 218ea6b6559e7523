section BYTE
theorem byte_bv (w : BitVec 64) (k : Nat) (hk : k + 8 ≤ 64) : ((w >>> k).setWidth 32 &&& 255#32).toNat = w.toNat / 2 ^ k % 256 := by
  rw [BitVec.toNat_and, BitVec.toNat_setWidth, BitVec.toNat_ushiftRight, Nat.shiftRight_eq_div_pow]
  show _ &&& (2 ^ 8 - 1) = _
  rw [Nat.and_two_pow_sub_one_eq_mod, Nat.mod_mod_of_dvd _ (by decide : 2 ^ 8 ∣ 2 ^ 32)]
theorem byte_bv2 (w : BitVec 64) (k : Nat) (hk : k + 8 ≤ 64) : ((w.sshiftRight k &&& 255#64).setWidth 32) = ((w >>> k).setWidth 32 &&& 255#32) := by
  apply BitVec.eq_of_getLsbD_eq
  intro i hi
  rw [BitVec.getLsbD_setWidth, BitVec.getLsbD_and, BitVec.getLsbD_and, BitVec.getLsbD_setWidth, BitVec.getLsbD_sshiftRight, BitVec.getLsbD_ushiftRight]
  have e1 : (255#64).getLsbD i = decide (i < 8) := by
    by_cases h : i < 8
    · rw [decide_eq_true h]
      have : i = 0 ∨ i = 1 ∨ i = 2 ∨ i = 3 ∨ i = 4 ∨ i = 5 ∨ i = 6 ∨ i = 7 := by omega
      rcases this with rfl | rfl | rfl | rfl | rfl | rfl | rfl | rfl <;> decide
    · rw [decide_eq_false h]
      show Nat.testBit (255 % 2 ^ 64) i = false
      exact Nat.testBit_lt_two_pow (Nat.lt_of_lt_of_le (by decide) (Nat.pow_le_pow_right (n := 2) (by omega) (show 8 ≤ i by omega)))
  have e2 : (255#32).getLsbD i = decide (i < 8) := by
    by_cases h : i < 8
    · rw [decide_eq_true h]
      have : i = 0 ∨ i = 1 ∨ i = 2 ∨ i = 3 ∨ i = 4 ∨ i = 5 ∨ i = 6 ∨ i = 7 := by omega
      rcases this with rfl | rfl | rfl | rfl | rfl | rfl | rfl | rfl <;> decide
    · rw [decide_eq_false h]
      show Nat.testBit (255 % 2 ^ 32) i = false
      exact Nat.testBit_lt_two_pow (Nat.lt_of_lt_of_le (by decide) (Nat.pow_le_pow_right (n := 2) (by omega) (show 8 ≤ i by omega)))
  rw [e1, e2]
  by_cases h : i < 8
  · have h1 : ¬ 64 ≤ i := by omega
    have h2 : k + i < 64 := by omega
    simp [h, h1, h2, hi]
  · simp [h]
theorem iN_of_bv (b : BitVec 32) (n : Nat) (h : b.toNat = n) : Int32.ofBitVec b = iN n := by
  subst h
  apply Int32.toBitVec.inj
  show b = BitVec.ofNat 32 b.toNat
  rw [BitVec.ofNat_toNat, BitVec.setWidth_eq]
theorem byte_c {w x : Int64} {k : Nat} (h : x.toBitVec = w.toBitVec >>> k) : x.toInt32 &&& 255 = Int32.ofBitVec ((w.toBitVec >>> k).setWidth 32 &&& 255#32) := by
  apply Int32.toBitVec.inj
  show x.toBitVec.signExtend 32 &&& 255#32 = _
  rw [h, BitVec.signExtend_eq_setWidth_of_le _ (by decide)]
  rfl
theorem byte_r {w x : Int64} {k : Nat} (h : x.toBitVec = w.toBitVec.sshiftRight k) : (x &&& 255).toInt32 = Int32.ofBitVec ((w.toBitVec.sshiftRight k &&& 255#64).setWidth 32) := by
  apply Int32.toBitVec.inj
  show (x.toBitVec &&& 255#64).signExtend 32 = _
  rw [h, BitVec.signExtend_eq_setWidth_of_le _ (by decide)]
  rfl
/-- byte i of w -/
def byt (w : Int64) (i : Nat) : Nat := w.toBitVec.toNat / 2 ^ (8 * i) % 256
theorem byt_lt (w : Int64) (i : Nat) : byt w i < 256 := Nat.mod_lt _ (by decide)
theorem byte_ok (w : Int64) (i : Nat) (hi : i < 8) : (Int64.toInt32 (lush w (8 * iN i))) &&& 255 = iN (byt w i) ∧ Int64.toInt32 ((w >>> (Int32.toInt64 (8 * iN i) &&& 63)) &&& 255) = iN (byt w i) := by
  have main : ∀ (k : Nat) (x y : Int64), k + 8 ≤ 64 → x.toBitVec = w.toBitVec >>> k → y.toBitVec = w.toBitVec.sshiftRight k → x.toInt32 &&& 255 = iN (w.toBitVec.toNat / 2 ^ k % 256) ∧ (y &&& 255).toInt32 = iN (w.toBitVec.toNat / 2 ^ k % 256) := by
    intro k x y hk hx hy
    refine ⟨?_, ?_⟩
    · rw [byte_c hx]; exact iN_of_bv _ _ (byte_bv _ k hk)
    · rw [byte_r hy, byte_bv2 _ k hk]
      exact iN_of_bv _ _ (byte_bv _ k hk)
  have : i = 0 ∨ i = 1 ∨ i = 2 ∨ i = 3 ∨ i = 4 ∨ i = 5 ∨ i = 6 ∨ i = 7 := by omega
  rcases this with rfl | rfl | rfl | rfl | rfl | rfl | rfl | rfl
  · exact main 0 _ _ (by omega) rfl rfl
  · exact main 8 _ _ (by omega) rfl rfl
  · exact main 16 _ _ (by omega) rfl rfl
  · exact main 24 _ _ (by omega) rfl rfl
  · exact main 32 _ _ (by omega) rfl rfl
  · exact main 40 _ _ (by omega) rfl rfl
  · exact main 48 _ _ (by omega) rfl rfl
  · exact main 56 _ _ (by omega) rfl rfl
end BYTE
