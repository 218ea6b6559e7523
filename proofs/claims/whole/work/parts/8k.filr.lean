section FILR
variable {A : Nat → Nat} {F : Mem} {S W : Nat → Nat → Nat} {N : Nat → Nat} {PT : Nat → Nat → Nat} {PO : Nat → Nat} {QT : Nat → Nat → Nat} {QO : Nat → Nat} {aw : Bool} {th : Int32}
/-- rows packed, five bits each -/
def cdF (V : Nat → Nat) : Nat → Nat → Nat
  | 0, _ => 0
  | m + 1, i => cdF V m (i + 1) * 32 + V i
theorem cdF_lt {V : Nat → Nat} (h : ∀ k, V k < 32) : ∀ m i, cdF V m i < 32 ^ m := by
  intro m
  induction m with
  | zero => intro i; simp [cdF]
  | succ m ih =>
    intro i
    have h1 := ih (i + 1)
    have h2 := h i
    simp only [cdF]
    rw [Nat.pow_succ]
    omega
theorem cdF_dig {V : Nat → Nat} (h : ∀ k, V k < 32) : ∀ m i t, t < m → cdF V m i / 32 ^ t % 32 = V (i + t) := by
  intro m
  induction m with
  | zero => intro i t ht; omega
  | succ m ih =>
    intro i t ht
    have h2 := h i
    simp only [cdF]
    cases t with
    | zero => rw [Nat.pow_zero, Nat.div_one]; show _ = V i; omega
    | succ t =>
      have q := ih (i + 1) t (by omega)
      rw [Nat.pow_succ, Nat.mul_comm (32 ^ t) 32, ← Nat.div_div_eq_div_mul, show (cdF V m (i + 1) * 32 + V i) / 32 = cdF V m (i + 1) by omega, q, show i + 1 + t = i + (t + 1) by omega]
theorem cdF_cong {V U : Nat → Nat} : ∀ m i, (∀ k, i ≤ k → k < i + m → V k = U k) → cdF V m i = cdF U m i := by
  intro m
  induction m with
  | zero => intro i _; rfl
  | succ m ih =>
    intro i h
    simp only [cdF]
    rw [ih (i + 1) (fun k a b => h k (by omega) (by omega)), h i (Nat.le_refl _) (by omega)]
def decS (c : Int64) : Nat → Nat := fun k => if k < 8 then c.toNatClampNeg / 32 ^ k % 32 else 0
theorem decS_cd {V : Nat → Nat} (h : ∀ k, V k < 32) (h8 : ∀ k, 8 ≤ k → V k = 0) : decS (jN (cdF V 8 0)) = V := by
  have lt := cdF_lt h 8 0
  funext k
  unfold decS
  by_cases c : k < 8
  · rw [if_pos c, jN_nat (Nat.lt_trans lt (by decide)), cdF_dig h 8 0 k c, Nat.zero_add]
  · rw [if_neg c, h8 k (by omega)]
theorem j_amt5 {k : Nat} (h : k < 8) : (Int32.toInt64 (5 * iN k) &&& 63).toBitVec.smod 64 = BitVec.ofNat 64 (5 * k) := by
  have key : ∀ k : Fin 8, (Int32.toInt64 (5 * iN k.val) &&& 63).toBitVec.smod 64 = BitVec.ofNat 64 (5 * k.val) := by decide +kernel
  exact key ⟨k, h⟩
theorem X10_part {B k : Nat} (hB : B < 2 ^ 63) (hk : k < 8) : mX10_part F (jN B) (iN k) = some (iN (B / 32 ^ k % 32), F) := by
  unfold mX10_part
  congr 2
  apply Int32.toBitVec.inj
  show (BitVec.sshiftRight' (BitVec.ofNat 64 B) ((Int32.toInt64 (5 * iN k) &&& 63).toBitVec.smod 64) &&& 31#64).signExtend 32 = BitVec.ofNat 32 _
  rw [j_amt5 hk]
  show ((BitVec.ofNat 64 B).sshiftRight (BitVec.ofNat 64 (5 * k)).toNat &&& 31#64).signExtend 32 = _
  have msb : (BitVec.ofNat 64 B).msb = false := by
    rw [BitVec.msb_eq_decide, BitVec.toNat_ofNat, Nat.mod_eq_of_lt (by omega)]
    simp
    omega
  rw [BitVec.toNat_ofNat, Nat.mod_eq_of_lt (a := 5 * k) (by omega), BitVec.sshiftRight_eq_of_msb_false msb, BitVec.signExtend_eq_setWidth_of_le _ (by decide)]
  apply BitVec.eq_of_toNat_eq
  rw [BitVec.toNat_setWidth, BitVec.toNat_and, BitVec.toNat_ushiftRight, BitVec.toNat_ofNat, BitVec.toNat_ofNat, Nat.mod_eq_of_lt (a := B) (by omega), Nat.shiftRight_eq_div_pow]
  show ((B / 2 ^ (5 * k)) &&& (2 ^ 5 - 1)) % 2 ^ 32 = _
  rw [Nat.and_two_pow_sub_one_eq_mod, Nat.pow_mul]
  exact (BitVec.toNat_ofNat (B / 32 ^ k % 32) 32).symm
theorem j_shl5 {x y : Nat} (hx : x < 2 ^ 50) (hy : y < 32) : (jN x <<< (Int32.toInt64 5 &&& 63)) ||| Int32.toInt64 (iN y) = jN (x * 32 + y) := by
  have e1 : jN x <<< (Int32.toInt64 5 &&& 63) = jN (x * 32) := by
    apply Int64.toBitVec.inj
    show BitVec.ofNat 64 x <<< ((Int32.toInt64 5 &&& 63).toBitVec.smod 64) = BitVec.ofNat 64 (x * 32)
    rw [show (Int32.toInt64 5 &&& 63).toBitVec.smod 64 = BitVec.ofNat 64 5 by decide]
    apply BitVec.eq_of_toNat_eq
    show (BitVec.ofNat 64 x <<< 5).toNat = _
    rw [BitVec.toNat_shiftLeft, BitVec.toNat_ofNat, BitVec.toNat_ofNat, Nat.shiftLeft_eq]
    show x % 2 ^ 64 * 2 ^ 5 % 2 ^ 64 = x * 32 % 2 ^ 64
    rw [Nat.mod_eq_of_lt (a := x) (by omega)]
  have e2 : Int32.toInt64 (iN y) = jN y := Int32.toInt64_ofNat' (by show (y : Int) ≤ 2147483647; omega)
  rw [e1, e2, jN_or]
  congr 1
  have := Nat.shiftLeft_add_eq_or_of_lt (b := y) (i := 5) hy x
  rw [Nat.shiftLeft_eq] at this
  exact this.symm
/-- codes of shapes of n boxes -/
def VSh (n : Nat) (V : Nat → Nat) : Prop := par V ∧ (∀ k, 8 ≤ k → V k = 0) ∧ boxes V 8 = n
theorem VSh_le {n : Nat} {V : Nat → Nat} (hn : n ≤ 16) (h : VSh n V) : ∀ k, V k ≤ n := okS_le2 ⟨h.1, h.2.1, by rw [h.2.2]; omega⟩ (by rw [h.2.2]; exact Nat.le_refl _)
def VLs (n : Nat) (L : List (Int64 × Int64)) : Prop := (L.map Prod.fst).Nodup ∧ ∀ c, c ∈ L.map Prod.fst → ∃ V, c = jN (cdF V 8 0) ∧ VSh n V
def encS (l : List Nat) : Int64 := jN (cdF (fun k => (l.reverse).getD k 0) 8 0)
theorem VLs_len {n : Nat} {L : List (Int64 × Int64)} (hn : n < 17) (h : VLs n L) : L.length < 2000 := by
  have := nodup_le (L.map Prod.fst) ((gwl 8 0 n).map encS) h.1 (fun c hc => by
    obtain ⟨V, e, hV⟩ := h.2 c hc
    rw [e, List.mem_map]
    refine ⟨tupL (fun t => V (7 - t)) 0 8, ?_, ?_⟩
    · apply gwl_mem
      · intro j _ hj
        have := hV.1 (7 - (j + 1))
        rw [show 7 - (j + 1) + 1 = 7 - j by omega] at this
        exact this
      · intro _; exact Nat.zero_le _
      · rw [← hV.2.2]
        show 0 + V 7 + V 6 + V 5 + V 4 + V 3 + V 2 + V 1 + V 0 = 0 + V 0 + V 1 + V 2 + V 3 + V 4 + V 5 + V 6 + V 7
        omega
    · unfold encS
      rw [rev_tup]
      exact congrArg jN (cdF_cong 8 0 (fun k _ hk => by rw [tupL_get V 8 0 k (by omega), Nat.zero_add])))
  rw [List.length_map, List.length_map] at this
  have g := gwl_len ⟨n, hn⟩
  dsimp only at g
  omega
/-- the value of a table -/
noncomputable def valL (cs : List Nat) : List (Int64 × Int64) → Int64
  | [] => 0
  | e :: L => e.2 * jN (kos cs (decS e.1)) + valL cs L
theorem val_note (cs : List Nat) : ∀ (L : List (Int64 × Int64)) (x t : Int64), valL cs (noteL L x t) = valL cs L + t * jN (kos cs (decS x)) := by
  intro L
  induction L with
  | nil => intro x t; simp only [noteL, valL, Int64.zero_add, Int64.add_zero]
  | cons e L ih =>
    intro x t
    simp only [noteL]
    by_cases c : e.1 = x
    · rw [if_pos c]
      simp only [valL]
      rw [c, Int64.add_mul]
      ac_rfl
    · rw [if_neg c]
      simp only [valL]
      rw [ih]
      ac_rfl
/-- what is noted at a strip -/
def vst (V : Nat → Nat) (c : Nat) (t : Int64) (a : Nat → Nat) (L : List (Int64 × Int64)) : List (Int64 × Int64) := if boxes a 8 = c then noteL L (jN (cdF (sbt V a) 8 0)) t else L
def fvL (step : Nat → List (Int64 × Int64) → List (Int64 × Int64)) : Nat → Nat → List (Int64 × Int64) → List (Int64 × Int64)
  | 0, v, L => step v L
  | r + 1, v, L => fvL step r (v + 1) (step v L)
def odL (V : Nat → Nat) (c : Nat) (t : Int64) : Nat → (Nat → Nat) → List (Int64 × Int64) → List (Int64 × Int64)
  | 0, a, L => vst V c t a L
  | k + 1, a, L => fvL (fun v L => odL V c t k (upL a k v) L) (dif V k) 0 L
noncomputable def dsm (V : Nat → Nat) (c : Nat) (cs : List Nat) : Nat → (Nat → Nat) → Nat
  | 0, a => ivN (boxes a 8 = c) (kos cs (sbt V a))
  | k + 1, a => sumN (fun v => dsm V c cs k (upL a k v)) (dif V k + 1)
theorem fv_val {cs : List Nat} {t : Int64} {step : Nat → List (Int64 × Int64) → List (Int64 × Int64)} {g : Nat → Nat} (h : ∀ v L, valL cs (step v L) = valL cs L + t * jN (g v)) : ∀ r v L, valL cs (fvL step r v L) = valL cs L + t * jN (sumN (fun i => g (v + i)) (r + 1)) := by
  intro r
  induction r with
  | zero => intro v L; simp only [fvL, sumN, Nat.zero_add, Nat.add_zero]; exact h v L
  | succ r ih =>
    intro v L
    simp only [fvL]
    rw [ih, h, sumN_shift (fun i => g (v + i)) (r + 1), ← jN_add, Int64.mul_add, Nat.add_zero]
    have : sumN (fun i => g (v + 1 + i)) (r + 1) = sumN (fun i => g (v + (i + 1))) (r + 1) := sumN_congr (fun i _ => by rw [show v + 1 + i = v + (i + 1) by omega])
    rw [this]
    ac_rfl
theorem od_val {V : Nat → Nat} {c : Nat} {t : Int64} {cs : List Nat} (hV : ∀ k, V k < 32) (h8 : ∀ k, 8 ≤ k → V k = 0) : ∀ k a L, valL cs (odL V c t k a L) = valL cs L + t * jN (dsm V c cs k a) := by
  intro k
  induction k with
  | zero =>
    intro a L
    simp only [odL, vst, dsm]
    by_cases e : boxes a 8 = c
    · rw [if_pos e, ivN_pos e, val_note, decS_cd (fun k => by unfold sbt; have := hV k; omega) (fun k hk => by unfold sbt; rw [h8 k hk]; omega)]
    · rw [if_neg e, ivN_neg e]
      show _ = _ + t * 0
      rw [Int64.mul_zero, Int64.add_zero]
  | succ k ih =>
    intro a L
    simp only [odL, dsm]
    rw [fv_val (g := fun v => dsm V c cs k (upL a k v)) (fun v L => ih _ _)]
    congr 3
    exact sumN_congr (fun i _ => by rw [Nat.zero_add])
theorem dsm_bsum {V : Nat → Nat} {c : Nat} {cs : List Nat} (hB : ∀ k, V k < KM) : ∀ k a, k ≤ 8 → (∀ j, k ≤ j → j < 8 → a j ≤ dif V j) → dsm V c cs k a = bsum KM (fun a => ivN ((∀ j, j < 8 → a j ≤ dif V j) ∧ boxes a 8 = c) (kos cs (sbt V a))) k a := by
  intro k
  induction k with
  | zero =>
    intro a _ h
    simp only [dsm, bsum]
    by_cases e : boxes a 8 = c
    · rw [ivN_pos e, ivN_pos ⟨fun j hj => h j (Nat.zero_le _) hj, e⟩]
    · rw [ivN_neg e, ivN_neg (fun q => e q.2)]
  | succ k ih =>
    intro a hk h
    simp only [dsm, bsum]
    have hd : dif V k + 1 ≤ KM := by have := hB k; unfold dif; omega
    rw [sumN_ext (m := dif V k + 1) (n := KM) hd (fun v a1 a2 => by
      apply bsum_zero
      intro b hb
      apply ivN_neg
      intro q
      have := q.1 k (by omega)
      rw [hb k (Nat.le_refl _), upL_at] at this
      omega)]
    apply sumN_congr
    intro v hv
    apply ih _ (by omega)
    intro j j1 j2
    by_cases e : j = k
    · subst e; rw [upL_at]; omega
    · rw [upL_ne e]; exact h j (by omega) j2
theorem VLs_vst {V a : Nat → Nat} {n c : Nat} {t : Int64} {L : List (Int64 × Int64)} (hV : VSh (n + c) V) (ha : ∀ j, j < 8 → a j ≤ dif V j) (ha8 : ∀ j, 8 ≤ j → a j = 0) (h : VLs n L) : VLs n (vst V c t a L) := by
  unfold vst
  by_cases e : boxes a 8 = c
  · rw [if_pos e]
    refine ⟨nodup_note _ _ _ h.1, fun y hy => ?_⟩
    rw [mem_note] at hy
    rcases hy with hy | hy
    · exact h.2 y hy
    · refine ⟨_, hy, par_sbt hV.1 hV.2.1 ha, fun k hk => by unfold sbt; rw [hV.2.1 k hk]; omega, ?_⟩
      have : boxes (sbt V a) 8 + boxes a 8 = boxes V 8 := by
        rw [← boxes_add]
        exact boxes_congr (fun j hj => by have := ha j hj; unfold sbt dif at *; omega)
      have := hV.2.2
      omega
  · rw [if_neg e]; exact h
theorem VLs_odL {V : Nat → Nat} {n c : Nat} {t : Int64} (hV : VSh (n + c) V) : ∀ k a L, k ≤ 8 → (∀ j, k ≤ j → j < 8 → a j ≤ dif V j) → (∀ j, 8 ≤ j → a j = 0) → VLs n L → VLs n (odL V c t k a L) := by
  intro k
  induction k with
  | zero => intro a L _ h h8 hL; exact VLs_vst hV (fun j hj => h j (Nat.zero_le _) hj) h8 hL
  | succ k ih =>
    intro a L hk h h8 hL
    simp only [odL]
    have key : ∀ r v L, v + r ≤ dif V k → VLs n L → VLs n (fvL (fun v L => odL V c t k (upL a k v) L) r v L) := by
      intro r
      have one : ∀ v L, v ≤ dif V k → VLs n L → VLs n (odL V c t k (upL a k v) L) := by
        intro v L hv hL
        apply ih _ _ (by omega) _ (fun j hj => by rw [upL_ne (by omega)]; exact h8 j hj) hL
        intro j j1 j2
        by_cases e : j = k
        · subst e; rw [upL_at]; exact hv
        · rw [upL_ne e]; exact h j (by omega) j2
      induction r with
      | zero => intro v L hv hL; exact one v L (by omega) hL
      | succ r ihr => intro v L hv hL; exact ihr (v + 1) _ (by omega) (one v L (by omega) hL)
    exact key _ 0 L (by omega) hL
end FILR
