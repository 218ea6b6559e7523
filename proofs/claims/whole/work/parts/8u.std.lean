section STD
variable {A : Nat → Nat} {F : Mem} {S W : Nat → Nat → Nat} {N : Nat → Nat} {PT : Nat → Nat → Nat} {PO : Nat → Nat} {QT : Nat → Nat → Nat} {QO : Nat → Nat} {aw : Bool} {th : Int32}
/-- factors by trial -/
def fct : Nat → Nat → Nat → List Nat
  | 0, _, _ => []
  | f + 1, r, p => if r < p then [] else if r % p = 0 then p :: fct f (r / p) p else fct f r (p + 1)
theorem fct_fuel : ∀ f g r p, 1 ≤ r → 2 ≤ p → 2 * r + 41 ≤ f + p → 2 * r + 41 ≤ g + p → p ≤ 41 → r < 40 → fct f r p = fct g r p := by
  intro f
  induction f with
  | zero => intro g r p h1 h2 h3; omega
  | succ f ih =>
    intro g r p h1 h2 h3 h4 h5 h6
    obtain ⟨g', rfl⟩ : ∃ g', g = g' + 1 := ⟨g - 1, by omega⟩
    simp only [fct]
    by_cases c : r < p
    · rw [if_pos c, if_pos c]
    · rw [if_neg c, if_neg c]
      by_cases d : r % p = 0
      · rw [if_pos d, if_pos d]
        have hlt : r / p < r := Nat.div_lt_self (by omega) (by omega)
        have hpos : 1 ≤ r / p := Nat.div_pos (by omega) (by omega)
        rw [ih g' (r / p) p hpos h2 (by omega) (by omega) h5 (by omega)]
      · rw [if_neg d, if_neg d]
        exact ih g' r (p + 1) h1 (by omega) (by omega) (by omega) (by omega) h6
def nuL (m : Nat) : List Nat := fct 130 m 2
def nu (p m : Nat) : Int := ((nuL m).count p : Int)
/-- the reference's powers -/
def AP (A : Nat → Nat) (F : Mem) (y : Nat → Int) : Prop := ∃ g, F (A 65) = .inl (0, 40, .inl g) ∧ ∀ p, p < 40 → g p = Int32.ofInt (y p)
theorem AP_add (hA : Inj A) {y : Nat → Int} {t : Int} {p : Nat} (h : AP A F y) (hp : p < 40) : ∃ F', (rdI F 0 (A 65) (iN p)).bind (fun v => wrI F (A 65) (iN p) (v + Int32.ofInt t)) = some F' ∧ AP A F' (fun q => y q + (if q = p then t else 0)) ∧ Agr A [65] F F' := by
  obtain ⟨g, h1, h2⟩ := h
  have k1 : Agr A [65] F (va_up F (A 65) (.inl (0, 40, .inl (upd g p (Int32.ofInt (y p + t)))))) := (Agr.refl A _ F).up hA (by omega) (by simp)
  refine ⟨_, ?_, ⟨_, up_eq _ _ _, fun q hq => ?_⟩, k1⟩
  · rw [rdI_at h1 hp (by omega), Option.bind_some, h2 p hp, ← Int32.ofInt_add, wrI_at h1 hp (by omega)]
  · simp only [upd]
    by_cases c : q = p
    · rw [if_pos c, if_pos c, c]
    · rw [if_neg c, if_neg c, h2 q hq, Int.add_zero]
theorem AP_congr {y z : Nat → Int} (h : AP A F y) (e : ∀ p, p < 40 → y p = z p) : AP A F z := by
  obtain ⟨g, h1, h2⟩ := h
  exact ⟨g, h1, fun p hp => by rw [h2 p hp, e p hp]⟩
theorem R_ml (hA : Inj A) {t : Int} : ∀ (f r p m5 m11 : Nat) (F : Mem) (y : Nat → Int), 1 ≤ r → 2 ≤ p → 2 * r + 41 ≤ f + p → p ≤ 40 → r < 40 → f < m5 → f < m11 → f < 1000 → rObj A F th aw → AP A F y → ∃ F', fX10_multiply_11 (fun (x0 : Nat) (x2 : Int32) (x3 : Int32) (x4 : Int32) (F : Mem) => (fX10_multiply_5   m5) x0 x2 x3 (x4 + 1) F) m11 (A 49) (Int32.ofInt t) (iN r) (iN p) F = some F' ∧ AP A F' (fun q => y q + t * ((fct f r p).count q : Int)) ∧ Agr A [65] F F' := by
  have fub := FU_big
  intro f
  induction f with
  | zero => intro r p m5 m11 F y h1 h2 h3; omega
  | succ f ih =>
    intro r p m5 m11 F y h1 h2 h3 h4 h5 h6 h7 h8 ho hy
    obtain ⟨a5, rfl⟩ : ∃ a, m5 = a + 1 := ⟨m5 - 1, by omega⟩
    obtain ⟨a11, rfl⟩ : ∃ a, m11 = a + 1 := ⟨m11 - 1, by omega⟩
    rw [fX10_multiply_11.eq_2, irem_at (by omega) (by omega) (by omega), Option.bind_some]
    simp only [fct]
    by_cases c : r < p
    · rw [if_pos c, if_neg (show ¬ iN (r % p) = 0 from fun q => by
        have := (iN_inj (b := 0) (by have := Nat.mod_le r p; omega) (by omega)).mp q
        rw [Nat.mod_eq_of_lt c] at this
        omega), iN_one, fX10_multiply_5.eq_2, if_pos ((iN_lt (by omega) (by omega)).mpr (by omega))]
      exact ⟨F, rfl, AP_congr hy (fun q _ => by simp), Agr.refl A _ F⟩
    · rw [if_neg c]
      by_cases d : r % p = 0
      · rw [if_pos d, if_pos (show iN (r % p) = 0 by rw [d]; rfl)]
        obtain ⟨F1, a1, a2, a3⟩ := AP_add hA (t := t) hy (show p < 40 by omega)
        have hlt : r / p < r := Nat.div_lt_self (by omega) (by omega)
        have hpos : 1 ≤ r / p := Nat.div_pos (by omega) (by omega)
        obtain ⟨F2, b1, b2, b3⟩ := ih (r / p) p (a5 + 1) a11 F1 _ hpos h2 (by omega) h4 (by omega) (by omega) (by omega) (by omega) (rObj_fr a3 ho (by simp)) a2
        refine ⟨F2, ?_, AP_congr b2 (fun q _ => ?_), a3.trans b3⟩
        · rw [R_g19 ho, Option.bind_some, Option.bind_some]
          rw [show ((rdI F 0 (A 65) (iN p)).bind fun v30 => (wrI F (A 65) (iN p) (v30 + Int32.ofInt t)).bind fun F33 => (idiv0 (iN r) (iN p)).bind fun v37 => (fX10_multiply_11 (fun (x0 : Nat) (x2 : Int32) (x3 : Int32) (x4 : Int32) (F : Mem) => (fX10_multiply_5   (a5 + 1)) x0 x2 x3 (x4 + 1) F) a11) (A 49) (Int32.ofInt t) v37 (iN p) F33) = (((rdI F 0 (A 65) (iN p)).bind (fun v => wrI F (A 65) (iN p) (v + Int32.ofInt t))).bind fun F33 => (idiv0 (iN r) (iN p)).bind fun v37 => (fX10_multiply_11 (fun (x0 : Nat) (x2 : Int32) (x3 : Int32) (x4 : Int32) (F : Mem) => (fX10_multiply_5   (a5 + 1)) x0 x2 x3 (x4 + 1) F) a11) (A 49) (Int32.ofInt t) v37 (iN p) F33) from (Option.bind_assoc _ _ _).symm, a1, Option.bind_some, idiv_at (by omega) (by omega) (by omega), Option.bind_some]
          exact b1
        · rw [List.count_cons]
          by_cases e : q = p
          · subst e
            simp only [if_true, beq_self_eq_true]
            rw [Int.natCast_add, Int.mul_add]
            simp
            omega
          · rw [if_neg e]
            simp [show ¬ p = q from fun w => e w.symm]
      · rw [if_neg d, if_neg (show ¬ iN (r % p) = 0 from fun q => d ((iN_inj (b := 0) (by have := Nat.mod_lt r (show 0 < p by omega); omega) (by omega)).mp q)), iN_one, fX10_multiply_5.eq_2]
        have hpr : p ≠ r := fun e => d (by rw [e]; exact Nat.mod_self r)
        rw [if_neg (fun w => by have := (iN_lt (by omega) (by omega)).mp w; omega)]
        exact ih r (p + 1) a5 FU F y h1 (by omega) (by omega) (by omega) h5 (by omega) (by omega) (by omega) ho hy
theorem R_multiply (hA : Inj A) {t : Int} {n : Nat} {y : Nat → Int} (h1 : 1 ≤ n) (h2 : n < 40) (ho : rObj A F th aw) (hy : AP A F y) : ∃ F', mX10_multiply F (A 49) (iN n) (Int32.ofInt t) = some F' ∧ AP A F' (fun q => y q + t * nu q n) ∧ Agr A [65] F F' := by
  have fub := FU_big
  unfold mX10_multiply
  obtain ⟨f', hf⟩ : ∃ f', FU = f' + 1 := ⟨FU - 1, by omega⟩
  rw [hf, fX10_multiply_5.eq_2]
  by_cases c : n = 1
  · subst c
    rw [if_pos (by decide)]
    exact ⟨F, rfl, AP_congr hy (fun q _ => by show _ = y q + t * (([] : List Nat).count q : Int); simp), Agr.refl A _ F⟩
  · rw [il2, if_neg (fun w => by have := (iN_lt (by omega) (by omega)).mp w; omega)]
    exact R_ml hA 130 n 2 f' FU F y h1 (by omega) (by omega) (by omega) h2 (by omega) (by omega) (by omega) ho hy
/-- the sum of w at 1 to n -/
def smW (w : Nat → Int) (n : Nat) : Int := sumZ (fun k => w (k + 1)) n
theorem smW_s (w : Nat → Int) (n : Nat) : smW w (n + 1) = smW w n + w (n + 1) := rfl
theorem nu_1 (q : Nat) : nu q 1 = 0 := by
  show ((nuL 1).count q : Int) = 0
  rfl
theorem R_factorial (hA : Inj A) {t : Int} {n : Nat} {y : Nat → Int} (h2 : n < 40) (ho : rObj A F th aw) (hy : AP A F y) : ∃ F', mX10_factorial F (A 49) (iN n) (Int32.ofInt t) = some F' ∧ AP A F' (fun q => y q + t * smW (nu q) n) ∧ Agr A [65] F F' := by
  have fub := FU_big
  have loop : ∀ (m fu k : Nat) (F : Mem), k + m = n → m < fu → rObj A F th aw → 1 ≤ k → AP A F (fun q => y q + t * smW (nu q) k) → ∃ F', fX10_factorial_2 fu (A 49) (iN n) (Int32.ofInt t) (iN (k + 1)) F = some F' ∧ AP A F' (fun q => y q + t * smW (nu q) n) ∧ Agr A [65] F F' := by
    intro m
    induction m with
    | zero =>
      intro fu k F e1 e2 ho _ hy
      obtain ⟨f', rfl⟩ : ∃ f', fu = f' + 1 := ⟨fu - 1, by omega⟩
      have : k = n := by omega
      subst this
      refine ⟨F, ?_, hy, Agr.refl A _ F⟩
      rw [fX10_factorial_2.eq_2, if_pos ((iN_lt (by omega) (by omega)).mpr (by omega))]
    | succ m ih =>
      intro fu k F e1 e2 ho hk hy
      obtain ⟨f', rfl⟩ : ∃ f', fu = f' + 1 := ⟨fu - 1, by omega⟩
      obtain ⟨fs, hob⟩ := rObj_ob ho
      obtain ⟨F1, a1, a2, a3⟩ := R_multiply hA (t := t) (n := k + 1) (by omega) (by omega) ho hy
      obtain ⟨F2, b1, b2, b3⟩ := ih f' (k + 1) F1 (by omega) (by omega) (rObj_fr a3 ho (by simp)) (by omega) (AP_congr a2 (fun q _ => by rw [smW_s, Int.mul_add, Int.add_assoc]))
      refine ⟨F2, ?_, b2, a3.trans b3⟩
      rw [fX10_factorial_2.eq_2, if_neg (fun w => by have := (iN_lt (by omega) (by omega)).mp w; omega), hob, Option.bind_some, a1, Option.bind_some, iN_one]
      exact b1
  unfold mX10_factorial
  by_cases n0 : n = 0
  · subst n0
    obtain ⟨f', hf⟩ : ∃ f', FU = f' + 1 := ⟨FU - 1, by omega⟩
    rw [hf, fX10_factorial_2.eq_2, if_pos (by decide)]
    exact ⟨F, rfl, AP_congr hy (fun q _ => by show _ = y q + t * 0; rw [Int.mul_zero, Int.add_zero]), Agr.refl A _ F⟩
  · exact loop (n - 1) FU 1 F (by omega) (by omega) ho (by omega) (AP_congr hy (fun q _ => by rw [show smW (nu q) 1 = 0 + nu q 1 from rfl, nu_1]; omega))
end STD
