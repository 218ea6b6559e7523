section ENTRY
variable {A : Nat → Nat} {F : Mem} {S W : Nat → Nat → Nat} {N : Nat → Nat} {PT : Nat → Nat → Nat} {PO : Nat → Nat} {QT : Nat → Nat → Nat} {QO : Nat → Nat} {aw : Bool} {th : Int32}
def nN (v : Int32) : Nat := v.toInt.toNat
theorem nN_eq {v : Int32} (h : ¬ v < 0) : v = iN (nN v) ∧ nN v < 2 ^ 31 := by
  have h0 : 0 ≤ v.toInt := by
    rw [Int32.lt_iff_toInt_lt] at h
    have : (0 : Int32).toInt = 0 := rfl
    omega
  have lt := Int32.toInt_lt v
  unfold nN
  refine ⟨?_, by omega⟩
  apply Int32.toInt_inj.mp
  rw [iN_int (by omega)]
  omega
/-- the letter at a box; 0 when there is none -/
def enV (T : Nat → Nat → Nat) (O : Nat → Nat) (x y : Int32) : Int32 := if x < 0 then 0 else if y < 0 then 0 else if nN y < O (nN x) then iN (T (nN x) (nN y)) else 0
/-- room for a tableau -/
def okO (O : Nat → Nat) : Prop := (∀ s, O s ≤ 24) ∧ ∀ s, 16 ≤ s → O s = 0
theorem X7_letterAny {a la ta : Nat} {T : Nat → Nat → Nat} {O : Nat → Nat} (h : isT F a la ta T O) (hO : okO O) (x y : Int32) : mX7_letterAt F a x y = some (enV T O x y, F) := by
  obtain ⟨h1, h2, h3⟩ := h
  unfold mX7_letterAt mX7_has enV
  rw [obj_of h1, Option.bind_some]
  by_cases c1 : x < 0
  · rw [if_pos c1, if_pos c1, Option.bind_some, if_pos rfl]
  · rw [if_neg c1, if_neg c1]
    obtain ⟨ex, lx⟩ := nN_eq c1
    generalize nN x = r at *
    subst ex
    have hOr := hO.1 r
    by_cases k : 16 ≤ r
    · have := hO.2 r k
      rw [if_pos (show (16 : Int32) ≤ iN r from (iN_le (a := 16) (by omega) lx).mpr k), Option.bind_some, if_pos rfl]
      by_cases c2 : y < 0
      · rw [if_pos c2]
      · rw [if_neg c2, if_neg (by omega)]
    · rw [if_neg (show ¬ (16 : Int32) ≤ iN r from fun w => k ((iN_le (a := 16) (by omega) lx).mp w))]
      by_cases c2 : y < 0
      · rw [if_pos c2, if_pos c2, Option.bind_some, if_pos rfl]
      · rw [if_neg c2, if_neg c2]
        obtain ⟨ey, ly⟩ := nN_eq c2
        generalize nN y = c at *
        subst ey
        rw [gfR_at (k := 0) (v := la) h1 rfl, Option.bind_some, rdI_at h2 (by omega) (by omega), Option.bind_some]
        by_cases k2 : c < O r
        · rw [if_pos k2, if_neg (fun w => by have := (iN_le (by omega) ly).mp w; omega), Option.bind_some, if_neg ne10, gfR_at (k := 1) (v := ta) h1 rfl, Option.bind_some, il24, iN_mul, iN_add, rdI_at h3 (by omega) (by omega), Option.bind_some, show (r * 24 + c) / 24 = r by omega, show (r * 24 + c) % 24 = c by omega]
        · rw [if_neg k2, if_pos ((iN_le (by omega) ly).mpr (by omega)), Option.bind_some, if_pos rfl]
def entV (PT : Nat → Nat → Nat) (PO : Nat → Nat) (QT : Nat → Nat → Nat) (QO : Nat → Nat) (aw : Bool) (q x y : Int32) : Int32 := if q = 0 then enV PT PO x y else if aw = true then 0 else enV QT QO x y
theorem C_entry (h : CC A F S W N PT PO QT QO aw) (hP : okO PO) (hQ : okO QO) (q x y : Int32) : mX9_entry F (A 0) q x y = some (entV PT PO QT QO aw q x y, F) := by
  unfold mX9_entry entV
  by_cases c : q = 0
  · rw [if_pos c, if_pos c, gfR_at (k := 2) (v := A 3) h.1.1 rfl, Option.bind_some, obj_of h.2.1.1, Option.bind_some, X7_letterAny h.2.1 hP, Option.bind_some]
  · rw [if_neg c, if_neg c, gfI_at (k := 4) (v := bI aw) h.1.1 rfl, Option.bind_some]
    cases aw with
    | true => rw [if_neg (show ¬ bI true = 0 from ne10), if_pos rfl]
    | false => rw [if_pos (show bI false = 0 from rfl), if_neg (by decide), gfR_at (k := 3) (v := A 6) h.1.1 rfl, Option.bind_some, obj_of h.2.2.1.1, Option.bind_some, X7_letterAny h.2.2.1 hQ, Option.bind_some]
theorem R_en27 {M : Nat → Nat → Nat → Nat} {L : Nat → Nat → Nat} (ho : rObj A F th aw) (h53 : F (A 53) = cM M) (h54 : F (A 54) = cL L) {k : Nat} (hk : k < 3) {T : Nat → Nat → Nat} {O : Nat → Nat} (hO : okO O) (e1 : ∀ r, L k r = O r) (e2 : ∀ r c, c < O r → M k r c = T r c) (x y : Int32) : fX10_entry_27 (A 49) x y (iN k) F = some (enV T O x y, F) := by
  obtain ⟨cd, od, o'⟩ := id ho
  have hR : isR F (A 49) (rfs A th (bI aw) cd od) (A 53) (A 54) M L := ⟨o', rfl, rfl, h53, h54⟩
  unfold fX10_entry_27 enV
  by_cases c1 : x < 0
  · rw [if_pos c1, if_pos c1]
  · rw [if_neg c1, if_neg c1]
    obtain ⟨ex, lx⟩ := nN_eq c1
    generalize nN x = r at *
    subst ex
    have hOr := hO.1 r
    by_cases q : 23 < r
    · have := hO.2 r (by omega)
      rw [if_pos (show (23 : Int32) < iN r from (iN_lt (a := 23) (by omega) lx).mpr q)]
      by_cases c2 : y < 0
      · rw [if_pos c2]
      · rw [if_neg c2, if_neg (by omega)]
    · rw [if_neg (show ¬ (23 : Int32) < iN r from fun w => q ((iN_lt (a := 23) (by omega) lx).mp w))]
      by_cases c2 : y < 0
      · rw [if_pos c2, if_pos c2]
      · rw [if_neg c2, if_neg c2]
        obtain ⟨ey, ly⟩ := nN_eq c2
        generalize nN y = c at *
        subst ey
        rw [R_g5 ho, Option.bind_some, X10_rdL hR hk (by omega), Option.bind_some, e1 r]
        by_cases k2 : c < O r
        · rw [if_pos k2, if_pos ((iN_lt ly (by omega)).mpr k2), R_g4 ho, Option.bind_some, X10_box, Option.bind_some]
          simp only
          rw [X10_rd hR hk (by omega) (by omega), Option.bind_some, e2 r c k2]
        · rw [if_neg k2, if_neg (fun w => k2 ((iN_lt ly (by omega)).mp w))]
theorem R_entry (hA : Inj A) (h : RR A F S W N PT PO QT QO aw th) (hP : okO PO) (hQ : okO QO) (q x y : Int32) : ∃ F', mX10_entry F (A 49) q x y = some (entV PT PO QT QO aw q x y, F') ∧ RR A F' S W N PT PO QT QO aw 0 ∧ Agr A RTs F F' := by
  obtain ⟨F', e, h', k⟩ := RR_th hA h 0
  refine ⟨F', ?_, h', k.mono (RTs_of (fun t q => by simp at q; omega))⟩
  obtain ⟨M, L, m1, m2, m3, m4, m5, m6⟩ := h'.2.2.2.1
  have z := R_en27 h'.1 m1 m2 (k := 0) (by omega) hP m3 m4 x y
  have z2 := R_en27 h'.1 m1 m2 (k := 2) (by omega) hQ m5 m6 x y
  have aw' : gfI F' (A 49) 9 6 = some (bI aw) := by
    obtain ⟨cd, od, o⟩ := h'.1
    exact gfI_at o rfl
  unfold mX10_entry fX10_entry_14 entV
  rw [e, Option.bind_some]
  by_cases c : q = 0
  · rw [if_pos c, if_pos c, if_pos c]; exact z
  · rw [if_neg c, if_neg c, if_neg c, aw', Option.bind_some]
    cases aw with
    | true => rw [if_neg (show ¬ bI true = 0 from ne10), if_pos rfl]
    | false => rw [if_pos (show bI false = 0 from rfl), if_neg (by decide)]; exact z2
end ENTRY
