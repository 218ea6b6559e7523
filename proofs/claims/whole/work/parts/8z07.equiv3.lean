section EQUIV3
variable {A : Nat → Nat} {F : Mem} {S W : Nat → Nat → Nat} {N : Nat → Nat} {PT : Nat → Nat → Nat} {PO : Nat → Nat} {QT : Nat → Nat → Nat} {QO : Nat → Nat} {aw : Bool} {th : Int32}
/-- the codes l stand in g from p on -/
def mtL (g : Nat → Int64) : Nat → List Nat → Prop
  | _, [] => True
  | p, x :: l => g p = jN x ∧ mtL g (p + 1) l
theorem mtL_ext {g g' : Nat → Int64} : ∀ (l : List Nat) (p : Nat), (∀ j, p ≤ j → j < p + l.length → g' j = g j) → mtL g p l → mtL g' p l := by
  intro l
  induction l with
  | nil => intro p _ _; trivial
  | cons x l ih =>
    intro p h q
    rw [List.length_cons] at h
    exact ⟨(h p (by omega) (by omega)).trans q.1, ih (p + 1) (fun j a b => h j (by omega) (by omega)) q.2⟩
theorem mtL_app {g : Nat → Int64} (l' : List Nat) : ∀ (l : List Nat) (p : Nat), mtL g p (l ++ l') ↔ mtL g p l ∧ mtL g (p + l.length) l' := by
  intro l
  induction l with
  | nil => intro p; exact ⟨fun q => ⟨trivial, q⟩, fun q => q.2⟩
  | cons x l ih =>
    intro p
    show g p = jN x ∧ mtL g (p + 1) (l ++ l') ↔ (g p = jN x ∧ mtL g (p + 1) l) ∧ mtL g (p + (l.length + 1)) l'
    rw [ih (p + 1), show p + 1 + l.length = p + (l.length + 1) by omega]
    exact ⟨fun q => ⟨⟨q.1, q.2.1⟩, q.2.2⟩, fun q => ⟨q.1.1, q.1.2, q.2⟩⟩
theorem mtL_uni {g : Nat → Int64} : ∀ (l l' : List Nat) (p : Nat), (∀ x, x ∈ l → x < 2 ^ 63) → (∀ x, x ∈ l' → x < 2 ^ 63) → l.length = l'.length → mtL g p l → mtL g p l' → l = l' := by
  intro l
  induction l with
  | nil => intro l' p _ _ h _ _; exact (List.eq_nil_of_length_eq_zero h.symm).symm
  | cons x l ih =>
    intro l' p h1 h2 h q q'
    cases l' with
    | nil => cases h
    | cons y l' =>
      have e : x = y := (jN_inj (h1 x (by simp)) (h2 y (by simp))).mp (q.1.symm.trans q'.1)
      rw [e, ih l' (p + 1) (fun z hz => h1 z (by simp [hz])) (fun z hz => h2 z (by simp [hz])) (by simpa using h) q.2 q'.2]
abbrev rCd (A : Nat → Nat) (F : Mem) (th : Int32) (aw : Bool) (p : Nat) (od : Int32) : Prop := F (A 49) = .inr (9, rfs A th (bI aw) (iN p) od)
theorem toJ_iN {n : Nat} (h : n < 2 ^ 31) : Int32.toInt64 (iN n) = jN n := by
  have m2 : Int32.maxValue.toInt = 2147483647 := by decide
  exact Int32.toInt64_ofNat' (by rw [m2]; omega)
/-- codes of a row from c on -/
abbrev cdR (T : Nat → Nat → Nat) (r c m : Nat) : List Nat := (seg (T r) c m).map (fun x => 100 * r + x)
theorem R_eq57 (hA : Inj A) {M : Nat → Nat → Nat → Nat} {L : Nat → Nat → Nat} {od : Int32} {x1 : Int32} {r : Nat} (hr : r < 24) (hL : L 1 r ≤ 24) (hM : ∀ d, d < L 1 r → M 1 r d < 100) (K : Nat → Int32 → Int32 → Mem → Option (Int32 × Mem)) : ∀ (m n c p : Nat) (F : Mem) (g : Nat → Int64), c + m = L 1 r → m < n → p + m < 2000 → rCd A F th aw p od → F (A 53) = cM M → F (A 54) = cL L → F (A 61) = cJ g → ∃ F' g', fX10_equivalent_57 K n (A 49) x1 (iN r) (iN c) F = K (A 49) x1 (iN r) F' ∧ rCd A F' th aw (p + m) od ∧ F' (A 61) = cJ g' ∧ (∀ j, j < p → g' j = g j) ∧ mtL g' p (cdR (M 1) r c m) ∧ Agr A [49, 61] F F' := by
  intro m
  induction m with
  | zero =>
    intro n c p F g h1 h2 h3 ho h53 h54 h61
    obtain ⟨n, rfl⟩ : ∃ m, n = m + 1 := ⟨n - 1, by omega⟩
    have hR : isR F (A 49) (rfs A th (bI aw) (iN p) od) (A 53) (A 54) M L := ⟨ho, rfl, rfl, h53, h54⟩
    have rd := X10_rdL hR (k := 1) (by omega) hr
    refine ⟨F, g, ?_, ho, h61, fun _ _ => rfl, trivial, Agr.refl A _ F⟩
    rw [fX10_equivalent_57.eq_2, R_g5 ⟨_, _, ho⟩, Option.bind_some, show (24 : Int32) + iN r = 24 * iN 1 + iN r from rfl, rd, Option.bind_some, if_pos ((iN_le (by omega) (by omega)).mpr (by omega))]
  | succ m ih =>
    intro n c p F g h1 h2 h3 ho h53 h54 h61
    obtain ⟨n, rfl⟩ : ∃ m, n = m + 1 := ⟨n - 1, by omega⟩
    have hR : isR F (A 49) (rfs A th (bI aw) (iN p) od) (A 53) (A 54) M L := ⟨ho, rfl, rfl, h53, h54⟩
    have rd := X10_rdL hR (k := 1) (by omega) hr
    have hm := hM c (by omega)
    have ob : rObj A F th aw := ⟨_, _, ho⟩
    have k1 : Agr A [49, 61] F (va_up F (A 61) (cJ (vp_updL g p (jN (100 * r + M 1 r c))))) := (Agr.refl A _ F).up hA (by omega) (by simp)
    have o1 : rCd A (va_up F (A 61) (cJ (vp_updL g p (jN (100 * r + M 1 r c))))) th aw p od := (up_ne (hA.ne (by omega) (by omega) (by omega))).trans ho
    have p1 : pf (va_up F (A 61) (cJ (vp_updL g p (jN (100 * r + M 1 r c))))) (A 49) 9 13 (.int (iN (p + 1))) = some (va_up (va_up F (A 61) (cJ (vp_updL g p (jN (100 * r + M 1 r c))))) (A 49) (.inr (9, rfs A th (bI aw) (iN (p + 1)) od))) := pf_at o1 (by simp [rfs])
    have w1 := wrJ_at h61 (show p < 2000 by omega) (by omega) (jN (100 * r + M 1 r c))
    generalize hF1 : va_up F (A 61) (cJ (vp_updL g p (jN (100 * r + M 1 r c)))) = F1 at *
    have k2 : Agr A [49, 61] F (va_up F1 (A 49) (.inr (9, rfs A th (bI aw) (iN (p + 1)) od))) := k1.up hA (by omega) (by simp)
    have h61' : (va_up F1 (A 49) (.inr (9, rfs A th (bI aw) (iN (p + 1)) od))) (A 61) = cJ (vp_updL g p (jN (100 * r + M 1 r c))) := by
      rw [up_ne (hA.ne (by omega) (by omega) (by omega)), ← hF1, up_eq]
    obtain ⟨F', g', e1, e2, e3, e4, e5, e6⟩ := ih n (c + 1) (p + 1) (va_up F1 (A 49) (.inr (9, rfs A th (bI aw) (iN (p + 1)) od))) _ (by omega) (by omega) (by omega) (up_eq _ _ _) ((k2 53 (by omega) (by simp)).trans h53) ((k2 54 (by omega) (by simp)).trans h54) h61'
    refine ⟨F', g', ?_, by rw [show p + (m + 1) = p + 1 + m by omega]; exact e2, e3, fun j hj => ?_, ⟨?_, e5⟩, k2.trans e6⟩
    · rw [fX10_equivalent_57.eq_2, R_g5 ob, Option.bind_some, show (24 : Int32) + iN r = 24 * iN 1 + iN r from rfl, rd, Option.bind_some, if_neg (fun w => by have := (iN_le (by omega) (by omega)).mp w; omega), R_g14 ob, Option.bind_some, gfI_at (k := 13) (v := iN p) ho rfl, Option.bind_some, R_g4 ob, Option.bind_some, il1, X10_box, Option.bind_some]
      simp only
      rw [X10_rd hR (by omega) hr (by omega), Option.bind_some, show (100 : Int32) = iN 100 from rfl, iN_mul, iN_add, toJ_iN (by omega), w1, Option.bind_some, gfI_at (k := 13) (v := iN p) o1 rfl, Option.bind_some, iN_add, p1, Option.bind_some, iN_add]
      exact e1
    · rw [e4 j (by omega), vp_ne (by omega)]
    · rw [e4 p (by omega), vp_at]
theorem R_eq49 (hA : Inj A) {M : Nat → Nat → Nat → Nat} {L : Nat → Nat → Nat} {od : Int32} {x1 : Int32} (hL : ∀ r, L 1 r ≤ 24) (hM : ∀ r d, d < L 1 r → M 1 r d < 100) (K : Nat → Int32 → Mem → Option (Int32 × Mem)) : ∀ (m n r p : Nat) (F : Mem) (g : Nat → Int64), r + m = 24 → m < n → p + (cdL (tabS (M 1) I0 (L 1)) r m).length < 1000 → rCd A F th aw p od → F (A 53) = cM M → F (A 54) = cL L → F (A 61) = cJ g → ∃ F' g' p', fX10_equivalent_49 K n (A 49) x1 (iN r) F = K (A 49) x1 F' ∧ rCd A F' th aw p' od ∧ F' (A 61) = cJ g' ∧ (∀ j, j < p → g' j = g j) ∧ mtL g' p (cdL (tabS (M 1) I0 (L 1)) r m) ∧ Agr A [49, 61] F F' := by
  intro m
  induction m with
  | zero =>
    intro n r p F g h1 h2 h3 ho h53 h54 h61
    obtain ⟨n, rfl⟩ : ∃ m, n = m + 1 := ⟨n - 1, by omega⟩
    refine ⟨F, g, p, ?_, ho, h61, fun _ _ => rfl, trivial, Agr.refl A _ F⟩
    rw [fX10_equivalent_49.eq_2, show r = 24 by omega, if_pos (by decide)]
  | succ m ih =>
    intro n r p F g h1 h2 h3 ho h53 h54 h61
    obtain ⟨n, rfl⟩ : ∃ m, n = m + 1 := ⟨n - 1, by omega⟩
    have FB := FU_big
    have hl := hL r
    have len : (cdL (tabS (M 1) I0 (L 1)) r (m + 1)).length = L 1 r + (cdL (tabS (M 1) I0 (L 1)) (r + 1) m).length := by
      show ((tabS (M 1) I0 (L 1) r).map _ ++ cdL (tabS (M 1) I0 (L 1)) (r + 1) m).length = _
      rw [List.length_append, List.length_map, tabS_len]
    obtain ⟨F1, g1, a1, a2, a3, a4, a5, a6⟩ := R_eq57 hA (x1 := x1) (r := r) (by omega) hl (hM r) (fun (x0 : Nat) (x1 : Int32) (x2 : Int32) (F : Mem) => (fX10_equivalent_49 K n) x0 x1 (x2 + 1) F) (L 1 r) FU 0 p F g (by omega) (by omega) (by omega) ho h53 h54 h61
    obtain ⟨F', g', p', e1, e2, e3, e4, e5, e6⟩ := ih n (r + 1) (p + L 1 r) F1 g1 (by omega) (by omega) (by omega) a2 ((a6 53 (by omega) (by simp)).trans h53) ((a6 54 (by omega) (by simp)).trans h54) a3
    refine ⟨F', g', p', ?_, e2, e3, fun j hj => (e4 j (by omega)).trans (a4 j hj), ?_, a6.trans e6⟩
    · rw [fX10_equivalent_49.eq_2, if_neg (show ¬ (24 : Int32) ≤ iN r from fun w => by have := (iN_le (a := 24) (by omega) (by omega)).mp w; omega), il0]
      refine Eq.trans a1 ?_
      rw [il1, iN_add]
      exact e1
    · show mtL g' p ((tabS (M 1) I0 (L 1) r).map _ ++ cdL (tabS (M 1) I0 (L 1)) (r + 1) m)
      rw [mtL_app, List.length_map, tabS_len]
      refine ⟨mtL_ext _ p (fun j b1 b2 => e4 j (by rw [List.length_map, tabS_len] at b2; omega)) a5, e5⟩
end EQUIV3
