section READC3
variable {A : Nat → Nat} {F : Mem} {S W : Nat → Nat → Nat} {N : Nat → Nat} {PT : Nat → Nat → Nat} {PO : Nat → Nat} {QT : Nat → Nat → Nat} {QO : Nat → Nat} {aw : Bool} {th : Int32}
/-- what always holds of P -/
def okP (T : Nat → Nat → Nat) (O : Nat → Nat) : Prop := okT T O ∧ okO O ∧ boxes O 16 ≤ 24 ∧ ∀ s d, d < O s → 1 ≤ T s d ∧ T s d ≤ 24
theorem rdF_boxes (T : Nat → Nat → Nat) (O : Nat → Nat) : ∀ m, (rdF (tabS T I0 O) 0 m).length = boxes O m := by
  intro m
  induction m with
  | zero => rfl
  | succ m ih =>
    rw [rdF_last, Nat.zero_add, List.length_append, ih, tabS_len]
    show O m + boxes O m = boxes O m + O m
    omega
/-- P can be read -/
def canR (T : Nat → Nat → Nat) (O : Nat → Nat) : Prop := boxes O 16 ≤ 16 ∧ ∀ s d, s < 16 → d < O s → T s d ≤ 16
abbrev ISE : String := "java/lang/IllegalStateException"
theorem C_read (hA : Inj A) (h : CC A F S W N PT PO QT QO aw) (hP : okP PT PO) {j : Nat} (hj : j < 2) : (canR PT PO → ∃ F', mX9_read F (A 0) (iN j) = some (.inr (), F') ∧ CC A F' S (upK W j (putL (W j) 0 (rdF (tabS PT I0 PO) 0 16))) (upL N j (boxes PO 16)) PT PO QT QO aw ∧ Agr A CTs F F') ∧ (¬ canR PT PO → mX9_read F (A 0) (iN j) = some (.inl ISE, F)) := by
  have FB := FU_big
  obtain ⟨p1, p2, p3, p4⟩ := hP
  have h2 := h.2.1
  have hB := h.1
  have hw := h.2.2.2.2.1 j hj
  obtain ⟨g, g1, g2, g3⟩ := X7_gl4 h2 p2 p1 (fun s d hd => by have := p4 s d hd; omega) 16 FU 0 0 (by omega) (by omega) (by omega)
  have st : mX9_read F (A 0) (iN j) = if 16 < iN (boxes PO 16) then some (.inl ISE, F) else if iN g ≤ 16 then ((pf F (A (45 + 2 * j)) 7 1 (.int 0)).bind fun F42 => fX9_read_48 FU (A 0) (A (45 + 2 * j)) 15 F42) else some (.inl ISE, F) := by
    unfold mX9_read mX7_greatestLetter fX9_read_30
    rw [obj_of hB.1, Option.bind_some, C_word hB hj, thn_r, gfR_at (k := 2) (v := A 3) hB.1 rfl, Option.bind_some, obj_of h2.1, Option.bind_some, X7_countBoxes h2, Option.bind_some]
    by_cases q : (16 : Int32) < iN (boxes PO 16)
    · rw [if_pos q, if_pos q]
    · rw [if_neg q, if_neg q]
      simp only
      rw [gfR_at (k := 2) (v := A 3) hB.1 rfl, Option.bind_some, obj_of h2.1, Option.bind_some, show fX7_greatestLetter_4 FU (A 3) 0 0 F = _ from g1, Option.bind_some]
  have q1 : (16 : Int32) < iN (boxes PO 16) ↔ 16 < boxes PO 16 := iN_lt (a := 16) (by omega) (by omega)
  have q2 : iN g ≤ (16 : Int32) ↔ g ≤ 16 := iN_le (b := 16) (by omega) (by omega)
  rw [st]
  constructor
  · intro cr
    have gl : g ≤ 16 := g3.mpr ⟨by omega, fun s d _ b c => cr.2 s d b c⟩
    rw [if_neg (fun w => by have := q1.mp w; have := cr.1; omega), if_pos (q2.mpr gl)]
    have k1 : Agr A [45 + 2 * j, 46 + 2 * j] F (va_up F (A (45 + 2 * j)) (.inr (7, [.ref (A (46 + 2 * j)), .int (iN 0)]))) := (Agr.refl A _ F).up hA (by omega) (by simp)
    have pf1 : pf F (A (45 + 2 * j)) 7 1 (.int 0) = some (va_up F (A (45 + 2 * j)) (.inr (7, [.ref (A (46 + 2 * j)), .int (iN 0)]))) := pf_at hw.1 (by simp)
    have hW1 : isW (va_up F (A (45 + 2 * j)) (.inr (7, [.ref (A (46 + 2 * j)), .int (iN 0)]))) (A (45 + 2 * j)) (A (46 + 2 * j)) (W j) 0 := ⟨up_eq _ _ _, (up_ne (hA.ne (by omega) (by omega) (by omega))).trans hw.2⟩
    obtain ⟨F', e1, e2, e3⟩ := C_rd48 hA hj p2 16 FU 0 _ (W j) (by omega) (by rw [rdF_boxes]; have := cr.1; omega) (by omega) (gB_fr k1 hB (by simp; omega)) (isTA_fr (j := 3) k1 h2 (by omega) (by simp; omega)) hW1
    rw [rdF_boxes, Nat.zero_add] at e2
    have z := CC_word hA h hj (k1.trans e3) e2
    refine ⟨F', ?_, z.1, z.2⟩
    rw [pf1, Option.bind_some]
    exact e1
  · intro cr
    by_cases w : 16 < boxes PO 16
    · rw [if_pos (q1.mpr w)]
    · rw [if_neg (fun v => w (q1.mp v)), if_neg]
      intro v
      have gl := g3.mp (q2.mp v)
      exact cr ⟨by omega, fun s d a b => gl.2 s d (Nat.zero_le _) a b⟩
theorem C_read_no (h : CC A F S W N PT PO QT QO aw) {x : Int32} (hx : x < 0 ∨ (¬ x < 0 ∧ iN 2 ≤ x)) : mX9_read F (A 0) x = some (.inl IOOB, F) := by
  unfold mX9_read
  rw [obj_of h.1.1, Option.bind_some, C_noword hx, thn_l]
end READC3
