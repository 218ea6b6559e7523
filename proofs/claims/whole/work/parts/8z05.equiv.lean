section EQUIV
variable {A : Nat → Nat} {F : Mem} {S W : Nat → Nat → Nat} {N : Nat → Nat} {PT : Nat → Nat → Nat} {PO : Nat → Nat} {QT : Nat → Nat → Nat} {QO : Nat → Nat} {aw : Bool} {th : Int32}
/-- what always holds of words -/
def okW (W : Nat → Nat → Nat) (N : Nat → Nat) : Prop := ∀ i, i < 2 → N i ≤ 16 ∧ ∀ k, k < N i → 1 ≤ W i k ∧ W i k ≤ 16
/-- a word's tableau -/
abbrev wT (W : Nat → Nat → Nat) (N : Nat → Nat) (i : Nat) : Tab := insF T0 (seg (W i) 0 (N i))
theorem isW_at (hA : Inj A) {a b c n : Nat} {V : Nat → Nat} {x : Cl} (h : isW F (A a) (A b) V n) (ha : a < 67) (hb : b < 67) (hc : c < 67) (h1 : a ≠ c) (h2 : b ≠ c) : isW (va_up F (A c) x) (A a) (A b) V n := isW_fr h (up_ne (hA.ne ha hc h1)) (up_ne (hA.ne hb hc h2))
theorem isT_at (hA : Inj A) {j c : Nat} {T : Nat → Nat → Nat} {O : Nat → Nat} {x : Cl} (h : isT F (A j) (A (j + 1)) (A (j + 2)) T O) (hj : j + 2 < 67) (hc : c < 67) (h1 : c < j ∨ j + 2 < c) : isT (va_up F (A c) x) (A j) (A (j + 1)) (A (j + 2)) T O := isT_fr h (up_ne (hA.ne (by omega) hc (by omega))) (up_ne (hA.ne (by omega) hc (by omega))) (up_ne (hA.ne (by omega) hc (by omega)))
/-- a word inserted into one of the class's rooms -/
theorem C_insertAll (hA : Inj A) {j i : Nat} {aw : Bool} (hj : j + 2 < 15) (hj9 : 3 ≤ j) (hi : i < 2) (hw : okW W N) (hT : gT A F j) (hW : gW A F W N) : ∃ F' T' O', mX7_insertAll F (A j) (A (45 + 2 * i)) = some F' ∧ isT F' (A j) (A (j + 1)) (A (j + 2)) T' O' ∧ tabS T' I0 O' = wT W N i ∧ (∀ s, O' s ≤ 16) ∧ (∀ s, 16 ≤ s → O' s = 0) ∧ (∀ s d, d < O' s → T' s d < 100) ∧ Agr A [j + 1, j + 2] F F' := by
  obtain ⟨T, O, h1, h2⟩ := hT
  obtain ⟨w1, w2⟩ := hw i hi
  obtain ⟨T', O', e1, e2, e3, e4, e5⟩ := X7_insertAll h1 (hW i hi) w1 (hA.ne (by omega) (by omega) (by omega)) (fun k hk => by have := w2 k hk; omega) h2
  refine ⟨_, T', O', e1, isT_putO (isT_putT h1), e2, fun s => by have := e3 s; omega, e4, e5, ((Agr.refl A _ F).up hA (by omega) (by simp)).up hA (by omega) (by simp)⟩
theorem C_equivalent (hA : Inj A) (h : CC A F S W N PT PO QT QO aw) (hw : okW W N) : ∃ (z : Bool) (F' : Mem), mX9_equivalent F (A 0) = some (bI z, F') ∧ (z = true ↔ wT W N 0 = wT W N 1) ∧ CC A F' S W N PT PO QT QO aw ∧ Agr A CTs F F' := by
  obtain ⟨h1, h2, h3, h4, h5, h6, h7, h8, h9, h10, h11, h12, h13⟩ := h
  obtain ⟨F1, T1, O1, a1, a2, a3, a4, a5, a6, a7⟩ := C_insertAll hA (j := 9) (i := 0) (aw := aw) (by omega) (by omega) (by omega) hw h6 h5
  have h5' := gW_fr a7 h5 (fun t q => by simp at q; omega)
  have h7' := gT_fr a7 h7 (by omega) (by simp)
  have hB1 := gB_fr a7 h1 (by simp)
  obtain ⟨F2, T2, O2, b1, b2, b3, b4, b5, b6, b7⟩ := C_insertAll hA (j := 12) (i := 1) (aw := aw) (by omega) (by omega) (by omega) hw h7' h5'
  have hB2 := gB_fr b7 hB1 (by simp)
  have a2' := isTA_fr (j := 9) b7 a2 (by omega) (by simp)
  have FB := FU_big
  have c := X7_sa2 a2' b2 (fun s => by have := a4 s; omega) (fun s => by have := b4 s; omega) a5 b5 a6 b6 16 FU 0 (by omega) (by omega)
  have k : Agr A [10, 11, 13, 14] F F2 := (a7.mono (fun t q => by simp at q ⊢; omega)).trans (b7.mono (fun t q => by simp at q ⊢; omega))
  have eq := eqT_iff T1 T2 O1 O2 16 0
  refine ⟨eqT T1 T2 O1 O2 0 16, F2, ?_, ?_, ⟨gB_fr k h1 (by simp), isTA_fr (j := 3) k h2 (by omega) (by simp), isTA_fr (j := 6) k h3 (by omega) (by simp), gS_fr k h4 (fun t q => by simp at q; omega), gW_fr k h5 (fun t q => by simp at q; omega), ⟨T1, O1, a2', a5⟩, ⟨T2, O2, b2, b5⟩, gU_fr k h8 (by omega) (by simp), gH_fr k h9 (by simp), gO_fr k h10 (by simp), gC_fr k h11 (by simp), gF_fr k h12 (by simp), gP_fr k h13 (by simp)⟩, k.mono (CTs_of (fun t q => by simp at q; omega))⟩
  · obtain ⟨TT, OO, h61, _⟩ := h6
    obtain ⟨TT2, OO2, h71, _⟩ := h7'
    unfold mX9_equivalent mX7_isSameAs
    rw [gfR_at (k := 5) (v := A 9) h1.1 rfl, Option.bind_some, gfR_at (k := 1) (v := A 2) h1.1 rfl, Option.bind_some, il0, rdQ_at h1.2.2 (by omega) (by omega) (if_pos (by omega)), Option.bind_some, obj_of h61.1, Option.bind_some, a1, Option.bind_some, gfR_at (k := 6) (v := A 12) hB1.1 rfl, Option.bind_some, gfR_at (k := 1) (v := A 2) hB1.1 rfl, Option.bind_some, il1, rdQ_at hB1.2.2 (by omega) (by omega) (if_pos (by omega)), Option.bind_some, obj_of h71.1, Option.bind_some, b1, Option.bind_some, gfR_at (k := 5) (v := A 9) hB2.1 rfl, Option.bind_some, gfR_at (k := 6) (v := A 12) hB2.1 rfl, Option.bind_some, obj_of a2'.1, Option.bind_some, c, Option.bind_some]
    cases eqT T1 T2 O1 O2 0 16 <;> rfl
  · rw [eq, ← a3, ← b3]
    constructor
    · intro q
      funext s
      by_cases d : s < 16
      · exact q s (by omega) (by omega)
      · show seg _ _ _ = seg _ _ _
        rw [a5 s (by omega), b5 s (by omega)]
        rfl
    · intro q s _ _
      exact congrFun q s
end EQUIV
