section INSR
variable {A : Nat → Nat} {F : Mem} {S W : Nat → Nat → Nat} {N : Nat → Nat} {PT : Nat → Nat → Nat} {PO : Nat → Nat} {QT : Nat → Nat → Nat} {QO : Nat → Nat} {aw : Bool} {th : Int32}
/-- the reference puts a letter into P -/
theorem R_inS (co : Bool) {b bx ln : Nat} {fs : List Value} {M : Nat → Nat → Nat → Nat} {L : Nat → Nat → Nat} {x i : Nat} (h : isR F b fs bx ln M L) (hT : okT (M 0) (L 0)) (hb : boxes (L 0) 16 = i) (hi : i < 16) (hx : x < 100) (hl : ∀ s d, d < L 0 s → M 0 s d < 100) : (if co = true then mX10_insertByColumns F b (iN 0) (iN x) else mX10_insertByRows F b (iN 0) (iN x)) = some (iN (inS co (M 0) (L 0) x).2.2, va_up (va_up F bx (cM (upK M 0 (inS co (M 0) (L 0) x).1))) ln (cL (upK L 0 (inS co (M 0) (L 0) x).2.1))) := by
  have h15 : L 0 15 = 0 := by
    by_cases q : L 0 15 = 0
    · exact q
    · have := boxes_low hT.1 (show 0 < L 0 15 by omega) 16 (by omega)
      omega
  have h0 := boxes_row (O := L 0) 16 (by omega)
  unfold inS
  cases co with
  | true =>
    rw [if_pos rfl, if_pos rfl]
    exact X10_insertByColumns h (by omega) hT h15 (by omega) hx hl
  | false =>
    rw [if_neg (by decide), if_neg (by decide)]
    exact X10_insertByRows h (by omega) (fun s => by have := par_le hT.1 (Nat.zero_le s); omega) (by omega) h15 hx hl
/-- and its number into Q -/
theorem R_in81 {b bx ln : Nat} {fs : List Value} {M : Nat → Nat → Nat → Nat} {L : Nat → Nat → Nat} {q i : Nat} (h : isR F b fs bx ln M L) (hq : q < 24) (hL : L 2 q < 24) {x1 x2 : Int32} {K37 : Nat → Int32 → Int32 → Int32 → Mem → Option (Int32 × Mem)} {K127 : Nat → Mem → Option (Int32 × Mem)} : fX10_insert_81 K37 K127 b x1 x2 (iN i) (iN q) F = K37 b x1 x2 (iN (i + 1)) (va_up (va_up F bx (cM (upK M 2 (upT (M 2) q (L 2 q) (i + 1))))) ln (cL (upK L 2 (upL (L 2) q (L 2 q + 1))))) := by
  have h' := isR_putM (M' := upK M 2 (upT (M 2) q (L 2 q) (i + 1))) h
  have e48 : (48 : Int32) + iN q = 24 * iN 2 + iN q := rfl
  unfold fX10_insert_81
  rw [e48, gfR_at h.1 h.2.1, Option.bind_some, gfR_at h.1 h.2.2.1, Option.bind_some, X10_rdL h (by omega) hq, Option.bind_some, show mX10_box F 2 (iN q) (iN (L 2 q)) = _ from X10_box F 2 q (L 2 q), Option.bind_some]
  simp only
  rw [iN_one, X10_wr h (by omega) hq hL, Option.bind_some, gfR_at h'.1 h'.2.2.1, Option.bind_some, X10_rdL h' (by omega) hq, Option.bind_some, iN_one, X10_wrL h' (by omega) hq, Option.bind_some]
end INSR
