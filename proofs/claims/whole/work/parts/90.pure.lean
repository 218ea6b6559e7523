set_option maxHeartbeats 16000000 in
set_option maxRecDepth 100000 in
theorem law_pure (xs : Nat → Int32) (L : Nat) (hL : L ≤ 320) : pL_law xs L := by
  intro q0 _
  have h0 : HpL [(q0, .inr (8, [.null, .null, .null, .null, .int 0, .null, .null, .null, .null, .null, .null, .null, .null]))] (va_up (fun _ => jk) q0 (.inr (8, [.null, .null, .null, .null, .int 0, .null, .null, .null, .null, .null, .null, .null, .null]))) := HpL.new (L := []) HpL.nil rfl (nj_r (by decide))
  refine hl_X9 h0 (fun q1 q2 q3 q4 q5 q6 q7 q8 q9 q10 q11 q12 q13 q14 q15 q16 q17 q18 q19 q20 q21 q22 q23 q24 q25 q26 q27 q28 q29 q30 q31 q32 q33 q34 q35 q36 q37 q38 q39 q40 q41 q42 q43 q44 q45 q46 q47 q48 F1 h => ?_)
  intro q49 hq49
  refine hl_X10 h hq49 (fun q50 q51 q52 q53 q54 q55 q56 q57 q58 q59 q60 q61 q62 q63 q64 q65 F2 h => ?_)
  intro q66 hq66
  have h1 := HpL.new (c := zJ 1) h hq66 (nj_l _)
  have h2 : HpL (LL (fun i => [q0, q1, q2, q3, q4, q5, q6, q7, q8, q9, q10, q11, q12, q13, q14, q15, q16, q17, q18, q19, q20, q21, q22, q23, q24, q25, q26, q27, q28, q29, q30, q31, q32, q33, q34, q35, q36, q37, q38, q39, q40, q41, q42, q43, q44, q45, q46, q47, q48, q49, q50, q51, q52, q53, q54, q55, q56, q57, q58, q59, q60, q61, q62, q63, q64, q65, q66].getD i 0)) (va_up F2 q66 (zJ 1)) := h1
  exact law_go hL h2 rfl rfl rfl
