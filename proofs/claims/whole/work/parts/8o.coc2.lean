section COC2
variable {A : Nat → Nat} {F : Mem} {S W : Nat → Nat → Nat} {N : Nat → Nat} {PT : Nat → Nat → Nat} {PO : Nat → Nat} {QT : Nat → Nat → Nat} {QO : Nat → Nat} {aw : Bool} {th : Int32}
abbrev z0 : Nat → Nat := fun _ => 0
theorem rowS_mono' (M : Nat → Nat) (i : Nat) {x y : Nat} (h : x ≤ y) : rowS M i x ≤ rowS M i y := by
  have := rowS_mono M i (y - x) x
  rwa [show x + (y - x) = y by omega] at this
theorem boxes_mono (R : Nat → Nat) {x y : Nat} (h : x ≤ y) : boxes R x ≤ boxes R y := by
  have mono : ∀ d k, boxes R k ≤ boxes R (k + d) := by
    intro d
    induction d with
    | zero => intro k; exact Nat.le_refl _
    | succ d ih => intro k; have := ih k; rw [← Nat.add_assoc]; simp only [boxes]; omega
  have := mono (y - x) x
  rwa [show x + (y - x) = y by omega] at this
theorem upd_upd (f : Nat → Int32) (k : Nat) (a b : Int32) : upd (upd f k a) k b = upd f k b := by
  funext j
  unfold upd
  by_cases c : j = k
  · rw [if_pos c, if_pos c]
  · rw [if_neg c, if_neg c, if_neg c]
theorem upd_id {f : Nat → Int32} {k : Nat} {a : Int32} (h : f k = a) : upd f k a = f := by
  funext j
  unfold upd
  by_cases c : j = k
  · rw [if_pos c, c, h]
  · rw [if_neg c]
theorem PIn_lets {a R b : Nat → Nat} {i s j : Nat} {M : Nat → Nat} {lets lets' us : Nat → Int32} (h : PIn a R b i s j M lets us) (e : ∀ k, k < boxes R i + rowS M i 8 → lets' k = lets k) : PIn a R b i s j M lets' us := by
  obtain ⟨h1, h2, h3, h4, h5, h6, h7, h8, h9, h10, h11, h12, h13⟩ := h
  refine ⟨h1, h2, h3, h4, h5, h6, h7, h8, fun q => by rw [e _ (by omega)]; exact h9 q, fun r hr q hq => ?_, h11, h12, h13⟩
  obtain ⟨l, l1, l2, l3⟩ := h10 r hr q hq
  refine ⟨l, l1, ?_, l3⟩
  rw [e _ ?_]
  · exact l2
  · by_cases c : r = i
    · subst c; omega
    · have := boxes_mono R (show r + 1 ≤ i by omega)
      have := h4 r (by omega)
      simp only [boxes] at *
      omega
/-- what comes of the next letter -/
noncomputable abbrev trm (a R b : Nat → Nat) (i s : Nat) (M : Nat → Nat) (x : Nat) : Nat := ivN (cnd a z0 b i x (s + 1) (M (8 * i + x)) M) (boxN a z0 b i (allN a z0 R b (7 - i)) s (x + 1) (upL M (8 * i + x) (M (8 * i + x) + 1)))
theorem X2_loop (hA : Inj A) {a R b : Nat → Nat} {bA bR : Nat → Int32} {T n i s j x0 : Nat} {M : Nat → Nat} {us : Nat → Int32} (hT24 : T ≤ 24) (hb24 : ∀ k, b k ≤ 24) (hrem : boxes R i + rowS M i 8 + (n + 1) = T) (h3 : ∀ x, x < 8 → ((i = 0 ∨ a i + (s + 1) ≤ a (i - 1) + rowS M (i - 1) x) ↔ x0 ≤ x)) (rc : Mem → Nat → Int32 → Option (Int64 × Mem)) (hrc : ∀ (x : Nat) (M' : Nat → Nat) (lets us : Nat → Int32) (F : Mem), PIn a R b i s (x + 1) M' lets us → CSn A F T bA bR b lets us → ∃ F' lets', rc F (A 30) (iN (T - n)) = some (jN (boxN a z0 b i (allN a z0 R b (7 - i)) s (x + 1) M'), F') ∧ CSn A F' T bA bR b lets' us ∧ (∀ k, k < T - n → lets' k = lets k) ∧ Agr A [31, 34] F F') : ∀ (k x fu : Nat) (F : Mem) (lets : Nat → Int32), x + k = j → k < fu → x0 ≤ x → PIn a R b i (s + 1) j M lets us → CSn A F T bA bR b lets us → ∃ F' lets', fX2_countFrom_71 rc fu (A 30) (iN (T - (n + 1))) (iN j) (jN (sumN (trm a R b i s M) x)) (iN (x + 1)) F = some (jN (sumN (trm a R b i s M) j), F') ∧ CSn A F' T bA bR b lets' us ∧ (∀ k, k < T - (n + 1) → lets' k = lets k) ∧ Agr A [31, 34] F F' := by
  have hbox : T - (n + 1) = boxes R i + rowS M i 8 := by omega
  intro k
  induction k with
  | zero =>
    intro x fu F lets e1 e2 e3 hP hC
    obtain ⟨f', rfl⟩ : ∃ f', fu = f' + 1 := ⟨fu - 1, by omega⟩
    have hj := hP.2.2.1
    have : x = j := by omega
    subst this
    refine ⟨F, lets, ?_, hC, fun _ _ => rfl, Agr.refl A _ F⟩
    rw [fX2_countFrom_71.eq_2, if_pos ((iN_lt (by omega) (by omega)).mpr (by omega))]
  | succ k ih =>
    intro x fu F lets e1 e2 e3 hP hC
    obtain ⟨f', rfl⟩ : ∃ f', fu = f' + 1 := ⟨fu - 1, by omega⟩
    obtain ⟨p1, p2, p3, p4, p5, p6, p7, p8, p9, p10, p11, p12, p13⟩ := id hP
    obtain ⟨c1, c2, c3, c4, c5, c6⟩ := id hC
    have ux := p12 x (by omega)
    have ub := p13 x (by omega)
    have bx := hb24 x
    have skip : trm a R b i s M x = 0 → ∃ F' lets', fX2_countFrom_160 rc (fX2_countFrom_71 rc f') (A 30) (iN (T - (n + 1))) (iN j) (jN (sumN (trm a R b i s M) x)) (iN (x + 1)) F = some (jN (sumN (trm a R b i s M) j), F') ∧ CSn A F' T bA bR b lets' us ∧ (∀ k, k < T - (n + 1) → lets' k = lets k) ∧ Agr A [31, 34] F F' := by
      intro hz
      have q := ih (x + 1) f' F lets (by omega) (by omega) (by omega) hP hC
      have e0 : sumN (trm a R b i s M) (x + 1) = sumN (trm a R b i s M) x := by
        show sumN (trm a R b i s M) x + trm a R b i s M x = _
        rw [hz]; rfl
      rw [e0] at q
      unfold fX2_countFrom_160
      rw [iN_one]
      exact q
    have head : fX2_countFrom_71 rc (f' + 1) (A 30) (iN (T - (n + 1))) (iN j) (jN (sumN (trm a R b i s M) x)) (iN (x + 1)) F = if b x ≤ colS M x i + M (8 * i + x) then fX2_countFrom_160 rc (fX2_countFrom_71 rc f') (A 30) (iN (T - (n + 1))) (iN j) (jN (sumN (trm a R b i s M) x)) (iN (x + 1)) F else if us x ≤ iN (colS M x i + M (8 * i + x)) then fX2_countFrom_160 rc (fX2_countFrom_71 rc f') (A 30) (iN (T - (n + 1))) (iN j) (jN (sumN (trm a R b i s M) x)) (iN (x + 1)) F else ((wrI F (A 31) (iN (T - (n + 1))) (iN (x + 1))).bind fun F125 => (gfR F125 (A 30) 2 3).bind fun v127 => (rdI F125 0 v127 (iN (x + 1))).bind fun v133 => (wrI F125 v127 (iN (x + 1)) (v133 + 1)).bind fun F136 => (obj F136 (A 30) 2).bind fun _ => (rc F136 (A 30) (iN (T - (n + 1)) + 1)).bind fun v143 => (gfR v143.2 (A 30) 2 3).bind fun v150 => (rdI v143.2 0 v150 (iN (x + 1))).bind fun v156 => (wrI v143.2 v150 (iN (x + 1)) (v156 - 1)).bind fun F159 => fX2_countFrom_160 rc (fX2_countFrom_71 rc f') (A 30) (iN (T - (n + 1))) (iN j) (jN (sumN (trm a R b i s M) x) + v143.1) (iN (x + 1)) F159) := by
      rw [fX2_countFrom_71.eq_2, if_neg (fun q => by have := (iN_lt (by omega) (by omega)).mp q; omega)]
      simp (disch := omega) only [gfR_at (k := 3) (v := A 34) c1 rfl, gfR_at (k := 4) (v := A 35) c1 rfl, gfR_at (k := 0) (v := A 31) c1 rfl, gfR_at (k := 0) (v := A 36) c6.1 rfl, Option.bind_some, rdI_at c5, rdI_at c6.2, il1, iN_sub, Nat.add_sub_cancel, ux, iN_le]
    rw [head]
    have h3x := h3 x (by omega)
    by_cases d1 : b x ≤ colS M x i + M (8 * i + x)
    · rw [if_pos d1]
      exact skip (ivN_neg (fun q => by have := q.1; omega))
    · rw [if_neg d1]
      have second : (x = 0 ∨ z0 x + colS M x i + M (8 * i + x) < z0 (x - 1) + colS M (x - 1) i) ↔ ¬ us x ≤ iN (colS M x i + M (8 * i + x)) := by
        by_cases x00 : x = 0
        · subst x00
          rw [p11]
          constructor
          · intro _ q
            have := (iN_le (a := 24) (by omega) (by omega)).mp q
            omega
          · intro _; exact Or.inl rfl
        · have uy := p12 (x - 1) (by omega)
          have uyb := p13 (x - 1) (by omega)
          have by1 := hb24 (x - 1)
          have mz := p7 (x - 1) (by omega)
          rw [show x - 1 + 1 = x by omega, mz, Nat.add_zero] at uy
          rw [mz, Nat.add_zero] at uyb
          rw [uy, iN_le (by omega) (by omega)]
          show (x = 0 ∨ 0 + colS M x i + M (8 * i + x) < 0 + colS M (x - 1) i) ↔ _
          omega
      by_cases d2 : us x ≤ iN (colS M x i + M (8 * i + x))
      · rw [if_pos d2]
        exact skip (ivN_neg (fun q => (second.mp q.2.1) d2))
      · rw [if_neg d2]
        have cn : cnd a z0 b i x (s + 1) (M (8 * i + x)) M := ⟨by omega, second.mpr d2, h3x.mpr e3⟩
        have tv : trm a R b i s M x = boxN a z0 b i (allN a z0 R b (7 - i)) s (x + 1) (upL M (8 * i + x) (M (8 * i + x) + 1)) := ivN_pos cn
        have hP2 := PIn_add (x := x) hP (by omega) (by omega)
        have hC2 := CSn_put hA (lets' := upd lets (boxes R i + rowS M i 8) (iN (x + 1))) (us' := upd us (x + 1) (iN (colS M x i + M (8 * i + x) + 1))) hC
        obtain ⟨F3, lets3, r1, r2, r3, r4⟩ := hrc x _ _ _ _ hP2 hC2
        obtain ⟨g1, g2, g3, g4, g5, g6⟩ := id r2
        generalize hF4 : va_up F3 (A 34) (.inl (0, 9, .inl us)) = F4
        have k4 : Agr A [34] F3 F4 := by rw [← hF4]; exact (Agr.refl A _ F3).up hA (by omega) (by simp)
        have hC4 : CSn A F4 T bA bR b lets3 us := ⟨(k4 30 (by omega) (by simp)).trans g1, (k4 31 (by omega) (by simp)).trans g2, (k4 32 (by omega) (by simp)).trans g3, (k4 33 (by omega) (by simp)).trans g4, by rw [← hF4, up_eq], isS_fr g6 (k4 35 (by omega) (by simp)) (k4 36 (by omega) (by simp))⟩
        have hl : ∀ k, k < T - (n + 1) → lets3 k = lets k := fun k hk => by
          rw [r3 k (by omega)]
          simp only [upd]
          rw [if_neg (by omega)]
        obtain ⟨F5, lets5, q1, q2, q3, q4⟩ := ih (x + 1) f' F4 lets3 (by omega) (by omega) (by omega) (PIn_lets hP (fun k hk => hl k (by omega))) hC4
        have k12 : Agr A [31, 34] F (va_up (va_up F (A 31) (.inl (0, 24, .inl (upd lets (boxes R i + rowS M i 8) (iN (x + 1)))))) (A 34) (.inl (0, 9, .inl (upd us (x + 1) (iN (colS M x i + M (8 * i + x) + 1)))))) := ((Agr.refl A _ F).up hA (by omega) (by simp)).up hA (by omega) (by simp)
        refine ⟨F5, lets5, ?_, q2, fun k hk => (q3 k hk).trans (hl k hk), ((k12.trans r4).trans (k4.mono (by simp))).trans q4⟩
        have c1' : va_up F (A 31) (.inl (0, 24, .inl (upd lets (boxes R i + rowS M i 8) (iN (x + 1))))) (A 30) = .inr (2, [.ref (A 31), .ref (A 32), .ref (A 33), .ref (A 34), .ref (A 35), .int (iN T)]) := by rw [up_ne (hA.ne (by omega) (by omega) (by omega))]; exact c1
        have c5' : va_up F (A 31) (.inl (0, 24, .inl (upd lets (boxes R i + rowS M i 8) (iN (x + 1))))) (A 34) = .inl (0, 9, .inl us) := by rw [up_ne (hA.ne (by omega) (by omega) (by omega))]; exact c5
        rw [hbox, wrI_at c2 (by omega) (by omega), Option.bind_some, gfR_at (k := 3) (v := A 34) c1' rfl, Option.bind_some, rdI_at c5' (by omega) (by omega), Option.bind_some, ux, iN_one, wrI_at c5' (by omega) (by omega), Option.bind_some, obj_of hC2.1, Option.bind_some, iN_one, show boxes R i + rowS M i 8 + 1 = T - n by omega, r1, Option.bind_some]
        dsimp only
        rw [gfR_at (k := 3) (v := A 34) g1 rfl, Option.bind_some, rdI_at g5 (by omega) (by omega), Option.bind_some]
        have eu : upd us (x + 1) (iN (colS M x i + M (8 * i + x) + 1)) (x + 1) = iN (colS M x i + M (8 * i + x) + 1) := by simp only [upd, if_true]
        rw [eu, il1, iN_sub (by omega), Nat.add_sub_cancel, wrI_at g5 (by omega) (by omega), upd_upd, upd_id ux, hF4, Option.bind_some, ← tv, jN_add]
        unfold fX2_countFrom_160
        rw [iN_one, ← hbox]
        exact q1
theorem X2_step (hA : Inj A) {a R b : Nat → Nat} {bA bR : Nat → Int32} {T n : Nat} (hT : boxes R 8 = T) (hT24 : T ≤ 24) (hb24 : ∀ k, b k ≤ 24) (ha24 : ∀ k, a k ≤ 24) (hac : ∀ r, a (r + 1) + R (r + 1) ≤ a r + R r) (hnb : nbA a R bA bR) {d : Nat} (hrc : ∀ (i s j : Nat) (M : Nat → Nat) (lets us : Nat → Int32) (F : Mem), boxes R (i + 1) + n = T + s → PIn a R b i s j M lets us → CSn A F T bA bR b lets us → ∃ F' lets', mX2_countFrom d F (A 30) (iN (T - n)) = some (jN (boxN a z0 b i (allN a z0 R b (7 - i)) s j M), F') ∧ CSn A F' T bA bR b lets' us ∧ (∀ k, k < T - n → lets' k = lets k) ∧ Agr A [31, 34] F F') {i s j : Nat} {M : Nat → Nat} {lets us : Nat → Int32} {F : Mem} (hrem : boxes R (i + 1) + n = T + s) (hP : PIn a R b i (s + 1) j M lets us) (hC : CSn A F T bA bR b lets us) : ∃ F' lets', mX2_countFrom (d + 1) F (A 30) (iN (T - (n + 1))) = some (jN (boxN a z0 b i (allN a z0 R b (7 - i)) (s + 1) j M), F') ∧ CSn A F' T bA bR b lets' us ∧ (∀ k, k < T - (n + 1) → lets' k = lets k) ∧ Agr A [31, 34] F F' := by
  have fub := FU_big
  obtain ⟨p1, p2, p3, p4, p5, p6, p7, p8, p9, p10, p11, p12, p13⟩ := id hP
  obtain ⟨c1, c2, c3, c4, c5, c6⟩ := id hC
  have hrem2 : boxes R i + rowS M i 8 + (n + 1) = T := by simp only [boxes] at hrem; omega
  have hbox : T - (n + 1) = boxes R i + rowS M i 8 := by omega
  obtain ⟨n1, n2⟩ := hnb i (rowS M i 8) p1 (by omega)
  rw [show R i - 1 - rowS M i 8 = s by omega] at n1
  -- from the least letter on
  have main : ∀ x0, x0 ≤ 8 → (∀ x, x < 8 → ((i = 0 ∨ a i + (s + 1) ≤ a (i - 1) + rowS M (i - 1) x) ↔ x0 ≤ x)) → ∃ F' lets', fX2_countFrom_37 (mX2_countFrom d) (A 30) (iN (T - (n + 1))) (iN (x0 + 1)) F = some (jN (boxN a z0 b i (allN a z0 R b (7 - i)) (s + 1) j M), F') ∧ CSn A F' T bA bR b lets' us ∧ (∀ k, k < T - (n + 1) → lets' k = lets k) ∧ Agr A [31, 34] F F' := by
    intro x0 hx0 h3
    have e64 : fX2_countFrom_37 (mX2_countFrom d) (A 30) (iN (T - (n + 1))) (iN (x0 + 1)) F = fX2_countFrom_71 (mX2_countFrom d) FU (A 30) (iN (T - (n + 1))) (iN j) 0 (iN (x0 + 1)) F := by
      unfold fX2_countFrom_37
      rw [gfR_at (k := 2) (v := A 33) c1 rfl, Option.bind_some, hbox, rdI_at c4 (by omega) (by omega), Option.bind_some, n2]
      by_cases q0 : rowS M i 8 = 0
      · rw [if_pos q0, if_pos rfl, p8 q0]
        rfl
      · rw [if_neg q0, if_neg (show ¬ iN (boxes R i + rowS M i 8 - 1) = -1 from fun q => by
          have := congrArg Int32.toInt q
          rw [iN_int (by omega)] at this
          have m1 : (-1 : Int32).toInt = -1 := by decide
          omega), gfR_at (k := 0) (v := A 31) c1 rfl, Option.bind_some, Option.bind_some, rdI_at c4 (by omega) (by omega), Option.bind_some, n2, if_neg q0, rdI_at c2 (by omega) (by omega), Option.bind_some, p9 (by omega)]
        rfl
    rw [e64]
    have zs : ∀ x, x ≤ x0 → x ≤ 8 → sumN (trm a R b i s M) x = 0 := fun x hx hx8 => sumN_zero (fun y hy => ivN_neg (fun q => by
      have := (h3 y (by omega)).mp q.2.2
      omega))
    show ∃ F' lets', _ = some (jN (sumN (trm a R b i s M) j), F') ∧ _
    by_cases c : x0 ≤ j
    · have q := X2_loop hA (bA := bA) (bR := bR) (us := us) (j := j) hT24 hb24 hrem2 h3 (mX2_countFrom d) (fun x M' lets us F hP hC => hrc i s (x + 1) M' lets us F hrem hP hC) (j - x0) x0 FU F lets (by omega) (by omega) (Nat.le_refl _) hP hC
      rw [zs x0 (Nat.le_refl _) hx0] at q
      exact q
    · refine ⟨F, lets, ?_, hC, fun _ _ => rfl, Agr.refl A _ F⟩
      obtain ⟨f', hf⟩ : ∃ f', FU = f' + 1 := ⟨FU - 1, by omega⟩
      rw [hf, fX2_countFrom_71.eq_2, if_pos ((iN_lt (by omega) (by omega)).mpr (by omega)), zs j (by omega) p3]
      rfl
  rw [mX2_countFrom.eq_2, gfI_at (k := 5) (v := iN T) c1 rfl, Option.bind_some, if_pos ((iN_lt (by omega) (by omega)).mpr (by omega)), gfR_at (k := 1) (v := A 32) c1 rfl, Option.bind_some, hbox, rdI_at c3 (by omega) (by omega), Option.bind_some, n1]
  by_cases c : 0 < i ∧ a (i - 1) ≤ a i + s
  · rw [if_pos c]
    have hq := hac (i - 1)
    rw [show i - 1 + 1 = i by omega] at hq
    have Ri := p4 (i - 1) (by omega)
    have ai := ha24 i
    have aj := ha24 (i - 1)
    have bm := boxes_mono R (show i - 1 + 1 ≤ i by omega)
    have bs : boxes R (i - 1 + 1) = boxes R (i - 1) + R (i - 1) := rfl
    obtain ⟨l, l1, l2, l3, l4⟩ := p10 (i - 1) (by omega) (a (i - 1) + R (i - 1) - 1 - (a i + s)) (by omega)
    rw [if_neg (show ¬ iN (boxes R (i - 1) + (a (i - 1) + R (i - 1) - 1 - (a i + s))) = -1 from fun q => by
      have := congrArg Int32.toInt q
      rw [iN_int (by omega)] at this
      have m1 : (-1 : Int32).toInt = -1 := by decide
      omega), gfR_at (k := 0) (v := A 31) c1 rfl, Option.bind_some, Option.bind_some, rdI_at c3 (by omega) (by omega), Option.bind_some, n1, if_pos c, rdI_at c2 (by omega) (by omega), Option.bind_some, l2, iN_one, ← hbox]
    refine main (l + 1) (by omega) (fun x hx => ?_)
    constructor
    · rintro (q | q)
      · omega
      · apply Nat.le_of_not_lt
        intro hlt
        have := rowS_mono' M (i - 1) (show x ≤ l by omega)
        omega
    · intro q
      right
      have := rowS_mono' M (i - 1) q
      omega
  · rw [if_neg c, if_pos rfl, ← hbox]
    refine main 0 (by omega) (fun x hx => ⟨fun _ => Nat.zero_le _, fun _ => ?_⟩)
    by_cases i0 : i = 0
    · exact Or.inl i0
    · right; omega
theorem X2_cf (hA : Inj A) {a R b : Nat → Nat} {bA bR : Nat → Int32} {T : Nat} (hT : boxes R 8 = T) (hT24 : T ≤ 24) (hb24 : ∀ k, b k ≤ 24) (ha24 : ∀ k, a k ≤ 24) (hac : ∀ r, a (r + 1) + R (r + 1) ≤ a r + R r) (hnb : nbA a R bA bR) : ∀ (n : Nat) (m i s j : Nat) (M : Nat → Nat) (lets us : Nat → Int32) (F : Mem) (d : Nat), i + m = 7 → boxes R (i + 1) + n = T + s → n < d → PIn a R b i s j M lets us → CSn A F T bA bR b lets us → ∃ F' lets', mX2_countFrom d F (A 30) (iN (T - n)) = some (jN (boxN a z0 b i (allN a z0 R b (7 - i)) s j M), F') ∧ CSn A F' T bA bR b lets' us ∧ (∀ k, k < T - n → lets' k = lets k) ∧ Agr A [31, 34] F F' := by
  have R24 : ∀ r, r < 8 → R r ≤ 24 := fun r hr => by
    have := boxes_mono R (show r + 1 ≤ 8 by omega)
    rw [hT] at this
    simp only [boxes] at this
    omega
  have mv : ∀ {i j : Nat} {M : Nat → Nat} {lets us : Nat → Int32}, i + 1 < 8 → PIn a R b i 0 j M lets us → boxN a z0 b (i + 1) (allN a z0 R b (7 - (i + 1))) (R (i + 1)) 8 M = boxN a z0 b i (allN a z0 R b (7 - i)) 0 j M := by
    intro i j M lets us hi hP
    show _ = allN a z0 R b (7 - i) M
    rw [boxN_row (by have := R24 (i + 1) hi; unfold KM; omega) (fun x hx => hP.2.2.2.2.2.1 _ (by omega)), show 7 - i = (7 - (i + 1)) + 1 by omega]
    show _ = rowN a z0 b (7 - (7 - (i + 1))) (allN a z0 R b (7 - (i + 1))) 8 (R (7 - (7 - (i + 1)))) M
    rw [show 7 - (7 - (i + 1)) = i + 1 by omega]
  intro n
  induction n with
  | zero =>
    intro m
    induction m with
    | zero =>
      intro i s j M lets us F d hi hrem hd hP hC
      obtain ⟨d', rfl⟩ : ∃ d', d = d' + 1 := ⟨d - 1, by omega⟩
      have i7 : i = 7 := by omega
      subst i7
      have s0 : s = 0 := by rw [hT] at hrem; omega
      subst s0
      refine ⟨F, lets, ?_, hC, fun _ _ => rfl, Agr.refl A _ F⟩
      rw [mX2_countFrom.eq_2, gfI_at (k := 5) (v := iN T) hC.1 rfl, Option.bind_some, Nat.sub_zero, if_neg (fun q => by have := (iN_lt (by omega) (by omega)).mp q; omega)]
      rfl
    | succ m ihm =>
      intro i s j M lets us F d hi hrem hd hP hC
      have b2 := boxes_mono R (show i + 1 ≤ 8 by omega)
      rw [hT] at b2
      have s0 : s = 0 := by omega
      subst s0
      obtain ⟨F', lets', a1, a2⟩ := ihm (i + 1) (R (i + 1)) 8 M lets us F d (by omega) (by show boxes R (i + 1) + R (i + 1) + 0 = _; omega) hd (PIn_row hP (by omega)) hC
      refine ⟨F', lets', ?_, a2⟩
      rw [a1, mv (by omega) hP]
  | succ n ih =>
    intro m
    induction m with
    | zero =>
      intro i s j M lets us F d hi hrem hd hP hC
      obtain ⟨d', rfl⟩ : ∃ d', d = d' + 1 := ⟨d - 1, by omega⟩
      have i7 : i = 7 := by omega
      subst i7
      rw [hT] at hrem
      obtain ⟨s', rfl⟩ : ∃ s', s = s' + 1 := ⟨s - 1, by omega⟩
      exact X2_step hA hT hT24 hb24 ha24 hac hnb (fun i s j M lets us F hr hP hC => ih (7 - i) i s j M lets us F d' (by have := hP.1; omega) hr (by omega) hP hC) (by rw [hT]; omega) hP hC
    | succ m ihm =>
      intro i s j M lets us F d hi hrem hd hP hC
      obtain ⟨d', rfl⟩ : ∃ d', d = d' + 1 := ⟨d - 1, by omega⟩
      by_cases s0 : s = 0
      · subst s0
        obtain ⟨F', lets', a1, a2⟩ := ihm (i + 1) (R (i + 1)) 8 M lets us F (d' + 1) (by omega) (by show boxes R (i + 1) + R (i + 1) + (n + 1) = _; omega) hd (PIn_row hP (by omega)) hC
        refine ⟨F', lets', ?_, a2⟩
        rw [a1, mv (by omega) hP]
      · obtain ⟨s', rfl⟩ : ∃ s', s = s' + 1 := ⟨s - 1, by omega⟩
        exact X2_step hA hT hT24 hb24 ha24 hac hnb (fun i s j M lets us F hr hP hC => ih (7 - i) i s j M lets us F d' (by have := hP.1; omega) hr (by omega) hP hC) (by omega) hP hC
end COC2
