section COR3
variable {A : Nat → Nat} {F : Mem} {S W : Nat → Nat → Nat} {N : Nat → Nat} {PT : Nat → Nat → Nat} {PO : Nat → Nat} {QT : Nat → Nat → Nat} {QO : Nat → Nat} {aw : Bool} {th : Int32}
theorem R_fwd (hA : Inj A) {a c : Nat → Nat} {jb T n i s j : Nat} {M : Nat → Nat} {E : Nat → Nat → Nat → Nat} {fr : Nat → Int32} {fnd : Int64} (hjb : jb < 4) (hR24 : ∀ k, S jb k ≤ 24) (hRp : par (S jb)) (hc24 : ∀ k, c k ≤ 24) (hT : boxes (S jb) 8 = T) (hT24 : T ≤ 24) (hrem : boxes (S jb) i + rowS M i 8 + (n + 1) = T) (hch : 0 < n → ∀ (x : Nat) (M' : Nat → Nat) (E : Nat → Nat → Nat → Nat) (fr : Nat → Int32) (F : Mem) (fnd : Int64), PIr a (S jb) c i s (x + 1) M' (E 1) fr → CSr A F th aw S c E fr → ∃ t F' E', t ≤ Bdr n ∧ (∀ f, fX10_coefficient_155 (f + t) (A 49) (iN jb) (iN T) (iN (T - n)) fnd 0 F = fX10_coefficient_155 f (A 49) (iN jb) (iN T) (iN (T - n) + (-1)) (fnd + jN (vlr a (S jb) c i s (x + 1) M')) 1 F') ∧ CSr A F' th aw S c E' fr ∧ (∀ k, k ≠ 1 → E' k = E k) ∧ (∀ r q, r ≤ i → q < rowS M' r 8 → E' 1 r (S jb r - 1 - q) = E 1 r (S jb r - 1 - q)) ∧ Agr A [53, 58] F F') (hP : PIr a (S jb) c i (s + 1) j M (E 1) fr) (hC : CSr A F th aw S c E fr) : ∃ t F' E', t ≤ Bdr (n + 1) ∧ (∀ f, fX10_coefficient_155 (f + t) (A 49) (iN jb) (iN T) (iN (T - (n + 1))) fnd 0 F = fX10_coefficient_155 f (A 49) (iN jb) (iN T) (iN (T - (n + 1)) + (-1)) (fnd + jN (vlr a (S jb) c i (s + 1) j M)) 1 F') ∧ CSr A F' th aw S c E' fr ∧ (∀ k, k ≠ 1 → E' k = E k) ∧ (∀ r q, r ≤ i → q < rowS M r 8 → E' 1 r (S jb r - 1 - q) = E 1 r (S jb r - 1 - q)) ∧ Agr A [53, 58] F F' := by
  have fub := FU_big
  obtain ⟨p1, p2, p3, p4, p5, p6, p7, p8, p9, p10, p12, p13⟩ := id hP
  obtain ⟨c1, c2, c3, c4, g, c5, c6⟩ := id hC
  obtain ⟨fs, hob⟩ := rObj_ob c1
  have ri := hR24 i
  have hbox : T - (n + 1) = boxes (S jb) i + rowS M i 8 := by omega
  -- the least letter
  have least : ∃ x0, x0 ≤ 8 ∧ (∀ x, x < 8 → ((i = 0 ∨ s + 1 ≤ rowS M (i - 1) x) ↔ x0 ≤ x)) ∧ ∀ f, fX10_coefficient_155 (f + 1) (A 49) (iN jb) (iN T) (iN (T - (n + 1))) fnd 0 F = fX10_coefficient_320 (fun (x0 : Nat) (x2 : Int32) (x4 : Int32) (x5 : Int32) (x6 : Int64) (x10 : Int32) (x12 : Int32) (x13 : Int32) (F : Mem) => fX10_coefficient_342  (fX10_coefficient_155 f) x0 x2 x4 x5 x6 x10 x12 x13 F) FU (A 49) (iN jb) (iN T) (iN (T - (n + 1))) fnd (iN x0) (iN (576 * 1 + 24 * i + s)) (iN (j - 1)) F := by
    have head : ∀ f, fX10_coefficient_155 (f + 1) (A 49) (iN jb) (iN T) (iN (T - (n + 1))) fnd 0 F = (if iN i = 0 then (fX10_coefficient_282  (fX10_coefficient_155   f) (A 49) (iN jb) (iN T) (iN (T - (n + 1))) fnd (iN i) (iN s) (iN (576 * 1 + 24 * i + s)) 0 F) else ((mX10_box F 1 (iN i - 1) (iN s)).bind fun v276 => (rdI v276.2 0 (A 53) v276.1).bind fun v279 => fX10_coefficient_282  (fX10_coefficient_155   f) (A 49) (iN jb) (iN T) (iN (T - (n + 1))) fnd (iN i) (iN s) (iN (576 * 1 + 24 * i + s)) (v279 + 1) v276.2)) := by
      intro f
      rw [fX10_coefficient_155.eq_2, if_neg (iN_neg (by omega)), hbox]
      refine Eq.trans (R_co167 c1 c2 hjb hR24 (i := i) (q := rowS M i 8) p1 (by omega) _ (by omega) i FU 0 (by omega) (by omega)) ?_
      rw [hob, Option.bind_some, R_rowOf c1 c2 hjb p1, Option.bind_some]
      dsimp only
      rw [il1, iN_sub (by omega), iN_sub (by omega), show S jb i - 1 - rowS M i 8 = s by omega, ← il1, X10_box1, Option.bind_some]
      dsimp only
      rw [if_pos rfl, R_g4 c1, Option.bind_some]
    by_cases i0 : i = 0
    · refine ⟨0, by omega, fun x hx => ⟨fun _ => Nat.zero_le _, fun _ => Or.inl i0⟩, fun f => ?_⟩
      rw [head, if_pos (show iN i = 0 by rw [i0]; rfl)]
      unfold fX10_coefficient_282
      exact R_co284 hjb hR24 hC hP _
    · have hri := hRp (i - 1)
      rw [show i - 1 + 1 = i by omega] at hri
      have Rj := p4 (i - 1) (by omega)
      obtain ⟨l, l1, l2, l3, l4⟩ := p10 (i - 1) (by omega) (S jb (i - 1) - 1 - s) (by omega)
      rw [show S jb (i - 1) - 1 - (S jb (i - 1) - 1 - s) = s by omega] at l2
      refine ⟨l + 1, by omega, fun x hx => ⟨?_, fun q => Or.inr ?_⟩, fun f => ?_⟩
      · rintro (q | q)
        · exact absurd q i0
        · apply Nat.le_of_not_lt
          intro hlt
          have := rowS_mono' M (i - 1) (show x ≤ l by omega)
          omega
      · have := rowS_mono' M (i - 1) q
        omega
      · rw [head, if_neg (show ¬ iN i = 0 from fun q => i0 ((iN_inj (b := 0) (by omega) (by omega)).mp q)), il1, iN_sub (by omega), ← il1, X10_box1, Option.bind_some]
        dsimp only
        rw [X10_rd1 c3 (by omega) (by omega), Option.bind_some, l2, iN_one]
        unfold fX10_coefficient_282
        exact R_co284 hjb hR24 hC hP _
  obtain ⟨x0, hx0, h3, fwd⟩ := least
  have zs : ∀ x, x ≤ x0 → x ≤ 8 → sumN (trr a (S jb) c i s M) x = 0 := fun x hx hx8 => sumN_zero (fun y hy => ivN_neg (fun q => by
    have h3y := q.2.2
    have : i = 0 ∨ s + 1 ≤ rowS M (i - 1) y := by
      rcases h3y with w | w
      · exact Or.inl w
      · right
        have w' : 0 + (s + 1) ≤ 0 + rowS M (i - 1) y := w
        omega
    have := (h3 y (by omega)).mp this
    omega))
  have vs : vlr a (S jb) c i (s + 1) j M = sumN (trr a (S jb) c i s M) j := rfl
  by_cases cj : x0 ≤ j
  · obtain ⟨t, F', E', t1, t2, t3, t4, t5, t6⟩ := R_scan hA (x0 := x0) hjb hR24 hc24 hT hT24 hrem h3 hch (j - x0) x0 FU F E fnd (by omega) (by omega) (Nat.le_refl _) hP hC
    refine ⟨t + 1, F', E', ?_, fun f => ?_, t3, t4, t5, t6⟩
    · have : (j - x0) * (Bdr n + 1) ≤ 8 * (Bdr n + 1) := Nat.mul_le_mul_right _ (by omega)
      show _ ≤ 1 + 8 * (Bdr n + 1)
      omega
    · have es : sumN (fun y => trr a (S jb) c i s M (x0 + y)) (j - x0) = sumN (trr a (S jb) c i s M) j := by
        have app : ∀ m, sumN (trr a (S jb) c i s M) (x0 + m) = sumN (trr a (S jb) c i s M) x0 + sumN (fun y => trr a (S jb) c i s M (x0 + y)) m := by
          intro m
          induction m with
          | zero => rfl
          | succ m ih => rw [← Nat.add_assoc]; simp only [sumN]; rw [ih]; omega
        have := app (j - x0)
        rw [show x0 + (j - x0) = j by omega, zs x0 (Nat.le_refl _) hx0, Nat.zero_add] at this
        exact this.symm
      rw [show f + (t + 1) = (f + t) + 1 by omega, fwd, t2, es, vs]
  · refine ⟨1, F, E, ?_, fun f => ?_, hC, fun _ _ => rfl, fun _ _ _ _ => rfl, Agr.refl A _ F⟩
    · show 1 ≤ 1 + 8 * (Bdr n + 1)
      omega
    · obtain ⟨f', hf⟩ : ∃ f', FU = f' + 1 := ⟨FU - 1, by omega⟩
      rw [fwd, hf, fX10_coefficient_320.eq_2, if_pos ((iN_lt (by omega) (by omega)).mpr (by omega))]
      unfold fX10_coefficient_342
      rw [if_neg (fun w => by have := (iN_le (by omega) (by omega)).mp w; omega)]
      unfold fX10_coefficient_354
      rw [if_neg ne10, vs, zs j (by omega) p3, show jN 0 = 0 from rfl, Int64.add_zero]
theorem R_node (hA : Inj A) {a c : Nat → Nat} {jb T : Nat} (hjb : jb < 4) (hR24 : ∀ k, S jb k ≤ 24) (hRp : par (S jb)) (hc24 : ∀ k, c k ≤ 24) (hT : boxes (S jb) 8 = T) (hT24 : T ≤ 24) : ∀ (n : Nat) (m i s j : Nat) (M : Nat → Nat) (E : Nat → Nat → Nat → Nat) (fr : Nat → Int32) (F : Mem) (fnd : Int64), i + m = 7 → 0 < n → boxes (S jb) (i + 1) + n = T + s → PIr a (S jb) c i s j M (E 1) fr → CSr A F th aw S c E fr → ∃ t F' E', t ≤ Bdr n ∧ (∀ f, fX10_coefficient_155 (f + t) (A 49) (iN jb) (iN T) (iN (T - n)) fnd 0 F = fX10_coefficient_155 f (A 49) (iN jb) (iN T) (iN (T - n) + (-1)) (fnd + jN (vlr a (S jb) c i s j M)) 1 F') ∧ CSr A F' th aw S c E' fr ∧ (∀ k, k ≠ 1 → E' k = E k) ∧ (∀ r q, r ≤ i → q < rowS M r 8 → E' 1 r (S jb r - 1 - q) = E 1 r (S jb r - 1 - q)) ∧ Agr A [53, 58] F F' := by
  have mv : ∀ {i j : Nat} {M : Nat → Nat} {E : Nat → Nat → Nat} {fr : Nat → Int32}, i + 1 < 8 → PIr a (S jb) c i 0 j M E fr → vlr a (S jb) c (i + 1) (S jb (i + 1)) 8 M = vlr a (S jb) c i 0 j M := by
    intro i j M E fr hi hP
    show _ = allN z0 a (S jb) (kpp a c) (7 - i) M
    unfold vlr
    rw [boxN_row (by have := hR24 (i + 1); unfold KM; omega) (fun x hx => hP.2.2.2.2.2.1 _ (by omega)), show 7 - i = (7 - (i + 1)) + 1 by omega]
    show _ = rowN z0 a (kpp a c) (7 - (7 - (i + 1))) (allN z0 a (S jb) (kpp a c) (7 - (i + 1))) 8 (S jb (7 - (7 - (i + 1)))) M
    rw [show 7 - (7 - (i + 1)) = i + 1 by omega]
  intro n
  induction n with
  | zero => intro m i s j M E fr F fnd _ h0; omega
  | succ n ih =>
    intro m
    induction m with
    | zero =>
      intro i s j M E fr F fnd hi _ hrem hP hC
      have i7 : i = 7 := by omega
      subst i7
      rw [hT] at hrem
      obtain ⟨s', rfl⟩ : ∃ s', s = s' + 1 := ⟨s - 1, by omega⟩
      have p5 := hP.2.2.2.2.1
      have bs : boxes (S jb) 8 = boxes (S jb) 7 + S jb 7 := rfl
      exact R_fwd hA hjb hR24 hRp hc24 hT hT24 (by omega) (fun hn x M' E fr F fnd hP hC => ih 0 7 s' (x + 1) M' E fr F fnd (by omega) hn (by rw [hT]; omega) hP hC) hP hC
    | succ m ihm =>
      intro i s j M E fr F fnd hi h0 hrem hP hC
      by_cases s0 : s = 0
      · subst s0
        obtain ⟨t, F', E', a1, a2, a3, a4, a5, a6⟩ := ihm (i + 1) (S jb (i + 1)) 8 M E fr F fnd (by omega) h0 (by show boxes (S jb) (i + 1) + S jb (i + 1) + (n + 1) = _; omega) (PIr_row hP (by omega)) hC
        rw [mv (by omega) hP] at a2
        exact ⟨t, F', E', a1, a2, a3, a4, fun r q hr hq => a5 r q (by omega) hq, a6⟩
      · obtain ⟨s', rfl⟩ : ∃ s', s = s' + 1 := ⟨s - 1, by omega⟩
        have p5 := hP.2.2.2.2.1
        have bs : boxes (S jb) (i + 1) = boxes (S jb) i + S jb i := rfl
        exact R_fwd hA hjb hR24 hRp hc24 hT hT24 (by omega) (fun hn x M' E fr F fnd hP hC => ih (7 - i) i s' (x + 1) M' E fr F fnd (by omega) hn (by omega) hP hC) hP hC
theorem Bdr_FU : ∀ n, n ≤ 24 → Bdr n + 2 ≤ FU := by
  have mono : ∀ n, n ≤ 24 → Bdr n ≤ Bdr 24 := by
    have step : ∀ n, Bdr n ≤ Bdr (n + 1) := fun n => by show Bdr n ≤ 1 + 8 * (Bdr n + 1); omega
    have up : ∀ d n, Bdr n ≤ Bdr (n + d) := by
      intro d
      induction d with
      | zero => intro n; exact Nat.le_refl _
      | succ d ih => intro n; exact Nat.le_trans (ih n) (step _)
    intro n hn
    have := up (24 - n) n
    rwa [show n + (24 - n) = 24 by omega] at this
  have b : Bdr 24 + 2 ≤ FU := by unfold FU; decide
  intro n hn
  have := mono n hn
  omega
end COR3
