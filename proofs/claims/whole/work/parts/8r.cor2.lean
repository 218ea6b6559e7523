section COR2
variable {A : Nat → Nat} {F : Mem} {S W : Nat → Nat → Nat} {N : Nat → Nat} {PT : Nat → Nat → Nat} {PO : Nat → Nat} {QT : Nat → Nat → Nat} {QO : Nat → Nat} {aw : Bool} {th : Int32}
abbrev kpp (a c : Nat → Nat) : Nat → Nat := fun x => c x - a x
noncomputable abbrev vlr (a R c : Nat → Nat) (i s j : Nat) (M : Nat → Nat) : Nat := boxN z0 a (kpp a c) i (allN z0 a R (kpp a c) (7 - i)) s j M
noncomputable abbrev trr (a R c : Nat → Nat) (i s : Nat) (M : Nat → Nat) (x : Nat) : Nat := ivN (cnd z0 a (kpp a c) i x (s + 1) (M (8 * i + x)) M) (vlr a R c i s (x + 1) (upL M (8 * i + x) (M (8 * i + x) + 1)))
def Bdr : Nat → Nat
  | 0 => 0
  | n + 1 => 1 + 8 * (Bdr n + 1)
theorem X10_rd1 {E : Nat → Nat → Nat → Nat} (h : F (A 53) = cM E) {r c : Nat} (hr : r < 24) (hc : c < 24) : rdI F 0 (A 53) (iN (576 * 1 + 24 * r + c)) = some (iN (E 1 r c)) := by
  rw [rdI_at h (by omega) (by omega), show (576 * 1 + 24 * r + c) / 576 = 1 by omega, show (576 * 1 + 24 * r + c) % 576 / 24 = r by omega, show (576 * 1 + 24 * r + c) % 24 = c by omega]
theorem X10_wr1 {E : Nat → Nat → Nat → Nat} (h : F (A 53) = cM E) {r c : Nat} (hr : r < 24) (hc : c < 24) (x : Nat) : wrI F (A 53) (iN (576 * 1 + 24 * r + c)) (iN x) = some (va_up F (A 53) (cM (upK E 1 (upT (E 1) r c x)))) := by
  rw [wrI_at h (by omega) (by omega), updM E hr hc]
theorem X10_box1 (r c : Nat) : mX10_box F 1 (iN r) (iN c) = some (iN (576 * 1 + 24 * r + c), F) := X10_box F 1 r c
/-- the greatest letter -/
theorem R_co284 {a c : Nat → Nat} {jb T i s j : Nat} {M : Nat → Nat} {E : Nat → Nat → Nat → Nat} {fr : Nat → Int32} (hjb : jb < 4) (hR24 : ∀ k, S jb k ≤ 24) (h : CSr A F th aw S c E fr) (hP : PIr a (S jb) c i (s + 1) j M (E 1) fr) {x5 x10 x12 : Int32} {x6 : Int64} (K : Nat → Int32 → Int32 → Int32 → Int64 → Int32 → Mem → Option (Int64 × Mem)) : fX10_coefficient_284 K (A 49) (iN jb) (iN T) x5 x6 (iN i) (iN s) x10 x12 F = fX10_coefficient_320 (fun (x0 : Nat) (x2 : Int32) (x4 : Int32) (x5 : Int32) (x6 : Int64) (x10 : Int32) (x12 : Int32) (x13 : Int32) (F : Mem) => fX10_coefficient_342  K x0 x2 x4 x5 x6 x10 x12 x13 F) FU (A 49) (iN jb) (iN T) x5 x6 x10 x12 (iN (j - 1)) F := by
  obtain ⟨h1, h2, h3, h4, g, h5, h6⟩ := h
  obtain ⟨fs, hob⟩ := rObj_ob h1
  obtain ⟨p1, p2, p3, p4, p5, p6, p7, p8, p9, p10, p12, p13⟩ := hP
  have ri := hR24 i
  unfold fX10_coefficient_284
  rw [hob, Option.bind_some, R_rowOf h1 h2 hjb p1, Option.bind_some]
  dsimp only
  rw [il1, iN_sub (by omega)]
  unfold fX10_coefficient_318
  by_cases q0 : rowS M i 8 = 0
  · rw [if_pos (by rw [show S jb i - 1 = s by omega]), p8 q0]
    rfl
  · rw [if_neg (fun w => by have := (iN_inj (by omega) (by omega)).mp w; omega), R_g4 h1, Option.bind_some, ← il1, iN_one, X10_box1, Option.bind_some]
    dsimp only
    rw [X10_rd1 h3 (by omega) (by omega), Option.bind_some]
    have := p9 (by omega)
    rw [show S jb i - rowS M i 8 = s + 1 by omega] at this
    rw [show j - 1 = E 1 i (s + 1) by omega]
theorem R_scan (hA : Inj A) {a c : Nat → Nat} {jb T n i s j x0 : Nat} {M : Nat → Nat} {fr : Nat → Int32} (hjb : jb < 4) (hR24 : ∀ k, S jb k ≤ 24) (hc24 : ∀ k, c k ≤ 24) (hT : boxes (S jb) 8 = T) (hT24 : T ≤ 24) (hrem : boxes (S jb) i + rowS M i 8 + (n + 1) = T) (h3 : ∀ x, x < 8 → ((i = 0 ∨ s + 1 ≤ rowS M (i - 1) x) ↔ x0 ≤ x)) (hch : 0 < n → ∀ (x : Nat) (M' : Nat → Nat) (E : Nat → Nat → Nat → Nat) (fr : Nat → Int32) (F : Mem) (fnd : Int64), PIr a (S jb) c i s (x + 1) M' (E 1) fr → CSr A F th aw S c E fr → ∃ t F' E', t ≤ Bdr n ∧ (∀ f, fX10_coefficient_155 (f + t) (A 49) (iN jb) (iN T) (iN (T - n)) fnd 0 F = fX10_coefficient_155 f (A 49) (iN jb) (iN T) (iN (T - n) + (-1)) (fnd + jN (vlr a (S jb) c i s (x + 1) M')) 1 F') ∧ CSr A F' th aw S c E' fr ∧ (∀ k, k ≠ 1 → E' k = E k) ∧ (∀ r q, r ≤ i → q < rowS M' r 8 → E' 1 r (S jb r - 1 - q) = E 1 r (S jb r - 1 - q)) ∧ Agr A [53, 58] F F') : ∀ (k x fu : Nat) (F : Mem) (E : Nat → Nat → Nat → Nat) (fnd : Int64), x + k = j → k < fu → x0 ≤ x → PIr a (S jb) c i (s + 1) j M (E 1) fr → CSr A F th aw S c E fr → ∃ t F' E', t ≤ k * (Bdr n + 1) ∧ (∀ f, fX10_coefficient_320 (fun (x0 : Nat) (x2 : Int32) (x4 : Int32) (x5 : Int32) (x6 : Int64) (x10 : Int32) (x12 : Int32) (x13 : Int32) (F : Mem) => fX10_coefficient_342  (fX10_coefficient_155 (f + t)) x0 x2 x4 x5 x6 x10 x12 x13 F) fu (A 49) (iN jb) (iN T) (iN (T - (n + 1))) fnd (iN x) (iN (576 * 1 + 24 * i + s)) (iN (j - 1)) F = fX10_coefficient_155 f (A 49) (iN jb) (iN T) (iN (T - (n + 1)) + (-1)) (fnd + jN (sumN (fun y => trr a (S jb) c i s M (x + y)) k)) 1 F') ∧ CSr A F' th aw S c E' fr ∧ (∀ k, k ≠ 1 → E' k = E k) ∧ (∀ r q, r ≤ i → q < rowS M r 8 → E' 1 r (S jb r - 1 - q) = E 1 r (S jb r - 1 - q)) ∧ Agr A [53, 58] F F' := by
  have fub := FU_big
  have hbox : T - (n + 1) = boxes (S jb) i + rowS M i 8 := by omega
  intro k
  induction k with
  | zero =>
    intro x fu F E fnd e1 e2 e3 hP hC
    obtain ⟨f', rfl⟩ : ∃ f', fu = f' + 1 := ⟨fu - 1, by omega⟩
    have hj := hP.2.2.1
    have hj1 := hP.2.1
    have : x = j := by omega
    subst this
    refine ⟨0, F, E, Nat.zero_le _, fun f => ?_, hC, fun _ _ => rfl, fun _ _ _ _ => rfl, Agr.refl A _ F⟩
    rw [fX10_coefficient_320.eq_2, if_pos ((iN_lt (by omega) (by omega)).mpr (by omega))]
    unfold fX10_coefficient_342
    rw [if_neg (fun w => by have := (iN_le (by omega) (by omega)).mp w; omega)]
    unfold fX10_coefficient_354
    rw [if_neg ne10]
    show _ = fX10_coefficient_155 f _ _ _ _ (fnd + jN 0) 1 F
    rw [show jN 0 = 0 from rfl, Int64.add_zero]
    rfl
  | succ k ih =>
    intro x fu F E fnd e1 e2 e3 hP hC
    obtain ⟨f', rfl⟩ : ∃ f', fu = f' + 1 := ⟨fu - 1, by omega⟩
    obtain ⟨p1, p2, p3, p4, p5, p6, p7, p8, p9, p10, p12, p13⟩ := id hP
    obtain ⟨c1, c2, c3, c4, g, c5, c6⟩ := id hC
    obtain ⟨fs, hob⟩ := rObj_ob c1
    have ri := hR24 i
    have ub := p13 x (by omega)
    have cx := hc24 x
    have gr := R_grows hC hP hc24 (show x < j by omega)
    have head : ∀ K, fX10_coefficient_320 K (f' + 1) (A 49) (iN jb) (iN T) (iN (T - (n + 1))) fnd (iN x) (iN (576 * 1 + 24 * i + s)) (iN (j - 1)) F = if bI (decide (a x + colS M x i + M (8 * i + x) < c x ∧ (x = 0 ∨ a x + colS M x i + M (8 * i + x) < a (x - 1) + colS M (x - 1) i))) = 0 then fX10_coefficient_320 K f' (A 49) (iN jb) (iN T) (iN (T - (n + 1))) fnd (iN (x + 1)) (iN (576 * 1 + 24 * i + s)) (iN (j - 1)) F else K (A 49) (iN jb) (iN T) (iN (T - (n + 1))) fnd (iN x) (iN (576 * 1 + 24 * i + s)) (iN (j - 1)) F := by
      intro K
      rw [fX10_coefficient_320.eq_2, if_neg (fun w => by have := (iN_lt (by omega) (by omega)).mp w; omega), hob, Option.bind_some, gr, Option.bind_some, iN_one]
    have shift : sumN (fun y => trr a (S jb) c i s M (x + y)) (k + 1) = trr a (S jb) c i s M x + sumN (fun y => trr a (S jb) c i s M (x + 1 + y)) k := by
      rw [sumN_shift]
      congr 1
      exact sumN_congr (fun y _ => by rw [show x + (y + 1) = x + 1 + y by omega])
    by_cases d : a x + colS M x i + M (8 * i + x) < c x ∧ (x = 0 ∨ a x + colS M x i + M (8 * i + x) < a (x - 1) + colS M (x - 1) i)
    · have cn : cnd z0 a (kpp a c) i x (s + 1) (M (8 * i + x)) M := by
        refine ⟨?_, ?_, ?_⟩
        · show colS M x i + M (8 * i + x) < c x - a x
          omega
        · rcases d.2 with q | q
          · exact Or.inl q
          · exact Or.inr q
        · rcases (h3 x (by omega)).mpr e3 with q | q
          · exact Or.inl q
          · right
            show 0 + (s + 1) ≤ 0 + rowS M (i - 1) x
            omega
      have tv : trr a (S jb) c i s M x = vlr a (S jb) c i s (x + 1) (upL M (8 * i + x) (M (8 * i + x) + 1)) := ivN_pos cn
      have hP2 := PIr_add (x := x) hP (by omega) d.1
      obtain ⟨hC2, kC2⟩ := CSr_put hA (E' := upK E 1 (upT (E 1) i s x)) (fr' := upd fr x (iN (a x + colS M x i + M (8 * i + x) + 1))) hC
      generalize hF2 : va_up (va_up F (A 53) (cM (upK E 1 (upT (E 1) i s x)))) (A 58) (.inl (0, 9, .inl (upd fr x (iN (a x + colS M x i + M (8 * i + x) + 1))))) = F2 at hC2 kC2
      have hP2' : PIr a (S jb) c i s (x + 1) (upL M (8 * i + x) (M (8 * i + x) + 1)) (upK E 1 (upT (E 1) i s x) 1) (upd fr x (iN (a x + colS M x i + M (8 * i + x) + 1))) := by rw [upK_at]; exact hP2
      have place : ∀ K155, fX10_coefficient_342 K155 (A 49) (iN jb) (iN T) (iN (T - (n + 1))) fnd (iN x) (iN (576 * 1 + 24 * i + s)) (iN (j - 1)) F = if n = 0 then K155 (A 49) (iN jb) (iN T) (iN (T - (n + 1))) (fnd + 1) 1 F2 else K155 (A 49) (iN jb) (iN T) (iN (T - n)) fnd 0 F2 := by
        intro K155
        unfold fX10_coefficient_342
        rw [if_pos ((iN_le (by omega) (by omega)).mpr (by omega))]
        unfold fX10_coefficient_354
        have c4' : va_up F (A 53) (cM (upK E 1 (upT (E 1) i s x))) (A 58) = .inl (0, 9, .inl fr) := by rw [up_ne (hA.ne (by omega) (by omega) (by omega))]; exact c4
        have o1 : rObj A (va_up F (A 53) (cM (upK E 1 (upT (E 1) i s x)))) th aw := rObj_fr ((Agr.refl A [53] F).up hA (by omega) (by simp)) c1 (by simp)
        rw [if_pos rfl, R_g4 c1, Option.bind_some, X10_wr1 c3 (by omega) (by omega), Option.bind_some, R_g10 o1, Option.bind_some, rdI_at c4' (by omega) (by omega), Option.bind_some, p12 x (by omega), iN_one, wrI_at c4' (by omega) (by omega), hF2, Option.bind_some, il1, iN_sub (by omega)]
        by_cases n0 : n = 0
        · rw [if_pos n0, if_pos (by rw [n0])]
        · rw [if_neg n0, if_neg (fun w => n0 (by have := (iN_inj (by omega) (by omega)).mp w; omega)), iN_add, show T - (n + 1) + 1 = T - n by omega]
      -- back at this box
      have backAt : ∀ (F3 : Mem) (E3 : Nat → Nat → Nat → Nat) (fnd3 : Int64), CSr A F3 th aw S c E3 (upd fr x (iN (a x + colS M x i + M (8 * i + x) + 1))) → E3 1 i s = x → (∀ r q, r ≤ i → q < rowS M r 8 → E3 1 r (S jb r - 1 - q) = E 1 r (S jb r - 1 - q)) → ∃ F4, CSr A F4 th aw S c E3 fr ∧ Agr A [53, 58] F3 F4 ∧ ∀ f, fX10_coefficient_155 (f + 1) (A 49) (iN jb) (iN T) (iN (T - (n + 1))) fnd3 1 F3 = fX10_coefficient_320 (fun (x0 : Nat) (x2 : Int32) (x4 : Int32) (x5 : Int32) (x6 : Int64) (x10 : Int32) (x12 : Int32) (x13 : Int32) (F : Mem) => fX10_coefficient_342  (fX10_coefficient_155 f) x0 x2 x4 x5 x6 x10 x12 x13 F) FU (A 49) (iN jb) (iN T) (iN (T - (n + 1))) fnd3 (iN (x + 1)) (iN (576 * 1 + 24 * i + s)) (iN (j - 1)) F4 := by
        intro F3 E3 fnd3 hC3 hE3 hE3'
        obtain ⟨b1, b2, b3, b4, g', b5, b6⟩ := id hC3
        obtain ⟨fs3, hob3⟩ := rObj_ob b1
        generalize hF4 : va_up F3 (A 58) (.inl (0, 9, .inl fr)) = F4
        have k4 : Agr A [58] F3 F4 := by rw [← hF4]; exact (Agr.refl A _ F3).up hA (by omega) (by simp)
        have hC4 : CSr A F4 th aw S c E3 fr := ⟨rObj_fr k4 b1 (by simp), rShp_fr k4 b2 (by simp), (k4 53 (by omega) (by simp)).trans b3, by rw [← hF4, up_eq], g', (k4 59 (by omega) (by simp)).trans b5, b6⟩
        refine ⟨F4, hC4, k4.mono (by simp), fun f => ?_⟩
        rw [fX10_coefficient_155.eq_2, if_neg (iN_neg (by omega)), hbox]
        refine Eq.trans (R_co167 b1 b2 hjb hR24 (i := i) (q := rowS M i 8) p1 (by omega) _ (by omega) i FU 0 (by omega) (by omega)) ?_
        rw [hob3, Option.bind_some, R_rowOf b1 b2 hjb p1, Option.bind_some]
        dsimp only
        rw [il1, iN_sub (by omega), iN_sub (by omega), show S jb i - 1 - rowS M i 8 = s by omega, ← il1, X10_box1, Option.bind_some]
        dsimp only
        rw [if_neg ne10, R_g4 b1, Option.bind_some, X10_rd1 b3 (by omega) (by omega), Option.bind_some, R_g10 b1, Option.bind_some, Option.bind_some, hE3, X10_rd1 b3 (by omega) (by omega), Option.bind_some, hE3, rdI_at b4 (by omega) (by omega), Option.bind_some]
        have eu : upd fr x (iN (a x + colS M x i + M (8 * i + x) + 1)) x = iN (a x + colS M x i + M (8 * i + x) + 1) := by simp only [upd, if_true]
        rw [eu, il1, iN_sub (by omega), Nat.add_sub_cancel, wrI_at b4 (by omega) (by omega), upd_upd, upd_id (p12 x (by omega)), hF4, Option.bind_some, iN_add, ← hbox]
        exact R_co284 hjb hR24 hC4 (PIr_E hP hE3') _
      have rowM : ∀ r q, r ≤ i → q < rowS M r 8 → q < rowS (upL M (8 * i + x) (M (8 * i + x) + 1)) r 8 := by
        intro r q hr hq
        have := rowS_up (M := M) (i := i) (x := x) (v := M (8 * i + x) + 1) (by omega) r 8 (Nat.le_refl _)
        by_cases w : r = i
        · rw [if_pos (by omega), if_pos (by omega)] at this; omega
        · rw [if_neg (by omega), if_neg (by omega)] at this; omega
      have put1 : ∀ r q, r ≤ i → q < rowS M r 8 → upK E 1 (upT (E 1) i s x) 1 r (S jb r - 1 - q) = E 1 r (S jb r - 1 - q) := by
        intro r q hr hq
        rw [upK_at]
        by_cases w : r = i
        · subst w; rw [upT_ne (by omega)]
        · rw [upT_ne (by omega)]
      by_cases n0 : n = 0
      · have v1 : trr a (S jb) c i s M x = 1 := by
          rw [tv]
          have s0 : s = 0 := by
            have := boxes_mono (S jb) (show i + 1 ≤ 8 by omega)
            have bs : boxes (S jb) (i + 1) = boxes (S jb) i + S jb i := rfl
            omega
          subst s0
          show allN z0 a (S jb) (kpp a c) (7 - i) _ = 1
          apply allN_end _ _ (by omega)
          · intro r ra rb
            have b1 := boxes_mono (S jb) (show i + 1 ≤ r by omega)
            have b2 := boxes_mono (S jb) (show r + 1 ≤ 8 by omega)
            have bs : boxes (S jb) (i + 1) = boxes (S jb) i + S jb i := rfl
            have bs2 : boxes (S jb) (r + 1) = boxes (S jb) r + S jb r := rfl
            omega
          · intro m hm
            rw [upL_ne (by omega)]
            exact p6 m (by omega)
        obtain ⟨F4, q1, q2, q3⟩ := backAt F2 _ (fnd + 1) hC2 (by rw [upK_at, upT_at]) put1
        obtain ⟨t, F5, E5, r1, r2, r3, r4, r5, r6⟩ := ih (x + 1) FU F4 _ (fnd + 1) (by omega) (by omega) (by omega) (PIr_E hP put1) q1
        refine ⟨t + 1, F5, E5, ?_, fun f => ?_, r3, fun k hk => (r4 k hk).trans (upK_ne hk), fun r q hr hq => (r5 r q hr hq).trans (put1 r q hr hq), (kC2.trans q2).trans r6⟩
        · rw [Nat.add_mul, Nat.one_mul]; omega
        · rw [head, decide_eq_true d, if_neg (by decide), place, if_pos n0, show f + (t + 1) = (f + t) + 1 by omega, q3, r2, shift, v1, ← jN_add, ← Int64.add_assoc]
          rfl
      · obtain ⟨t1, F3, E3, r1, r2, r3, r4, r5, r6⟩ := hch (by omega) x _ _ _ F2 fnd hP2' hC2
        have hE3 : E3 1 i s = x := by
          have hr8 : rowS (upL M (8 * i + x) (M (8 * i + x) + 1)) i 8 = rowS M i 8 + 1 := by
            have := rowS_up (M := M) (i := i) (x := x) (v := M (8 * i + x) + 1) (by omega) i 8 (Nat.le_refl _)
            rw [if_pos (by omega), if_pos (by omega)] at this
            omega
          have := r5 i (rowS M i 8) (Nat.le_refl _) (by omega)
          rw [show S jb i - 1 - rowS M i 8 = s by omega] at this
          rw [this, upK_at, upT_at]
        have hE3' : ∀ r q, r ≤ i → q < rowS M r 8 → E3 1 r (S jb r - 1 - q) = E 1 r (S jb r - 1 - q) := fun r q hr hq => (r5 r q hr (rowM r q hr hq)).trans (put1 r q hr hq)
        obtain ⟨F4, q1, q2, q3⟩ := backAt F3 E3 (fnd + jN (vlr a (S jb) c i s (x + 1) (upL M (8 * i + x) (M (8 * i + x) + 1)))) r3 hE3 hE3'
        obtain ⟨t, F5, E5, s1, s2, s3, s4, s5, s6⟩ := ih (x + 1) FU F4 _ (fnd + jN (vlr a (S jb) c i s (x + 1) (upL M (8 * i + x) (M (8 * i + x) + 1)))) (by omega) (by omega) (by omega) (PIr_E hP hE3') q1
        refine ⟨t + 1 + t1, F5, E5, ?_, fun f => ?_, s3, fun k hk => (s4 k hk).trans ((r4 k hk).trans (upK_ne hk)), fun r q hr hq => (s5 r q hr hq).trans (hE3' r q hr hq), ((kC2.trans r6).trans q2).trans s6⟩
        · rw [Nat.add_mul, Nat.one_mul]; omega
        · rw [head, decide_eq_true d, if_neg (by decide), place, if_neg n0, show f + (t + 1 + t1) = (f + t + 1) + t1 by omega, r2, show iN (T - n) + (-1) = iN (T - (n + 1)) by rw [show T - n = (T - (n + 1)) + 1 by omega, iN_pred], q3, s2, shift, tv, ← jN_add, ← Int64.add_assoc]
    · have hz : trr a (S jb) c i s M x = 0 := ivN_neg (fun q => d ⟨by
          have h1 : colS M x i + M (8 * i + x) < c x - a x := q.1
          omega, q.2.1⟩)
      obtain ⟨t, F5, E5, r1, r2, r3⟩ := ih (x + 1) f' F E fnd (by omega) (by omega) (by omega) hP hC
      refine ⟨t, F5, E5, ?_, fun f => ?_, r3⟩
      · rw [Nat.add_mul]; omega
      · rw [head, decide_eq_false d, if_pos (show bI false = 0 from rfl), r2, shift, hz, Nat.zero_add]
end COR2
