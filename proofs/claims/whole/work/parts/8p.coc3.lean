section COC3
variable {A : Nat → Nat} {F : Mem} {S W : Nat → Nat → Nat} {N : Nat → Nat} {PT : Nat → Nat → Nat} {PO : Nat → Nat} {QT : Nat → Nat → Nat} {QO : Nat → Nat} {aw : Bool} {th : Int32}
abbrev c30 (A : Nat → Nat) (k : Nat) : Cl := .inr (2, [.ref (A 31), .ref (A 32), .ref (A 33), .ref (A 34), .ref (A 35), .int (iN k)])
def nbU (a R : Nat → Nat) (bA bR : Nat → Int32) (cn : Nat) : Prop := ∀ r q, r < 8 → q < R r → boxes R r + q < cn → bA (boxes R r + q) = (if 0 < r ∧ a (r - 1) ≤ a r + (R r - 1 - q) then iN (boxes R (r - 1) + (a (r - 1) + R (r - 1) - 1 - (a r + (R r - 1 - q)))) else -1) ∧ bR (boxes R r + q) = (if q = 0 then -1 else iN (boxes R r + q - 1))
theorem box_inj {R : Nat → Nat} {r q r' q' : Nat} (hq : q < R r) (hq' : q' < R r') (e : boxes R r + q = boxes R r' + q') : r = r' ∧ q = q' := by
  have key : ∀ r q r' q', q < R r → r < r' → boxes R r + q < boxes R r' + q' := by
    intro r q r' q' hq h
    have := boxes_mono R (show r + 1 ≤ r' by omega)
    simp only [boxes] at this
    omega
  rcases Nat.lt_trichotomy r r' with h | h | h
  · have := key r q r' q' hq h; omega
  · subst h; exact ⟨rfl, by omega⟩
  · have := key r' q' r q hq' h; omega
theorem X2_ct43 (hA : Inj A) {pa la po lo r : Nat} {a c R : Nat → Nat} (hR : ∀ k, c k = a k + R k) (ha24 : ∀ k, a k ≤ 24) (hc24 : ∀ k, c k ≤ 24) (hac : ∀ k, c (k + 1) ≤ c k) (hr : r < 8) (hT24 : boxes R 8 ≤ 24) (hx : pa < 67 ∧ la < 67 ∧ po < 67 ∧ lo < 67) (hx2 : (pa < 30 ∨ 37 ≤ pa) ∧ (la < 30 ∨ 37 ≤ la) ∧ (po < 30 ∨ 37 ≤ po) ∧ (lo < 30 ∨ 37 ≤ lo)) (K : Nat → Nat → Nat → Int32 → Int32 → Mem → Option (Int64 × Mem)) : ∀ (m fu q : Nat) (F : Mem) (bA bR : Nat → Int32), q + m = R r → m < fu → F (A 30) = c30 A (boxes R r + q) → F (A 32) = .inl (0, 24, .inl bA) → F (A 33) = .inl (0, 24, .inl bR) → isS F (A pa) (A la) a → isS F (A po) (A lo) c → nbU a R bA bR (boxes R r + q) → ∃ F' bA' bR', fX2_count_43 K fu (A 30) (A pa) (A po) (iN (boxes R (r - 1))) (iN r) (iN (boxes R r)) (iN (a r + m) + (-1)) F = K (A 30) (A pa) (A po) (iN r) (iN (boxes R r)) F' ∧ F' (A 30) = c30 A (boxes R (r + 1)) ∧ F' (A 32) = .inl (0, 24, .inl bA') ∧ F' (A 33) = .inl (0, 24, .inl bR') ∧ nbU a R bA' bR' (boxes R (r + 1)) ∧ Agr A [30, 32, 33] F F' := by
  have ar := ha24 r
  have bt := boxes_mono R (show r + 1 ≤ 8 by omega)
  have bs : boxes R (r + 1) = boxes R r + R r := rfl
  intro m
  induction m with
  | zero =>
    intro fu q F bA bR e1 e2 h30 h32 h33 hS1 hS2 hnb
    obtain ⟨f', rfl⟩ : ∃ f', fu = f' + 1 := ⟨fu - 1, by omega⟩
    have hq : q = R r := by omega
    subst hq
    refine ⟨F, bA, bR, ?_, h30, h32, h33, hnb, Agr.refl A _ F⟩
    rw [fX2_count_43.eq_2, gfR_at (k := 0) (v := A la) hS1.1 rfl, Option.bind_some, rdI_at hS1.2 hr (by omega), Option.bind_some, Nat.add_zero]
    have lt : iN (a r) + (-1) < iN (a r) := by
      cases h : a r with
      | zero => decide
      | succ k => rw [iN_pred]; exact (iN_lt (by omega) (by omega)).mpr (by omega)
    rw [if_pos lt]
  | succ m ih =>
    intro fu q F bA bR e1 e2 h30 h32 h33 hS1 hS2 hnb
    obtain ⟨f', rfl⟩ : ∃ f', fu = f' + 1 := ⟨fu - 1, by omega⟩
    have hcr := hc24 r
    have hRr := hR r
    have hm : R r - 1 - q = m := by omega
    generalize hvA : (if 0 < r ∧ a (r - 1) ≤ a r + m then iN (boxes R (r - 1) + (a (r - 1) + R (r - 1) - 1 - (a r + m))) else -1) = vA
    generalize hvR : (if q = 0 then (-1 : Int32) else iN (boxes R r + q - 1)) = vR
    generalize hF1 : va_up F (A 32) (.inl (0, 24, .inl (upd bA (boxes R r + q) vA))) = F1
    have k1 : Agr A [32] F F1 := by rw [← hF1]; exact (Agr.refl A _ F).up hA (by omega) (by simp)
    generalize hF2 : va_up F1 (A 33) (.inl (0, 24, .inl (upd bR (boxes R r + q) vR))) = F2
    have k2 : Agr A [33] F1 F2 := by rw [← hF2]; exact (Agr.refl A _ F1).up hA (by omega) (by simp)
    have b30 : F1 (A 30) = c30 A (boxes R r + q) := (k1 30 (by omega) (by simp)).trans h30
    have b33 : F1 (A 33) = .inl (0, 24, .inl bR) := (k1 33 (by omega) (by simp)).trans h33
    have d30 : F2 (A 30) = c30 A (boxes R r + q) := (k2 30 (by omega) (by simp)).trans b30
    generalize hF3 : va_up F2 (A 30) (c30 A (boxes R r + (q + 1))) = F3
    have k3 : Agr A [30] F2 F3 := by rw [← hF3]; exact (Agr.refl A _ F2).up hA (by omega) (by simp)
    have kk : Agr A [30, 32, 33] F F3 := ((k1.mono (by simp)).trans (k2.mono (by simp))).trans (k3.mono (by simp))
    have nn : ∀ t, (t < 30 ∨ 37 ≤ t) → t ∉ [30, 32, 33] := fun t ht w => by simp at w; omega
    have hnb' : nbU a R (upd bA (boxes R r + q) vA) (upd bR (boxes R r + q) vR) (boxes R r + (q + 1)) := by
      intro r' q' hr' hq' hlt
      by_cases c1 : boxes R r' + q' = boxes R r + q
      · obtain ⟨e1', e2'⟩ := box_inj hq' (by omega) c1
        subst e1'; subst e2'
        rw [hm]
        simp only [upd, if_true]
        exact ⟨hvA.symm, hvR.symm⟩
      · simp only [upd]
        rw [if_neg c1, if_neg c1]
        exact hnb r' q' hr' hq' (by omega)
    obtain ⟨F', bA', bR', q1, q2, q3, q4, q5, q6⟩ := ih f' (q + 1) F3 _ _ (by omega) (by omega) (by rw [← hF3, up_eq]) ((k3 32 (by omega) (by simp)).trans ((k2 32 (by omega) (by simp)).trans (by rw [← hF1, up_eq]))) ((k3 33 (by omega) (by simp)).trans (by rw [← hF2, up_eq])) (isS_fr hS1 (kk _ hx.1 (nn _ hx2.1)) (kk _ hx.2.1 (nn _ hx2.2.1))) (isS_fr hS2 (kk _ hx.2.2.1 (nn _ hx2.2.2.1)) (kk _ hx.2.2.2 (nn _ hx2.2.2.2))) hnb'
    refine ⟨F', bA', bR', ?_, q2, q3, q4, q5, kk.trans q6⟩
    have fin2 : ∀ x : Int32, x = vR → fX2_count_143 (fX2_count_43 K f') K (A 30) (A pa) (A po) (iN (boxes R (r - 1))) (iN r) (iN (boxes R r)) (iN (a r + m)) (A 33) (iN (boxes R r + q)) x F1 = K (A 30) (A pa) (A po) (iN r) (iN (boxes R r)) F' := by
      intro x hx'
      subst hx'
      unfold fX2_count_143
      rw [wrI_at b33 (by omega) (by omega), hF2, Option.bind_some, gfI_at (k := 5) (v := iN (boxes R r + q)) d30 rfl, Option.bind_some, pf_at d30 (by simp), iN_one]
      rw [show va_up F2 (A 30) (Sum.inr (2, ([.ref (A 31), .ref (A 32), .ref (A 33), .ref (A 34), .ref (A 35), .int (iN (boxes R r + q))] : List Value).set 5 (.int (iN (boxes R r + q + 1))))) = F3 from hF3, Option.bind_some]
      exact q1
    have fin1 : ∀ x : Int32, x = vA → fX2_count_115 (fX2_count_43 K f') K (A 30) (A pa) (A po) (iN (boxes R (r - 1))) (iN r) (iN (boxes R r)) (iN (a r + m)) (A 32) (iN (boxes R r + q)) x F = K (A 30) (A pa) (A po) (iN r) (iN (boxes R r)) F' := by
      intro x hx'
      subst hx'
      unfold fX2_count_115
      rw [wrI_at h32 (by omega) (by omega), hF1, Option.bind_some, gfR_at (k := 2) (v := A 33) b30 rfl, Option.bind_some, gfI_at (k := 5) (v := iN (boxes R r + q)) b30 rfl, Option.bind_some, Option.bind_some]
      by_cases q0 : q = 0
      · rw [if_pos ((iN_le (by omega) (by omega)).mpr (by omega))]
        exact fin2 _ (by rw [← hvR, if_pos q0])
      · rw [if_neg (fun w => by have := (iN_le (by omega) (by omega)).mp w; omega), Option.bind_some, il1, iN_sub (by omega)]
        exact fin2 _ (by rw [← hvR, if_neg q0])
    have fin0 : ∀ s0 : Int32, (s0 = 0 ↔ ¬ (0 < r ∧ a (r - 1) ≤ a r + m)) → fX2_count_79 (fX2_count_43 K f') K (A 30) (A pa) (A po) (iN (boxes R (r - 1))) (iN r) (iN (boxes R r)) (iN (a r + m)) s0 F = K (A 30) (A pa) (A po) (iN r) (iN (boxes R r)) F' := by
      intro s0 hs0
      unfold fX2_count_79
      rw [gfR_at (k := 1) (v := A 32) h30 rfl, Option.bind_some, gfI_at (k := 5) (v := iN (boxes R r + q)) h30 rfl, Option.bind_some]
      by_cases w : 0 < r ∧ a (r - 1) ≤ a r + m
      · rw [if_neg (fun e => (hs0.mp e) w), gfR_at (k := 0) (v := A lo) hS2.1 rfl, Option.bind_some, il1, iN_sub (by omega), rdI_at hS2.2 (by omega) (by omega), Option.bind_some]
        have hc1 := hR (r - 1)
        have hc2 := hac (r - 1)
        have hc3 := hc24 (r - 1)
        have bm := boxes_mono R (show r - 1 ≤ 8 by omega)
        rw [show r - 1 + 1 = r by omega] at hc2
        rw [iN_add, iN_sub (by omega), iN_sub (by omega)]
        exact fin1 _ (by rw [← hvA, if_pos w]; congr 1; omega)
      · rw [if_pos (hs0.mpr w)]
        exact fin1 _ (by rw [← hvA, if_neg w])
    rw [fX2_count_43.eq_2, gfR_at (k := 0) (v := A la) hS1.1 rfl, Option.bind_some, rdI_at hS1.2 hr (by omega), Option.bind_some, show a r + (m + 1) = (a r + m) + 1 by omega, iN_pred, if_neg (fun w => by have := (iN_lt (by omega) (by omega)).mp w; omega)]
    by_cases r0 : r = 0
    · rw [if_pos (show iN r ≤ 0 by rw [r0]; decide)]
      exact fin0 0 ⟨fun _ w => by omega, fun _ => rfl⟩
    · rw [if_neg (show ¬ iN r ≤ 0 from fun w => by have := (iN_le (b := 0) (by omega) (by omega)).mp w; omega), Option.bind_some, il1, iN_sub (by omega), rdI_at hS1.2 (by omega) (by omega), Option.bind_some]
      have aj := ha24 (r - 1)
      by_cases w : a r + m < a (r - 1)
      · rw [if_pos ((iN_lt (by omega) (by omega)).mpr w)]
        exact fin0 0 ⟨fun _ u => by omega, fun _ => rfl⟩
      · rw [if_neg (fun u => w ((iN_lt (by omega) (by omega)).mp u))]
        exact fin0 _ ⟨fun e => absurd e (by decide), fun u => absurd ⟨by omega, by omega⟩ u⟩
theorem X2_ct19 (hA : Inj A) {pa la po lo : Nat} {a c R : Nat → Nat} (hR : ∀ k, c k = a k + R k) (ha24 : ∀ k, a k ≤ 24) (hc24 : ∀ k, c k ≤ 24) (hac : ∀ k, c (k + 1) ≤ c k) (hT24 : boxes R 8 ≤ 24) (hx : pa < 67 ∧ la < 67 ∧ po < 67 ∧ lo < 67) (hx2 : (pa < 30 ∨ 37 ≤ pa) ∧ (la < 30 ∨ 37 ≤ la) ∧ (po < 30 ∨ 37 ≤ po) ∧ (lo < 30 ∨ 37 ≤ lo)) (K : Nat → Mem → Option (Int64 × Mem)) : ∀ (m fu r : Nat) (F : Mem) (bA bR : Nat → Int32), r + m = 8 → m < fu → F (A 30) = c30 A (boxes R r) → F (A 32) = .inl (0, 24, .inl bA) → F (A 33) = .inl (0, 24, .inl bR) → isS F (A pa) (A la) a → isS F (A po) (A lo) c → nbU a R bA bR (boxes R r) → ∃ F' bA' bR', fX2_count_19 K fu (A 30) (A pa) (A po) (iN (boxes R (r - 1))) (iN r) F = K (A 30) F' ∧ F' (A 30) = c30 A (boxes R 8) ∧ F' (A 32) = .inl (0, 24, .inl bA') ∧ F' (A 33) = .inl (0, 24, .inl bR') ∧ nbU a R bA' bR' (boxes R 8) ∧ Agr A [30, 32, 33] F F' := by
  have fub := FU_big
  intro m
  induction m with
  | zero =>
    intro fu r F bA bR e1 e2 h30 h32 h33 hS1 hS2 hnb
    obtain ⟨f', rfl⟩ : ∃ f', fu = f' + 1 := ⟨fu - 1, by omega⟩
    have : r = 8 := by omega
    subst this
    refine ⟨F, bA, bR, ?_, h30, h32, h33, hnb, Agr.refl A _ F⟩
    rw [fX2_count_19.eq_2, if_pos (by decide)]
  | succ m ih =>
    intro fu r F bA bR e1 e2 h30 h32 h33 hS1 hS2 hnb
    obtain ⟨f', rfl⟩ : ∃ f', fu = f' + 1 := ⟨fu - 1, by omega⟩
    have bt := boxes_mono R (show r + 1 ≤ 8 by omega)
    have bs : boxes R (r + 1) = boxes R r + R r := rfl
    obtain ⟨F1, bA1, bR1, a1, a2, a3, a4, a5, a6⟩ := X2_ct43 hA hR ha24 hc24 hac (show r < 8 by omega) hT24 hx hx2 (fun (x0 : Nat) (x1 : Nat) (x3 : Nat) (x5 : Int32) (x6 : Int32) (F : Mem) => (fX2_count_19  K f') x0 x1 x3 x6 (x5 + 1) F) (R r) FU 0 F bA bR (by omega) (by omega) h30 h32 h33 hS1 hS2 hnb
    have nn : ∀ t, (t < 30 ∨ 37 ≤ t) → t ∉ [30, 32, 33] := fun t ht w => by simp at w; omega
    obtain ⟨F', bA', bR', q1, q2, q3, q4, q5, q6⟩ := ih f' (r + 1) F1 bA1 bR1 (by omega) (by omega) a2 a3 a4 (isS_fr hS1 (a6 _ hx.1 (nn _ hx2.1)) (a6 _ hx.2.1 (nn _ hx2.2.1))) (isS_fr hS2 (a6 _ hx.2.2.1 (nn _ hx2.2.2.1)) (a6 _ hx.2.2.2 (nn _ hx2.2.2.2))) a5
    refine ⟨F', bA', bR', ?_, q2, q3, q4, q5, a6.trans q6⟩
    rw [fX2_count_19.eq_2, if_neg (fun q => by have := (iN_le (a := 8) (by omega) (by omega)).mp q; omega), gfI_at (k := 5) (v := iN (boxes R r)) h30 rfl, Option.bind_some, gfR_at (k := 0) (v := A lo) hS2.1 rfl, Option.bind_some, rdI_at hS2.2 (by omega) (by omega), Option.bind_some, hR r, Int32.sub_eq_add_neg]
    refine Eq.trans a1 ?_
    rw [iN_one]
    exact q1
theorem boxes_sumN (R : Nat → Nat) : ∀ n, boxes R n = sumN R n := by
  intro n
  induction n with
  | zero => rfl
  | succ n ih => simp only [boxes, sumN]; rw [ih]
theorem X2_count (hA : Inj A) {pa la pb lb po lo : Nat} {a b c R : Nat → Nat} (ha : okS a) (hb : okS b) (hc : okS c) (hR : ∀ k, c k = a k + R k) (hRb : boxes R 8 = boxes b 8) (hx : pa < 67 ∧ la < 67 ∧ po < 67 ∧ lo < 67) (hx2 : (pa < 30 ∨ 37 ≤ pa) ∧ (la < 30 ∨ 37 ≤ la) ∧ (po < 30 ∨ 37 ≤ po) ∧ (lo < 30 ∨ 37 ≤ lo)) (hF : gP A F) (hS1 : isS F (A pa) (A la) a) (hS2 : isS F (A po) (A lo) c) (hSb : isS F (A pb) (A lb) b) : ∃ F', mX2_count F (A 30) (A pa) (A pb) (A po) = some (jN (allN a z0 R b 8 z0), F') ∧ gP A F' ∧ Agr A [30, 31, 32, 33, 34, 36] F F' := by
  have fub := FU_big
  obtain ⟨⟨n30, h30⟩, ⟨f31, h31⟩, ⟨f32, h32⟩, ⟨f33, h33⟩, ⟨f34, h34⟩, ⟨g0, hG, g8⟩⟩ := hF
  have T24 : boxes R 8 ≤ 24 := by rw [hRb]; exact hb.2.2
  have e1 := X4_copyFrom hSb hG hb.2.1 g8
  generalize hF1 : va_up F (A 36) (cS b) = F1 at e1
  have k1 : Agr A [36] F F1 := by rw [← hF1]; exact (Agr.refl A _ F).up hA (by omega) (by simp)
  have hG1 : isS F1 (A 35) (A 36) b := by rw [← hF1]; exact isS_up hG
  have i30 := (k1 30 (by omega) (by simp)).trans h30
  generalize hF2 : va_up F1 (A 30) (c30 A 0) = F2
  have k2 : Agr A [30] F1 F2 := by rw [← hF2]; exact (Agr.refl A _ F1).up hA (by omega) (by simp)
  have k12 : Agr A [30, 36] F F2 := (k1.mono (by simp)).trans (k2.mono (by simp))
  have nn : ∀ t, (t < 30 ∨ 37 ≤ t) → t ∉ [30, 36] := fun t ht w => by simp at w; omega
  obtain ⟨F3, bA, bR, a1, a2, a3, a4, a5, a6⟩ := X2_ct19 hA hR (okS_le ha) (okS_le hc) hc.1 T24 hx hx2 (fun (x0 : Nat) (F : Mem) => (gfR F x0 2 3).bind fun v171 => (mJ7_fill_53178 F v171 0).bind fun v175 => (gfR v175 x0 2 3).bind fun v179 => (wrI v175 v179 0 24).bind fun F185 => (obj F185 x0 2).bind fun _ => (mX2_countFrom 30 F185 x0 0).bind fun v188 => some (v188.1, v188.2)) 8 FU 0 F2 f32 f33 (by omega) (by omega) (by rw [← hF2, up_eq]; rfl) ((k12 32 (by omega) (by simp)).trans h32) ((k12 33 (by omega) (by simp)).trans h33) (isS_fr hS1 (k12 _ hx.1 (nn _ hx2.1)) (k12 _ hx.2.1 (nn _ hx2.2.1))) (isS_fr hS2 (k12 _ hx.2.2.1 (nn _ hx2.2.2.1)) (k12 _ hx.2.2.2 (nn _ hx2.2.2.2))) (fun r q hr hq hlt => by have : boxes R 0 = 0 := rfl; omega)
  have k13 : Agr A [30, 32, 33, 36] F F3 := (k12.mono (by simp)).trans (a6.mono (by simp))
  have j34 := (k13 34 (by omega) (by simp)).trans h34
  have fl := J_fillG (F := F3) (a := A 34) (n := 9) (x := 0) (by omega) j34
  generalize hF4 : va_up F3 (A 34) (.inl (0, 9, .inl (fillF 0 9 (fun _ => 0) f34))) = F4 at fl
  have k4 : Agr A [34] F3 F4 := by rw [← hF4]; exact (Agr.refl A _ F3).up hA (by omega) (by simp)
  have l34 : F4 (A 34) = .inl (0, 9, .inl (fillF 0 9 (fun _ => 0) f34)) := by rw [← hF4, up_eq]
  have l30 := (k4 30 (by omega) (by simp)).trans a2
  generalize hF5 : va_up F4 (A 34) (.inl (0, 9, .inl (upd (fillF 0 9 (fun _ => 0) f34) 0 24))) = F5
  have k5 : Agr A [34] F4 F5 := by rw [← hF5]; exact (Agr.refl A _ F4).up hA (by omega) (by simp)
  have k15 : Agr A [30, 32, 33, 34, 36] F F5 := ((k13.mono (by simp)).trans (k4.mono (by simp))).trans (k5.mono (by simp))
  have k35 : Agr A [34] F3 F5 := k4.trans k5
  have hC5 : CSn A F5 (boxes R 8) bA bR b f31 (upd (fillF 0 9 (fun _ => 0) f34) 0 24) := ⟨(k5 30 (by omega) (by simp)).trans l30, (k15 31 (by omega) (by simp)).trans h31, (k35 32 (by omega) (by simp)).trans a3, (k35 33 (by omega) (by simp)).trans a4, by rw [← hF5, up_eq], isS_fr hG1 (((k35 35 (by omega) (by simp)).trans (a6 35 (by omega) (by simp))).trans (k2 35 (by omega) (by simp))) (((k35 36 (by omega) (by simp)).trans (a6 36 (by omega) (by simp))).trans (k2 36 (by omega) (by simp)))⟩
  have rz : ∀ r y, rowS z0 r y = 0 := fun r y => sumN_zero (fun _ _ => rfl)
  have cz : ∀ x i, colS z0 x i = 0 := fun x i => sumN_zero (fun _ _ => rfl)
  have hP : PIn a R b 0 (R 0) 8 z0 f31 (upd (fillF 0 9 (fun _ => 0) f34) 0 24) := by
    refine ⟨by omega, by omega, by omega, fun r hr => by omega, by rw [rz]; omega, fun _ _ => rfl, fun _ _ => rfl, fun _ => rfl, fun q => by rw [rz] at q; omega, fun r hr q hq => by rw [rz] at hq; omega, rfl, fun x hx => ?_, fun x hx => by rw [cz]; exact Nat.zero_le _⟩
    rw [cz]
    simp only [upd]
    rw [if_neg (by omega), fillF_in (by omega)]
    rfl
  have hac : ∀ r, a (r + 1) + R (r + 1) ≤ a r + R r := fun r => by rw [← hR, ← hR]; exact hc.1 r
  obtain ⟨F6, lets6, q1, q2, q3, q4⟩ := X2_cf hA (bA := bA) (bR := bR) rfl T24 (okS_le hb) (okS_le ha) hac (fun r q hr hq => a5 r q hr hq (by have := boxes_mono R (show r + 1 ≤ 8 by omega); simp only [boxes] at this ⊢; omega)) (boxes R 8) 7 0 (R 0) 8 z0 f31 _ F5 30 (by omega) (by show boxes R 0 + R 0 + _ = _; have : boxes R 0 = 0 := rfl; omega) (by omega) hP hC5
  have hv : boxN a z0 b 0 (allN a z0 R b 7) (R 0) 8 z0 = allN a z0 R b 8 z0 := by
    have R0 : R 0 ≤ 24 := by have := boxes_mono R (show 0 + 1 ≤ 8 by omega); simp only [boxes] at this; simp only [boxes] at T24; omega
    rw [boxN_row (by unfold KM; omega) (fun _ _ => rfl)]
    rfl
  have k16 : Agr A [30, 31, 32, 33, 34, 36] F F6 := (k15.mono (by simp)).trans (q4.mono (by simp))
  refine ⟨F6, ?_, ⟨⟨_, q2.1⟩, ⟨_, q2.2.1⟩, ⟨_, q2.2.2.1⟩, ⟨_, q2.2.2.2.1⟩, ⟨_, q2.2.2.2.2.1⟩, ⟨b, q2.2.2.2.2.2, hb.2.1⟩⟩, k16⟩
  unfold mX2_count
  rw [gfR_at (k := 4) (v := A 35) h30 rfl, Option.bind_some, obj_of hG.1, Option.bind_some, e1, Option.bind_some, pf_at i30 (by simp), show va_up F1 (A 30) (Sum.inr (2, ([.ref (A 31), .ref (A 32), .ref (A 33), .ref (A 34), .ref (A 35), .int n30] : List Value).set 5 (.int 0))) = F2 from hF2, Option.bind_some]
  refine Eq.trans a1 ?_
  rw [gfR_at (k := 3) (v := A 34) a2 rfl, Option.bind_some, fl, Option.bind_some, gfR_at (k := 3) (v := A 34) l30 rfl, Option.bind_some, show wrI F4 (A 34) 0 24 = some F5 by rw [il0, wrI_at l34 (by omega) (by omega), hF5], Option.bind_some, obj_of hC5.1, Option.bind_some]
  rw [Nat.sub_self] at q1
  rw [show mX2_countFrom 30 F5 (A 30) 0 = _ from q1, Option.bind_some, hv]
theorem C_coefficient (hA : Inj A) (h : CC A F S W N PT PO QT QO aw) (hS : ∀ i, i < 4 → okS (S i)) {i j k : Nat} (hi : i < 4) (hj : j < 4) (hk : k < 4) : (((∀ r, r < 8 → S i r ≤ S k r) ∧ boxes (S k) 8 = boxes (S i) 8 + boxes (S j) 8) → ∃ F', mX9_coefficient F (A 0) (iN i) (iN j) (iN k) = some (.inr (jN (allN (S i) z0 (fun r => S k r - S i r) (S j) 8 z0)), F') ∧ CC A F' S W N PT PO QT QO aw ∧ Agr A CTs F F') ∧ (¬ ((∀ r, r < 8 → S i r ≤ S k r) ∧ boxes (S k) 8 = boxes (S i) 8 + boxes (S j) 8) → mX9_coefficient F (A 0) (iN i) (iN j) (iN k) = some (.inr 0, F)) := by
  have ti := h.2.2.2.1 i hi
  have tj := h.2.2.2.1 j hj
  have tk := h.2.2.2.1 k hk
  have bi := (hS i hi).2.2
  have bj := (hS j hj).2.2
  have bk := (hS k hk).2.2
  have hP := h.2.2.2.2.2.2.2.2.2.2.2.2
  obtain ⟨z, z1, z2⟩ := X4_contains tk ti (okS_le (hS k hk)) (okS_le (hS i hi))
  have st : mX9_coefficient F (A 0) (iN i) (iN j) (iN k) = if bI z = 0 then some (.inr 0, F) else if boxes (S k) 8 = boxes (S i) 8 + boxes (S j) 8 then ((gfR F (A 0) 8 12).bind fun v53 => (obj F v53 2).bind fun _ => (mX2_count F v53 (A (37 + 2 * i)) (A (37 + 2 * j)) (A (37 + 2 * k))).bind fun v62 => some (Sum.inr v62.1, v62.2)) else some (.inr 0, F) := by
    unfold mX9_coefficient
    rw [obj_of h.1.1, Option.bind_some, C_slot h.1 hi, thn_r, obj_of h.1.1, Option.bind_some, C_slot h.1 hj, thn_r, obj_of h.1.1, Option.bind_some, C_slot h.1 hk, thn_r, obj_of tk.1, Option.bind_some, z1, Option.bind_some]
    dsimp only
    simp (disch := omega) only [obj_of tk.1, obj_of ti.1, obj_of tj.1, Option.bind_some, X4_countBoxes tk, X4_countBoxes ti, X4_countBoxes tj, iN_add, iN_inj]
  refine ⟨fun c => ?_, fun c => ?_⟩
  · have hz : z = true := z2.mpr c.1
    have hR : ∀ r, S k r = S i r + (S k r - S i r) := fun r => by
      by_cases r8 : r < 8
      · have := c.1 r r8; omega
      · rw [(hS k hk).2.1 r (by omega), (hS i hi).2.1 r (by omega)]
    have hRb : boxes (fun r => S k r - S i r) 8 = boxes (S j) 8 := by
      have : boxes (S i) 8 + boxes (fun r => S k r - S i r) 8 = boxes (S k) 8 := by
        rw [← boxes_add]
        exact boxes_congr (fun r _ => (hR r).symm)
      omega
    obtain ⟨F', e1, e2, e3⟩ := X2_count hA (pa := 37 + 2 * i) (la := 38 + 2 * i) (pb := 37 + 2 * j) (lb := 38 + 2 * j) (po := 37 + 2 * k) (lo := 38 + 2 * k) (hS i hi) (hS j hj) (hS k hk) hR hRb (by omega) (by omega) hP ti tk tj
    obtain ⟨⟨n30, o30⟩, _⟩ := id hP
    obtain ⟨h1, h2, h3, h4, h5, h6, h7, h8, h9, h10, h11, h12, h13⟩ := h
    refine ⟨F', ?_, ⟨gB_fr e3 h1 (by simp), isTA_fr (j := 3) e3 h2 (by omega) (by simp), isTA_fr (j := 6) e3 h3 (by omega) (by simp), gS_fr e3 h4 (fun t q => by simp at q; omega), gW_fr e3 h5 (fun t q => by simp at q; omega), gT_fr e3 h6 (by omega) (by simp), gT_fr e3 h7 (by omega) (by simp), gU_fr e3 h8 (by omega) (by simp), gH_fr e3 h9 (by simp), gO_fr e3 h10 (by simp), gC_fr e3 h11 (by simp), gF_fr e3 h12 (by simp), e2⟩, e3.mono (CTs_of (fun t q => by simp at q; omega))⟩
    rw [st, hz, bI_t, if_neg ne10, if_pos c.2, gfR_at (k := 12) (v := A 30) h1.1 rfl, Option.bind_some, obj_of o30, Option.bind_some, e1, Option.bind_some]
  · rw [st]
    by_cases hz : z = true
    · rw [hz, bI_t, if_neg ne10, if_neg (fun q => c ⟨z2.mp hz, q⟩)]
    · rw [if_pos ((bI_z z).mpr (by cases z <;> simp_all))]
end COC3
