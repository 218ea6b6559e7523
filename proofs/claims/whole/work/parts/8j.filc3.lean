section FILC3
variable {A : Nat → Nat} {F : Mem} {S W : Nat → Nat → Nat} {N : Nat → Nat} {PT : Nat → Nat → Nat} {PO : Nat → Nat} {QT : Nat → Nat → Nat} {QO : Nat → Nat} {aw : Bool} {th : Int32}
theorem X0_countWays (hA : Inj A) {V g : Nat → Nat} (hV : okS V) (hg : sbS V g) {b : Nat → Int32} {ws : Nat → Int64} {ed : Nat → Int32} {num : Nat} (hb : 0 < boxes g 8) (hb16 : boxes g 8 ≤ 16) (hbz : ∀ p, p < boxes g 8 → b p = bI (nlB b p)) (hnum : rkt V g 8 0 = num) (hnum2 : num < 181) (h0 : nlB b 0 = true) (hed : ∀ r v, r ≤ 8 → v < 17 → ed (r * 17 + v) = iN (en V (8 - r) r v)) (hv16 : ∀ k, V k ≤ 16) (hws : WI V (nlB b) ws num) (h24 : F (A 24) = fc24 A) (h26 : F (A 26) = .inl (0, 153, .inl ed)) (h27 : F (A 27) = .inl (2, 16, .inl b)) (hG : isS F (A 28) (A 29) g) (h25 : F (A 25) = .inl (1, 1448, .inr (.inl ws))) : ∃ ws', mX0_countWays F (A 24) (iN num) = some (va_up F (A 25) (.inl (1, 1448, .inr (.inl ws')))) ∧ WI V (nlB b) ws' (num + 1) := by
  have := FU_big
  obtain ⟨n, hn⟩ : ∃ n, boxes g 8 = n + 1 := ⟨boxes g 8 - 1, by omega⟩
  have w8 : wSet V (nlB b) ws num (n + 1) g 8 = ws := by
    funext k
    unfold wSet
    rw [if_neg (by omega)]
  have q := X0_cw21 hA hV hg (nl := nlB b) (ws := ws) (ed := ed) hn hnum hnum2 h0 hed hv16 hws 8 FU F (by omega) (by omega) h24 h26 hG (by rw [w8]; exact h25)
  rw [Wf_end] at q
  have npos : 0 < num := by
    apply Nat.pos_of_ne_zero
    intro e
    have z : rkt V g 8 0 = rkt V (fun _ => 0) 8 0 := by rw [hnum, e, rkt_zero 8 0 (fun _ _ => rfl)]
    have gz := rkt_inj hg.1 hg.2.1 (fun _ => Nat.le_refl _) (fun _ => Nat.zero_le _) 8 0 z
    have : boxes g 8 = boxes (fun _ => 0) 8 := boxes_congr (fun k hk => gz k (Nat.zero_le _) (by omega))
    have bz : boxes (fun _ => 0) 8 = 0 := rfl
    rw [bz] at this
    omega
  refine ⟨wSet V (nlB b) ws num (n + 1) g 0, ?_, ?_, ?_⟩
  · unfold mX0_countWays
    rw [gfR_at (k := 2) (v := A 27) h24 rfl, Option.bind_some, gfR_at (k := 3) (v := A 28) h24 rfl, Option.bind_some, obj_of hG.1, Option.bind_some, X4_countBoxes hG, Option.bind_some]
    dsimp only
    rw [hn, il1, iN_sub (by omega), Nat.add_sub_cancel, rdI_at h27 (by omega) (by omega), Option.bind_some, hbz n (by omega)]
    exact q
  · unfold wSet
    rw [if_neg (by omega)]
    exact hws.1
  · intro h hs hpos hr i hi
    by_cases c : rkt V h 8 0 = num
    · have eh : h = g := by
        funext k
        by_cases k8 : k < 8
        · exact rkt_inj hs.1 hs.2.1 hg.1 hg.2.1 8 0 (by rw [c, hnum]) k (Nat.zero_le _) (by omega)
        · rw [hs.2.2 k (by omega), hg.2.2 k (by omega)]
      subst eh
      unfold wSet
      rw [c, if_pos (by omega), show num * 8 + i - num * 8 = i by omega, hn]
    · unfold wSet
      rw [if_neg (by omega)]
      exact hws.2 h hs hpos (by omega) i hi
theorem X0_ct43 (hA : Inj A) {a la : Nat} {V : Nat → Nat} {b : Nat → Int32} {ed : Nat → Int32} (hV : okS V) (hV16 : boxes V 8 ≤ 16) (ha : a < 67) (hla : la < 67) (hane : a ≠ 29 ∧ a ≠ 25) (hlne : la ≠ 29 ∧ la ≠ 25) (hbz : ∀ p, p < boxes V 8 → b p = bI (nlB b p)) (h0 : 0 < boxes V 8 → nlB b 0 = true) (hed : ∀ r v, r ≤ 8 → v < 17 → ed (r * 17 + v) = iN (en V (8 - r) r v)) (K : Nat → Int32 → Mem → Option (Int64 × Mem)) : ∀ (m fu num : Nat) (F : Mem) (g : Nat → Nat) (ws : Nat → Int64), num + m = en V 8 0 (V 0) → m < fu → 0 < num → sbS V g → rkt V g 8 0 + 1 = num → WI V (nlB b) ws num → F (A 24) = fc24 A → F (A 26) = .inl (0, 153, .inl ed) → F (A 27) = .inl (2, 16, .inl b) → isS F (A a) (A la) V → isS F (A 28) (A 29) g → F (A 25) = .inl (1, 1448, .inr (.inl ws)) → ∃ F' ws' g', fX0_count_43 K fu (A 24) (A a) (iN (en V 8 0 (V 0))) (iN num) F = K (A 24) (iN (en V 8 0 (V 0))) F' ∧ WI V (nlB b) ws' (en V 8 0 (V 0)) ∧ F' (A 25) = .inl (1, 1448, .inr (.inl ws')) ∧ isS F' (A 28) (A 29) g' ∧ (∀ k, 8 ≤ k → g' k = 0) ∧ Agr A [25, 29] F F' := by
  have w181 := within_le hV hV16
  have v16 := okS_le2 hV hV16
  intro m
  induction m with
  | zero =>
    intro fu num F g ws e1 e2 e3 hg hr hws h24 h26 h27 hS hG h25
    obtain ⟨f', rfl⟩ : ∃ f', fu = f' + 1 := ⟨fu - 1, by omega⟩
    have : num = en V 8 0 (V 0) := by omega
    subst this
    refine ⟨F, ws, g, ?_, hws, h25, hG, hg.2.2, Agr.refl A _ F⟩
    rw [fX0_count_43.eq_2, if_pos (Int32.le_refl _)]
  | succ m ih =>
    intro fu num F g ws e1 e2 e3 hg hr hws h24 h26 h27 hS hG h25
    obtain ⟨f', rfl⟩ : ∃ f', fu = f' + 1 := ⟨fu - 1, by omega⟩
    obtain ⟨g', a1, a2, a3⟩ := X0_goToNext hA hV hg ha hla hane.1 hlne.1 (by omega) h24 hS hG
    generalize hF1 : va_up F (A 29) (cS g') = F1 at a1
    have k1 : Agr A [29] F F1 := by rw [← hF1]; exact (Agr.refl A _ F).up hA (by omega) (by simp)
    have hG1 : isS F1 (A 28) (A 29) g' := by rw [← hF1]; exact isS_up hG
    have i24 := (k1 24 (by omega) (by simp)).trans h24
    have i26 := (k1 26 (by omega) (by simp)).trans h26
    have i27 := (k1 27 (by omega) (by simp)).trans h27
    have i25 := (k1 25 (by omega) (by simp)).trans h25
    have hS1 : isS F1 (A a) (A la) V := isS_fr hS (k1 _ ha (by simp; exact hane.1)) (k1 _ hla (by simp; exact hlne.1))
    have rg : rkt V g' 8 0 = num := by omega
    have bpos : 0 < boxes g' 8 := by
      apply Nat.pos_of_ne_zero
      intro e
      have z : rkt V g' 8 0 = 0 := rkt_zero 8 0 (fun k _ => by
        by_cases k8 : k < 8
        · exact boxes_zero 8 e k k8
        · exact a2.2.2 k (by omega))
      omega
    have ble : boxes g' 8 ≤ boxes V 8 := by
      have : ∀ n, boxes g' n ≤ boxes V n := by
        intro n
        induction n with
        | zero => exact Nat.le_refl _
        | succ n ih => simp only [boxes]; have := a2.2.1 n; omega
      exact this 8
    obtain ⟨ws', b1, b2⟩ := X0_countWays hA hV a2 (b := b) (ws := ws) (ed := ed) (num := num) bpos (by omega) (fun p hp => hbz p (by omega)) rg (by omega) (h0 (by omega)) hed v16 hws i24 i26 i27 hG1 i25
    generalize hF2 : va_up F1 (A 25) (.inl (1, 1448, .inr (.inl ws'))) = F2 at b1
    have k2 : Agr A [25] F1 F2 := by rw [← hF2]; exact (Agr.refl A _ F1).up hA (by omega) (by simp)
    obtain ⟨F', ws2, g2, c1, c2, c3, c4, c5, c6⟩ := ih f' (num + 1) F2 g' ws' (by omega) (by omega) (by omega) a2 (by omega) b2 ((k2 24 (by omega) (by simp)).trans i24) ((k2 26 (by omega) (by simp)).trans i26) ((k2 27 (by omega) (by simp)).trans i27) (isS_fr hS1 (k2 _ ha (by simp; exact hane.2)) (k2 _ hla (by simp; exact hlne.2))) (isS_fr hG1 (k2 _ (by omega) (by simp)) (k2 _ (by omega) (by simp))) (by rw [← hF2, up_eq])
    refine ⟨F', ws2, g2, ?_, c2, c3, c4, c5, ((k1.mono (by simp)).trans (k2.mono (by simp))).trans c6⟩
    rw [fX0_count_43.eq_2, if_neg (fun q => by have := (iN_le (by omega) (by omega)).mp q; omega), obj_of h24, Option.bind_some, a1, Option.bind_some, obj_of i24, Option.bind_some, b1, Option.bind_some, iN_one]
    exact c1
theorem nlOk_zero {nl : Nat → Bool} : ∀ cs, nlOk nl cs → 0 < cs.sum → nl 0 = true := by
  intro cs
  induction cs with
  | nil => intro _ h; simp at h
  | cons c cs ih =>
    intro h hs
    by_cases z : cs.sum = 0
    · have := h.2.1; rw [z] at this; exact this
    · exact ih h.2.2.2 (by omega)
theorem okS_self {V : Nat → Nat} (h : okS V) : sbS V V := ⟨h.1, fun _ => Nat.le_refl _, h.2.1⟩
theorem X0_count (hA : Inj A) {a la w wa n : Nat} {V X : Nat → Nat} (hV : okS V) (hb : boxes V 8 = n) (hn : n ≤ 16) (hX : ∀ i, i < n → 1 ≤ X i ∧ X i ≤ 16) (ha : a < 67) (hla : la < 67) (hw : w < 67) (hwa : wa < 67) (hout : (a < 24 ∨ 30 ≤ a) ∧ (la < 24 ∨ 30 ≤ la) ∧ (w < 24 ∨ 30 ≤ w) ∧ (wa < 24 ∨ 30 ≤ wa)) (hF : gF A F) (hS : isS F (A a) (A la) V) (hW : isW F (A w) (A wa) X n) : ∃ F', mX0_count F (A 24) (A a) (A w) = some (jN (kos (csx (fun y => cntL X y n) 16) V), F') ∧ gF A F' ∧ Agr A [25, 26, 27, 29] F F' := by
  have := FU_big
  obtain ⟨h24, ⟨ws0, h25⟩, h26, h27, ⟨g0, hG, g8⟩⟩ := hF
  have hle := okS_le hV
  have v16 := okS_le2 hV (by omega : boxes V 8 ≤ 16)
  obtain ⟨b, s1, s2, s3⟩ := X0_sortLetters hA (a := w) (wa := wa) (n := n) (V := X) hn (fun i hi => by have := hX i hi; omega) hw hwa (by omega) (by omega) h24 hW h27
  rw [cntL_all hX] at s3
  have csum := csx_sum (fun y => cntL X y n) 16
  rw [cntL_all hX] at csum
  generalize hF1 : va_up F (A 27) (.inl (2, 16, .inl b)) = F1 at s1
  have k1 : Agr A [27] F F1 := by rw [← hF1]; exact (Agr.refl A _ F).up hA (by omega) (by simp)
  have i24 := (k1 24 (by omega) (by simp)).trans h24
  have hS1 : isS F1 (A a) (A la) V := isS_fr hS (k1 _ ha (by simp; omega)) (k1 _ hla (by simp; omega))
  obtain ⟨e26, h26⟩ := h26
  obtain ⟨ed, t1, t2⟩ := X0_countEndings hA (a := a) (la := la) (V := V) hle ha hla (by omega) (by omega) i24 hS1 ⟨e26, (k1 26 (by omega) (by simp)).trans h26⟩
  generalize hF2 : va_up F1 (A 26) (.inl (0, 153, .inl ed)) = F2 at t1
  have k2 : Agr A [26] F1 F2 := by rw [← hF2]; exact (Agr.refl A _ F1).up hA (by omega) (by simp)
  have j24 := (k2 24 (by omega) (by simp)).trans i24
  have hS2 : isS F2 (A a) (A la) V := isS_fr hS1 (k2 _ ha (by simp; omega)) (k2 _ hla (by simp; omega))
  have hG2 : isS F2 (A 28) (A 29) g0 := isS_fr hG ((k2 28 (by omega) (by simp)).trans (k1 28 (by omega) (by simp))) ((k2 29 (by omega) (by simp)).trans (k1 29 (by omega) (by simp)))
  have j26 : F2 (A 26) = .inl (0, 153, .inl ed) := by rw [← hF2, up_eq]
  have fz : fillF 0 8 (fun _ => 0) (fun r => iN (g0 r)) = fun r => iN ((fun _ => 0) r) := by
    funext k
    by_cases c : k < 8
    · rw [fillF_in (by omega)]; rfl
    · rw [fillF_out (by omega), g8 k (by omega)]
  have fl := J_fillG (F := F2) (a := A 29) (n := 8) (x := 0) (by omega) hG2.2
  rw [fz] at fl
  generalize hF3 : va_up F2 (A 29) (cS (fun _ => 0)) = F3 at fl
  have k3 : Agr A [29] F2 F3 := by rw [← hF3]; exact (Agr.refl A _ F2).up hA (by omega) (by simp)
  have hG3 : isS F3 (A 28) (A 29) (fun _ => 0) := by rw [← hF3]; exact isS_up hG2
  have l24 := (k3 24 (by omega) (by simp)).trans j24
  have l25 : F3 (A 25) = .inl (1, 1448, .inr (.inl ws0)) := (k3 25 (by omega) (by simp)).trans ((k2 25 (by omega) (by simp)).trans ((k1 25 (by omega) (by simp)).trans h25))
  generalize hF4 : va_up F3 (A 25) (.inl (1, 1448, .inr (.inl (vp_updL ws0 0 1)))) = F4
  have k4 : Agr A [25] F3 F4 := by rw [← hF4]; exact (Agr.refl A _ F3).up hA (by omega) (by simp)
  have hS4 : isS F4 (A a) (A la) V := isS_fr hS2 ((k4 _ ha (by simp; omega)).trans (k3 _ ha (by simp; omega))) ((k4 _ hla (by simp; omega)).trans (k3 _ hla (by simp; omega)))
  have epos : 0 < en V 8 0 (V 0) := by
    have := en_mono V 8 0 0 (V 0) (Nat.zero_le _)
    rw [en_z] at this
    omega
  have rmax := rkt_max (S := V) (g := V) 8 0 (V 0) (fun k _ hk => by
    by_cases c : k = 0
    · subst c; rw [if_pos rfl]; simp
    · rw [if_neg c]
      have := hV.1 (k - 1)
      rw [show k - 1 + 1 = k by omega] at this
      omega)
  obtain ⟨F5, ws', g', c1, c2, c3, c4, c5, c6⟩ := X0_ct43 hA (a := a) (la := la) (V := V) (b := b) (ed := ed) hV (by omega) ha hla (by omega) (by omega) (fun p hp => s3 p (by omega)) (fun hp => nlOk_zero _ s2 (by omega)) t2 (fun (x0 : Nat) (x3 : Int32) (F : Mem) => (gfR F x0 0 0).bind fun v67 => (rdJ F v67 ((x3 - 1) * 8)).bind fun v76 => some (v76, F)) (en V 8 0 (V 0) - 1) FU 1 F4 (fun _ => 0) (vp_updL ws0 0 1) (by omega) (by have := within_le hV (by omega : boxes V 8 ≤ 16); omega) (by omega) ⟨fun _ => Nat.le_refl _, fun _ => Nat.zero_le _, fun _ _ => rfl⟩ (by rw [rkt_zero 8 0 (fun _ _ => rfl)]) ⟨by rw [vp_at]; rfl, fun h hs hpos hr => by
    exfalso
    have z : rkt V h 8 0 = rkt V (fun _ => 0) 8 0 := by rw [rkt_zero (g := fun _ => 0) 8 0 (fun _ _ => rfl)]; omega
    have gz := rkt_inj hs.1 hs.2.1 (fun _ => Nat.le_refl _) (fun _ => Nat.zero_le _) 8 0 z
    have : boxes h 8 = boxes (fun _ => 0) 8 := boxes_congr (fun k hk => gz k (Nat.zero_le _) (by omega))
    have bz : boxes (fun _ => 0) 8 = 0 := rfl
    rw [bz] at this
    omega⟩ ((k4 24 (by omega) (by simp)).trans l24) ((k4 26 (by omega) (by simp)).trans ((k3 26 (by omega) (by simp)).trans j26)) ((k4 27 (by omega) (by simp)).trans ((k3 27 (by omega) (by simp)).trans ((k2 27 (by omega) (by simp)).trans (by rw [← hF1, up_eq])))) hS4 (isS_fr hG3 (k4 _ (by omega) (by simp)) (k4 _ (by omega) (by simp))) (by rw [← hF4, up_eq])
  have kk : Agr A [25, 26, 27, 29] F F5 := ((((k1.mono (by simp)).trans (k2.mono (by simp))).trans (k3.mono (by simp))).trans (k4.mono (by simp))).trans (c6.mono (by simp))
  have m24 := (kk 24 (by omega) (by simp)).trans h24
  have val : ws' ((en V 8 0 (V 0) - 1) * 8) = jN (kos (csx (fun y => cntL X y n) 16) V) := by
    have kw := Wf_kos (nl := nlB b) (csx (fun y => cntL X y n) 16) s2 V hV.1 hV.2.1 (fun k => by have := hle k; unfold KM; omega) (by omega)
    by_cases p : 0 < boxes V 8
    · have := c2.2 V (okS_self hV) p (by omega) 0 (by omega)
      rw [show rkt V V 8 0 = en V 8 0 (V 0) - 1 by omega, Nat.add_zero] at this
      rw [this, ← kw, csum, hb]
    · have z : V 0 = 0 := boxes_zero 8 (by omega) 0 (by omega)
      rw [z, en_z]
      show ws' 0 = _
      rw [c2.1, ← kw, csum, show n = 0 by omega]
      rfl
  refine ⟨F5, ?_, ⟨m24, ⟨ws', c3⟩, ⟨ed, ((c6 26 (by omega) (by simp)).trans ((k4 26 (by omega) (by simp)).trans ((k3 26 (by omega) (by simp)).trans j26)))⟩, ⟨b, ((c6 27 (by omega) (by simp)).trans ((k4 27 (by omega) (by simp)).trans ((k3 27 (by omega) (by simp)).trans ((k2 27 (by omega) (by simp)).trans (by rw [← hF1, up_eq])))))⟩, ⟨g', c4, c5⟩⟩, kk⟩
  have w181 := within_le hV (by omega : boxes V 8 ≤ 16)
  have v0 := v16 0
  unfold mX0_count
  rw [obj_of h24, Option.bind_some, s1, Option.bind_some, obj_of i24, Option.bind_some, t1, Option.bind_some, gfR_at (k := 1) (v := A 26) j24 rfl, Option.bind_some, gfR_at (k := 0) (v := A la) hS2.1 rfl, Option.bind_some, il0, rdI_at hS2.2 (by omega) (by omega), Option.bind_some, rdI_at j26 (by omega) (by omega), Option.bind_some]
  have e0 := t2 0 (V 0) (by omega) (by omega)
  rw [Nat.zero_mul, Nat.zero_add] at e0
  rw [e0, gfR_at (k := 3) (v := A 28) j24 rfl, Option.bind_some, gfR_at (k := 0) (v := A 29) hG2.1 rfl, Option.bind_some, ← il0, fl, Option.bind_some, gfR_at (k := 0) (v := A 25) l24 rfl, Option.bind_some, il0, wrJ_at l25 (by omega) (by omega), hF4, Option.bind_some]
  refine Eq.trans c1 ?_
  rw [gfR_at (k := 0) (v := A 25) m24 rfl, Option.bind_some, il1, iN_sub (by omega), il8, iN_mul, rdJ_at c3 (by omega) (by omega), Option.bind_some, val]
end FILC3
