section FILC2
variable {A : Nat → Nat} {F : Mem} {S W : Nat → Nat → Nat} {N : Nat → Nat} {PT : Nat → Nat → Nat} {PO : Nat → Nat} {QT : Nat → Nat → Nat} {QO : Nat → Nat} {aw : Bool} {th : Int32}
/-- a shape within V -/
def sbS (V g : Nat → Nat) : Prop := par g ∧ (∀ k, g k ≤ V k) ∧ (∀ k, 8 ≤ k → g k = 0)
/-- row i one longer, the rows below empty -/
def nxS (g : Nat → Nat) (i : Nat) : Nat → Nat := fun k => if k < i then g k else if k = i then g i + 1 else 0
theorem rkt_next {V g : Nat → Nat} {i : Nat} (hi : i < 8) (hm : ∀ j, i < j → j < 8 → g j = min (g (j - 1)) (V j)) (hlt : g i < V i) : ∀ (d s : Nat), s + d = i → rkt V (nxS g i) (8 - s) s = rkt V g (8 - s) s + 1 := by
  intro d
  induction d with
  | zero =>
    intro s hs
    have : s = i := by omega
    subst this
    obtain ⟨m, hm8⟩ : ∃ m, 8 - s = m + 1 := ⟨7 - s, by omega⟩
    rw [hm8]
    simp only [rkt]
    have e1 : nxS g s s = g s + 1 := by unfold nxS; rw [if_neg (by omega), if_pos rfl]
    have e2 : rkt V (nxS g s) m (s + 1) = 0 := rkt_zero m (s + 1) (fun k hk => by unfold nxS; rw [if_neg (by omega), if_neg (by omega)])
    have e3 := rkt_max (S := V) (g := g) m (s + 1) (g s) (fun k a b => by
      have := hm k (by omega) (by omega)
      by_cases e : k = s + 1
      · subst e; rw [if_pos rfl]; rw [show s + 1 - 1 = s by omega] at this; exact this
      · rw [if_neg e]; exact this)
    rw [e1, e2, if_pos (by omega), Nat.add_sub_cancel]
    by_cases c : 0 < g s
    · rw [if_pos c]
      obtain ⟨v, hv⟩ : ∃ v, g s = v + 1 := ⟨g s - 1, by omega⟩
      rw [hv] at e3 ⊢
      rw [Nat.add_sub_cancel, en_ss, if_pos (by omega)]
      omega
    · rw [if_neg c]
      have z : g s = 0 := by omega
      rw [z] at e3 ⊢
      rw [en_z] at e3 ⊢
      omega
  | succ d ih =>
    intro s hs
    obtain ⟨m, hm8⟩ : ∃ m, 8 - s = m + 1 := ⟨7 - s, by omega⟩
    have q := ih (s + 1) (by omega)
    rw [show 8 - (s + 1) = m by omega] at q
    rw [hm8]
    simp only [rkt]
    have e1 : nxS g i s = g s := by unfold nxS; rw [if_pos (by omega)]
    rw [e1, q]
    omega
theorem sbS_next {V g : Nat → Nat} {i : Nat} (hg : sbS V g) (hi : i < 8) (hlt : g i < V i) (h0 : i = 0 ∨ g i < g (i - 1)) : sbS V (nxS g i) := by
  obtain ⟨g1, g2, g3⟩ := hg
  refine ⟨fun k => ?_, fun k => ?_, fun k hk => ?_⟩
  · unfold nxS
    by_cases a : k + 1 < i
    · rw [if_pos a, if_pos (by omega)]; exact g1 k
    · rw [if_neg a]
      by_cases b : k + 1 = i
      · rw [if_pos b, if_pos (by omega)]
        rcases h0 with h0 | h0
        · omega
        · rw [show i - 1 = k by omega] at h0; omega
      · rw [if_neg b]; omega
  · unfold nxS
    by_cases a : k < i
    · rw [if_pos a]; exact g2 k
    · rw [if_neg a]
      by_cases b : k = i
      · subst b; rw [if_pos rfl]; omega
      · rw [if_neg b]; omega
  · unfold nxS
    rw [if_neg (by omega), if_neg (by omega)]
/-- rows above i only -/
def cutS (g : Nat → Nat) (i : Nat) : Nat → Nat := fun k => if k < i then g k else 0
theorem cutS_s (g : Nat → Nat) (i : Nat) : upL (cutS g (i + 1)) i 0 = cutS g i := by
  funext k
  by_cases a : k = i
  · subst a; rw [upL_at]; unfold cutS; rw [if_neg (by omega)]
  · rw [upL_ne a]
    unfold cutS
    by_cases b : k < i
    · rw [if_pos b, if_pos (by omega)]
    · rw [if_neg b, if_neg (by omega)]
theorem cutS_n (g : Nat → Nat) (i : Nat) : upL (cutS g (i + 1)) i (g i + 1) = nxS g i := by
  funext k
  by_cases a : k = i
  · subst a; rw [upL_at]; unfold nxS; rw [if_neg (by omega), if_pos rfl]
  · rw [upL_ne a]
    unfold cutS nxS
    by_cases b : k < i
    · rw [if_pos b, if_pos (by omega)]
    · rw [if_neg b, if_neg (by omega), if_neg a]
theorem X0_gn3 (hA : Inj A) {a la : Nat} {V g : Nat → Nat} (hV : okS V) (hg : sbS V g) (ha : a < 67) (hla : la < 67) (hane : a ≠ 29) (hlne : la ≠ 29) (hr : rkt V g 8 0 + 1 < en V 8 0 (V 0)) : ∀ (i fu : Nat) (F : Mem), i < 8 → i < fu → F (A 24) = fc24 A → isS F (A a) (A la) V → isS F (A 28) (A 29) (cutS g (i + 1)) → (∀ j, i < j → j < 8 → g j = min (g (j - 1)) (V j)) → ∃ j, j < 8 ∧ fX0_goToNext_3 (fun (x0 : Nat) (x2 : Int32) (F : Mem) => fX0_goToNext_52   x0 x2 F) fu (A 24) (A a) (iN i) F = some (va_up F (A 29) (cS (nxS g j))) ∧ sbS V (nxS g j) ∧ rkt V (nxS g j) 8 0 = rkt V g 8 0 + 1 := by
  have hle := okS_le hV
  intro i
  induction i with
  | zero =>
    intro fu F h1 h2 h24 hS hG hm
    obtain ⟨f', rfl⟩ : ∃ f', fu = f' + 1 := ⟨fu - 1, by omega⟩
    have v0 := hle 0
    have g0 := hg.2.1 0
    have hlt : g 0 < V 0 := by
      apply Nat.lt_of_le_of_ne g0
      intro e
      have := rkt_max (S := V) (g := g) 8 0 (V 0) (fun k _ hk => by
        by_cases c : k = 0
        · subst c; rw [if_pos rfl, e]; simp
        · rw [if_neg c]; exact hm k (by omega) (by omega))
      omega
    refine ⟨0, by omega, ?_, sbS_next hg (by omega) hlt (Or.inl rfl), rkt_next (by omega) hm hlt 0 0 rfl⟩
    have c0 : cutS g 1 0 = g 0 := rfl
    rw [fX0_goToNext_3.eq_2, if_neg (iN_neg (by omega)), gfR_at (k := 3) (v := A 28) h24 rfl, Option.bind_some, gfR_at (k := 0) (v := A 29) hG.1 rfl, Option.bind_some, rdI_at hG.2 (by omega) (by omega), Option.bind_some, gfR_at (k := 0) (v := A la) hS.1 rfl, Option.bind_some, rdI_at hS.2 (by omega) (by omega), Option.bind_some]
    show (if iN (V 0) ≤ iN (cutS g 1 0) then _ else _) = _
    rw [c0, if_neg (fun q => by have := (iN_le (by omega) (by omega)).mp q; omega), if_pos (show iN 0 = 0 from rfl)]
    unfold fX0_goToNext_52
    rw [gfR_at (k := 3) (v := A 28) h24 rfl, Option.bind_some, gfR_at (k := 0) (v := A 29) hG.1 rfl, Option.bind_some, rdI_at hG.2 (by omega) (by omega), Option.bind_some]
    show (wrI F (A 29) (iN 0) (iN (cutS g 1 0) + 1)).bind _ = _
    rw [c0, iN_one, wrI_at hG.2 (by omega) (by omega), updO, Option.bind_some, cutS_n]
  | succ i ih =>
    intro fu F h1 h2 h24 hS hG hm
    obtain ⟨f', rfl⟩ : ∃ f', fu = f' + 1 := ⟨fu - 1, by omega⟩
    have vi := hle (i + 1)
    have gi := hg.2.1 (i + 1)
    have gi2 := hg.2.1 i
    have vi2 := hle i
    have c1 : cutS g (i + 1 + 1) (i + 1) = g (i + 1) := by unfold cutS; rw [if_pos (by omega)]
    have c2 : cutS g (i + 1 + 1) i = g i := by unfold cutS; rw [if_pos (by omega)]
    have head : fX0_goToNext_3 (fun (x0 : Nat) (x2 : Int32) (F : Mem) => fX0_goToNext_52   x0 x2 F) (f' + 1) (A 24) (A a) (iN (i + 1)) F = if V (i + 1) ≤ g (i + 1) then fX0_goToNext_66 (fX0_goToNext_3 (fun (x0 : Nat) (x2 : Int32) (F : Mem) => fX0_goToNext_52   x0 x2 F) f') (fun (x0 : Nat) (x2 : Int32) (F : Mem) => fX0_goToNext_52   x0 x2 F) (A 24) (A a) (iN (i + 1)) F else (if g i ≤ g (i + 1) then fX0_goToNext_66 (fX0_goToNext_3 (fun (x0 : Nat) (x2 : Int32) (F : Mem) => fX0_goToNext_52   x0 x2 F) f') (fun (x0 : Nat) (x2 : Int32) (F : Mem) => fX0_goToNext_52   x0 x2 F) (A 24) (A a) (iN (i + 1)) F else fX0_goToNext_52 (A 24) (iN (i + 1)) F) := by
      rw [fX0_goToNext_3.eq_2, if_neg (iN_neg (by omega))]
      simp (disch := omega) only [gfR_at (k := 3) (v := A 28) h24 rfl, Option.bind_some, gfR_at (k := 0) (v := A 29) hG.1 rfl, rdI_at hG.2, gfR_at (k := 0) (v := A la) hS.1 rfl, rdI_at hS.2, il0, il1, iN_inj, iN_sub, iN_le, if_neg, Nat.add_sub_cancel, c1, c2]
    have back : fX0_goToNext_66 (fX0_goToNext_3 (fun (x0 : Nat) (x2 : Int32) (F : Mem) => fX0_goToNext_52   x0 x2 F) f') (fun (x0 : Nat) (x2 : Int32) (F : Mem) => fX0_goToNext_52   x0 x2 F) (A 24) (A a) (iN (i + 1)) F = fX0_goToNext_3 (fun (x0 : Nat) (x2 : Int32) (F : Mem) => fX0_goToNext_52   x0 x2 F) f' (A 24) (A a) (iN i) (va_up F (A 29) (cS (cutS g (i + 1)))) := by
      unfold fX0_goToNext_66
      rw [gfR_at (k := 3) (v := A 28) h24 rfl, Option.bind_some, gfR_at (k := 0) (v := A 29) hG.1 rfl, Option.bind_some, il0, wrI_at hG.2 (by omega) (by omega), updO, Option.bind_some, cutS_s, iN_pred]
    have goon : g (i + 1) = min (g i) (V (i + 1)) → ∃ j, j < 8 ∧ fX0_goToNext_3 (fun (x0 : Nat) (x2 : Int32) (F : Mem) => fX0_goToNext_52   x0 x2 F) f' (A 24) (A a) (iN i) (va_up F (A 29) (cS (cutS g (i + 1)))) = some (va_up F (A 29) (cS (nxS g j))) ∧ sbS V (nxS g j) ∧ rkt V (nxS g j) 8 0 = rkt V g 8 0 + 1 := by
      intro hmx
      have k1 : Agr A [29] F (va_up F (A 29) (cS (cutS g (i + 1)))) := (Agr.refl A _ F).up hA (by omega) (by simp)
      obtain ⟨j, j1, j2, j3⟩ := ih f' _ (by omega) (by omega) ((k1 24 (by omega) (by simp)).trans h24) (isS_fr hS (k1 _ ha (by simp; exact hane)) (k1 _ hla (by simp; exact hlne))) (isS_up hG) (fun j a b => by
        by_cases e : j = i + 1
        · subst e; rw [show i + 1 - 1 = i by omega]; exact hmx
        · exact hm j (by omega) b)
      rw [up_up] at j2
      exact ⟨j, j1, j2, j3⟩
    by_cases d1 : V (i + 1) ≤ g (i + 1)
    · rw [head, if_pos d1, back]
      exact goon (by have := hg.1 i; omega)
    · by_cases d2 : g i ≤ g (i + 1)
      · rw [head, if_neg d1, if_pos d2, back]
        exact goon (by have := hg.1 i; omega)
      · refine ⟨i + 1, h1, ?_, sbS_next hg h1 (by omega) (Or.inr (by rw [show i + 1 - 1 = i by omega]; omega)), rkt_next h1 hm (by omega) (i + 1) 0 (by omega)⟩
        rw [head, if_neg d1, if_neg d2]
        unfold fX0_goToNext_52
        rw [gfR_at (k := 3) (v := A 28) h24 rfl, Option.bind_some, gfR_at (k := 0) (v := A 29) hG.1 rfl, Option.bind_some, rdI_at hG.2 (by omega) (by omega), Option.bind_some, c1, iN_one, wrI_at hG.2 (by omega) (by omega), updO, Option.bind_some, cutS_n]
theorem X0_goToNext (hA : Inj A) {a la : Nat} {V g : Nat → Nat} (hV : okS V) (hg : sbS V g) (ha : a < 67) (hla : la < 67) (hane : a ≠ 29) (hlne : la ≠ 29) (hr : rkt V g 8 0 + 1 < en V 8 0 (V 0)) (h24 : F (A 24) = fc24 A) (hS : isS F (A a) (A la) V) (hG : isS F (A 28) (A 29) g) : ∃ g', mX0_goToNext F (A 24) (A a) = some (va_up F (A 29) (cS g')) ∧ sbS V g' ∧ rkt V g' 8 0 = rkt V g 8 0 + 1 := by
  have := FU_big
  have e : cutS g 8 = g := by
    funext k
    unfold cutS
    by_cases c : k < 8
    · rw [if_pos c]
    · rw [if_neg c, hg.2.2 k (by omega)]
  obtain ⟨j, j1, j2, j3, j4⟩ := X0_gn3 hA hV hg ha hla hane hlne hr 7 FU F (by omega) (by omega) h24 hS (by rw [e]; exact hG) (fun j a b => by omega)
  exact ⟨nxS g j, j2, j3, j4⟩
theorem Wf_split {nl : Nat → Bool} {n i : Nat} {g : Nat → Nat} (hi : i < 8) : Wf nl (n + 1) g i = Wf nl (n + 1) g (i + 1) + ivN (g (i + 1) < g i) (Wf nl n (dcb g i) (if nl n = true then 0 else i)) := by
  simp only [Wf]
  have e : ∀ j, j < 8 → ivN (i ≤ j ∧ g (j + 1) < g j) (Wf nl n (dcb g j) (if nl n = true then 0 else j)) = ivN (i + 1 ≤ j ∧ g (j + 1) < g j) (Wf nl n (dcb g j) (if nl n = true then 0 else j)) + (if j = i then ivN (g (i + 1) < g i) (Wf nl n (dcb g i) (if nl n = true then 0 else i)) else 0) := by
    intro j hj
    by_cases a : j = i
    · subst a
      rw [if_pos rfl, ivN_neg (P := j + 1 ≤ j ∧ g (j + 1) < g j) (fun q => by omega), Nat.zero_add]
      by_cases c : g (j + 1) < g j
      · rw [ivN_pos c, ivN_pos ⟨Nat.le_refl _, c⟩]
      · rw [ivN_neg c, ivN_neg (fun q => c q.2)]
    · rw [if_neg a]
      by_cases c : i ≤ j ∧ g (j + 1) < g j
      · rw [ivN_pos c, ivN_pos ⟨by omega, c.2⟩]; rfl
      · rw [ivN_neg c, ivN_neg (fun q => c ⟨by omega, q.2⟩)]
  rw [sumN_congr e, sumN_add, sumN_single (g := fun j => if j = i then ivN (g (i + 1) < g i) (Wf nl n (dcb g i) (if nl n = true then 0 else i)) else 0) (i0 := i) hi (fun j _ hne => if_neg hne), if_pos rfl]
theorem Wf_end {nl : Nat → Bool} {n : Nat} {g : Nat → Nat} : Wf nl (n + 1) g 8 = 0 := sumN_zero (fun j hj => ivN_neg (fun q => by omega))
/-- what the ways' array holds for the shapes before num -/
def WI (V : Nat → Nat) (nl : Nat → Bool) (ws : Nat → Int64) (num : Nat) : Prop := ws 0 = jN 1 ∧ ∀ h, sbS V h → 0 < boxes h 8 → rkt V h 8 0 < num → ∀ i, i < 8 → ws (rkt V h 8 0 * 8 + i) = jN (Wf nl (boxes h 8) h i)
/-- row num's places from i on are set -/
noncomputable def wSet (V : Nat → Nat) (nl : Nat → Bool) (ws : Nat → Int64) (num n : Nat) (g : Nat → Nat) (i : Nat) : Nat → Int64 := fun k => if num * 8 + i ≤ k ∧ k < num * 8 + 8 then jN (Wf nl n g (k - num * 8)) else ws k
theorem wSet_s (V : Nat → Nat) (nl : Nat → Bool) (ws : Nat → Int64) (num n : Nat) (g : Nat → Nat) {i : Nat} (hi : i < 8) : vp_updL (wSet V nl ws num n g (i + 1)) (num * 8 + i) (jN (Wf nl n g i)) = wSet V nl ws num n g i := by
  funext k
  by_cases c : k = num * 8 + i
  · subst c; rw [vp_at]; unfold wSet; rw [if_pos (by omega), show num * 8 + i - num * 8 = i by omega]
  · rw [vp_ne c]
    unfold wSet
    by_cases d : num * 8 + (i + 1) ≤ k ∧ k < num * 8 + 8
    · rw [if_pos d, if_pos (by omega)]
    · rw [if_neg d, if_neg (by omega)]
theorem boxes_zero {g : Nat → Nat} : ∀ m, boxes g m = 0 → ∀ k, k < m → g k = 0 := by
  intro m
  induction m with
  | zero => intro _ k hk; omega
  | succ m ih =>
    intro h k hk
    simp only [boxes] at h
    by_cases c : k = m
    · subst c; omega
    · exact ih (by omega) k (by omega)
theorem X0_cw21 (hA : Inj A) {V g : Nat → Nat} (hV : okS V) (hg : sbS V g) {nl : Nat → Bool} {ws : Nat → Int64} {ed : Nat → Int32} {n num : Nat} (hb : boxes g 8 = n + 1) (hnum : rkt V g 8 0 = num) (hnum2 : num < 181) (h0 : nl 0 = true) (hed : ∀ r v, r ≤ 8 → v < 17 → ed (r * 17 + v) = iN (en V (8 - r) r v)) (hv16 : ∀ k, V k ≤ 16) (hws : WI V nl ws num) : ∀ (i fu : Nat) (F : Mem), i ≤ 8 → i < fu → F (A 24) = fc24 A → F (A 26) = .inl (0, 153, .inl ed) → isS F (A 28) (A 29) g → F (A 25) = .inl (1, 1448, .inr (.inl (wSet V nl ws num (n + 1) g i))) → fX0_countWays_21 fu (A 24) (iN num) (bI (nl n)) (jN (Wf nl (n + 1) g i)) (iN i + (-1)) F = some (va_up F (A 25) (.inl (1, 1448, .inr (.inl (wSet V nl ws num (n + 1) g 0))))) := by
  intro i
  induction i with
  | zero =>
    intro fu F h1 h2 h24 h26 hG h25
    obtain ⟨f', rfl⟩ : ∃ f', fu = f' + 1 := ⟨fu - 1, by omega⟩
    rw [fX0_countWays_21.eq_2, if_pos (by decide), up_self h25]
  | succ i ih =>
    intro fu F h1 h2 h24 h26 hG h25
    obtain ⟨f', rfl⟩ : ∃ f', fu = f' + 1 := ⟨fu - 1, by omega⟩
    have gle := hg.2.1 i
    have v16 := hv16 i
    have g24 : ∀ s, g s ≤ 24 := fun s => by have := hg.2.1 s; have := hv16 s; omega
    have fin : ∀ x : Int64, x = jN (Wf nl (n + 1) g i) → fX0_countWays_91 (fX0_countWays_21 f') (A 24) (iN num) (bI (nl n)) x (iN i) F = some (va_up F (A 25) (.inl (1, 1448, .inr (.inl (wSet V nl ws num (n + 1) g 0))))) := by
      intro x hx
      generalize hF1 : va_up F (A 25) (.inl (1, 1448, .inr (.inl (wSet V nl ws num (n + 1) g i)))) = F1
      have k1 : Agr A [25] F F1 := by rw [← hF1]; exact (Agr.refl A _ F).up hA (by omega) (by simp)
      have q := ih f' F1 (by omega) (by omega) ((k1 24 (by omega) (by simp)).trans h24) ((k1 26 (by omega) (by simp)).trans h26) (isS_fr hG (k1 _ (by omega) (by simp)) (k1 _ (by omega) (by simp))) (by rw [← hF1, up_eq])
      rw [← hF1, up_up, hF1] at q
      unfold fX0_countWays_91
      rw [gfR_at (k := 0) (v := A 25) h24 rfl, Option.bind_some, il8, iN_mul, iN_add, hx, wrJ_at h25 (by omega) (by omega), wSet_s V nl ws num (n + 1) g (by omega), hF1, Option.bind_some]
      exact q
    have sp := Wf_split (nl := nl) (n := n) (i := i) (g := g) (by omega)
    rw [fX0_countWays_21.eq_2, iN_pred, if_neg (iN_neg (by omega)), gfR_at (k := 3) (v := A 28) h24 rfl, Option.bind_some, obj_of hG.1, Option.bind_some, X4_endsColumn hG hg.2.2 g24 (by omega), Option.bind_some]
    by_cases c : g (i + 1) < g i
    · rw [if_pos c, if_neg ne10]
      rw [ivN_pos c] at sp
      have dk := rkt_dcb (S := V) (g := g) hg.2.1 8 0 i i (by omega) (by omega) (by omega)
      rw [hnum] at dk
      have hsub : sbS V (dcb g i) := ⟨par_dcb hg.1 c, fun k => by
        unfold dcb
        by_cases e : k = i
        · subst e; rw [upL_at]; omega
        · rw [upL_ne e]; exact hg.2.1 k, fun k hk => by unfold dcb; rw [upL_ne (by omega)]; exact hg.2.2 k hk⟩
      have hbx := boxes_dcb (g := g) (j := i) 8 (by omega) (by omega)
      have epos : 0 < en V (8 - i - 1) (i + 1) (g i - 1) := by
        have := en_mono V (8 - i - 1) (i + 1) 0 (g i - 1) (Nat.zero_le _)
        rw [en_z] at this
        omega
      have rd : ∀ t, t = (if nl n = true then 0 else i) → rdJ F (A 25) (iN (rkt V (dcb g i) 8 0 * 8 + t)) = some (jN (Wf nl n (dcb g i) t)) := by
        intro t ht
        have ht8 : t < 8 := by rw [ht]; split <;> omega
        rw [rdJ_at h25 (by omega) (by omega)]
        congr 1
        unfold wSet
        rw [if_neg (by omega)]
        by_cases n0 : n = 0
        · subst n0
          rw [h0, if_pos rfl] at ht
          have z : rkt V (dcb g i) 8 0 = 0 := rkt_zero 8 0 (fun k _ => by
            by_cases k8 : k < 8
            · exact boxes_zero 8 (by omega) k k8
            · exact hsub.2.2 k (by omega))
          rw [z, ht]
          exact hws.1
        · have := hws.2 (dcb g i) hsub (by omega) (by omega) t ht8
          rw [this, show boxes (dcb g i) 8 = n by omega]
      rw [gfR_at (k := 1) (v := A 26) h24 rfl, Option.bind_some, gfR_at (k := 3) (v := A 28) h24 rfl, Option.bind_some, gfR_at (k := 0) (v := A 29) hG.1 rfl, Option.bind_some, rdI_at hG.2 (by omega) (by omega), Option.bind_some, iN_one, show (17 : Int32) = iN 17 from rfl, iN_mul, iN_add, il1, iN_sub (by omega), show (i + 1) * 17 + g i - 1 = (i + 1) * 17 + (g i - 1) by omega, rdI_at h26 (by omega) (by omega), Option.bind_some, hed (i + 1) (g i - 1) (by omega) (by omega), gfR_at (k := 0) (v := A 25) h24 rfl, Option.bind_some, show 8 - (i + 1) = 8 - i - 1 by omega, iN_sub (by omega), show num - en V (8 - i - 1) (i + 1) (g i - 1) = rkt V (dcb g i) 8 0 by omega, il8, iN_mul]
      unfold fX0_countWays_87
      rw [il0, iN_add, iN_add]
      by_cases d : nl n = true
      · have rd0 := rd 0 (by rw [if_pos d])
        rw [if_pos d] at sp
        rw [if_neg (show ¬ bI (nl n) = iN 0 by rw [d]; decide), rd0, Option.bind_some, jN_add]
        exact fin _ (by rw [sp])
      · have rd1 := rd i (by rw [if_neg d])
        rw [if_neg d] at sp
        have d' : nl n = false := by
          cases hh : nl n
          · rfl
          · exact absurd hh d
        rw [if_pos (show bI (nl n) = iN 0 by rw [d']; rfl), rd1, Option.bind_some, jN_add]
        exact fin _ (by rw [sp])
    · rw [if_neg c, if_pos rfl]
      rw [ivN_neg c] at sp
      exact fin _ (by rw [sp]; rfl)
end FILC2
