section REC2
variable {A : Nat → Nat} {F : Mem} {S W : Nat → Nat → Nat} {N : Nat → Nat} {PT : Nat → Nat → Nat} {PO : Nat → Nat} {QT : Nat → Nat → Nat} {QO : Nat → Nat} {aw : Bool} {th : Int32}
theorem X7_ll13 {a la ta : Nat} {T : Nat → Nat → Nat} {O : Nat → Nat} (h : isT F a la ta T O) (hO : okO O) {r x : Nat} (hr : r < 16) (hx : x < 100) (hl : ∀ d, d < O r → T r d < 100) : ∀ (c n : Nat), c < n → c < O r → fX7_lastLess_13 n a (iN r) (iN x) (iN c) F = some (iN (llF (T r) x c), F) := by
  intro c
  have h24 := hO.1 r
  induction c with
  | zero =>
    intro n h1 h2
    obtain ⟨n, rfl⟩ : ∃ m, n = m + 1 := ⟨n - 1, by omega⟩
    rw [fX7_lastLess_13.eq_2, if_pos (show iN 0 ≤ 0 by decide)]
    rfl
  | succ c ih =>
    intro n h1 h2
    obtain ⟨n, rfl⟩ : ∃ m, n = m + 1 := ⟨n - 1, by omega⟩
    have hv := hl (c + 1) h2
    rw [fX7_lastLess_13.eq_2, if_neg (show ¬ iN (c + 1) ≤ 0 from fun w => by have := (iN_le (b := 0) (by omega) (by omega)).mp w; omega), obj_of h.1, Option.bind_some, X7_letterAt h hO.1 hO.2 (by omega) (by omega), Option.bind_some, if_pos h2]
    simp only
    show _ = some (iN (if T r (c + 1) < x then c + 1 else llF (T r) x c), F)
    by_cases q : T r (c + 1) < x
    · rw [if_pos q, if_pos ((iN_lt (by omega) (by omega)).mpr q)]
    · rw [if_neg q, if_neg (fun w => q ((iN_lt (by omega) (by omega)).mp w)), iN_pred]
      exact ih n (by omega) (by omega)
theorem X7_lastLess {a la ta : Nat} {T : Nat → Nat → Nat} {O : Nat → Nat} (h : isT F a la ta T O) (hO : okO O) {r x : Nat} (hr : r < 16) (h0 : 0 < O r) (hx : x < 100) (hl : ∀ d, d < O r → T r d < 100) : mX7_lastLess F a (iN r) (iN x) = some (iN (llF (T r) x (O r - 1)), F) := by
  have FB := FU_big
  have h24 := hO.1 r
  have e : iN (O r) - 1 = iN (O r - 1) := by rw [il1, iN_sub (by omega)]
  unfold mX7_lastLess
  rw [gfR_at (k := 0) (v := la) h.1 rfl, Option.bind_some, rdI_at h.2.1 hr (by omega), Option.bind_some, e, if_neg (iN_neg (by omega))]
  exact X7_ll13 h hO hr hx hl (O r - 1) FU (by omega) (by omega)
theorem X7_tk42 {a la ta : Nat} {O : Nat → Nat} (hO : okO O) : ∀ (r n : Nat) (F : Mem) (T : Nat → Nat → Nat) (x : Nat), r ≤ 16 → r < n → isT F a la ta T O → (∀ s, s < r → 0 < O s) → x < 100 → (∀ s d, d < O s → T s d < 100) → fX7_takeByRows_42 n a (iN x) (iN r + (-1)) F = some (iN (tkF O r T x).2, va_up F ta (cT (tkF O r T x).1)) := by
  intro r
  induction r with
  | zero =>
    intro n F T x h1 h2 h h0 hx hl
    obtain ⟨n, rfl⟩ : ∃ m, n = m + 1 := ⟨n - 1, by omega⟩
    rw [fX7_takeByRows_42.eq_2, if_pos (by decide)]
    show some (iN x, F) = some (iN x, va_up F ta (cT T))
    rw [up_self h.2.2]
  | succ r ih =>
    intro n F T x h1 h2 h h0 hx hl
    obtain ⟨n, rfl⟩ : ∃ m, n = m + 1 := ⟨n - 1, by omega⟩
    have p := h0 r (by omega)
    have l := llF_le (T r) x (O r - 1)
    have h' := isT_putT (T' := upT T r (llF (T r) x (O r - 1)) x) h
    have e := ih n _ (upT T r (llF (T r) x (O r - 1)) x) (T r (llF (T r) x (O r - 1))) (by omega) (by omega) h' (fun s hs => h0 s (by omega)) (hl r _ (by omega)) (fun s d hd => by
      by_cases w : s = r ∧ d = llF (T r) x (O r - 1)
      · rw [w.1, w.2, upT_at]; exact hx
      · rw [upT_ne w]; exact hl s d hd)
    rw [iN_pred, fX7_takeByRows_42.eq_2, if_neg (iN_neg (by omega)), obj_of h.1, Option.bind_some, X7_lastLess h hO (by omega) p hx (hl r), Option.bind_some]
    simp only
    rw [obj_of h.1, Option.bind_some, X7_replace h hO.1 hO.2 (by omega) (by omega), Option.bind_some]
    simp only
    rw [e, up_up]
    rfl
theorem X7_takeByRows {a la ta : Nat} {O : Nat → Nat} {T : Nat → Nat → Nat} {q : Nat} (h : isT F a la ta T (upL O q (O q + 1))) (hq : q < 16) (hO : okO (upL O q (O q + 1))) (hp : par (upL O q (O q + 1))) (hl : ∀ s d, d < upL O q (O q + 1) s → T s d < 100) : mX7_takeByRows F a (iN q) = some (iN (tkB O q T).2, va_up (va_up F la (cO O)) ta (cT (tkB O q T).1)) := by
  have FB := FU_big
  have hq24 := hO.1 q
  rw [upL_at] at hq24
  have hO' : okO O := ⟨fun s => by
    have := hO.1 s
    by_cases w : s = q
    · subst w; rw [upL_at] at this; omega
    · rw [upL_ne w] at this; exact this, fun s hs => by
    have := hO.2 s hs
    rw [upL_ne (by omega)] at this
    exact this⟩
  have rl : rdI F 0 la (iN q) = some (iN (O q + 1)) := by rw [rdI_at h.2.1 hq (by omega), upL_at]
  have e1 : iN (O q + 1) - 1 = iN (O q) := by rw [il1, iN_sub (by omega), Nat.add_sub_cancel]
  have wl : wrI F la (iN q) (iN (O q)) = some (va_up F la (cO O)) := by
    rw [wrI_at h.2.1 hq (by omega), updO, upL_up, upL_self rfl]
  have h' := isT_putO (O' := O) h
  have e := X7_tk42 hO' q FU _ T (T q (O q)) (by omega) (by omega) h' (ups_pos hp) (hl q _ (by rw [upL_at]; omega)) (fun s d hd => hl s d (ups_sub hd))
  have e3 : iN q * 24 + iN (O q) = iN (q * 24 + O q) := by rw [show (24 : Int32) = iN 24 from rfl, iN_mul, iN_add]
  unfold mX7_takeByRows
  rw [gfR_at (k := 0) (v := la) h.1 rfl, Option.bind_some, rl, Option.bind_some, if_neg (show ¬ iN (O q + 1) = 0 from fun w => by have := (iN_inj (b := 0) (by omega) (by omega)).mp w; omega), Option.bind_some, rl, Option.bind_some, e1, wl, Option.bind_some, gfR_at (k := 1) (v := ta) h'.1 rfl, Option.bind_some, gfR_at (k := 0) (v := la) h'.1 rfl, Option.bind_some, rdI_at h'.2.1 hq (by omega), Option.bind_some, e3, rdI_at h'.2.2 (by omega) (by omega), Option.bind_some, show (q * 24 + O q) / 24 = q by omega, show (q * 24 + O q) % 24 = O q by omega, Int32.sub_eq_add_neg]
  exact e
theorem his_okO {n : Nat} {q : Nat → Nat} {Os : Nat → Nat → Nat} (H : hisQ n q Os QT) (hn : n ≤ 16) {k : Nat} (hk : k ≤ n) : okO (Os k) := ⟨fun s => by
  have a := his_box H k hk
  have b := boxes_row (O := Os k) 16 (by omega)
  have c := par_le (his_par H k hk) (Nat.zero_le s)
  omega, his_16 H k hk⟩
theorem C_rte2 {n : Nat} {q : Nat → Nat} {Os : Nat → Nat → Nat} {T : Nat → Nat → Nat} (H : hisQ n q Os QT) (hn : n ≤ 16) (hQO : ∀ s, Os n s = QO s) {k : Nat} (hk : k < n) (hB : gB A F aw) (hQ : isT F (A 6) (A 7) (A 8) QT QO) (hT : isT F (A 9) (A 10) (A 11) T (Os (k + 1))) : ∀ (m f r : Nat), r + m = 15 → m < f → r ≤ q k → fX9_rowThatEndsWith_2 f (A 0) (iN (k + 1)) (iN r) F = some (iN (q k), F) := by
  have q16 := (H.2 k hk).1
  have oQ : okO QO := by
    have e : Os n = QO := funext hQO
    rw [← e]
    exact his_okO H hn (Nat.le_refl _)
  have o1 := his_okO H hn (k := k + 1) (by omega)
  have val : ∀ r, r < 16 → ∃ v, v < 100 ∧ mX7_letterAt F (A 6) (iN r) (iN (Os (k + 1) r) - 1) = some (iN v, F) ∧ (v = k + 1 ↔ r = q k) := by
    intro r hr
    have o24 := o1.1 r
    by_cases z : Os (k + 1) r = 0
    · refine ⟨0, by omega, ?_, fun w => by omega, fun w => ?_⟩
      · rw [z, X7_letterAny hQ oQ]
        unfold enV
        rw [if_neg (iN_neg (by omega)), if_pos (by decide)]
        rfl
      · have := his_at H hk
        rw [← w] at this
        omega
    · have mo := his_mono H (k + 1) n (by omega) (Nat.le_refl _) r
      rw [hQO r] at mo
      have le := his_le H (k + 1) (by omega) r (Os (k + 1) r - 1) (by omega)
      refine ⟨QT r (Os (k + 1) r - 1), by omega, ?_, his_row H hk (by omega)⟩
      rw [il1, iN_sub (by omega), X7_letterAt hQ oQ.1 oQ.2 (by omega) (by omega), if_pos (by omega)]
  intro m
  induction m with
  | zero =>
    intro f r h1 h2 h3
    obtain ⟨f, rfl⟩ : ∃ m, f = m + 1 := ⟨f - 1, by omega⟩
    rw [fX9_rowThatEndsWith_2.eq_2, show r = 15 by omega, if_pos (by decide), show q k = 15 by omega]
    rfl
  | succ m ih =>
    intro f r h1 h2 h3
    obtain ⟨f, rfl⟩ : ∃ m, f = m + 1 := ⟨f - 1, by omega⟩
    obtain ⟨v, v1, v2, v3⟩ := val r (by omega)
    rw [fX9_rowThatEndsWith_2.eq_2, if_neg (show ¬ (15 : Int32) ≤ iN r from fun w => by have := (iN_le (a := 15) (by omega) (by omega)).mp w; omega), gfR_at (k := 3) (v := A 6) hB.1 rfl, Option.bind_some, gfR_at (k := 5) (v := A 9) hB.1 rfl, Option.bind_some, gfR_at (k := 0) (v := A 10) hT.1 rfl, Option.bind_some, rdI_at hT.2.1 (by omega) (by omega), Option.bind_some, obj_of hQ.1, Option.bind_some, v2, Option.bind_some]
    simp only
    by_cases e : r = q k
    · rw [if_pos ((iN_inj (by omega) (by omega)).mpr (v3.mpr e)), e]
    · rw [if_neg (fun w => e (v3.mp ((iN_inj (by omega) (by omega)).mp w))), iN_one]
      exact ih f (r + 1) (by omega) (by omega) (by omega)
theorem C_rc55 (hA : Inj A) {j : Nat} (hj : j < 2) {n : Nat} {q : Nat → Nat} {Os : Nat → Nat → Nat} (H : hisQ n q Os QT) (hn : n ≤ 16) (hQO : ∀ s, Os n s = QO s) : ∀ (k f : Nat) (F : Mem) (T : Nat → Nat → Nat) (V : Nat → Nat), k ≤ n → k < f → gB A F aw → isT F (A 6) (A 7) (A 8) QT QO → isT F (A 9) (A 10) (A 11) T (Os k) → isW F (A (45 + 2 * j)) (A (46 + 2 * j)) V n → (∀ s d, d < Os k s → T s d < 100) → ∃ F' T', fX9_recover_55 f (A 0) (A (45 + 2 * j)) (iN k) F = some (.inr (), F') ∧ isW F' (A (45 + 2 * j)) (A (46 + 2 * j)) (rcL q Os k T V) n ∧ isT F' (A 9) (A 10) (A 11) T' I0 ∧ Agr A [10, 11, 46 + 2 * j] F F' := by
  have FB := FU_big
  intro k
  induction k with
  | zero =>
    intro f F T V h1 h2 hB hQ hT hW hl
    obtain ⟨f, rfl⟩ : ∃ m, f = m + 1 := ⟨f - 1, by omega⟩
    refine ⟨F, T, ?_, hW, by rw [← H.1]; exact hT, Agr.refl A _ F⟩
    rw [fX9_recover_55.eq_2, if_pos (by decide)]
  | succ k ih =>
    intro f F T V h1 h2 hB hQ hT hW hl
    obtain ⟨f, rfl⟩ : ∃ m, f = m + 1 := ⟨f - 1, by omega⟩
    obtain ⟨a1, a2, a3, a4⟩ := H.2 k (by omega)
    have o1 := his_okO H hn (k := k + 1) (by omega)
    have row := C_rte2 H hn hQO (k := k) (by omega) hB hQ hT 15 FU 0 (by omega) (by omega) (by omega)
    rw [a2] at hT hl a3 o1
    have tk := X7_takeByRows hT a1 o1 a3 hl
    obtain ⟨b1, b2⟩ := tkB_p (fun y => y < 100) a3 hl
    have hT1 := isT_putT (T' := (tkB (Os k) (q k) T).1) (isT_putO (O' := Os k) hT)
    have k1 : Agr A [10, 11, 46 + 2 * j] F (va_up (va_up F (A 10) (cO (Os k))) (A 11) (cT (tkB (Os k) (q k) T).1)) := ((Agr.refl A _ F).up hA (by omega) (by simp)).up hA (by omega) (by simp)
    have hW1 := isW_at hA (c := 11) (x := cT (tkB (Os k) (q k) T).1) (isW_at hA (c := 10) (x := cO (Os k)) hW (by omega) (by omega) (by omega) (by omega) (by omega)) (by omega) (by omega) (by omega) (by omega) (by omega)
    generalize hF1 : va_up (va_up F (A 10) (cO (Os k))) (A 11) (cT (tkB (Os k) (q k) T).1) = F1 at *
    have k2 : Agr A [10, 11, 46 + 2 * j] F (va_up F1 (A (46 + 2 * j)) (cO (upL V k (tkB (Os k) (q k) T).2))) := k1.up hA (by omega) (by simp)
    have hT2 := isT_at hA (j := 9) (c := 46 + 2 * j) (x := cO (upL V k (tkB (Os k) (q k) T).2)) hT1 (by omega) (by omega) (by omega)
    have hW2 : isW (va_up F1 (A (46 + 2 * j)) (cO (upL V k (tkB (Os k) (q k) T).2))) (A (45 + 2 * j)) (A (46 + 2 * j)) (upL V k (tkB (Os k) (q k) T).2) n := ⟨(up_ne (hA.ne (by omega) (by omega) (by omega))).trans hW1.1, up_eq _ _ _⟩
    obtain ⟨F', T', e1, e2, e3, e4⟩ := ih f _ _ _ (by omega) (by omega) (gB_fr k2 hB (by simp; omega)) (isTA_fr (j := 6) k2 hQ (by omega) (by simp; omega)) hT2 hW2 b2
    refine ⟨F', T', ?_, e2, e3, k2.trans e4⟩
    have em : iN (k + 1) - 1 = iN k := by rw [il1, iN_sub (by omega), Nat.add_sub_cancel]
    rw [fX9_recover_55.eq_2, if_neg (show ¬ iN (k + 1) < 1 from fun w => by have := (iN_lt (b := 1) (by omega) (by omega)).mp w; omega), gfR_at (k := 0) (v := A (46 + 2 * j)) hW.1 rfl, Option.bind_some, gfR_at (k := 5) (v := A 9) hB.1 rfl, Option.bind_some, obj_of hB.1, Option.bind_some, show mX9_rowThatEndsWith F (A 0) (iN (k + 1)) = _ from row, Option.bind_some]
    simp only
    rw [obj_of hT.1, Option.bind_some, tk, Option.bind_some]
    simp only
    rw [em, wrI_at hW1.2 (by omega) (by omega), updO, Option.bind_some, iN_pred]
    exact e1
theorem C_recover (hA : Inj A) (h : CC A F S W N PT PO QT QO aw) (hP : okP PT PO) {j : Nat} (hj : j < 2) : (aw = true → mX9_recover F (A 0) (iN j) = some (.inl ISE, F)) ∧ (aw = false → ∀ (n : Nat) (q : Nat → Nat) (Os : Nat → Nat → Nat), n ≤ 16 → hisQ n q Os QT → (∀ s, Os n s = PO s) → (∀ s, QO s = PO s) → ∃ F', mX9_recover F (A 0) (iN j) = some (.inr (), F') ∧ CC A F' S (upK W j (rcL q Os n PT (W j))) (upL N j n) PT PO QT QO aw ∧ Agr A CTs F F') := by
  have FB := FU_big
  obtain ⟨p1, p2, p3, p4⟩ := hP
  constructor
  · intro ha
    subst ha
    unfold mX9_recover
    rw [obj_of h.1.1, Option.bind_some, C_word h.1 hj, thn_r, gfI_at (k := 4) (v := bI true) h.1.1 rfl, Option.bind_some, if_neg (show ¬ bI true = 0 from ne10)]
  · intro ha n q Os hn H hPO hQO
    subst ha
    obtain ⟨h1, h2, h3, h4, h5, h6, h7, h8, h9, h10, h11, h12, h13⟩ := h
    obtain ⟨T9, O9, t1, t2⟩ := h6
    have cp := X7_copyFrom h2 t1 p2.2 t2 (hA.ne (by omega) (by omega) (by omega))
    have eO : Os n = PO := funext hPO
    have en : boxes PO 16 = n := by rw [← eO]; exact his_box H n (Nat.le_refl _)
    have hT1 := isT_putT (T' := mixT PT T9) (isT_putO (O' := PO) t1)
    have k1 : Agr A [10, 11, 45 + 2 * j, 46 + 2 * j] F (va_up (va_up F (A 10) (cO PO)) (A 11) (cT (mixT PT T9))) := ((Agr.refl A _ F).up hA (by omega) (by simp)).up hA (by omega) (by simp)
    generalize hF1 : va_up (va_up F (A 10) (cO PO)) (A 11) (cT (mixT PT T9)) = F1 at *
    have hB1 : gB A F1 false := gB_fr k1 h1 (by simp; omega)
    have hP1 := isTA_fr (j := 3) k1 h2 (by omega) (by simp; omega)
    have cb := X7_countBoxes hP1
    rw [en] at cb
    have hW1 : isW F1 (A (45 + 2 * j)) (A (46 + 2 * j)) (W j) (N j) := by
      have w := h5 j hj
      rw [← hF1]
      exact isW_at hA (isW_at hA w (by omega) (by omega) (by omega) (by omega) (by omega)) (by omega) (by omega) (by omega) (by omega) (by omega)
    have pf1 : pf F1 (A (45 + 2 * j)) 7 1 (.int (iN n)) = some (va_up F1 (A (45 + 2 * j)) (.inr (7, [.ref (A (46 + 2 * j)), .int (iN n)]))) := pf_at hW1.1 (by simp)
    have hW2 := isW_cut (m := n) hW1
    have k2 : Agr A [10, 11, 45 + 2 * j, 46 + 2 * j] F (va_up F1 (A (45 + 2 * j)) (.inr (7, [.ref (A (46 + 2 * j)), .int (iN n)]))) := k1.up hA (by omega) (by simp)
    have hT2 := isT_at hA (j := 9) (c := 45 + 2 * j) (x := .inr (7, [.ref (A (46 + 2 * j)), .int (iN n)])) hT1 (by omega) (by omega) (by omega)
    generalize hF2 : va_up F1 (A (45 + 2 * j)) (.inr (7, [.ref (A (46 + 2 * j)), .int (iN n)])) = F2 at *
    have mx : ∀ s d, d < PO s → mixT PT T9 s d = PT s d := fun s d hd => by
      unfold mixT
      by_cases w : s < 16
      · rw [if_pos w]
      · have := p2.2 s (by omega)
        omega
    obtain ⟨F3, T', e1, e2, e3, e4⟩ := C_rc55 hA hj H hn (fun s => (hPO s).trans (hQO s).symm) n FU F2 (mixT PT T9) (W j) (Nat.le_refl _) (by omega) (gB_fr k2 h1 (by simp; omega)) (isTA_fr (j := 6) k2 h3 (by omega) (by simp; omega)) (by rw [eO]; exact hT2) hW2 (fun s d hd => by
      rw [eO] at hd
      rw [mx s d hd]
      have := p4 s d hd
      omega)
    have er : rcL q Os n (mixT PT T9) (W j) = rcL q Os n PT (W j) := by
      funext i
      by_cases w : i < n
      · exact rcL_two H n _ _ _ _ (Nat.le_refl _) (fun s d hd => mx s d (by rw [← eO]; exact hd)) i w
      · rw [rcL_high _ _ _ _ (by omega), rcL_high _ _ _ _ (by omega)]
    rw [er] at e2
    have k3 : Agr A [10, 11, 45 + 2 * j, 46 + 2 * j] F F3 := k2.trans (e4.mono (fun t w => by simp at w ⊢; omega))
    refine ⟨F3, ?_, ⟨gB_fr k3 h1 (by simp; omega), isTA_fr (j := 3) k3 h2 (by omega) (by simp; omega), isTA_fr (j := 6) k3 h3 (by omega) (by simp; omega), gS_fr k3 h4 (fun t w => by simp at w; omega), gW_up hA h5 hj k3 (fun t w => by simp at w; omega) e2, ⟨T', I0, e3, fun _ _ => rfl⟩, gT_fr k3 h7 (by omega) (by simp; omega), gU_fr k3 h8 (by omega) (by simp; omega), gH_fr k3 h9 (by simp; omega), gO_fr k3 h10 (by simp; omega), gC_fr k3 h11 (by simp; omega), gF_fr k3 h12 (by simp; omega), gP_fr k3 h13 (by simp; omega)⟩, k3.mono (CTs_of (fun t w => by simp at w; omega))⟩
    unfold mX9_recover
    rw [obj_of h1.1, Option.bind_some, C_word h1 hj, thn_r, gfI_at (k := 4) (v := bI false) h1.1 rfl, Option.bind_some, if_pos (show bI false = 0 from rfl), gfR_at (k := 5) (v := A 9) h1.1 rfl, Option.bind_some, gfR_at (k := 2) (v := A 3) h1.1 rfl, Option.bind_some, obj_of t1.1, Option.bind_some, cp, Option.bind_some, gfR_at (k := 2) (v := A 3) hB1.1 rfl, Option.bind_some, obj_of hP1.1, Option.bind_some, cb, Option.bind_some]
    simp only
    rw [if_neg (show ¬ (16 : Int32) < iN n from fun w => by have := (iN_lt (a := 16) (by omega) (by omega)).mp w; omega), pf1, Option.bind_some, gfI_at (k := 1) (v := iN n) hW2.1 rfl, Option.bind_some]
    exact e1
theorem C_recover_no (h : CC A F S W N PT PO QT QO aw) {x : Int32} (hx : x < 0 ∨ (¬ x < 0 ∧ iN 2 ≤ x)) : mX9_recover F (A 0) x = some (.inl IOOB, F) := by
  unfold mX9_recover
  rw [obj_of h.1.1, Option.bind_some, C_noword hx, thn_l]
end REC2
