section REC3
variable {A : Nat → Nat} {F : Mem} {S W : Nat → Nat → Nat} {N : Nat → Nat} {PT : Nat → Nat → Nat} {PO : Nat → Nat} {QT : Nat → Nat → Nat} {QO : Nat → Nat} {aw : Bool} {th : Int32}
theorem X10_rdL0 {b bx ln : Nat} {fs : List Value} {M : Nat → Nat → Nat → Nat} {L : Nat → Nat → Nat} (h : isR F b fs bx ln M L) {r : Nat} (hr : r < 24) : rdI F 0 ln (iN r) = some (iN (L 0 r)) := by
  have e := X10_rdL h (k := 0) (r := r) (by omega) hr
  rwa [show (24 : Int32) * iN 0 + iN r = iN r by rw [show (24 : Int32) = iN 24 from rfl, iN_mul, iN_add]; simp] at e
theorem X10_cp27 {K : Nat → Int32 → Int32 → Mem → Option Mem} {b bx ln : Nat} {fs : List Value} {L : Nat → Nat → Nat} {r : Nat} (hr : r < 24) (hL : L 0 r ≤ 24) : ∀ (m n c : Nat) (F : Mem) (M : Nat → Nat → Nat → Nat), c + m = L 0 r → m < n → isR F b fs bx ln M L → ∃ T', fX10_copyP_27 K n b (iN 1) (iN r) (iN c) F = K b (iN 1) (iN r) (va_up F bx (cM (upK M 1 T'))) ∧ (∀ s d, (s ≠ r ∨ d < c) → T' s d = M 1 s d) ∧ ∀ d, c ≤ d → d < L 0 r → T' r d = M 0 r d := by
  intro m
  induction m with
  | zero =>
    intro n c F M h1 h2 h
    obtain ⟨n, rfl⟩ : ∃ m, n = m + 1 := ⟨n - 1, by omega⟩
    refine ⟨M 1, ?_, fun s d _ => rfl, fun d a b => by omega⟩
    have eM : upK M 1 (M 1) = M := by
      funext j
      by_cases w : j = 1
      · subst w; rw [upK_at]
      · rw [upK_ne w]
    rw [fX10_copyP_27.eq_2, gfR_at h.1 h.2.2.1, Option.bind_some, X10_rdL0 h hr, Option.bind_some, if_pos ((iN_le (by omega) (by omega)).mpr (by omega)), eM, up_self h.2.2.2.1]
  | succ m ih =>
    intro n c F M h1 h2 h
    obtain ⟨n, rfl⟩ : ∃ m, n = m + 1 := ⟨n - 1, by omega⟩
    have h' := isR_putM (M' := upK M 1 (upT (M 1) r c (M 0 r c))) h
    obtain ⟨T', e1, e2, e3⟩ := ih n (c + 1) _ _ (by omega) (by omega) h'
    rw [up_up, upK_up] at e1
    refine ⟨T', ?_, fun s d w => ?_, fun d a b => ?_⟩
    · rw [fX10_copyP_27.eq_2, gfR_at h.1 h.2.2.1, Option.bind_some, X10_rdL0 h hr, Option.bind_some, if_neg (fun w => by have := (iN_le (by omega) (by omega)).mp w; omega), gfR_at h.1 h.2.1, Option.bind_some, X10_box, Option.bind_some]
      simp only
      rw [gfR_at h.1 h.2.1, Option.bind_some, show mX10_box F 0 (iN r) (iN c) = _ from X10_box F 0 r c, Option.bind_some]
      simp only
      rw [X10_rd h (by omega) hr (by omega), Option.bind_some, X10_wr h (by omega) hr (by omega), Option.bind_some, iN_one]
      exact e1
    · rw [e2 s d (by omega)]
      rw [upK_at, upT_ne (by omega)]
    · by_cases w : d = c
      · subst w
        rw [e2 r d (by omega), upK_at, upT_at]
      · rw [e3 d (by omega) b]
        rw [upK_ne (by omega)]
theorem R_cp2 (hA : Inj A) {L0 : Nat → Nat} (hL : ∀ s, L0 s ≤ 24) {cd od : Int32} : ∀ (m n r : Nat) (F : Mem) (M : Nat → Nat → Nat → Nat) (L : Nat → Nat → Nat), r + m = 24 → m < n → isR F (A 49) (rfs A th (bI aw) cd od) (A 53) (A 54) M L → L 0 = L0 → (∀ s, s < r → L 1 s = L0 s) → (∀ s d, s < r → d < L0 s → M 1 s d = M 0 s d) → ∃ F' T', fX10_copyP_2 n (A 49) (iN 1) (iN r) F = some F' ∧ F' (A 53) = cM (upK M 1 T') ∧ F' (A 54) = cL (upK L 1 L0) ∧ (∀ s d, s < 24 → d < L0 s → T' s d = M 0 s d) ∧ Agr A [53, 54] F F' := by
  have FB := FU_big
  intro m
  induction m with
  | zero =>
    intro n r F M L h1 h2 h hL0 a1 a2
    obtain ⟨n, rfl⟩ : ∃ m, n = m + 1 := ⟨n - 1, by omega⟩
    have : r = 24 := by omega
    subst this
    have eM : upK M 1 (M 1) = M := by
      funext j
      by_cases w : j = 1
      · subst w; rw [upK_at]
      · rw [upK_ne w]
    refine ⟨F, M 1, ?_, by rw [eM]; exact h.2.2.2.1, ?_, fun s d w1 w2 => a2 s d w1 w2, Agr.refl A _ F⟩
    · rw [fX10_copyP_2.eq_2, if_pos (by decide)]
    · rw [h.2.2.2.2]
      refine cL_congr (fun k s hs => ?_)
      by_cases w : k = 1
      · subst w; rw [upK_at]; exact a1 s hs
      · rw [upK_ne w]
  | succ m ih =>
    intro n r F M L h1 h2 h hL0 a1 a2
    obtain ⟨n, rfl⟩ : ∃ m, n = m + 1 := ⟨n - 1, by omega⟩
    have hr := hL r
    have h' := isR_putL (L' := upK L 1 (upL (L 1) r (L0 r))) h
    have z0 : upK L 1 (upL (L 1) r (L0 r)) 0 = L0 := by rw [upK_ne (by omega)]; exact hL0
    obtain ⟨T1, b1, b2, b3⟩ := X10_cp27 (K := fun (x0 : Nat) (x1 : Int32) (x2 : Int32) (F : Mem) => (fX10_copyP_2 n) x0 x1 (x2 + 1) F) (r := r) (L := upK L 1 (upL (L 1) r (L0 r))) (by omega) (by rw [z0]; exact hr) (L0 r) FU 0 _ M (by rw [z0]; omega) (by omega) h'
    have h'' := isR_putM (M' := upK M 1 T1) h'
    have k2 : Agr A [53, 54] F (va_up (va_up F (A 54) (cL (upK L 1 (upL (L 1) r (L0 r))))) (A 53) (cM (upK M 1 T1))) := ((Agr.refl A _ F).up hA (by omega) (by simp)).up hA (by omega) (by simp)
    obtain ⟨F', T', c1, c2, c3, c4, c5⟩ := ih n (r + 1) _ _ _ (by omega) (by omega) h'' z0 (fun s hs => by
      rw [upK_at]
      by_cases w : s = r
      · subst w; rw [upL_at]
      · rw [upL_ne w]; exact a1 s (by omega)) (fun s d hs hd => by
      rw [upK_at, upK_ne (by omega)]
      by_cases w : s = r
      · subst w; exact b3 d (Nat.zero_le _) (by rw [z0]; exact hd)
      · rw [b2 s d (Or.inl w)]; exact a2 s d (by omega) hd)
    rw [upK_up] at c2 c3
    refine ⟨F', T', ?_, c2, c3, fun s d w1 w2 => (c4 s d w1 w2).trans (by rw [upK_ne (by omega)]), k2.trans c5⟩
    rw [← c1, fX10_copyP_2.eq_2, if_neg (show ¬ (24 : Int32) ≤ iN r from fun w => by have := (iN_le (a := 24) (by omega) (by omega)).mp w; omega), gfR_at h.1 h.2.2.1, Option.bind_some, Option.bind_some, X10_rdL0 h (by omega), Option.bind_some, hL0, X10_wrL h (by omega) (by omega), Option.bind_some, ← iN_one r]
    exact b1
theorem R_copyP (hA : Inj A) {L0 : Nat → Nat} (hL : ∀ s, L0 s ≤ 24) {cd od : Int32} {M : Nat → Nat → Nat → Nat} {L : Nat → Nat → Nat} (h : isR F (A 49) (rfs A th (bI aw) cd od) (A 53) (A 54) M L) (h0 : L 0 = L0) : ∃ F' T', mX10_copyP F (A 49) (iN 1) = some F' ∧ F' (A 53) = cM (upK M 1 T') ∧ F' (A 54) = cL (upK L 1 L0) ∧ (∀ s d, s < 24 → d < L0 s → T' s d = M 0 s d) ∧ Agr A [53, 54] F F' := by
  have FB := FU_big
  exact R_cp2 hA hL 24 FU 0 F M L (by omega) (by omega) h h0 (fun s hs => by omega) (fun s d hs => by omega)
theorem X10_ron2 {b bx ln : Nat} {fs : List Value} {M : Nat → Nat → Nat → Nat} {L : Nat → Nat → Nat} (h : isR F b fs bx ln M L) {n : Nat} {q : Nat → Nat} {Os : Nat → Nat → Nat} (H : hisQ n q Os QT) (hn : n ≤ 16) {k : Nat} (hk : k < n) (hL : L 1 = Os (k + 1)) (hM : ∀ r c, c < Os n r → M 2 r c = QT r c) : ∀ (m f r : Nat), r + m = q k → m < f → fX10_rowOfNumber_2 f b (iN (k + 1)) (iN r) F = some (iN (q k), F) := by
  have q16 := (H.2 k hk).1
  have o1 := his_okO H hn (k := k + 1) (by omega)
  have e24 : ∀ r, (24 : Int32) + iN r = 24 * iN 1 + iN r := fun r => rfl
  have all : ∀ r, r ≤ q k → 0 < Os (k + 1) r ∧ Os (k + 1) r ≤ 24 ∧ (M 2 r (Os (k + 1) r - 1) = k + 1 ↔ r = q k) ∧ M 2 r (Os (k + 1) r - 1) < 100 := by
    intro r hr
    have p := par_le (his_par H (k + 1) (by omega)) hr
    have a := his_at H hk
    have mo := his_mono H (k + 1) n (by omega) (Nat.le_refl _) r
    have le := his_le H (k + 1) (by omega) r (Os (k + 1) r - 1) (by omega)
    rw [hM r _ (by omega)]
    exact ⟨by omega, o1.1 r, his_row H hk (by omega), by omega⟩
  intro m
  induction m with
  | zero =>
    intro f r h1 h2
    obtain ⟨f, rfl⟩ : ∃ m, f = m + 1 := ⟨f - 1, by omega⟩
    obtain ⟨a1, a2, a3, a4⟩ := all r (by omega)
    have em : iN (Os (k + 1) r) - 1 = iN (Os (k + 1) r - 1) := by rw [il1, iN_sub (by omega)]
    rw [fX10_rowOfNumber_2.eq_2, gfR_at h.1 h.2.2.1, Option.bind_some, e24, X10_rdL h (by omega) (by omega), Option.bind_some, hL, if_neg (show ¬ iN (Os (k + 1) r) = 0 from fun w => by have := (iN_inj (b := 0) (by omega) (by omega)).mp w; omega), gfR_at h.1 h.2.1, Option.bind_some, Option.bind_some, X10_rdL h (by omega) (by omega), Option.bind_some, hL, em, show mX10_box F 2 (iN r) (iN (Os (k + 1) r - 1)) = _ from X10_box F 2 r _, Option.bind_some]
    simp only
    rw [X10_rd h (by omega) (by omega) (by omega), Option.bind_some, if_pos ((iN_inj (by omega) (by omega)).mpr (a3.mpr (by omega))), show r = q k by omega]
  | succ m ih =>
    intro f r h1 h2
    obtain ⟨f, rfl⟩ : ∃ m, f = m + 1 := ⟨f - 1, by omega⟩
    obtain ⟨a1, a2, a3, a4⟩ := all r (by omega)
    have em : iN (Os (k + 1) r) - 1 = iN (Os (k + 1) r - 1) := by rw [il1, iN_sub (by omega)]
    rw [fX10_rowOfNumber_2.eq_2, gfR_at h.1 h.2.2.1, Option.bind_some, e24, X10_rdL h (by omega) (by omega), Option.bind_some, hL, if_neg (show ¬ iN (Os (k + 1) r) = 0 from fun w => by have := (iN_inj (b := 0) (by omega) (by omega)).mp w; omega), gfR_at h.1 h.2.1, Option.bind_some, Option.bind_some, X10_rdL h (by omega) (by omega), Option.bind_some, hL, em, show mX10_box F 2 (iN r) (iN (Os (k + 1) r - 1)) = _ from X10_box F 2 r _, Option.bind_some]
    simp only
    rw [X10_rd h (by omega) (by omega) (by omega), Option.bind_some, if_neg (fun w => by have := a3.mp ((iN_inj (by omega) (by omega)).mp w); omega)]
    unfold fX10_rowOfNumber_39
    rw [iN_one]
    exact ih f (r + 1) (by omega) (by omega)
theorem X10_to63 {b bx ln : Nat} {fs : List Value} {M : Nat → Nat → Nat → Nat} {L : Nat → Nat → Nat} (h : isR F b fs bx ln M L) {r x : Nat} (hr : r < 24) (hx : x < 100) {K : Nat → Int32 → Int32 → Int32 → Int32 → Mem → Option (Int32 × Mem)} : ∀ (c n : Nat), c < n → c < 24 → (∀ d, d ≤ c → M 1 r d < 100) → (∃ d, d ≤ c ∧ M 1 r d < x) → fX10_takeOut_63 K n b (iN 1) (iN x) (iN r) (iN c) F = K b (iN 1) (iN x) (iN r) (iN (llF (M 1 r) x c)) F := by
  intro c
  induction c with
  | zero =>
    intro n h1 h2 hl hd
    obtain ⟨n, rfl⟩ : ∃ m, n = m + 1 := ⟨n - 1, by omega⟩
    obtain ⟨d, d1, d2⟩ := hd
    have : d = 0 := by omega
    subst this
    have := hl 0 (by omega)
    rw [fX10_takeOut_63.eq_2, gfR_at h.1 h.2.1, Option.bind_some, X10_box, Option.bind_some]
    simp only
    rw [X10_rd h (by omega) hr (by omega), Option.bind_some, if_pos ((iN_lt (by omega) (by omega)).mpr d2)]
    rfl
  | succ c ih =>
    intro n h1 h2 hl hd
    obtain ⟨n, rfl⟩ : ∃ m, n = m + 1 := ⟨n - 1, by omega⟩
    have := hl (c + 1) (by omega)
    rw [fX10_takeOut_63.eq_2, gfR_at h.1 h.2.1, Option.bind_some, X10_box, Option.bind_some]
    simp only
    rw [X10_rd h (by omega) hr (by omega), Option.bind_some]
    show _ = K b (iN 1) (iN x) (iN r) (iN (if M 1 r (c + 1) < x then c + 1 else llF (M 1 r) x c)) F
    by_cases w : M 1 r (c + 1) < x
    · rw [if_pos ((iN_lt (by omega) (by omega)).mpr w), if_pos w]
    · rw [if_neg (fun v => w ((iN_lt (by omega) (by omega)).mp v)), if_neg w, iN_pred]
      obtain ⟨d, d1, d2⟩ := hd
      refine ih n (by omega) (by omega) (fun e he => hl e (by omega)) ⟨d, ?_, d2⟩
      by_cases v : d = c + 1
      · subst v; exact absurd d2 w
      · omega
theorem X10_to42 {b bx ln : Nat} {fs : List Value} {L : Nat → Nat → Nat} (hL : ∀ s, L 1 s ≤ 24) : ∀ (r n : Nat) (F : Mem) (M : Nat → Nat → Nat → Nat) (x c' : Nat), r ≤ 24 → r < n → isR F b fs bx ln M L → okT (M 1) (L 1) → (∀ s, r = s + 1 → c' < L 1 s ∧ M 1 s c' < x) → (∀ d, c' ≤ d → d < L 1 r → x < M 1 r d) → x < 100 → (∀ s d, d < L 1 s → M 1 s d < 100) → fX10_takeOut_42 n b (iN 1) (iN x) (iN r + (-1)) F = some (iN (tkF (L 1) r (M 1) x).2, va_up F bx (cM (upK M 1 (tkF (L 1) r (M 1) x).1))) := by
  have FB := FU_big
  intro r
  induction r with
  | zero =>
    intro n F M x c' h1 h2 h hT s1 s2 hx hl
    obtain ⟨n, rfl⟩ : ∃ m, n = m + 1 := ⟨n - 1, by omega⟩
    have eM : upK M 1 (M 1) = M := by
      funext j
      by_cases w : j = 1
      · subst w; rw [upK_at]
      · rw [upK_ne w]
    rw [fX10_takeOut_42.eq_2, if_pos (by decide)]
    show some (iN x, F) = some (iN x, va_up F bx (cM (upK M 1 (M 1))))
    rw [eM, up_self h.2.2.2.1]
  | succ r ih =>
    intro n F M x c' h1 h2 h hT s1 s2 hx hl
    obtain ⟨n, rfl⟩ : ∃ m, n = m + 1 := ⟨n - 1, by omega⟩
    obtain ⟨a1, a2⟩ := s1 r rfl
    obtain ⟨c, e, c1, c2, c3, c4, b1, b2, b3⟩ := tk_one hT a1 a2 s2
    have hLr := hL r
    have h' := isR_putM (M' := upK M 1 (upT (M 1) r c x)) h
    have em : iN (L 1 r) - 1 = iN (L 1 r - 1) := by rw [il1, iN_sub (by omega)]
    have I := ih n _ _ (M 1 r c) c (by omega) (by omega) h' (by rw [upK_at]; exact b1) (by rw [upK_at]; exact b2) (by rw [upK_at]; exact b3) (hl r c c2) (fun s d hd => by
      rw [upK_at]
      by_cases w : s = r ∧ d = c
      · rw [w.1, w.2, upT_at]; exact hx
      · rw [upT_ne w]; exact hl s d hd)
    rw [upK_at, upK_up, up_up] at I
    have t63 := X10_to63 (K := fun (x0 : Nat) (x1 : Int32) (x3 : Int32) (x4 : Int32) (x5 : Int32) (F : Mem) => (gfR F x0 9 4).bind fun v87 => (mX10_box F x1 x4 x5).bind fun v95 => (rdI v95.2 0 v87 v95.1).bind fun v98 => (gfR v95.2 x0 9 4).bind fun v102 => (mX10_box v95.2 x1 x4 x5).bind fun v110 => (wrI v110.2 v102 v110.1 x3).bind fun F114 => (fX10_takeOut_42 n) x0 x1 v98 (x4 + (-1)) F114) h (r := r) (x := x) (by omega) hx (L 1 r - 1) FU (by omega) (by omega) (fun d hd => hl r d (by omega)) ⟨c', by omega, a2⟩
    rw [e] at t63
    rw [iN_pred, fX10_takeOut_42.eq_2, if_neg (iN_neg (by omega)), gfR_at h.1 h.2.2.1, Option.bind_some, X10_rdL h (by omega) (by omega), Option.bind_some, em]
    refine Eq.trans t63 ?_
    rw [gfR_at h.1 h.2.1, Option.bind_some, X10_box, Option.bind_some]
    simp only
    rw [X10_rd h (by omega) (by omega) (by omega), Option.bind_some, gfR_at h.1 h.2.1, Option.bind_some, X10_box, Option.bind_some]
    simp only
    rw [X10_wr h (by omega) (by omega) (by omega), Option.bind_some]
    refine Eq.trans I ?_
    show _ = some (iN (tkF (L 1) r (upT (M 1) r (llF (M 1 r) x (L 1 r - 1)) x) (M 1 r (llF (M 1 r) x (L 1 r - 1)))).2, va_up F bx (cM (upK M 1 (tkF (L 1) r (upT (M 1) r (llF (M 1 r) x (L 1 r - 1)) x) (M 1 r (llF (M 1 r) x (L 1 r - 1)))).1)))
    rw [e]
theorem X10_takeOut {b bx ln : Nat} {fs : List Value} {M : Nat → Nat → Nat → Nat} {L : Nat → Nat → Nat} (h : isR F b fs bx ln M L) {O : Nat → Nat} {q : Nat} (hq : q < 24) (h1 : L 1 = upL O q (O q + 1)) (hO : ∀ s, upL O q (O q + 1) s ≤ 24) (hp : par O) (hT : okT (M 1) (upL O q (O q + 1))) (hl : ∀ s d, d < upL O q (O q + 1) s → M 1 s d < 100) : mX10_takeOut F b (iN 1) (iN q) = some (iN (tkB O q (M 1)).2, va_up (va_up F ln (cL (upK L 1 O))) bx (cM (upK M 1 (tkB O q (M 1)).1))) := by
  have FB := FU_big
  have hq24 := hO q
  rw [upL_at] at hq24
  have hO' : ∀ s, O s ≤ 24 := fun s => by
    have := hO s
    by_cases w : s = q
    · subst w; omega
    · rw [upL_ne w] at this; exact this
  have eL : L 1 q = O q + 1 := by rw [h1, upL_at]
  have e1 : iN (O q + 1) - 1 = iN (O q) := by rw [il1, iN_sub (by omega), Nat.add_sub_cancel]
  have wl : wrI F ln (24 * iN 1 + iN q) (iN (O q)) = some (va_up F ln (cL (upK L 1 O))) := by
    rw [X10_wrL h (by omega) hq, h1, upL_up, upL_self rfl]
  have h' := isR_putL (L' := upK L 1 O) h
  obtain ⟨a, b'⟩ := tkB_start hT
  have z1 : upK L 1 O 1 = O := upK_at _ _ _
  have t := X10_to42 (L := upK L 1 O) (by rw [z1]; exact hO') q FU _ M (M 1 q (O q)) (O q) (by omega) (by omega) h' (by rw [z1]; exact okT_sub hp hT) (by rw [z1]; exact a) (by rw [z1]; exact b') (hl q _ (by rw [upL_at]; omega)) (by rw [z1]; exact fun s d hd => hl s d (ups_sub hd))
  rw [z1] at t
  unfold mX10_takeOut
  rw [gfR_at h.1 h.2.2.1, Option.bind_some, X10_rdL h (by omega) hq, Option.bind_some, eL, e1, wl, Option.bind_some, gfR_at h'.1 h'.2.1, Option.bind_some, gfR_at h'.1 h'.2.2.1, Option.bind_some, X10_rdL h' (by omega) hq, Option.bind_some, z1, X10_box, Option.bind_some]
  simp only
  rw [X10_rd h' (by omega) hq (by omega), Option.bind_some, Int32.sub_eq_add_neg]
  exact t
end REC3
