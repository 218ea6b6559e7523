section REC4
variable {A : Nat → Nat} {F : Mem} {S W : Nat → Nat → Nat} {N : Nat → Nat} {PT : Nat → Nat → Nat} {PO : Nat → Nat} {QT : Nat → Nat → Nat} {QO : Nat → Nat} {aw : Bool} {th : Int32}
theorem fillF_upd {o k : Nat} (hk : k < 16) (V : Nat → Nat) (f : Nat → Int32) (x : Nat) : upd (fillF o 16 (fun i => iN (V i)) f) (o + k) (iN x) = fillF o 16 (fun i => iN (upL V k x i)) f := by
  funext i
  by_cases w : i = o + k
  · subst w
    rw [fillF_in (by omega), Nat.add_sub_cancel_left, upL_at]
    simp [upd]
  · have e : upd (fillF o 16 (fun i => iN (V i)) f) (o + k) (iN x) i = fillF o 16 (fun i => iN (V i)) f i := by simp [upd, w]
    rw [e]
    by_cases v : o ≤ i ∧ i < o + 16
    · rw [fillF_in v, fillF_in v, upL_ne (by omega)]
    · rw [fillF_out v, fillF_out v]
theorem fillF_any (o : Nat) (f : Nat → Int32) : ∃ V : Nat → Nat, f = fillF o 16 (fun i => iN (V i)) f := by
  refine ⟨fun i => (f (o + i)).toBitVec.toNat, ?_⟩
  funext i
  by_cases v : o ≤ i ∧ i < o + 16
  · rw [fillF_in v, ← any_iN, show o + (i - o) = i by omega]
  · rw [fillF_out v]
theorem R_rc48 (hA : Inj A) {j : Nat} (hj : j < 2) {n : Nat} {q : Nat → Nat} {Os : Nat → Nat → Nat} (H : hisQ n q Os QT) (hn : n ≤ 16) {f0 : Nat → Int32} {K : Nat → Int32 → Int32 → Mem → Option Mem} : ∀ (k f : Nat) (F : Mem) (M : Nat → Nat → Nat → Nat) (L : Nat → Nat → Nat) (V : Nat → Nat), k ≤ n → k < f → rObj A F th aw → F (A 53) = cM M → F (A 54) = cL L → F (A 51) = .inl (0, 32, .inl (fillF (16 * j) 16 (fun i => iN (V i)) f0)) → L 1 = Os k → okT (M 1) (Os k) → (∀ s d, d < Os k s → M 1 s d < 100) → (∀ r c, c < Os n r → M 2 r c = QT r c) → ∃ F' M' L', fX10_recover_48 K f (A 49) (iN j) (iN n) (iN k) F = K (A 49) (iN j) (iN n) F' ∧ F' (A 53) = cM M' ∧ F' (A 54) = cL L' ∧ M' 0 = M 0 ∧ M' 2 = M 2 ∧ L' 0 = L 0 ∧ L' 2 = L 2 ∧ F' (A 51) = .inl (0, 32, .inl (fillF (16 * j) 16 (fun i => iN (rcL q Os k (M 1) V i)) f0)) ∧ Agr A [51, 53, 54] F F' := by
  have FB := FU_big
  intro k
  induction k with
  | zero =>
    intro f F M L V h1 h2 ho h53 h54 h51 hL hT hl hM
    obtain ⟨f, rfl⟩ : ∃ m, f = m + 1 := ⟨f - 1, by omega⟩
    refine ⟨F, M, L, ?_, h53, h54, rfl, rfl, rfl, rfl, h51, Agr.refl A _ F⟩
    rw [fX10_recover_48.eq_2, if_pos (show iN 0 ≤ 0 by decide)]
  | succ k ih =>
    intro f F M L V h1 h2 ho h53 h54 h51 hL hT hl hM
    obtain ⟨f, rfl⟩ : ∃ m, f = m + 1 := ⟨f - 1, by omega⟩
    obtain ⟨a1, a2, a3, a4⟩ := H.2 k (by omega)
    obtain ⟨cd, od, o1⟩ := id ho
    obtain ⟨fs0, hob⟩ := rObj_ob ho
    have hR : isR F (A 49) (rfs A th (bI aw) cd od) (A 53) (A 54) M L := ⟨o1, rfl, rfl, h53, h54⟩
    have row := X10_ron2 hR H hn (k := k) (by omega) hL hM (q k) FU 0 (by omega) (by omega)
    have o24 := his_okO H hn (k := k + 1) (by omega)
    rw [a2] at hL hT hl a3 o24
    have tk := X10_takeOut hR (q := q k) (by omega) hL o24.1 (his_par H k (by omega)) hT hl
    obtain ⟨b1, b2⟩ := tkB_p (fun y => y < 100) a3 hl
    have b3 := tkB_ok (his_par H k (by omega)) hT
    have k1 : Agr A [51, 53, 54] F (va_up (va_up F (A 54) (cL (upK L 1 (Os k)))) (A 53) (cM (upK M 1 (tkB (Os k) (q k) (M 1)).1))) := ((Agr.refl A _ F).up hA (by omega) (by simp)).up hA (by omega) (by simp)
    have g54 : (va_up (va_up F (A 54) (cL (upK L 1 (Os k)))) (A 53) (cM (upK M 1 (tkB (Os k) (q k) (M 1)).1))) (A 54) = cL (upK L 1 (Os k)) := (up_ne (hA.ne (by omega) (by omega) (by omega))).trans (up_eq _ _ _)
    have g53 : (va_up (va_up F (A 54) (cL (upK L 1 (Os k)))) (A 53) (cM (upK M 1 (tkB (Os k) (q k) (M 1)).1))) (A 53) = cM (upK M 1 (tkB (Os k) (q k) (M 1)).1) := up_eq _ _ _
    have g51 : (va_up (va_up F (A 54) (cL (upK L 1 (Os k)))) (A 53) (cM (upK M 1 (tkB (Os k) (q k) (M 1)).1))) (A 51) = .inl (0, 32, .inl (fillF (16 * j) 16 (fun i => iN (V i)) f0)) := (up_ne (hA.ne (by omega) (by omega) (by omega))).trans ((up_ne (hA.ne (by omega) (by omega) (by omega))).trans h51)
    generalize hF1 : va_up (va_up F (A 54) (cL (upK L 1 (Os k)))) (A 53) (cM (upK M 1 (tkB (Os k) (q k) (M 1)).1)) = F1 at *
    have k2 : Agr A [51, 53, 54] F (va_up F1 (A 51) (.inl (0, 32, .inl (fillF (16 * j) 16 (fun i => iN (upL V k (tkB (Os k) (q k) (M 1)).2 i)) f0)))) := k1.up hA (by omega) (by simp)
    obtain ⟨F', M', L', e1, e2, e3, e4, e5, e6, e7, e8, e9⟩ := ih f (va_up F1 (A 51) (.inl (0, 32, .inl (fillF (16 * j) 16 (fun i => iN (upL V k (tkB (Os k) (q k) (M 1)).2 i)) f0)))) (upK M 1 (tkB (Os k) (q k) (M 1)).1) (upK L 1 (Os k)) (upL V k (tkB (Os k) (q k) (M 1)).2) (by omega) (by omega) (rObj_fr k2 ho (by simp)) ((up_ne (hA.ne (by omega) (by omega) (by omega))).trans g53) ((up_ne (hA.ne (by omega) (by omega) (by omega))).trans g54) (up_eq _ _ _) (upK_at _ _ _) (by rw [upK_at]; exact b3) (by rw [upK_at]; exact b2) (fun r c hc => by rw [upK_ne (by omega)]; exact hM r c hc)
    refine ⟨F', M', L', ?_, e2, e3, e4, e5, e6, e7, by rw [upK_at] at e8; exact e8, k2.trans e9⟩
    have ei : 16 * iN j + iN (k + 1) - 1 = iN (16 * j + k) := by
      rw [il16, iN_mul, iN_add, il1, iN_sub (by omega), show 16 * j + (k + 1) - 1 = 16 * j + k by omega]
    rw [← e1, fX10_recover_48.eq_2, if_neg (show ¬ iN (k + 1) ≤ 0 from fun w => by have := (iN_le (b := 0) (by omega) (by omega)).mp w; omega), R_g2 ho, Option.bind_some, hob, Option.bind_some, show mX10_rowOfNumber F (A 49) (iN (k + 1)) = _ from row, Option.bind_some]
    simp only
    rw [hob, Option.bind_some, show mX10_takeOut F (A 49) 1 (iN (q k)) = _ from tk, Option.bind_some]
    simp only
    rw [ei, wrI_at g51 (by omega) (by omega), fillF_upd (by omega), Option.bind_some, iN_pred]
theorem R_recover (hA : Inj A) (h : RR A F S W N PT PO QT QO aw th) (hw : okW W N) (hP : okP PT PO) {j : Nat} (hj : j < 2) : (aw = true → ∃ F', mX10_recover F (A 49) (iN j) = some F' ∧ RR A F' S W N PT PO QT QO aw 2 ∧ Agr A RTs F F') ∧ (aw = false → ∀ (n : Nat) (q : Nat → Nat) (Os : Nat → Nat → Nat), n ≤ 16 → hisQ n q Os QT → (∀ s, Os n s = PO s) → (∀ s, QO s = PO s) → ∃ F', mX10_recover F (A 49) (iN j) = some F' ∧ RR A F' S (upK W j (rcL q Os n PT (W j))) (upL N j n) PT PO QT QO aw 0 ∧ Agr A RTs F F') := by
  have FB := FU_big
  obtain ⟨p1, p2, p3, p4⟩ := hP
  have ga : gfI F (A 49) 9 6 = some (bI aw) := by
    obtain ⟨cd, od, o⟩ := h.1
    exact gfI_at o rfl
  constructor
  · intro ha
    subst ha
    obtain ⟨F', e, h', k⟩ := RR_th hA h 2
    refine ⟨F', ?_, h', k.mono (RTs_of (fun t q => by simp at q; omega))⟩
    unfold mX10_recover
    rw [R_word hj, Option.bind_some, if_neg ne10]
    simp only
    rw [ga, Option.bind_some, if_neg (show ¬ bI true = 0 from ne10)]
    unfold fX10_recover_24
    rw [e, Option.bind_some, rObj_th h'.1, Option.bind_some, if_neg (by decide)]
  · intro ha n q Os hn H hPO hQO
    subst ha
    obtain ⟨F1, e, h', k⟩ := RR_th hA h 0
    obtain ⟨M, L, m1, m2, m3, m4, m5, m6⟩ := h'.2.2.2.1
    obtain ⟨cd, od, o1⟩ := id h'.1
    obtain ⟨fs1, hob1⟩ := rObj_ob h'.1
    have hR1 : isR F1 (A 49) (rfs A 0 (bI false) cd od) (A 53) (A 54) M L := ⟨o1, rfl, rfl, m1, m2⟩
    have eL : L 0 = PO := funext m3
    have eO : Os n = PO := funext hPO
    obtain ⟨F2, T2, c1, c2, c3, c4, c5⟩ := R_copyP hA p2.1 hR1 eL
    have ho2 := rObj_fr c5 h'.1 (by simp)
    obtain ⟨fs2, hob2⟩ := rObj_ob ho2
    obtain ⟨cd2, od2, o2⟩ := id ho2
    have hR2 : isR F2 (A 49) (rfs A 0 (bI false) cd2 od2) (A 53) (A 54) (upK M 1 T2) (upK L 1 PO) := ⟨o2, rfl, rfl, c2, c3⟩
    have ct := X10_count hR2 (k := 0) (by omega)
    have en : boxes PO 16 = n := by rw [← eO]; exact his_box H n (Nat.le_refl _)
    have b24 : boxes (upK L 1 PO 0) 24 = n := by
      rw [upK_ne (by omega), eL, ← en]
      have z : ∀ m, boxes PO (16 + m) = boxes PO 16 := by
        intro m
        induction m with
        | zero => rfl
        | succ m ih =>
          show boxes PO (16 + m) + PO (16 + m) = _
          rw [ih, p2.2 _ (by omega)]
          rfl
      exact z 8
    rw [b24] at ct
    obtain ⟨⟨f, f1, f2⟩, g, g1, g2⟩ := rWrd_fr c5 h'.2.2.1 (by simp)
    obtain ⟨V, hV⟩ := fillF_any (16 * j) f
    have t2 : ∀ s d, d < PO s → T2 s d = PT s d := fun s d hd => by
      have hs : s < 24 := by
        by_cases w : s < 24
        · exact w
        · have := p2.2 s (by omega)
          omega
      rw [c4 s d hs hd, m4 s d hd]
    have okT2 : okT T2 PO := by
      refine ⟨p1.1, fun r c hc => ?_, fun r c hc => ?_⟩
      · rw [t2 r c (by omega), t2 r (c + 1) hc]; exact p1.2.1 r c hc
      · have := p1.1 r
        rw [t2 r c (by omega), t2 (r + 1) c hc]; exact p1.2.2 r c hc
    obtain ⟨F3, M3, L3, d1, d2, d3, d4, d5, d6, d7, d8, d9⟩ := R_rc48 hA hj H hn (f0 := f) (K := fun (x0 : Nat) (x1 : Int32) (x2 : Int32) (F : Mem) => (gfR F x0 9 3).bind fun v82 => (wrI F v82 x1 x2).bind fun F87 => some F87) n FU F2 (upK M 1 T2) (upK L 1 PO) V (Nat.le_refl _) (by omega) ho2 c2 c3 (by rw [← hV]; exact f1) (by rw [upK_at, eO]) (by rw [upK_at, eO]; exact okT2) (by
      rw [upK_at, eO]
      intro s d hd
      rw [t2 s d hd]
      have := p4 s d hd
      omega) (fun r c hc => by rw [upK_ne (by omega)]; exact m6 r c (by rw [hQO r, ← hPO r]; exact hc))
    rw [upK_at] at d8
    have g3 : F3 (A 52) = .inl (0, 2, .inl g) := (d9 52 (by omega) (by simp)).trans g1
    have k4 : Agr A [51, 52, 53, 54] F1 (va_up F3 (A 52) (.inl (0, 2, .inl (upd g j (iN n))))) := ((c5.mono (fun t w => by simp at w ⊢; omega)).trans (d9.mono (fun t w => by simp at w ⊢; omega))).up hA (by omega) (by simp)
    refine ⟨_, ?_, ⟨rObj_fr k4 h'.1 (by simp), rShp_fr k4 h'.2.1 (by simp), ⟨⟨_, (up_ne (hA.ne (by omega) (by omega) (by omega))).trans d8, fun i m hi hm => ?_⟩, _, up_eq _ _ _, fun i hi => ?_⟩, ⟨M3, L3, (up_ne (hA.ne (by omega) (by omega) (by omega))).trans d2, (up_ne (hA.ne (by omega) (by omega) (by omega))).trans d3, ?_, ?_, ?_, ?_⟩, rWk_fr k4 h'.2.2.2.2 (fun t w => by simp at w; omega)⟩, (k.mono (RTs_of (fun t q => by simp at q; omega))).trans (k4.mono (RTs_of (fun t q => by simp at q; omega)))⟩
    · unfold mX10_recover
      rw [R_word hj, Option.bind_some, if_neg ne10]
      simp only
      rw [ga, Option.bind_some, if_pos (show bI false = 0 from rfl)]
      unfold fX10_recover_24
      rw [e, Option.bind_some, rObj_th h'.1, Option.bind_some, if_pos (by decide), hob1, Option.bind_some, show mX10_copyP F1 (A 49) 1 = _ from c1, Option.bind_some, hob2, Option.bind_some, show mX10_count F2 (A 49) 0 = _ from ct, Option.bind_some]
      simp only
      refine Eq.trans d1 ?_
      rw [R_g3 (rObj_fr d9 ho2 (by simp)), Option.bind_some, wrI_at g3 hj (by omega), Option.bind_some]
    · by_cases w : i = j
      · subst w
        rw [upL_at] at hm
        rw [upK_at, fillF_in (by omega), Nat.add_sub_cancel_left]
        rw [rcL_two H n T2 PT V (W i) (Nat.le_refl _) (fun s d hd => t2 s d (by rw [← eO]; exact hd)) m hm]
      · rw [upL_ne w] at hm
        have := (hw i hi).1
        rw [upK_ne w, fillF_out (by omega)]
        exact f2 i m hi hm
    · by_cases w : i = j
      · subst w; rw [upL_at]; simp [upd]
      · rw [upL_ne w]; simp [upd, w, g2 i hi]
    · intro r; rw [d6, upK_ne (by omega)]; exact m3 r
    · intro r c hc; rw [d4, upK_ne (by omega)]; exact m4 r c hc
    · intro r; rw [d7, upK_ne (by omega)]; exact m5 r
    · intro r c hc; rw [d5, upK_ne (by omega)]; exact m6 r c hc
theorem R_recover_no (hA : Inj A) (h : RR A F S W N PT PO QT QO aw th) {y : Int32} (hy : y < 0 ∨ (¬ y < 0 ∧ iN 2 ≤ y)) : ∃ F', RR A F' S W N PT PO QT QO aw 1 ∧ Agr A RTs F F' ∧ mX10_recover F (A 49) y = some F' := by
  obtain ⟨F', e, h', k⟩ := RR_th hA h 1
  refine ⟨F', h', k.mono (RTs_of (fun t q => by simp at q; omega)), ?_⟩
  unfold mX10_recover
  rw [R_noword hy, Option.bind_some, if_pos rfl]
  unfold fX10_recover_24
  rw [e, Option.bind_some, rObj_th h'.1, Option.bind_some, if_neg (by decide)]
end REC4
