section READR2
variable {A : Nat → Nat} {F : Mem} {S W : Nat → Nat → Nat} {N : Nat → Nat} {PT : Nat → Nat → Nat} {PO : Nat → Nat} {QT : Nat → Nat → Nat} {QO : Nat → Nat} {aw : Bool} {th : Int32}
theorem seg_in {f : Nat → Nat} : ∀ (n a i : Nat), a ≤ i → i < a + n → f i ∈ seg f a n := by
  intro n
  induction n with
  | zero => intro a i h1 h2; omega
  | succ n ih =>
    intro a i h1 h2
    show f i ∈ f a :: seg f (a + 1) n
    by_cases e : i = a
    · rw [e]; exact List.mem_cons_self
    · exact List.mem_cons_of_mem _ (ih (a + 1) i (by omega) (by omega))
theorem rdF_in {T : Tab} {x : Nat} : ∀ (n k s : Nat), k ≤ s → s < k + n → x ∈ T s → x ∈ rdF T k n := by
  intro n
  induction n with
  | zero => intro k s h1 h2; omega
  | succ n ih =>
    intro k s h1 h2 hx
    show x ∈ rdF T (k + 1) n ++ T k
    by_cases e : s = k
    · rw [e] at hx; exact List.mem_append_right _ hx
    · exact List.mem_append_left _ (ih (k + 1) s (by omega) (by omega) hx)
theorem tabS_cg {T T' : Nat → Nat → Nat} {O O' : Nat → Nat} (h1 : ∀ s, O s = O' s) (h2 : ∀ s d, d < O s → T s d = T' s d) : tabS T I0 O = tabS T' I0 O' := by
  funext s
  show seg (T s) 0 (O s - 0) = seg (T' s) 0 (O' s - 0)
  rw [← h1 s]
  exact seg_ext _ _ (fun i _ q => h2 s i (by omega))
/-- the letters of a reading are the tableau's -/
theorem rdF_let {T : Nat → Nat → Nat} {O : Nat → Nat} {x : Nat} {n : Nat} : x ∈ rdF (tabS T I0 O) 0 n ↔ ∃ s d, s < n ∧ d < O s ∧ x = T s d := by
  constructor
  · intro h
    obtain ⟨s, _, h2, h3⟩ := rdF_mem h
    obtain ⟨d, _, d2, d3⟩ := seg_mem (show x ∈ seg (T s) 0 (O s - 0) from h3)
    exact ⟨s, d, by omega, by omega, d3⟩
  · rintro ⟨s, d, h1, h2, rfl⟩
    exact rdF_in n 0 s (Nat.zero_le _) (by omega) (show T s d ∈ seg (T s) 0 (O s - 0) from seg_in _ _ _ (Nat.zero_le _) (by omega))
theorem putL_mem {l : List Nat} {V : Nat → Nat} {k : Nat} (hk : k < l.length) : putL V 0 l k ∈ l := by
  have h := seg_in (f := putL V 0 l) l.length 0 k (Nat.zero_le _) (by omega)
  rwa [putL_seg] at h
theorem putL_all {l : List Nat} {V : Nat → Nat} {p : Nat → Prop} : (∀ k, k < l.length → p (putL V 0 l k)) ↔ ∀ x, x ∈ l → p x := by
  constructor
  · intro h x hx
    have hx' : x ∈ seg (putL V 0 l) 0 l.length := by rw [putL_seg]; exact hx
    obtain ⟨i, _, i2, i3⟩ := seg_mem hx'
    rw [i3]
    exact h i (by omega)
  · intro h k hk
    exact h _ (putL_mem hk)
theorem R_rd102 (hA : Inj A) {j c : Nat} (hj : j < 2) (hc : c ≤ 16) {V : Nat → Nat} {f : Nat → Int32} (K : Nat → Int32 → Int32 → Mem → Option Mem) : ∀ (m n k : Nat) (F : Mem), k + m = c → m < n → rObj A F th aw → F (A 55) = cW V → F (A 51) = .inl (0, 32, .inl (fillF (16 * j) k (fun k => iN (V k)) f)) → fX10_read_102 K n (A 49) (iN j) (iN c) (iN k) F = K (A 49) (iN j) (iN c) (va_up F (A 51) (.inl (0, 32, .inl (fillF (16 * j) c (fun k => iN (V k)) f)))) := by
  intro m
  induction m with
  | zero =>
    intro n k F h1 h2 ho h55 h
    obtain ⟨n', rfl⟩ : ∃ n', n = n' + 1 := ⟨n - 1, by omega⟩
    have : k = c := by omega
    subst this
    rw [fX10_read_102.eq_2, if_pos ((iN_le (by omega) (by omega)).mpr (by omega)), up_self h]
  | succ m ih =>
    intro n k F h1 h2 ho h55 h
    obtain ⟨n', rfl⟩ : ∃ n', n = n' + 1 := ⟨n - 1, by omega⟩
    have k1 : Agr A [51] F (va_up F (A 51) (.inl (0, 32, .inl (fillF (16 * j) (k + 1) (fun k => iN (V k)) f)))) := (Agr.refl A _ F).up hA (by omega) (by simp)
    have e := ih n' (k + 1) _ (by omega) (by omega) (rObj_fr k1 ho (by simp)) ((k1 55 (by omega) (by simp)).trans h55) (up_eq _ _ _)
    have e2 : wrI F (A 51) (16 * iN j + iN k) (iN (V k)) = some (va_up F (A 51) (.inl (0, 32, .inl (fillF (16 * j) (k + 1) (fun k => iN (V k)) f)))) := by
      rw [il16, iN_mul, iN_add, wrI_at h (by omega) (by omega), fillF_s (16 * j) k (fun k => iN (V k)) f]
    rw [fX10_read_102.eq_2, if_neg (fun q => by have := (iN_le (by omega) (by omega)).mp q; omega), R_g2 ho, Option.bind_some, R_g7 ho, Option.bind_some, rdI_at h55 (by omega) (by omega), Option.bind_some, e2, Option.bind_some, iN_one, e, up_up]
/-- a word put down on the reference's side -/
theorem rWrd_up {F' : Mem} {j c : Nat} {V V' : Nat → Nat} {f g : Nat → Int32} (hj : j < 2) (hc : c ≤ 16) (hw : okW W N) (f2 : ∀ i k, i < 2 → k < N i → f (16 * i + k) = iN (W i k)) (g2 : ∀ i, i < 2 → g i = iN (N i)) (hV : ∀ k, k < c → V k = V' k) (e1 : F' (A 51) = .inl (0, 32, .inl (fillF (16 * j) c (fun k => iN (V k)) f))) (e2 : F' (A 52) = .inl (0, 2, .inl (upd g j (iN c)))) : rWrd A F' (upK W j V') (upL N j c) := by
  refine ⟨⟨_, e1, fun i k hi hk => ?_⟩, _, e2, fun i hi => ?_⟩
  · by_cases q : i = j
    · subst q
      rw [upL_at] at hk
      rw [upK_at, fillF_in (by omega), Nat.add_sub_cancel_left, hV k hk]
    · rw [upL_ne q] at hk
      have := (hw i hi).1
      rw [upK_ne q, fillF_out (by omega)]
      exact f2 i k hi hk
  · by_cases q : i = j
    · subst q; rw [upL_at]; simp [upd]
    · rw [upL_ne q]; simp [upd, q, g2 i hi]
theorem R_read (hA : Inj A) (h : RR A F S W N PT PO QT QO aw th) (hw : okW W N) (hP : okP PT PO) {j : Nat} (hj : j < 2) : (canR PT PO → ∃ F', mX10_read F (A 49) (iN j) = some F' ∧ RR A F' S (upK W j (putL (W j) 0 (rdF (tabS PT I0 PO) 0 16))) (upL N j (boxes PO 16)) PT PO QT QO aw 0 ∧ Agr A RTs F F') ∧ (¬ canR PT PO → ∃ F', mX10_read F (A 49) (iN j) = some F' ∧ RR A F' S W N PT PO QT QO aw 2 ∧ Agr A RTs F F') := by
  have FB := FU_big
  obtain ⟨p1, p2, p3, p4⟩ := hP
  obtain ⟨F1, e, h', k⟩ := RR_th hA h 0
  obtain ⟨M, L, m1, m2, m3, m4, m5, m6⟩ := h'.2.2.2.1
  obtain ⟨cd, od, o1⟩ := id h'.1
  have hR1 : isR F1 (A 49) (rfs A 0 (bI aw) cd od) (A 53) (A 54) M L := ⟨o1, rfl, rfl, m1, m2⟩
  obtain ⟨V, hV⟩ := ar_cW h'.2.2.2.2.1
  have et : tabS (M 0) I0 (L 0) = tabS PT I0 PO := tabS_cg m3 (fun s d hd => m4 s d (by rw [← m3 s]; exact hd))
  have rd := X10_reading (rw' := A 55) hR1 rfl hV (fun s => by rw [m3 s]; exact p2.1 s) (by rw [et, rdF_24 p2.2, rdF_boxes]; omega)
  have ll : (rdF (tabS PT I0 PO) 0 16).length = boxes PO 16 := rdF_boxes PT PO 16
  rw [et, rdF_24 p2.2, ll] at rd
  have inl : ∀ x, x ∈ rdF (tabS PT I0 PO) 0 16 ↔ ∃ s d, s < 16 ∧ d < PO s ∧ x = PT s d := fun x => rdF_let
  generalize hl : rdF (tabS PT I0 PO) 0 16 = l at *
  have k2 : Agr A [55] F1 (va_up F1 (A 55) (cW (putL V 0 l))) := (Agr.refl A _ F1).up hA (by omega) (by simp)
  have h2 : RR A (va_up F1 (A 55) (cW (putL V 0 l))) S W N PT PO QT QO aw 0 := by
    obtain ⟨r1, r2, r3, r4, r5⟩ := h'
    refine ⟨rObj_fr k2 r1 (by simp), rShp_fr k2 r2 (by simp), rWrd_fr k2 r3 (by simp), rTab_fr k2 r4 (by simp), ?_⟩
    obtain ⟨w1, w2, w3, w4, w5, w6, w7, w8, w9, w10, w11⟩ := r5
    exact ⟨⟨_, up_eq _ _ _⟩, (k2 _ (by omega) (by simp)).trans w2, ar0_fr k2 w3 (by omega) (by simp), ar0_fr k2 w4 (by omega) (by simp), ar0_fr k2 w5 (by omega) (by simp), ar0_fr k2 w6 (by omega) (by simp), ar1_fr k2 w7 (by omega) (by simp), ar1_fr k2 w8 (by omega) (by simp), ar1_fr k2 w9 (by omega) (by simp), ar1_fr k2 w10 (by omega) (by simp), ar0_fr k2 w11 (by omega) (by simp)⟩
  have h55 : (va_up F1 (A 55) (cW (putL V 0 l))) (A 55) = cW (putL V 0 l) := up_eq _ _ _
  have kk : Agr A RTs F (va_up F1 (A 55) (cW (putL V 0 l))) := (k.mono (RTs_of (fun t q => by simp at q; omega))).trans (k2.mono (RTs_of (fun t q => by simp at q; omega)))
  obtain ⟨fs1, hob1⟩ := rObj_ob h'.1
  generalize hF2 : va_up F1 (A 55) (cW (putL V 0 l)) = F2 at *
  obtain ⟨z, z1, z2⟩ := R_rd44 (F := F2) (V := putL V 0 l) (c := boxes PO 16) p3 (fun k hk => by
    obtain ⟨s, d, _, s2, s3⟩ := (inl _).mp (putL_mem (V := V) (l := l) (k := k) (by omega))
    rw [s3]
    have := p4 s d s2
    omega) h2.1 h55 (x1 := iN j) (fun (x0 : Nat) (x1 : Int32) (x2 : Int32) (x3 : Int32) (F : Mem) => if x3 = 0 then (fX10_read_88 x0 x1 x2 x0 2 F) else (fX10_read_88 x0 x1 x2 x0 0 F)) (boxes PO 16) FU 0 (decide (boxes PO 16 ≤ 16)) (by omega) (by omega)
  have zc : z = true ↔ canR PT PO := by
    rw [z2]
    have pa := putL_all (l := l) (V := V) (p := fun x => x ≤ 16)
    rw [ll] at pa
    constructor
    · intro ⟨a, b⟩
      refine ⟨of_decide_eq_true a, fun s d hs hd => pa.mp (fun k hk => b k (Nat.zero_le _) hk) _ ((inl _).mpr ⟨s, d, hs, hd, rfl⟩)⟩
    · intro ⟨a, b⟩
      refine ⟨decide_eq_true a, fun k _ hk => pa.mpr (fun x hx => ?_) k hk⟩
      obtain ⟨s, d, s1, s2, s3⟩ := (inl x).mp hx
      rw [s3]
      exact b s d s1 s2
  have st : mX10_read F (A 49) (iN j) = if bI z = 0 then (fX10_read_88 (A 49) (iN j) (iN (boxes PO 16)) (A 49) 2 F2) else (fX10_read_88 (A 49) (iN j) (iN (boxes PO 16)) (A 49) 0 F2) := by
    unfold mX10_read
    rw [R_word hj, Option.bind_some, if_neg ne10]
    unfold fX10_read_13
    rw [e, Option.bind_some, rObj_th h'.1, Option.bind_some, if_pos (by decide), hob1, Option.bind_some, rd, Option.bind_some]
    have q1 : (16 : Int32) < iN (boxes PO 16) ↔ 16 < boxes PO 16 := iN_lt (a := 16) (by omega) (by omega)
    refine Eq.trans ?_ z1
    unfold fX10_read_40
    simp only
    by_cases q : 16 < boxes PO 16
    · rw [if_pos (q1.mpr q), decide_eq_false (by omega)]
      rfl
    · rw [if_neg (fun w => q (q1.mp w)), decide_eq_true (by omega)]
      rfl
  constructor
  · intro cr
    have zt : z = true := zc.mpr cr
    subst zt
    obtain ⟨F3, e3, h3, k3⟩ := RR_th hA h2 0
    obtain ⟨⟨f, f1, f2⟩, g, g1, g2⟩ := h3.2.2.1
    have h55' : F3 (A 55) = cW (putL V 0 l) := (k3 55 (by omega) (by simp)).trans h55
    have r102 := R_rd102 hA (V := putL V 0 l) (f := f) hj cr.1 (fun (x0 : Nat) (x1 : Int32) (x2 : Int32) (F : Mem) => (gfR F x0 9 3).bind fun v134 => (wrI F v134 x1 x2).bind fun F139 => some F139) (boxes PO 16) FU 0 F3 (by omega) (by omega) h3.1 h55' (by rw [fillF_z]; exact f1)
    have k4 : Agr A [51, 52] F3 (va_up F3 (A 51) (.inl (0, 32, .inl (fillF (16 * j) (boxes PO 16) (fun k => iN (putL V 0 l k)) f)))) := (Agr.refl A _ F3).up hA (by omega) (by simp)
    have g4 := (up_ne (hA.ne (i := 52) (j := 51) (by omega) (by omega) (by omega)) (F := F3) (x := .inl (0, 32, .inl (fillF (16 * j) (boxes PO 16) (fun k => iN (putL V 0 l k)) f)))).trans g1
    have f4 := up_eq F3 (A 51) (.inl (0, 32, .inl (fillF (16 * j) (boxes PO 16) (fun k => iN (putL V 0 l k)) f)))
    generalize hF4 : va_up F3 (A 51) (.inl (0, 32, .inl (fillF (16 * j) (boxes PO 16) (fun k => iN (putL V 0 l k)) f))) = F4 at *
    have k5 : Agr A [51, 52] F3 (va_up F4 (A 52) (.inl (0, 2, .inl (upd g j (iN (boxes PO 16)))))) := k4.up hA (by omega) (by simp)
    have rw5 := rWrd_up (A := A) (F' := va_up F4 (A 52) (.inl (0, 2, .inl (upd g j (iN (boxes PO 16)))))) (V := putL V 0 l) (V' := putL (W j) 0 l) (f := f) (g := g) hj cr.1 hw f2 g2 (fun k hk => putL_two l V (W j) (by omega)) ((up_ne (hA.ne (by omega) (by omega) (by omega))).trans f4) (up_eq _ _ _)
    refine ⟨_, ?_, ⟨rObj_fr k5 h3.1 (by simp), rShp_fr k5 h3.2.1 (by simp), rw5, rTab_fr k5 h3.2.2.2.1 (by simp), rWk_fr k5 h3.2.2.2.2 (fun t q => by simp at q; omega)⟩, kk.trans ((k3.mono (RTs_of (fun t q => by simp at q; omega))).trans (k5.mono (RTs_of (fun t q => by simp at q; omega))))⟩
    rw [st, if_neg (show ¬ bI true = 0 from ne10)]
    unfold fX10_read_88
    rw [e3, Option.bind_some, rObj_th h3.1, Option.bind_some, if_pos (by decide)]
    refine Eq.trans r102 ?_
    rw [R_g3 (rObj_fr k4 h3.1 (by simp)), Option.bind_some, wrI_at g4 hj (by omega), Option.bind_some]
  · intro cr
    have zf : z = false := by
      cases z with
      | false => rfl
      | true => exact absurd (zc.mp rfl) cr
    subst zf
    obtain ⟨F3, e3, h3, k3⟩ := RR_th hA h2 2
    refine ⟨F3, ?_, h3, kk.trans (k3.mono (RTs_of (fun t q => by simp at q; omega)))⟩
    rw [st, if_pos (show bI false = 0 from rfl)]
    unfold fX10_read_88
    rw [e3, Option.bind_some, rObj_th h3.1, Option.bind_some, if_neg (by decide)]
theorem R_read_no (hA : Inj A) (h : RR A F S W N PT PO QT QO aw th) {y : Int32} (hy : y < 0 ∨ (¬ y < 0 ∧ iN 2 ≤ y)) : ∃ F', RR A F' S W N PT PO QT QO aw 1 ∧ Agr A RTs F F' ∧ mX10_read F (A 49) y = some F' := by
  obtain ⟨F', e, h', k⟩ := RR_th hA h 1
  refine ⟨F', h', k.mono (RTs_of (fun t q => by simp at q; omega)), ?_⟩
  unfold mX10_read
  rw [R_noword hy, Option.bind_some, if_pos rfl]
  unfold fX10_read_13
  rw [e, Option.bind_some, rObj_th h'.1, Option.bind_some, if_neg (by decide)]
end READR2
