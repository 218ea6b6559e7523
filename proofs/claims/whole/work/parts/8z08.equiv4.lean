section EQUIV4
variable {A : Nat → Nat} {F : Mem} {S W : Nat → Nat → Nat} {N : Nat → Nat} {PT : Nat → Nat → Nat} {PO : Nat → Nat} {QT : Nat → Nat → Nat} {QO : Nat → Nat} {aw : Bool} {th : Int32}
theorem R_eq138z (x y : Int32) (b : Nat) : ∀ n, 0 < n → fX10_equivalent_138 n b 0 x y F = some (0, F) := by
  intro n hn
  obtain ⟨n, rfl⟩ : ∃ m, n = m + 1 := ⟨n - 1, by omega⟩
  rw [fX10_equivalent_138.eq_2]
  by_cases c : (24 : Int32) ≤ y
  · rw [if_pos c]; rfl
  · rw [if_neg c, if_pos rfl]; rfl
theorem R_eq151 {M : Nat → Nat → Nat → Nat} {L : Nat → Nat → Nat} {g : Nat → Int64} {r : Nat} (hr : r < 24) (hL : L 1 r ≤ 24) (hM : ∀ d, d < L 1 r → M 1 r d < 100) (ob : rObj A F th aw) (h53 : F (A 53) = cM M) (h54 : F (A 54) = cL L) (h61 : F (A 61) = cJ g) (K : Nat → Int32 → Int32 → Int32 → Mem → Option (Int32 × Mem)) : ∀ (m n c p : Nat), c + m = L 1 r → m < n → p + m < 2000 → (mtL g p (cdR (M 1) r c m) → fX10_equivalent_151 K n (A 49) 1 (iN p) (iN r) (iN c) F = K (A 49) 1 (iN (p + m)) (iN r) F) ∧ (¬ mtL g p (cdR (M 1) r c m) → ∃ x, fX10_equivalent_151 K n (A 49) 1 (iN p) (iN r) (iN c) F = K (A 49) 0 x (iN r) F) := by
  obtain ⟨cd, od, ho⟩ := id ob
  have hR : isR F (A 49) (rfs A th (bI aw) cd od) (A 53) (A 54) M L := ⟨ho, rfl, rfl, h53, h54⟩
  have rd : rdI F 0 (A 54) ((24 : Int32) + iN r) = some (iN (L 1 r)) := X10_rdL hR (k := 1) (by omega) hr
  intro m
  induction m with
  | zero =>
    intro n c p h1 h2 h3
    obtain ⟨n, rfl⟩ : ∃ m, n = m + 1 := ⟨n - 1, by omega⟩
    refine ⟨fun _ => ?_, fun q => absurd trivial q⟩
    rw [fX10_equivalent_151.eq_2, R_g5 ob, Option.bind_some, rd, Option.bind_some, if_pos ((iN_le (by omega) (by omega)).mpr (by omega))]
    rfl
  | succ m ih =>
    intro n c p h1 h2 h3
    obtain ⟨n, rfl⟩ : ∃ m, n = m + 1 := ⟨n - 1, by omega⟩
    have hm := hM c (by omega)
    obtain ⟨i1, i2⟩ := ih n (c + 1) (p + 1) (by omega) (by omega) (by omega)
    have step : fX10_equivalent_151 K (n + 1) (A 49) 1 (iN p) (iN r) (iN c) F = if g p = jN (100 * r + M 1 r c) then fX10_equivalent_151 K n (A 49) 1 (iN (p + 1)) (iN r) (iN (c + 1)) F else fX10_equivalent_151 K n (A 49) 0 (iN (p + 1)) (iN r) (iN (c + 1)) F := by
      rw [fX10_equivalent_151.eq_2, R_g5 ob, Option.bind_some, rd, Option.bind_some, if_neg (fun w => by have := (iN_le (by omega) (by omega)).mp w; omega), if_neg ne10, R_g14 ob, Option.bind_some, rdJ_at h61 (by omega) (by omega), Option.bind_some, R_g4 ob, Option.bind_some, show mX10_box F 1 (iN r) (iN c) = _ from X10_box F 1 r c, Option.bind_some]
      simp only
      rw [X10_rd hR (by omega) hr (by omega), Option.bind_some, show (100 : Int32) = iN 100 from rfl, iN_mul, iN_add, toJ_iN (by omega)]
      unfold fX10_equivalent_202
      rw [iN_one, iN_one]
      by_cases q : g p = jN (100 * r + M 1 r c)
      · rw [if_pos ((cmp0 _ _).mpr q), if_pos q]
      · rw [if_neg (fun w => q ((cmp0 _ _).mp w)), if_neg q]
    rw [step]
    by_cases q : g p = jN (100 * r + M 1 r c)
    · rw [if_pos q]
      refine ⟨fun w => ?_, fun w => ?_⟩
      · rw [i1 w.2, show p + (m + 1) = p + 1 + m by omega]
      · exact i2 (fun v => w ⟨q, v⟩)
    · rw [if_neg q]
      refine ⟨fun w => absurd w.1 q, fun _ => ⟨iN (p + 1), ?_⟩⟩
      obtain ⟨n, rfl⟩ : ∃ m, n = m + 1 := ⟨n - 1, by omega⟩
      rw [fX10_equivalent_151.eq_2, R_g5 ob, Option.bind_some, rd, Option.bind_some]
      by_cases v : iN (L 1 r) ≤ iN (c + 1)
      · rw [if_pos v]
      · rw [if_neg v, if_pos rfl]
theorem R_eq138 {M : Nat → Nat → Nat → Nat} {L : Nat → Nat → Nat} {g : Nat → Int64} (hL : ∀ r, L 1 r ≤ 24) (hM : ∀ r d, d < L 1 r → M 1 r d < 100) (ob : rObj A F th aw) (h53 : F (A 53) = cM M) (h54 : F (A 54) = cL L) (h61 : F (A 61) = cJ g) : ∀ (m n r p : Nat), r + m = 24 → m < n → p + (cdL (tabS (M 1) I0 (L 1)) r m).length < 1000 → (mtL g p (cdL (tabS (M 1) I0 (L 1)) r m) → fX10_equivalent_138 n (A 49) 1 (iN p) (iN r) F = some (1, F)) ∧ (¬ mtL g p (cdL (tabS (M 1) I0 (L 1)) r m) → fX10_equivalent_138 n (A 49) 1 (iN p) (iN r) F = some (0, F)) := by
  intro m
  induction m with
  | zero =>
    intro n r p h1 h2 h3
    obtain ⟨n, rfl⟩ : ∃ m, n = m + 1 := ⟨n - 1, by omega⟩
    refine ⟨fun _ => ?_, fun q => absurd trivial q⟩
    rw [fX10_equivalent_138.eq_2, show r = 24 by omega, if_pos (by decide)]
    rfl
  | succ m ih =>
    intro n r p h1 h2 h3
    obtain ⟨n, rfl⟩ : ∃ m, n = m + 1 := ⟨n - 1, by omega⟩
    have FB := FU_big
    have hl := hL r
    have len : (cdL (tabS (M 1) I0 (L 1)) r (m + 1)).length = L 1 r + (cdL (tabS (M 1) I0 (L 1)) (r + 1) m).length := by
      show ((tabS (M 1) I0 (L 1) r).map _ ++ cdL (tabS (M 1) I0 (L 1)) (r + 1) m).length = _
      rw [List.length_append, List.length_map, tabS_len]
    obtain ⟨i1, i2⟩ := ih n (r + 1) (p + L 1 r) (by omega) (by omega) (by omega)
    obtain ⟨a1, a2⟩ := R_eq151 (r := r) (by omega) hl (hM r) ob h53 h54 h61 (fun (x0 : Nat) (x1 : Int32) (x2 : Int32) (x3 : Int32) (F : Mem) => fX10_equivalent_212 (fX10_equivalent_138 n) x0 x1 x2 x3 F) (L 1 r) FU 0 p (by omega) (by omega) (by omega)
    have sp : mtL g p (cdL (tabS (M 1) I0 (L 1)) r (m + 1)) ↔ mtL g p (cdR (M 1) r 0 (L 1 r)) ∧ mtL g (p + L 1 r) (cdL (tabS (M 1) I0 (L 1)) (r + 1) m) := by
      show mtL g p ((tabS (M 1) I0 (L 1) r).map _ ++ cdL (tabS (M 1) I0 (L 1)) (r + 1) m) ↔ _
      rw [mtL_app, List.length_map, tabS_len]
      exact Iff.rfl
    rw [sp]
    have op : fX10_equivalent_138 (n + 1) (A 49) 1 (iN p) (iN r) F = fX10_equivalent_151 (fun (x0 : Nat) (x1 : Int32) (x2 : Int32) (x3 : Int32) (F : Mem) => fX10_equivalent_212 (fX10_equivalent_138 n) x0 x1 x2 x3 F) FU (A 49) 1 (iN p) (iN r) (iN 0) F := by
      rw [fX10_equivalent_138.eq_2, if_neg (show ¬ (24 : Int32) ≤ iN r from fun w => by have := (iN_le (a := 24) (by omega) (by omega)).mp w; omega), if_neg ne10]
      rfl
    rw [op]
    by_cases q : mtL g p (cdR (M 1) r 0 (L 1 r))
    · have e : fX10_equivalent_212 (fX10_equivalent_138 n) (A 49) 1 (iN (p + L 1 r)) (iN r) F = fX10_equivalent_138 n (A 49) 1 (iN (p + L 1 r)) (iN (r + 1)) F := by
        unfold fX10_equivalent_212
        rw [iN_one]
      rw [a1 q, e]
      exact ⟨fun w => i1 w.2, fun w => i2 (fun v => w ⟨q, v⟩)⟩
    · obtain ⟨x, e⟩ := a2 q
      refine ⟨fun w => absurd w.1 q, fun _ => ?_⟩
      rw [e]
      exact R_eq138z _ _ _ n (by omega)
/-- a word taken and inserted -/
theorem R_ins1 (hA : Inj A) {i k : Nat} (hi : i < 2) (hk : k < 3) {M : Nat → Nat → Nat → Nat} {L : Nat → Nat → Nat} (hw : okW W N) (ho : rObj A F th aw) (hwd : rWrd A F W N) (h55 : ar0 F (A 55) 24) (h53 : F (A 53) = cM M) (h54 : F (A 54) = cL L) : ∃ F1 F' T' O', mX10_take F (A 49) (iN i) = some F1 ∧ Agr A [55] F F1 ∧ mX10_insertRow F1 (A 49) (iN k) (iN (N i)) = some F' ∧ F' (A 53) = cM (upK M k T') ∧ F' (A 54) = cL (upK L k O') ∧ tabS T' I0 O' = wT W N i ∧ (∀ s, O' s ≤ 16) ∧ (∀ s d, d < O' s → T' s d < 100) ∧ ar0 F' (A 55) 24 ∧ Agr A [53, 54, 55] F F' := by
  obtain ⟨w1, w2⟩ := hw i hi
  obtain ⟨V, a1, a2⟩ := R_take hA hi w1 ho hwd h55
  have k1 : Agr A [55] F (va_up F (A 55) (cW V)) := (Agr.refl A _ F).up hA (by omega) (by simp)
  obtain ⟨cd, od, o1⟩ := rObj_fr k1 ho (by simp)
  have g1 : (va_up F (A 55) (cW V)) (A 55) = cW V := up_eq _ _ _
  generalize hF1 : va_up F (A 55) (cW V) = F1 at *
  have hR : isR F1 (A 49) (rfs A th (bI aw) cd od) (A 53) (A 54) M L := ⟨o1, rfl, rfl, (k1 53 (by omega) (by simp)).trans h53, (k1 54 (by omega) (by simp)).trans h54⟩
  obtain ⟨T', O', e1, e2, e3, e4⟩ := X10_insertRow (W := V) (n := N i) hR hk (by omega) (rw' := A 55) rfl g1 (fun j hj => by rw [a2 j hj]; have := w2 j hj; omega)
  have k2 : Agr A [53, 54, 55] F (va_up (va_up F1 (A 53) (cM (upK M k T'))) (A 54) (cL (upK L k O'))) := ((k1.mono (fun t q => by simp at q ⊢; omega)).up hA (by omega) (by simp)).up hA (by omega) (by simp)
  refine ⟨F1, _, T', O', a1, k1, e1, (up_ne (hA.ne (by omega) (by omega) (by omega))).trans (up_eq _ _ _), up_eq _ _ _, e2.trans ?_, fun s => by have := e3 s; omega, e4, ⟨_, (up_ne (hA.ne (by omega) (by omega) (by omega))).trans ((up_ne (hA.ne (by omega) (by omega) (by omega))).trans g1)⟩, k2⟩
  rw [seg_ext (f := V) (g := W i) (N i) 0 (fun j _ h2 => a2 j (by omega))]
end EQUIV4
