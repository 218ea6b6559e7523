section FILR2
variable {A : Nat → Nat} {F : Mem} {S W : Nat → Nat → Nat} {N : Nat → Nat} {PT : Nat → Nat → Nat} {PO : Nat → Nat} {QT : Nat → Nat → Nat} {QO : Nat → Nat} {aw : Bool} {th : Int32}
/-- the table and the strip that is tried -/
def STp (A : Nat → Nat) (F : Mem) (th : Int32) (aw : Bool) (L M : List (Int64 × Int64)) (a : Nat → Nat) : Prop := NT A F th aw L M ∧ ∃ f, F (A 57) = .inl (0, 9, .inl f) ∧ ∀ k, k < 8 → f k = iN (a k)
theorem STp_set (hA : Inj A) {L M : List (Int64 × Int64)} {a : Nat → Nat} (h : STp A F th aw L M a) {k v : Nat} (hk : k < 8) : ∃ F', wrI F (A 57) (iN k) (iN v) = some F' ∧ STp A F' th aw L M (upL a k v) ∧ Agr A [57] F F' := by
  obtain ⟨h1, f, h2, h3⟩ := h
  have k1 : Agr A [57] F (va_up F (A 57) (.inl (0, 9, .inl (upd f k (iN v))))) := (Agr.refl A _ F).up hA (by omega) (by simp)
  refine ⟨_, wrI_at h2 (by omega) (by omega) _, ⟨NT_fr k1 h1 (by simp), _, up_eq _ _ _, fun j hj => ?_⟩, k1⟩
  by_cases c : j = k
  · subst c; rw [upL_at]; simp [upd]
  · rw [upL_ne c]; simp [upd, c, h3 j hj]
theorem R_sp42 {L M : List (Int64 × Int64)} {a V : Nat → Nat} (h : STp A F th aw L M a) (hV : ∀ k, V k < 32) (haV : ∀ k, k < 8 → a k ≤ V k) {x3 : Int32} {x4 : Int64} (K : Nat → Int64 → Int32 → Int64 → Int32 → Int64 → Mem → Option Mem) : ∀ (i n m : Nat), i + m = 8 → i < n → fX10_strip_42 K n (A 49) (jN (cdF V 8 0)) x3 x4 (iN (boxes (fun t => a (i + t)) m)) (jN (cdF (sbt V a) m i)) (iN i + (-1)) F = K (A 49) (jN (cdF V 8 0)) x3 x4 (iN (boxes a 8)) (jN (cdF (sbt V a) 8 0)) F := by
  obtain ⟨h1, f, h2, h3⟩ := h
  have vlt := cdF_lt hV 8 0
  have slt : ∀ k, sbt V a k < 32 := fun k => by unfold sbt; have := hV k; omega
  intro i
  induction i with
  | zero =>
    intro n m e1 e2
    obtain ⟨n', rfl⟩ : ∃ n', n = n' + 1 := ⟨n - 1, by omega⟩
    have : m = 8 := by omega
    subst this
    have hz : (fun t => a (0 + t)) = a := by funext t; rw [Nat.zero_add]
    rw [fX10_strip_42.eq_2, if_pos (by decide), hz]
  | succ i ih =>
    intro n m e1 e2
    obtain ⟨n', rfl⟩ : ∃ n', n = n' + 1 := ⟨n - 1, by omega⟩
    have q := ih n' (m + 1) (by omega) (by omega)
    have clt : cdF (sbt V a) m (i + 1) < 2 ^ 50 := by
      have := cdF_lt slt m (i + 1)
      have : 32 ^ m ≤ 32 ^ 8 := Nat.pow_le_pow_right (by omega) (by omega)
      have : (32 : Nat) ^ 8 < 2 ^ 50 := by decide
      omega
    have dg := cdF_dig hV 8 0 i (by omega)
    rw [Nat.zero_add] at dg
    have hai := haV i (by omega)
    have hvi := hV i
    rw [fX10_strip_42.eq_2, iN_pred, if_neg (iN_neg (by omega)), R_g9 (NT_obj h1), Option.bind_some, rdI_at h2 (by omega) (by omega), Option.bind_some, X10_part (Nat.lt_trans vlt (by decide)) (by omega), Option.bind_some]
    dsimp only
    rw [R_g9 (NT_obj h1), Option.bind_some, rdI_at h2 (by omega) (by omega), Option.bind_some, h3 i (by omega), dg, iN_sub hai, iN_add, show V i - a i = sbt V a i from rfl, j_shl5 clt (slt i)]
    rw [boxes_front, Nat.add_comm (a i)] at q
    exact q
/-- how many strips there are on rows below k -/
def nvS (V : Nat → Nat) : Nat → Nat
  | 0 => 1
  | k + 1 => (dif V k + 1) * nvS V k
abbrev K161 (n : Nat) : Nat → Int64 → Int32 → Int64 → Int32 → Mem → Option Mem := fun (x0 : Nat) (x1 : Int64) (x3 : Int32) (x4 : Int64) (x10 : Int32) (F : Mem) => fX10_strip_161 (fX10_strip_27 n) x0 x1 x3 x4 x10 F
theorem R_sp104 {L M : List (Int64 × Int64)} {a V : Nat → Nat} (h : STp A F th aw L M a) (hV : ∀ k, V k < 32) (hp : par V) (h8 : V 8 = 0) {x3 : Int32} {x4 : Int64} (K : Nat → Int64 → Int32 → Int64 → Int32 → Mem → Option Mem) {k fu : Nat} (hk : k < 8) (hak : a k < 100) : fX10_strip_104 K (fu + 1) (A 49) (jN (cdF V 8 0)) x3 x4 (iN k) F = if a k = dif V k then (wrI F (A 57) (iN k) 0).bind fun F154 => fX10_strip_104 K fu (A 49) (jN (cdF V 8 0)) x3 x4 (iN (k + 1)) F154 else K (A 49) (jN (cdF V 8 0)) x3 x4 (iN k) F := by
  obtain ⟨h1, f, h2, h3⟩ := h
  have vlt := Nat.lt_trans (cdF_lt hV 8 0) (show 32 ^ 8 < 2 ^ 63 by decide)
  have dg := cdF_dig hV 8 0 k hk
  rw [Nat.zero_add] at dg
  have hvk := hV k
  have hvk1 := hV (k + 1)
  have hpk := hp k
  rw [fX10_strip_104.eq_2, if_neg (fun q => by have := (iN_le (a := 8) (by omega) (by omega)).mp q; omega), R_g9 (NT_obj h1), Option.bind_some, rdI_at h2 (by omega) (by omega), Option.bind_some, X10_part vlt hk, Option.bind_some]
  dsimp only
  rw [dg, h3 k hk]
  have fin : ∀ w : Nat, w = V (k + 1) → fX10_strip_143 (fX10_strip_104 K fu) K (A 49) (jN (cdF V 8 0)) x3 x4 (iN k) (iN (a k)) (iN (V k)) (iN w) F = if a k = dif V k then (wrI F (A 57) (iN k) 0).bind fun F154 => fX10_strip_104 K fu (A 49) (jN (cdF V 8 0)) x3 x4 (iN (k + 1)) F154 else K (A 49) (jN (cdF V 8 0)) x3 x4 (iN k) F := by
    intro w hw
    subst hw
    unfold fX10_strip_143
    rw [iN_sub hpk, R_g9 (NT_obj h1), Option.bind_some, iN_one]
    by_cases c : a k = dif V k
    · rw [if_pos c, if_pos (by rw [c]; rfl)]
    · rw [if_neg c, if_neg (show ¬ iN (a k) = iN (V k - V (k + 1)) from fun q => c ((iN_inj (b := V k - V (k + 1)) (by omega) (by omega)).mp q))]
  by_cases c : k = 7
  · subst c
    rw [if_pos (show iN 7 = 7 from rfl)]
    exact fin 0 h8.symm
  · rw [if_neg (show ¬ iN k = 7 from fun q => c ((iN_inj (b := 7) (by omega) (by omega)).mp q)), iN_one, X10_part vlt (by omega), Option.bind_some]
    have dg1 := cdF_dig hV 8 0 (k + 1) (by omega)
    rw [Nat.zero_add] at dg1
    rw [dg1]
    exact fin (V (k + 1)) rfl
/-- the strips on the rows below k, one after the other -/
theorem R_od (hA : Inj A) {V : Nat → Nat} {n0 c : Nat} {t : Int64} {M : List (Int64 × Int64)} (hn : n0 < 17) (hc : c ≤ 16) (hnc : n0 + c ≤ 16) (hV : VSh (n0 + c) V) : ∀ (k : Nat), k ≤ 8 → ∀ (n : Nat) (F : Mem) (L : List (Int64 × Int64)) (a : Nat → Nat), (∀ j, j < k → a j = 0) → (∀ j, k ≤ j → j < 8 → a j ≤ dif V j) → (∀ j, 8 ≤ j → a j = 0) → VLs n0 L → STp A F th aw L M a → ∃ F', STp A F' th aw (odL V c t k a L) M a ∧ fX10_strip_27 (n + nvS V k) (A 49) (jN (cdF V 8 0)) (iN c) t 1 F = fX10_strip_104 (K161 n) (FU - k) (A 49) (jN (cdF V 8 0)) (iN c) t (iN k) F' ∧ Agr A [49, 57, 61, 62] F F' := by
  have fub := FU_big
  have vle := VSh_le hnc hV
  have hV32 : ∀ k, V k < 32 := fun k => by have := vle k; omega
  have dle : ∀ k, dif V k ≤ 16 := fun k => by have := vle k; unfold dif; omega
  intro k
  induction k with
  | zero =>
    intro _ n F L a ha1 ha2 ha8 hL h
    have haV : ∀ j, j < 8 → a j ≤ V j := fun j hj => by have := ha2 j (Nat.zero_le _) hj; unfold dif at this; omega
    have hlen := VLs_len hn hL
    have ble : boxes a 8 ≤ 8 * 16 := boxes_bd 8 (fun s hs => by have := haV s hs; have := vle s; omega)
    have head : ∀ K, fX10_strip_42 K FU (A 49) (jN (cdF V 8 0)) (iN c) t 0 0 7 F = K (A 49) (jN (cdF V 8 0)) (iN c) t (iN (boxes a 8)) (jN (cdF (sbt V a) 8 0)) F := fun K => R_sp42 h hV32 haV (x3 := iN c) (x4 := t) K 8 FU 0 (by omega) (by omega)
    have e0 : fX10_strip_27 (n + nvS V 0) (A 49) (jN (cdF V 8 0)) (iN c) t 1 F = if boxes a 8 = c then ((obj F (A 49) 9).bind fun _ => (mX10_note F (A 49) (jN (cdF (sbt V a) 8 0)) t).bind fun v98 => fX10_strip_101 (fX10_strip_27 n) (A 49) (jN (cdF V 8 0)) (iN c) t v98) else fX10_strip_101 (fX10_strip_27 n) (A 49) (jN (cdF V 8 0)) (iN c) t F := by
      show fX10_strip_27 (n + 1) _ _ _ _ _ _ = _
      rw [fX10_strip_27.eq_2, if_neg (by decide), head]
      by_cases e : boxes a 8 = c
      · rw [if_pos e, if_pos (by rw [e])]
      · rw [if_neg e, if_neg (fun q => e ((iN_inj (by omega) (by omega)).mp q))]
    rw [e0]
    obtain ⟨fs, hob⟩ := rObj_ob (NT_obj h.1)
    simp only [odL, vst]
    by_cases e : boxes a 8 = c
    · rw [if_pos e, if_pos e]
      obtain ⟨F1, a1, a2, a3⟩ := R_note hA h.1 hlen (jN (cdF (sbt V a) 8 0)) t
      obtain ⟨f, f1, f2⟩ := h.2
      refine ⟨F1, ⟨a2, f, (a3 57 (by omega) (by simp)).trans f1, f2⟩, ?_, a3.mono (by simp)⟩
      rw [hob, Option.bind_some, a1, Option.bind_some]
      rfl
    · rw [if_neg e, if_neg e]
      exact ⟨F, h, rfl, Agr.refl A _ F⟩
  | succ k ih =>
    intro hk n F L a ha1 ha2 ha8 hL h
    have ihk := ih (by omega)
    -- row k from v on
    have row : ∀ (r v n : Nat) (F : Mem) (L : List (Int64 × Int64)), v + r = dif V k → VLs n0 L → STp A F th aw L M (upL a k v) → ∃ F', STp A F' th aw (fvL (fun v L => odL V c t k (upL a k v) L) r v L) M (upL a k 0) ∧ fX10_strip_27 (n + (r + 1) * nvS V k) (A 49) (jN (cdF V 8 0)) (iN c) t 1 F = fX10_strip_104 (K161 n) (FU - (k + 1)) (A 49) (jN (cdF V 8 0)) (iN c) t (iN (k + 1)) F' ∧ Agr A [49, 57, 61, 62] F F' := by
      intro r
      induction r with
      | zero =>
        intro v n F L hv hL h
        have hv' : v = dif V k := by omega
        obtain ⟨F1, a1, a2, a3⟩ := ihk n F L (upL a k v) (fun j hj => by rw [upL_ne (by omega)]; exact ha1 j (by omega)) (fun j j1 j2 => by
          by_cases e : j = k
          · subst e; rw [upL_at]; omega
          · rw [upL_ne e]; exact ha2 j (by omega) j2) (fun j hj => by rw [upL_ne (by omega)]; exact ha8 j hj) hL h
        obtain ⟨F2, b1, b2, b3⟩ := STp_set hA a1 (k := k) (v := 0) (by omega)
        rw [upL_up] at b2
        refine ⟨F2, b2, ?_, a3.trans (b3.mono (by simp))⟩
        rw [show n + (0 + 1) * nvS V k = n + nvS V k by omega, a2, show FU - k = (FU - (k + 1)) + 1 by omega, R_sp104 a1 hV32 hV.1 (hV.2.1 8 (by omega)) (K161 n) (by omega) (by rw [upL_at]; have := dle k; omega), if_pos (by rw [upL_at]; exact hv'), il0, b1, Option.bind_some]
      | succ r ihr =>
        intro v n F L hv hL h
        obtain ⟨F1, a1, a2, a3⟩ := ihk (n + (r + 1) * nvS V k) F L (upL a k v) (fun j hj => by rw [upL_ne (by omega)]; exact ha1 j (by omega)) (fun j j1 j2 => by
          by_cases e : j = k
          · subst e; rw [upL_at]; omega
          · rw [upL_ne e]; exact ha2 j (by omega) j2) (fun j hj => by rw [upL_ne (by omega)]; exact ha8 j hj) hL h
        have hL1 : VLs n0 (odL V c t k (upL a k v) L) := VLs_odL hV k _ _ (by omega) (fun j j1 j2 => by
          by_cases e : j = k
          · subst e; rw [upL_at]; omega
          · rw [upL_ne e]; exact ha2 j (by omega) j2) (fun j hj => by rw [upL_ne (by omega)]; exact ha8 j hj) hL
        obtain ⟨F2, b1, b2, b3⟩ := STp_set hA a1 (k := k) (v := v + 1) (by omega)
        rw [upL_up] at b2
        obtain ⟨F3, c1, c2, c3⟩ := ihr (v + 1) n F2 _ (by omega) hL1 b2
        refine ⟨F3, c1, ?_, (a3.trans (b3.mono (by simp))).trans c3⟩
        obtain ⟨f, f1, f2⟩ := a1.2
        have dk := dle k
        have hs : n + (r + 1 + 1) * nvS V k = n + (r + 1) * nvS V k + nvS V k := by rw [Nat.add_mul (r + 1) 1, Nat.one_mul]; omega
        rw [hs, a2, show FU - k = (FU - (k + 1)) + 1 by omega, R_sp104 a1 hV32 hV.1 (hV.2.1 8 (by omega)) _ (by omega) (by rw [upL_at]; omega), if_neg (by rw [upL_at]; omega)]
        show fX10_strip_161 _ _ _ _ _ _ _ = _
        unfold fX10_strip_161
        rw [if_neg (fun q => by have := (iN_le (a := 8) (by omega) (by omega)).mp q; omega)]
        unfold fX10_strip_173
        rw [R_g9 (NT_obj a1.1), Option.bind_some, rdI_at f1 (by omega) (by omega), Option.bind_some, f2 k (by omega), upL_at, iN_one, b1, Option.bind_some]
        exact c2
    have hak : a k = 0 := ha1 k (by omega)
    have hu : upL a k 0 = a := upL_self hak
    obtain ⟨F', r1, r2, r3⟩ := row (dif V k) 0 n F L (by omega) hL (by rw [hu]; exact h)
    rw [hu] at r1
    exact ⟨F', r1, r2, r3⟩
theorem nvS_le {V : Nat → Nat} (h : ∀ k, dif V k ≤ 16) : ∀ k, nvS V k ≤ 17 ^ k := by
  intro k
  induction k with
  | zero => exact Nat.le_refl _
  | succ k ih =>
    simp only [nvS]
    rw [Nat.pow_succ, Nat.mul_comm]
    exact Nat.mul_le_mul ih (by have := h k; omega)
theorem R_sp3 (hA : Inj A) {x1 : Int64} {x3 : Int32} {x4 : Int64} (K : Nat → Int64 → Int32 → Int64 → Mem → Option Mem) {f : Nat → Int32} : ∀ (m n i : Nat) (F : Mem), i + m = 9 → m < n → rObj A F th aw → F (A 57) = .inl (0, 9, .inl (fillF 0 i (fun _ => 0) f)) → fX10_strip_3 K n (A 49) x1 x3 x4 (iN i) F = K (A 49) x1 x3 x4 (va_up F (A 57) (.inl (0, 9, .inl (fillF 0 9 (fun _ => 0) f)))) := by
  intro m
  induction m with
  | zero =>
    intro n i F h1 h2 ho h
    obtain ⟨n', rfl⟩ : ∃ n', n = n' + 1 := ⟨n - 1, by omega⟩
    have : i = 9 := by omega
    subst this
    rw [fX10_strip_3.eq_2, if_pos (by decide), up_self h]
  | succ m ih =>
    intro n i F h1 h2 ho h
    obtain ⟨n', rfl⟩ : ∃ n', n = n' + 1 := ⟨n - 1, by omega⟩
    have k1 : Agr A [57] F (va_up F (A 57) (.inl (0, 9, .inl (fillF 0 (i + 1) (fun _ => 0) f)))) := (Agr.refl A _ F).up hA (by omega) (by simp)
    have e := ih n' (i + 1) _ (by omega) (by omega) (rObj_fr k1 ho (by simp)) (up_eq _ _ _)
    have e2 : wrI F (A 57) (iN i) 0 = some (va_up F (A 57) (.inl (0, 9, .inl (fillF 0 (i + 1) (fun _ => 0) f)))) := by
      have := fillF_s 0 i (fun _ => 0) f
      rw [Nat.zero_add] at this
      rw [wrI_at h (by omega) (by omega), this]
    rw [fX10_strip_3.eq_2, if_neg (fun q => by have := (iN_le (a := 9) (b := i) (by omega) (by omega)).mp q; omega), R_g9 ho, Option.bind_some, e2, Option.bind_some, iN_one, e, up_up]
theorem FU_17 : 17 ^ 8 + 2 < FU := by unfold FU; decide
theorem R_strip (hA : Inj A) {V : Nat → Nat} {n0 c : Nat} {t : Int64} {L M : List (Int64 × Int64)} (hn : n0 < 17) (hc : c ≤ 16) (hnc : n0 + c ≤ 16) (hV : VSh (n0 + c) V) (hL : VLs n0 L) (h : NT A F th aw L M) (h57 : ar0 F (A 57) 9) : ∃ F', mX10_strip F (A 49) (jN (cdF V 8 0)) (iN c) t = some F' ∧ NT A F' th aw (odL V c t 8 (fun _ => 0) L) M ∧ ar0 F' (A 57) 9 ∧ Agr A [49, 57, 61, 62] F F' := by
  have fub := FU_17
  obtain ⟨f, h57⟩ := h57
  have vle := VSh_le hnc hV
  have dle : ∀ k, dif V k ≤ 16 := fun k => by have := vle k; unfold dif; omega
  have nv := nvS_le dle 8
  have e1 := R_sp3 hA (x1 := jN (cdF V 8 0)) (x3 := iN c) (x4 := t) (fun (x0 : Nat) (x1 : Int64) (x3 : Int32) (x4 : Int64) (F : Mem) => fX10_strip_27   FU x0 x1 x3 x4 1 F) (f := f) 9 FU 0 F (by omega) (by omega) (NT_obj h) (by rw [fillF_z]; exact h57)
  generalize hF1 : va_up F (A 57) (.inl (0, 9, .inl (fillF 0 9 (fun _ => 0) f))) = F1 at e1
  have k1 : Agr A [57] F F1 := by rw [← hF1]; exact (Agr.refl A _ F).up hA (by omega) (by simp)
  obtain ⟨F2, a1, a2, a3⟩ := R_od hA (t := t) (M := M) hn hc hnc hV 8 (Nat.le_refl _) (FU - nvS V 8) F1 L (fun _ => 0) (fun j _ => rfl) (fun j _ _ => Nat.zero_le _) (fun j _ => rfl) hL ⟨NT_fr k1 h (by simp), _, by rw [← hF1, up_eq], fun k hk => by rw [fillF_in (by omega)]; rfl⟩
  rw [show FU - nvS V 8 + nvS V 8 = FU by omega] at a2
  obtain ⟨g, g1, g2⟩ := a1.2
  have k3 : Agr A [57] F2 (va_up F2 (A 57) (.inl (0, 9, .inl (upd g 8 (g 8 + 1))))) := (Agr.refl A _ F2).up hA (by omega) (by simp)
  refine ⟨va_up F2 (A 57) (.inl (0, 9, .inl (upd g 8 (g 8 + 1)))), ?_, NT_fr k3 a1.1 (by simp), ⟨_, up_eq _ _ _⟩, ((k1.mono (by simp)).trans a3).trans (k3.mono (by simp))⟩
  unfold mX10_strip
  refine Eq.trans e1 ?_
  rw [a2, show FU - 8 = (FU - 9) + 1 by omega, fX10_strip_104.eq_2, if_pos (by decide)]
  show fX10_strip_161 _ _ _ _ _ _ _ = _
  unfold fX10_strip_161
  rw [if_pos (by decide)]
  unfold fX10_strip_173
  rw [R_g9 (NT_obj a1.1), Option.bind_some, rdI_at g1 (by omega) (by omega), Option.bind_some, wrI_at g1 (by omega) (by omega), Option.bind_some]
  obtain ⟨q, hq⟩ : ∃ q, FU - nvS V 8 = q + 1 := ⟨FU - nvS V 8 - 1, by omega⟩
  rw [hq, fX10_strip_27.eq_2, if_pos rfl]
end FILR2
