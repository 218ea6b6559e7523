section STD3
variable {A : Nat → Nat} {F : Mem} {S W : Nat → Nat → Nat} {N : Nat → Nat} {PT : Nat → Nat → Nat} {PO : Nat → Nat} {QT : Nat → Nat → Nat} {QO : Nat → Nat} {aw : Bool} {th : Int32}
def pwJ (m : Nat) : Nat → Int64 → Int64
  | 0, x => x
  | k + 1, x => pwJ m k (x * Int32.toInt64 (iN m))
def kvI (w : Int32) : Nat := w.toInt.toNat
def prd (v : Nat → Int) : Nat → Nat → Int64 → Int64
  | 0, _, x => x
  | n + 1, m, x => prd v n (m + 1) (pwJ m (kvI (Int32.ofInt (v m))) x)
theorem kvI_lt (w : Int32) : kvI w < 2 ^ 31 := by
  have := Int32.toInt_lt w
  unfold kvI
  omega
theorem FU_31 : 2 ^ 31 + 2 < FU := by unfold FU; decide
theorem le_kv {w : Int32} {k : Nat} (hk : k < 2 ^ 31) : w ≤ iN k ↔ kvI w ≤ k := by
  rw [Int32.le_iff_toInt_le, iN_int hk]
  unfold kvI
  omega
theorem R_st141 (ho : rObj A F th aw) {y : Nat → Int} (hy : AP A F y) {m : Nat} (hm : m < 40) (K : Nat → Int64 → Int32 → Mem → Option (Int64 × Mem)) : ∀ (d k n : Nat) (x : Int64), (k + d = kvI (Int32.ofInt (y m)) ∨ (d = 0 ∧ kvI (Int32.ofInt (y m)) ≤ k)) → k < 2 ^ 31 → d < n → fX10_standard_141 K n (A 49) x (iN m) (iN k) F = K (A 49) (pwJ m d x) (iN m) F := by
  obtain ⟨g, h1, h2⟩ := hy
  have kl := kvI_lt (Int32.ofInt (y m))
  intro d
  induction d with
  | zero =>
    intro k n x e1 e2 e3
    obtain ⟨n', rfl⟩ : ∃ n', n = n' + 1 := ⟨n - 1, by omega⟩
    rw [fX10_standard_141.eq_2, R_g19 ho, Option.bind_some, rdI_at h1 hm (by omega), Option.bind_some, h2 m hm, if_pos ((le_kv e2).mpr (by omega))]
    rfl
  | succ d ih =>
    intro k n x e1 e2 e3
    obtain ⟨n', rfl⟩ : ∃ n', n = n' + 1 := ⟨n - 1, by omega⟩
    rw [fX10_standard_141.eq_2, R_g19 ho, Option.bind_some, rdI_at h1 hm (by omega), Option.bind_some, h2 m hm, if_neg (fun w => by have := (le_kv e2).mp w; omega), iN_one, ih (k + 1) n' _ (by omega) (by omega) (by omega)]
    rfl
theorem R_st131 (ho : rObj A F th aw) {y : Nat → Int} (hy : AP A F y) : ∀ (m fu p : Nat) (x : Int64), p + m = 40 → m < fu → fX10_standard_131 fu (A 49) x (iN p) F = some (prd y m p x, F) := by
  have fub := FU_31
  intro m
  induction m with
  | zero =>
    intro fu p x e1 e2
    obtain ⟨f', rfl⟩ : ∃ f', fu = f' + 1 := ⟨fu - 1, by omega⟩
    have : p = 40 := by omega
    subst this
    rw [fX10_standard_131.eq_2, if_pos (by decide)]
    rfl
  | succ m ih =>
    intro fu p x e1 e2
    obtain ⟨f', rfl⟩ : ∃ f', fu = f' + 1 := ⟨fu - 1, by omega⟩
    have kl := kvI_lt (Int32.ofInt (y p))
    rw [fX10_standard_131.eq_2, if_neg (fun q => by have := (iN_le (a := 40) (by omega) (by omega)).mp q; omega)]
    refine Eq.trans (R_st141 ho hy (m := p) (by omega) _ (kvI (Int32.ofInt (y p))) 0 FU x (by omega) (by omega) (by omega)) ?_
    rw [iN_one]
    exact ih f' (p + 1) _ (by omega) (by omega)
theorem R_st27 (hA : Inj A) {x1 : Int32} (K : Nat → Int32 → Mem → Option (Int64 × Mem)) {f : Nat → Int32} : ∀ (m n i : Nat) (F : Mem), i + m = 40 → m < n → rObj A F th aw → F (A 65) = .inl (0, 40, .inl (fillF 0 i (fun _ => 0) f)) → fX10_standard_27 K n (A 49) x1 (iN i) F = K (A 49) x1 (va_up F (A 65) (.inl (0, 40, .inl (fillF 0 40 (fun _ => 0) f)))) := by
  intro m
  induction m with
  | zero =>
    intro n i F h1 h2 ho h
    obtain ⟨n', rfl⟩ : ∃ n', n = n' + 1 := ⟨n - 1, by omega⟩
    have : i = 40 := by omega
    subst this
    rw [fX10_standard_27.eq_2, if_pos (by decide), up_self h]
  | succ m ih =>
    intro n i F h1 h2 ho h
    obtain ⟨n', rfl⟩ : ∃ n', n = n' + 1 := ⟨n - 1, by omega⟩
    have k1 : Agr A [65] F (va_up F (A 65) (.inl (0, 40, .inl (fillF 0 (i + 1) (fun _ => 0) f)))) := (Agr.refl A _ F).up hA (by omega) (by simp)
    have e := ih n' (i + 1) _ (by omega) (by omega) (rObj_fr k1 ho (by simp)) (up_eq _ _ _)
    have e2 : wrI F (A 65) (iN i) 0 = some (va_up F (A 65) (.inl (0, 40, .inl (fillF 0 (i + 1) (fun _ => 0) f)))) := by
      have := fillF_s 0 i (fun _ => 0) f
      rw [Nat.zero_add] at this
      rw [wrI_at h (by omega) (by omega), this]
    rw [fX10_standard_27.eq_2, if_neg (fun q => by have := (iN_le (a := 40) (b := i) (by omega) (by omega)).mp q; omega), R_g19 ho, Option.bind_some, e2, Option.bind_some, iN_one, e, up_up]
theorem R_standard (hA : Inj A) (h : RR A F S W N PT PO QT QO aw th) (hS : ∀ i, i < 4 → okS (S i)) {i : Nat} (hi : i < 4) : ∃ F', mX10_standard F (A 49) (iN i) = some (prd (fun q => stdW (S i) (nu q)) 38 2 1, F') ∧ RR A F' S W N PT PO QT QO aw 0 ∧ Agr A RTs F F' := by
  have fub := FU_big
  obtain ⟨F1, e, h', k⟩ := RR_th hA h 0
  have bi := (hS i hi).2.2
  obtain ⟨w1, w2, w3, w4, w5, w6, w7, w8, w9, w10, ⟨f65, w11⟩⟩ := id h'.2.2.2.2
  generalize hF2 : va_up F1 (A 65) (.inl (0, 40, .inl (fillF 0 40 (fun _ => 0) f65))) = F2
  have k2 : Agr A [65] F1 F2 := by rw [← hF2]; exact (Agr.refl A _ F1).up hA (by omega) (by simp)
  have o2 := rObj_fr k2 h'.1 (by simp)
  have s2 := rShp_fr k2 h'.2.1 (by simp)
  obtain ⟨fs2, hob2⟩ := rObj_ob o2
  have ap2 : AP A F2 (fun _ => 0) := ⟨_, by rw [← hF2, up_eq], fun p hp => by rw [fillF_in (by omega)]; rfl⟩
  obtain ⟨F3, a1, a2, a3⟩ := R_factorial hA (t := 1) (n := boxes (S i) 8) (by omega) o2 ap2
  obtain ⟨F4, b1, b2, b3⟩ := R_st58 hA hi (hS i hi) (y := fun q => smW (nu q) (boxes (S i) 8)) (fun (x0 : Nat) (F : Mem) => fX10_standard_131   FU x0 1 2 F) 8 FU 0 F3 (by omega) (by omega) (rObj_fr a3 o2 (by simp)) (rShp_fr a3 s2 (by simp)) (AP_congr a2 (fun q _ => by simp only [sumZ]; omega))
  have k14 : Agr A [65] F1 F4 := (k2.trans a3).trans b3
  have o4 := rObj_fr k14 h'.1 (by simp)
  have c := R_st131 o4 b2 38 FU 2 1 (by omega) (by omega)
  obtain ⟨g4, g41, g42⟩ := id b2
  refine ⟨F4, ?_, ⟨o4, rShp_fr k14 h'.2.1 (by simp), rWrd_fr k14 h'.2.2.1 (by simp), rTab_fr k14 h'.2.2.2.1 (by simp), ar0_fr k14 w1 (by omega) (by simp), (k14 _ (by omega) (by simp)).trans w2, ar0_fr k14 w3 (by omega) (by simp), ar0_fr k14 w4 (by omega) (by simp), ar0_fr k14 w5 (by omega) (by simp), ar0_fr k14 w6 (by omega) (by simp), ar1_fr k14 w7 (by omega) (by simp), ar1_fr k14 w8 (by omega) (by simp), ar1_fr k14 w9 (by omega) (by simp), ar1_fr k14 w10 (by omega) (by simp), ⟨g4, g41⟩⟩, (k.mono (RTs_of (fun t q => by simp at q; omega))).trans (k14.mono (RTs_of (fun t q => by simp at q; omega)))⟩
  unfold mX10_standard
  rw [R_slot hi, Option.bind_some, if_neg ne10]
  unfold fX10_standard_13
  rw [e, Option.bind_some, rObj_th h'.1, Option.bind_some, if_pos (by decide)]
  refine Eq.trans (R_st27 hA (x1 := iN i) _ (f := f65) 40 FU 0 F1 (by omega) (by omega) h'.1 (by rw [fillF_z]; exact w11)) ?_
  rw [hF2, hob2, Option.bind_some, R_boxesOf o2 s2 hi, Option.bind_some]
  dsimp only
  rw [hob2, Option.bind_some, show (1 : Int32) = Int32.ofInt 1 from rfl, a1, Option.bind_some]
  refine Eq.trans b1 ?_
  exact c
theorem R_standard_no (hA : Inj A) (h : RR A F S W N PT PO QT QO aw th) {y : Int32} (hy : y < 0 ∨ (¬ y < 0 ∧ iN 4 ≤ y)) : ∃ F', RR A F' S W N PT PO QT QO aw 1 ∧ Agr A RTs F F' ∧ mX10_standard F (A 49) y = some (0, F') := by
  obtain ⟨F', e, h', k⟩ := RR_th hA h 1
  refine ⟨F', h', k.mono (RTs_of (fun t q => by simp at q; omega)), ?_⟩
  unfold mX10_standard
  rw [R_noslot hy, Option.bind_some, if_pos rfl]
  unfold fX10_standard_13
  rw [e, Option.bind_some, rObj_th h'.1, Option.bind_some, if_neg (by decide)]
/-- the class's powers -/
def AQ (A : Nat → Nat) (F : Mem) (v : Nat → Int) : Prop := ∃ g, F (A 23) = .inl (0, 25, .inl g) ∧ ∀ p, p < 25 → g p = Int32.ofInt (v p)
abbrev c22 (A : Nat → Nat) : Cl := .inr (5, [.ref (A 23)])
def upZ (v : Nat → Int) (k : Nat) (z : Int) : Nat → Int := fun q => if q = k then z else v q
theorem AQ_set (hA : Inj A) {v : Nat → Int} {k : Nat} {z : Int} (h : AQ A F v) (hk : k < 25) : ∃ F', wrI F (A 23) (iN k) (Int32.ofInt z) = some F' ∧ AQ A F' (upZ v k z) ∧ Agr A [23] F F' := by
  obtain ⟨g, h1, h2⟩ := h
  have k1 : Agr A [23] F (va_up F (A 23) (.inl (0, 25, .inl (upd g k (Int32.ofInt z))))) := (Agr.refl A _ F).up hA (by omega) (by simp)
  refine ⟨_, wrI_at h1 hk (by omega) _, ⟨_, up_eq _ _ _, fun q hq => ?_⟩, k1⟩
  unfold upZ
  simp only [upd]
  by_cases c : q = k
  · rw [if_pos c, if_pos c]
  · rw [if_neg c, if_neg c, h2 q hq]
theorem AQ_get {v : Nat → Int} {k : Nat} (h : AQ A F v) (hk : k < 25) : rdI F 0 (A 23) (iN k) = some (Int32.ofInt (v k)) := by
  obtain ⟨g, h1, h2⟩ := h
  rw [rdI_at h1 hk (by omega), h2 k hk]
/-- powers weighed -/
def LwZ (w v : Nat → Int) : Int := sumZ (fun m => w m * v m) 25
theorem LwZ_up (w v : Nat → Int) {k : Nat} (z : Int) (hk : k < 25) : LwZ w (upZ v k z) = LwZ w v + w k * (z - v k) := by
  unfold LwZ
  have e : sumZ (fun m => w m * upZ v k z m) 25 = sumZ (fun m => w m * v m + (if m = k then w k * (z - v k) else 0)) 25 := by
    apply sumZ_congr
    intro m _
    unfold upZ
    by_cases c : m = k
    · subst c
      rw [if_pos rfl, if_pos rfl, ← Int.mul_add]
      congr 1
      omega
    · rw [if_neg c, if_neg c, Int.add_zero]
  rw [e, sumZ_add, sumZ_single (g := fun m => if m = k then w k * (z - v k) else 0) (i0 := k) hk (fun m _ hne => if_neg hne), if_pos rfl]
theorem X6_ct13 (hA : Inj A) {x1 : Nat} (K : Nat → Nat → Mem → Option (Int64 × Mem)) : ∀ (n fu : Nat) (F : Mem) (v : Nat → Int), n < 25 → n < fu → F (A 22) = c22 A → AQ A F v → ∃ F' v', fX6_count_13 K fu (A 22) x1 (iN n) F = K (A 22) x1 F' ∧ AQ A F' v' ∧ (∀ w, LwZ w v' = LwZ w v + smW w n) ∧ Agr A [23] F F' := by
  intro n
  induction n with
  | zero =>
    intro fu F v h1 h2 h22 hv
    obtain ⟨f', rfl⟩ : ∃ f', fu = f' + 1 := ⟨fu - 1, by omega⟩
    refine ⟨F, v, ?_, hv, fun w => (Int.add_zero _).symm, Agr.refl A _ F⟩
    rw [fX6_count_13.eq_2, if_pos (by decide)]
  | succ n ih =>
    intro fu F v h1 h2 h22 hv
    obtain ⟨f', rfl⟩ : ∃ f', fu = f' + 1 := ⟨fu - 1, by omega⟩
    obtain ⟨F1, a1, a2, a3⟩ := AQ_set hA (z := v (n + 1) + 1) hv h1
    obtain ⟨F2, v2, b1, b2, b3, b4⟩ := ih f' F1 _ (by omega) (by omega) ((a3 22 (by omega) (by simp)).trans h22) a2
    refine ⟨F2, v2, ?_, b2, fun w => ?_, a3.trans b4⟩
    · rw [fX6_count_13.eq_2, if_neg (show ¬ iN (n + 1) ≤ 0 from fun q => by have := (iN_le (b := 0) (by omega) (by omega)).mp q; omega), gfR_at (k := 0) (v := A 23) h22 rfl, Option.bind_some, AQ_get hv h1, Option.bind_some, show (1 : Int32) = Int32.ofInt 1 from rfl, ← Int32.ofInt_add, a1, Option.bind_some, show iN (n + 1) + -Int32.ofInt 1 = iN n from iN_pred n]
      exact b1
    · rw [b3, LwZ_up w v _ h1, smW_s, show v (n + 1) + 1 - v (n + 1) = 1 by omega, Int.mul_one]
      omega
theorem X4_hookOf {a la : Nat} {V : Nat → Nat} (h : isS F a la V) (hV : okS V) {r c : Nat} (hr : r < 8) (hc : c < V r) : mX4_hookOf F a (iN r) (iN c) = some (iN (hkN V r c), F) := by
  have hle := okS_le hV
  have l1 := hle r
  have hk := hk_le hV hr hc
  unfold mX4_hookOf mX4_armOf
  rw [obj_of h.1, Option.bind_some, Option.bind_some, X4_rowLength h hV.2.1 (by omega), Option.bind_some]
  dsimp only
  rw [Option.bind_some]
  dsimp only
  rw [obj_of h.1, Option.bind_some, X4_columnLength h hle (by omega), Option.bind_some]
  dsimp only
  rw [il1, iN_sub (by omega), iN_sub (by omega), iN_add]
  unfold hkN at hk
  rw [iN_sub (by omega)]
  rfl
theorem X6_ct43 (hA : Inj A) {a la r : Nat} {V : Nat → Nat} (hV : okS V) (hr : r < 8) (ha : a < 67 ∧ la < 67 ∧ a ≠ 23 ∧ la ≠ 23) (K : Nat → Nat → Int32 → Mem → Option (Int64 × Mem)) : ∀ (m fu c : Nat) (F : Mem) (v : Nat → Int), c + m = V r → m < fu → F (A 22) = c22 A → isS F (A a) (A la) V → AQ A F v → ∃ F' v', fX6_count_43 K fu (A 22) (A a) (iN r) (iN c) F = K (A 22) (A a) (iN r) F' ∧ AQ A F' v' ∧ (∀ w, LwZ w v' = LwZ w v - (sumZ (fun c => w (hkN V r c)) (V r) - sumZ (fun c => w (hkN V r c)) c)) ∧ Agr A [23] F F' := by
  have hle := okS_le hV r
  intro m
  induction m with
  | zero =>
    intro fu c F v e1 e2 h22 hS hv
    obtain ⟨f', rfl⟩ : ∃ f', fu = f' + 1 := ⟨fu - 1, by omega⟩
    have : c = V r := by omega
    subst this
    refine ⟨F, v, ?_, hv, fun w => by omega, Agr.refl A _ F⟩
    rw [fX6_count_43.eq_2, gfR_at (k := 0) (v := A la) hS.1 rfl, Option.bind_some, rdI_at hS.2 hr (by omega), Option.bind_some, if_pos (Int32.le_refl _)]
  | succ m ih =>
    intro fu c F v e1 e2 h22 hS hv
    obtain ⟨f', rfl⟩ : ∃ f', fu = f' + 1 := ⟨fu - 1, by omega⟩
    have hk := hk_le hV hr (show c < V r by omega)
    obtain ⟨F1, a1, a2, a3⟩ := AQ_set hA (z := v (hkN V r c) - 1) hv (show hkN V r c < 25 by omega)
    obtain ⟨F2, v2, b1, b2, b3, b4⟩ := ih f' (c + 1) F1 _ (by omega) (by omega) ((a3 22 (by omega) (by simp)).trans h22) (isS_fr hS (a3 _ ha.1 (by simp; exact ha.2.2.1)) (a3 _ ha.2.1 (by simp; exact ha.2.2.2))) a2
    refine ⟨F2, v2, ?_, b2, fun w => ?_, a3.trans b4⟩
    · rw [fX6_count_43.eq_2, gfR_at (k := 0) (v := A la) hS.1 rfl, Option.bind_some, rdI_at hS.2 hr (by omega), Option.bind_some, if_neg (fun q => by have := (iN_le (by omega) (by omega)).mp q; omega), gfR_at (k := 0) (v := A 23) h22 rfl, Option.bind_some, obj_of hS.1, Option.bind_some, X4_hookOf hS hV hr (by omega), Option.bind_some]
      dsimp only
      rw [AQ_get hv (by omega), Option.bind_some, show (1 : Int32) = Int32.ofInt 1 from rfl, ← Int32.ofInt_sub, a1, Option.bind_some]
      rw [show iN c + Int32.ofInt 1 = iN (c + 1) from iN_one _]
      exact b1
    · rw [b3, LwZ_up w v _ (by omega), show v (hkN V r c) - 1 - v (hkN V r c) = -1 by omega]
      simp only [sumZ]
      omega
theorem X6_ct35 (hA : Inj A) {a la : Nat} {V : Nat → Nat} (hV : okS V) (ha : a < 67 ∧ la < 67 ∧ a ≠ 23 ∧ la ≠ 23) (K : Nat → Mem → Option (Int64 × Mem)) : ∀ (m fu r : Nat) (F : Mem) (v : Nat → Int), r + m = 8 → m < fu → F (A 22) = c22 A → isS F (A a) (A la) V → AQ A F v → ∃ F' v', fX6_count_35 K fu (A 22) (A a) (iN r) F = K (A 22) F' ∧ AQ A F' v' ∧ (∀ w, LwZ w v' = LwZ w v - (sumZ (fun r => sumZ (fun c => w (hkN V r c)) (V r)) 8 - sumZ (fun r => sumZ (fun c => w (hkN V r c)) (V r)) r)) ∧ Agr A [23] F F' := by
  have fub := FU_big
  intro m
  induction m with
  | zero =>
    intro fu r F v e1 e2 h22 hS hv
    obtain ⟨f', rfl⟩ : ∃ f', fu = f' + 1 := ⟨fu - 1, by omega⟩
    have : r = 8 := by omega
    subst this
    refine ⟨F, v, ?_, hv, fun w => by omega, Agr.refl A _ F⟩
    rw [fX6_count_35.eq_2, if_pos (by decide)]
  | succ m ih =>
    intro fu r F v e1 e2 h22 hS hv
    obtain ⟨f', rfl⟩ : ∃ f', fu = f' + 1 := ⟨fu - 1, by omega⟩
    have hle := okS_le hV r
    obtain ⟨F1, v1, a1, a2, a3, a4⟩ := X6_ct43 hA hV (show r < 8 by omega) ha (fun (x0 : Nat) (x1 : Nat) (x2 : Int32) (F : Mem) => (fX6_count_35  K f') x0 x1 (x2 + 1) F) (V r) FU 0 F v (by omega) (by omega) h22 hS hv
    obtain ⟨F2, v2, b1, b2, b3, b4⟩ := ih f' (r + 1) F1 v1 (by omega) (by omega) ((a4 22 (by omega) (by simp)).trans h22) (isS_fr hS (a4 _ ha.1 (by simp; exact ha.2.2.1)) (a4 _ ha.2.1 (by simp; exact ha.2.2.2))) a2
    refine ⟨F2, v2, ?_, b2, fun w => ?_, a4.trans b4⟩
    · rw [fX6_count_35.eq_2, if_neg (fun q => by have := (iN_le (a := 8) (by omega) (by omega)).mp q; omega)]
      refine Eq.trans a1 ?_
      rw [iN_one]
      exact b1
    · rw [b3, a3]
      simp only [sumZ]
      omega
end STD3
