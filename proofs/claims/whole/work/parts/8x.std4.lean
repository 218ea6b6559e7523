section STD4
variable {A : Nat → Nat} {F : Mem} {S W : Nat → Nat → Nat} {N : Nat → Nat} {PT : Nat → Nat → Nat} {PO : Nat → Nat} {QT : Nat → Nat → Nat} {QO : Nat → Nat} {aw : Bool} {th : Int32}
def cmpB (m : Nat) : Bool := (m % 2 == 0 && Nat.ble 4 m) || (m % 3 == 0 && Nat.ble 9 m)
theorem nu_split : ∀ p : Fin 40, ∀ m : Fin 25, ∀ q : Fin 5, 2 ≤ q.val → q.val * q.val ≤ m.val → m.val % q.val = 0 → (nuL m.val).count p.val = (nuL q.val).count p.val + (nuL (m.val / q.val)).count p.val := by decide +kernel
theorem nu_prime : ∀ p : Fin 25, ∀ m : Fin 25, 2 ≤ p.val → cmpB p.val = false → cmpB m.val = false → (nuL m.val).count p.val = if m.val = p.val then 1 else 0 := by decide +kernel
theorem nu_comp : ∀ p : Fin 25, ∀ m : Fin 25, cmpB p.val = true → (nuL m.val).count p.val = 0 := by decide +kernel
theorem nu_big : ∀ p : Fin 40, ∀ m : Fin 25, 25 ≤ p.val → (nuL m.val).count p.val = 0 := by decide +kernel
theorem X6_put (hA : Inj A) {m q : Nat} {v : Nat → Int} (hq : 2 ≤ q) (hqq : q * q ≤ m) (hm : m ≤ 24) (hd : m % q = 0) (h22 : F (A 22) = c22 A) (hv : AQ A F v) : ∃ F' v', ((gfR F (A 22) 5 0).bind fun v16 => (rdI F 0 v16 (iN q)).bind fun v21 => (gfR F (A 22) 5 0).bind fun v23 => (rdI F 0 v23 (iN m)).bind fun v27 => (wrI F v16 (iN q) (v21 + v27)).bind fun F29 => (gfR F29 (A 22) 5 0).bind fun v31 => (idiv0 (iN m) (iN q)).bind fun v36 => (rdI F29 0 v31 v36).bind fun v38 => (gfR F29 (A 22) 5 0).bind fun v40 => (rdI F29 0 v40 (iN m)).bind fun v44 => (wrI F29 v31 v36 (v38 + v44)).bind fun F46 => (gfR F46 (A 22) 5 0).bind fun v48 => (wrI F46 v48 (iN m) 0).bind fun F53 => some F53) = some F' ∧ AQ A F' v' ∧ (∀ w : Nat → Int, w m = w q + w (m / q) → LwZ w v' = LwZ w v) ∧ (∀ k, m < k → v' k = v k) ∧ v' m = 0 ∧ Agr A [23] F F' := by
  have qm : q < m := by
    have : 2 * q ≤ q * q := Nat.mul_le_mul_right q hq
    omega
  have dm : m / q < m := Nat.div_lt_self (by omega) (by omega)
  obtain ⟨F1, a1, a2, a3⟩ := AQ_set hA (k := q) (z := v q + v m) hv (by omega)
  have b22 := (a3 22 (by omega) (by simp)).trans h22
  obtain ⟨F2, b1, b2, b3⟩ := AQ_set hA (k := m / q) (z := upZ v q (v q + v m) (m / q) + upZ v q (v q + v m) m) a2 (by omega)
  have c22' := (b3 22 (by omega) (by simp)).trans b22
  obtain ⟨F3, c1, c2, c3⟩ := AQ_set hA (k := m) (z := 0) b2 (by omega)
  have um : upZ v q (v q + v m) m = v m := by unfold upZ; rw [if_neg (by omega)]
  refine ⟨F3, _, ?_, c2, fun w hw => ?_, fun k hk => ?_, ?_, (a3.trans b3).trans c3⟩
  · rw [gfR_at (k := 0) (v := A 23) h22 rfl, Option.bind_some, AQ_get hv (by omega), Option.bind_some, Option.bind_some, AQ_get hv (by omega), Option.bind_some, ← Int32.ofInt_add, a1, Option.bind_some, gfR_at (k := 0) (v := A 23) b22 rfl, Option.bind_some, idiv_at (by omega) (by omega) (by omega), Option.bind_some, AQ_get a2 (by omega), Option.bind_some, Option.bind_some, AQ_get a2 (by omega), Option.bind_some, ← Int32.ofInt_add, b1, Option.bind_some, gfR_at (k := 0) (v := A 23) c22' rfl, Option.bind_some, show (0 : Int32) = Int32.ofInt 0 from rfl, c1, Option.bind_some]
  · have u2 : upZ (upZ v q (v q + v m)) (m / q) (upZ v q (v q + v m) (m / q) + upZ v q (v q + v m) m) m = v m := by unfold upZ; rw [if_neg (by omega), if_neg (by omega)]
    rw [LwZ_up _ _ _ (by omega), LwZ_up _ _ _ (by omega), LwZ_up _ _ _ (by omega), u2, um, show upZ v q (v q + v m) (m / q) + v m - upZ v q (v q + v m) (m / q) = v m by omega, show v q + v m - v q = v m by omega, hw, Int.add_mul, show (0 : Int) - v m = -v m by omega, Int.mul_neg, Int.mul_neg]
    omega
  · unfold upZ
    rw [if_neg (by omega), if_neg (by omega), if_neg (by omega)]
  · unfold upZ
    rw [if_pos rfl]
theorem X6_split (hA : Inj A) {m : Nat} {v : Nat → Int} (hm2 : 2 ≤ m) (hm : m ≤ 24) (h22 : F (A 22) = c22 A) (hv : AQ A F v) : ∃ F' v', mX6_splitIntoFactors F (A 22) (iN m) = some F' ∧ AQ A F' v' ∧ (∀ w : Nat → Int, (∀ q, 2 ≤ q → q * q ≤ m → m % q = 0 → w m = w q + w (m / q)) → LwZ w v' = LwZ w v) ∧ (∀ k, m < k → v' k = v k) ∧ (cmpB m = true → v' m = 0) ∧ Agr A [23] F F' := by
  have fub := FU_big
  obtain ⟨f, hf⟩ : ∃ f, FU = f + 4 := ⟨FU - 4, by omega⟩
  have step : ∀ (K : Nat → Int32 → Int32 → Mem → Option Mem) (n x : Nat), 2 ≤ x → x < 10 → fX6_splitIntoFactors_2 K (n + 1) (A 22) (iN m) (iN x) F = if m < x * x then some F else if m % x = 0 then K (A 22) (iN m) (iN x) F else fX6_splitIntoFactors_2 K n (A 22) (iN m) (iN (x + 1)) F := by
    intro K n x hx hx2
    have : x * x ≤ 9 * 9 := Nat.mul_le_mul (by omega) (by omega)
    rw [fX6_splitIntoFactors_2.eq_2, iN_mul, irem_at (by omega) (by omega) (by omega), Option.bind_some, iN_one]
    by_cases c : m < x * x
    · rw [if_pos c, if_pos ((iN_lt (by omega) (by omega)).mpr c)]
    · rw [if_neg c, if_neg (fun w => c ((iN_lt (by omega) (by omega)).mp w))]
      have ml := Nat.mod_lt m (show 0 < x by omega)
      by_cases d : m % x = 0
      · rw [if_pos d, if_pos (show iN (m % x) = 0 by rw [d]; rfl)]
      · rw [if_neg d, if_neg (show ¬ iN (m % x) = 0 from fun q => d ((iN_inj (b := 0) (by omega) (by omega)).mp q))]
  have same : cmpB m = false → ∃ F' v', some F = some F' ∧ AQ A F' v' ∧ (∀ w : Nat → Int, (∀ q, 2 ≤ q → q * q ≤ m → m % q = 0 → w m = w q + w (m / q)) → LwZ w v' = LwZ w v) ∧ (∀ k, m < k → v' k = v k) ∧ (cmpB m = true → v' m = 0) ∧ Agr A [23] F F' := fun hc => ⟨F, v, rfl, hv, fun _ _ => rfl, fun _ _ => rfl, (fun h => by rw [hc] at h; cases h), Agr.refl A _ F⟩
  have found : ∀ q, 2 ≤ q → q * q ≤ m → m % q = 0 → ∃ F' v', ((gfR F (A 22) 5 0).bind fun v16 => (rdI F 0 v16 (iN q)).bind fun v21 => (gfR F (A 22) 5 0).bind fun v23 => (rdI F 0 v23 (iN m)).bind fun v27 => (wrI F v16 (iN q) (v21 + v27)).bind fun F29 => (gfR F29 (A 22) 5 0).bind fun v31 => (idiv0 (iN m) (iN q)).bind fun v36 => (rdI F29 0 v31 v36).bind fun v38 => (gfR F29 (A 22) 5 0).bind fun v40 => (rdI F29 0 v40 (iN m)).bind fun v44 => (wrI F29 v31 v36 (v38 + v44)).bind fun F46 => (gfR F46 (A 22) 5 0).bind fun v48 => (wrI F46 v48 (iN m) 0).bind fun F53 => some F53) = some F' ∧ AQ A F' v' ∧ (∀ w : Nat → Int, (∀ q, 2 ≤ q → q * q ≤ m → m % q = 0 → w m = w q + w (m / q)) → LwZ w v' = LwZ w v) ∧ (∀ k, m < k → v' k = v k) ∧ (cmpB m = true → v' m = 0) ∧ Agr A [23] F F' := by
    intro q q1 q2 q3
    obtain ⟨F', v', e1, e2, e3, e4, e5, e6⟩ := X6_put hA q1 q2 hm q3 h22 hv
    exact ⟨F', v', e1, e2, fun w hw => e3 w (hw q q1 q2 q3), e4, fun _ => e5, e6⟩
  unfold mX6_splitIntoFactors
  rw [il2, hf, step _ (f + 3) 2 (by omega) (by omega)]
  by_cases c1 : m < 2 * 2
  · rw [if_pos c1]
    exact same (by have : m = 2 ∨ m = 3 := by omega
                   rcases this with rfl | rfl <;> rfl)
  · rw [if_neg c1]
    by_cases d1 : m % 2 = 0
    · rw [if_pos d1]
      exact found 2 (by omega) (by omega) d1
    · rw [if_neg d1, step _ (f + 2) 3 (by omega) (by omega)]
      by_cases c2 : m < 3 * 3
      · rw [if_pos c2]
        exact same (by have : m = 5 ∨ m = 7 := by omega
                       rcases this with rfl | rfl <;> rfl)
      · rw [if_neg c2]
        by_cases d2 : m % 3 = 0
        · rw [if_pos d2]
          exact found 3 (by omega) (by omega) d2
        · have np : cmpB m = false := by
            have : m = 11 ∨ m = 13 ∨ m = 17 ∨ m = 19 ∨ m = 23 := by omega
            rcases this with rfl | rfl | rfl | rfl | rfl <;> rfl
          rw [if_neg d2, step _ (f + 1) 4 (by omega) (by omega)]
          by_cases c3 : m < 4 * 4
          · rw [if_pos c3]; exact same np
          · rw [if_neg c3, if_neg (by omega), step _ f 5 (by omega) (by omega), if_pos (by omega)]
            exact same np
theorem X6_ct83 (hA : Inj A) (K : Nat → Mem → Option (Int64 × Mem)) {t : Nat → Int} : ∀ (m fu : Nat) (F : Mem) (v : Nat → Int), m ≤ 24 → 1 ≤ m → m < fu → F (A 22) = c22 A → AQ A F v → (∀ k, m < k → k < 25 → cmpB k = true → v k = 0) → (∀ p, p < 40 → LwZ (nu p) v = t p) → ∃ F' v', fX6_count_83 K fu (A 22) (iN m) F = K (A 22) F' ∧ AQ A F' v' ∧ (∀ k, 1 < k → k < 25 → cmpB k = true → v' k = 0) ∧ (∀ p, p < 40 → LwZ (nu p) v' = t p) ∧ Agr A [23] F F' := by
  intro m
  induction m with
  | zero => intro fu F v _ h; omega
  | succ m ih =>
    intro fu F v h1 h2 h3 h22 hv hz ht
    obtain ⟨f', rfl⟩ : ∃ f', fu = f' + 1 := ⟨fu - 1, by omega⟩
    by_cases m0 : m = 0
    · subst m0
      refine ⟨F, v, ?_, hv, hz, ht, Agr.refl A _ F⟩
      rw [fX6_count_83.eq_2, if_pos (by decide)]
    · obtain ⟨F1, v1, a1, a2, a3, a4, a5, a6⟩ := X6_split hA (m := m + 1) (by omega) h1 h22 hv
      obtain ⟨F2, v2, b1, b2, b3, b4, b5⟩ := ih f' F1 v1 (by omega) (by omega) (by omega) ((a6 22 (by omega) (by simp)).trans h22) a2 (fun k k1 k2 k3 => by
        by_cases e : k = m + 1
        · subst e; exact a5 k3
        · rw [a4 k (by omega)]; exact hz k (by omega) k2 k3) (fun p hp => by
        rw [a3 (nu p) (fun q q1 q2 q3 => ?_)]
        · exact ht p hp
        · have q5 : q < 5 := by
            apply Nat.lt_of_not_le
            intro w
            have : 5 * 5 ≤ q * q := Nat.mul_le_mul w w
            omega
          have := nu_split ⟨p, hp⟩ ⟨m + 1, by omega⟩ ⟨q, q5⟩ q1 q2 q3
          unfold nu
          rw [this]
          rfl)
      refine ⟨F2, v2, ?_, b2, b3, b4, a6.trans b5⟩
      rw [fX6_count_83.eq_2, if_neg (show ¬ iN (m + 1) ≤ 1 from fun q => by have := (iN_le (b := 1) (by omega) (by omega)).mp q; omega), obj_of h22, Option.bind_some, a1, Option.bind_some, iN_pred]
      exact b1
theorem X6_ml13 {v : Nat → Int} (h22 : F (A 22) = c22 A) (hv : AQ A F v) {m : Nat} (hm : m < 25) (K : Nat → Int64 → Int32 → Mem → Option (Int64 × Mem)) : ∀ (d k n : Nat) (x : Int64), (k + d = kvI (Int32.ofInt (v m)) ∨ (d = 0 ∧ kvI (Int32.ofInt (v m)) ≤ k)) → k < 2 ^ 31 → d < n → fX6_multiply_13 K n (A 22) x (iN m) (iN k) F = K (A 22) (pwJ m d x) (iN m) F := by
  have kl := kvI_lt (Int32.ofInt (v m))
  intro d
  induction d with
  | zero =>
    intro k n x e1 e2 e3
    obtain ⟨n', rfl⟩ : ∃ n', n = n' + 1 := ⟨n - 1, by omega⟩
    rw [fX6_multiply_13.eq_2, gfR_at (k := 0) (v := A 23) h22 rfl, Option.bind_some, AQ_get hv hm, Option.bind_some, if_pos ((le_kv e2).mpr (by omega))]
    rfl
  | succ d ih =>
    intro k n x e1 e2 e3
    obtain ⟨n', rfl⟩ : ∃ n', n = n' + 1 := ⟨n - 1, by omega⟩
    rw [fX6_multiply_13.eq_2, gfR_at (k := 0) (v := A 23) h22 rfl, Option.bind_some, AQ_get hv hm, Option.bind_some, if_neg (fun w => by have := (le_kv e2).mp w; omega), iN_one, ih (k + 1) n' _ (by omega) (by omega) (by omega)]
    rfl
theorem X6_ml4 {v : Nat → Int} (h22 : F (A 22) = c22 A) (hv : AQ A F v) : ∀ (m fu p : Nat) (x : Int64), p + m = 25 → m < fu → fX6_multiply_4 fu (A 22) x (iN p) F = some (prd v m p x, F) := by
  have fub := FU_31
  intro m
  induction m with
  | zero =>
    intro fu p x e1 e2
    obtain ⟨f', rfl⟩ : ∃ f', fu = f' + 1 := ⟨fu - 1, by omega⟩
    have : p = 25 := by omega
    subst this
    rw [fX6_multiply_4.eq_2, if_pos (by decide)]
    rfl
  | succ m ih =>
    intro fu p x e1 e2
    obtain ⟨f', rfl⟩ : ∃ f', fu = f' + 1 := ⟨fu - 1, by omega⟩
    have kl := kvI_lt (Int32.ofInt (v p))
    rw [fX6_multiply_4.eq_2, if_neg (fun q => by have := (iN_lt (a := 24) (by omega) (by omega)).mp q; omega)]
    refine Eq.trans (X6_ml13 h22 hv (m := p) (by omega) _ (kvI (Int32.ofInt (v p))) 0 FU x (by omega) (by omega) (by omega)) ?_
    rw [iN_one]
    exact ih f' (p + 1) _ (by omega) (by omega)
theorem prd_cong {v u : Nat → Int} : ∀ (n m : Nat) (x : Int64), (∀ k, m ≤ k → k < m + n → v k = u k) → prd v n m x = prd u n m x := by
  intro n
  induction n with
  | zero => intro m x _; rfl
  | succ n ih =>
    intro m x h
    simp only [prd]
    rw [h m (Nat.le_refl _) (by omega)]
    exact ih _ _ (fun k a b => h k (by omega) (by omega))
theorem prd_zero {v : Nat → Int} : ∀ (n m : Nat) (x : Int64), (∀ k, m ≤ k → k < m + n → v k = 0) → prd v n m x = x := by
  intro n
  induction n with
  | zero => intro m x _; rfl
  | succ n ih =>
    intro m x h
    simp only [prd]
    rw [h m (Nat.le_refl _) (by omega)]
    exact ih _ _ (fun k a b => h k (by omega) (by omega))
theorem prd_app (v : Nat → Int) : ∀ (n k m : Nat) (x : Int64), prd v (n + k) m x = prd v k (m + n) (prd v n m x) := by
  intro n
  induction n with
  | zero => intro k m x; rw [Nat.zero_add]; rfl
  | succ n ih =>
    intro k m x
    rw [show n + 1 + k = (n + k) + 1 by omega]
    simp only [prd]
    rw [ih, show m + 1 + n = m + (n + 1) by omega]
theorem std_big {V : Nat → Nat} (hV : okS V) {p : Nat} (hp : 25 ≤ p) (hp2 : p < 40) : stdW V (nu p) = 0 := by
  have z : ∀ k, k ≤ 24 → nu p k = 0 := fun k hk => by
    have := nu_big ⟨p, hp2⟩ ⟨k, by omega⟩ hp
    unfold nu
    rw [this]
    rfl
  have b := hV.2.2
  unfold stdW smW
  rw [sumZ_zero (n := boxes V 8) (fun k hk => z (k + 1) (by omega)), sumZ_zero (n := 8) (fun r hr => sumZ_zero (fun c hc => z _ (hk_le hV hr hc).2))]
  rfl
theorem X6_count (hA : Inj A) {a la : Nat} {V : Nat → Nat} (hV : okS V) (ha : a < 67 ∧ la < 67 ∧ a ≠ 23 ∧ la ≠ 23) (hC : gC A F) (hS : isS F (A a) (A la) V) : ∃ F', mX6_count F (A 22) (A a) = some (prd (fun q => stdW V (nu q)) 38 2 1, F') ∧ gC A F' ∧ Agr A [23] F F' := by
  have fub := FU_big
  obtain ⟨h22, f, h23⟩ := hC
  have b := hV.2.2
  have fl := J_fillG (F := F) (a := A 23) (n := 25) (x := 0) (by omega) h23
  generalize hF1 : va_up F (A 23) (.inl (0, 25, .inl (fillF 0 25 (fun _ => 0) f))) = F1 at fl
  have k1 : Agr A [23] F F1 := by rw [← hF1]; exact (Agr.refl A _ F).up hA (by omega) (by simp)
  have fS : ∀ F', Agr A [23] F F' → isS F' (A a) (A la) V := fun F' k => isS_fr hS (k _ ha.1 (by simp; exact ha.2.2.1)) (k _ ha.2.1 (by simp; exact ha.2.2.2))
  have v0 : AQ A F1 (fun _ => 0) := ⟨_, by rw [← hF1, up_eq], fun p hp => by rw [fillF_in (by omega)]; rfl⟩
  have l0 : ∀ w, LwZ w (fun _ => 0) = 0 := fun w => sumZ_zero (fun m _ => Int.mul_zero _)
  obtain ⟨F2, v2, a1, a2, a3, a4⟩ := X6_ct13 hA (x1 := A a) (fun (x0 : Nat) (x1 : Nat) (F : Mem) => fX6_count_35  (fun (x0 : Nat) (F : Mem) => fX6_count_83  (fun (x0 : Nat) (F : Mem) => (obj F x0 5).bind fun _ => (mX6_multiply F x0).bind fun v100 => some (v100.1, v100.2)) FU x0 24 F) FU x0 x1 0 F) (boxes V 8) FU F1 _ (by omega) (by omega) ((k1 22 (by omega) (by simp)).trans h22) v0
  have k2 := k1.trans a4
  obtain ⟨F3, v3, b1, b2, b3, b4⟩ := X6_ct35 hA hV ha (fun (x0 : Nat) (F : Mem) => fX6_count_83  (fun (x0 : Nat) (F : Mem) => (obj F x0 5).bind fun _ => (mX6_multiply F x0).bind fun v100 => some (v100.1, v100.2)) FU x0 24 F) 8 FU 0 F2 v2 (by omega) (by omega) ((k2 22 (by omega) (by simp)).trans h22) (fS F2 k2) a2
  have k3 := k2.trans b4
  obtain ⟨F4, v4, c1, c2, c3, c4, c5⟩ := X6_ct83 hA (fun (x0 : Nat) (F : Mem) => (obj F x0 5).bind fun _ => (mX6_multiply F x0).bind fun v100 => some (v100.1, v100.2)) (t := fun p => stdW V (nu p)) 24 FU F3 v3 (by omega) (by omega) (by omega) ((k3 22 (by omega) (by simp)).trans h22) b2 (fun k q1 q2 _ => by omega) (fun p _ => by
    rw [b3, a3, l0]
    unfold stdW
    show _ - (_ - sumZ _ 0) = _
    simp only [sumZ]
    omega)
  have k4 := k3.trans c5
  have d22 := (k4 22 (by omega) (by simp)).trans h22
  have vp : ∀ p, 2 ≤ p → p < 25 → v4 p = stdW V (nu p) := by
    intro p p1 p2
    rw [← c4 p (by omega)]
    unfold LwZ
    by_cases cp : cmpB p = true
    · rw [c3 p (by omega) p2 cp]
      exact (sumZ_zero (fun m hm => by
        have := nu_comp ⟨p, p2⟩ ⟨m, hm⟩ cp
        unfold nu
        rw [this]
        show (0 : Int) * _ = 0
        rw [Int.zero_mul])).symm
    · have cp' : cmpB p = false := by cases h : cmpB p; rfl; exact absurd h cp
      rw [sumZ_single (i0 := p) p2 (fun m hm hne => by
        by_cases cm : cmpB m = true
        · have m2 : 1 < m := by
            apply Nat.lt_of_not_le
            intro w
            have : m = 0 ∨ m = 1 := by omega
            rcases this with rfl | rfl
            · exact absurd cm (by decide)
            · exact absurd cm (by decide)
          rw [c3 m m2 hm cm, Int.mul_zero]
        · have cm' : cmpB m = false := by cases h : cmpB m; rfl; exact absurd h cm
          have := nu_prime ⟨p, p2⟩ ⟨m, hm⟩ p1 cp' cm'
          unfold nu
          rw [this, if_neg hne]
          show (0 : Int) * _ = 0
          rw [Int.zero_mul])]
      have := nu_prime ⟨p, p2⟩ ⟨p, p2⟩ p1 cp' cp'
      unfold nu
      rw [this, if_pos rfl]
      show _ = (1 : Int) * _
      rw [Int.one_mul]
  have ml := X6_ml4 d22 c2 23 FU 2 1 (by omega) (by omega)
  have pe : prd v4 23 2 1 = prd (fun q => stdW V (nu q)) 38 2 1 := by
    rw [show 38 = 23 + 15 from rfl, prd_app, prd_zero 15 _ _ (fun k q1 q2 => std_big hV (by omega) (by omega))]
    exact prd_cong 23 2 1 (fun k q1 q2 => vp k q1 (by omega))
  obtain ⟨g4, g41, _⟩ := id c2
  refine ⟨F4, ?_, ⟨d22, g4, g41⟩, k4⟩
  unfold mX6_count
  rw [gfR_at (k := 0) (v := A 23) h22 rfl, Option.bind_some, fl, Option.bind_some, obj_of (fS F1 k1).1, Option.bind_some, X4_countBoxes (fS F1 k1), Option.bind_some]
  refine Eq.trans a1 ?_
  refine Eq.trans b1 ?_
  refine Eq.trans c1 ?_
  rw [obj_of d22, Option.bind_some]
  unfold mX6_multiply
  rw [show fX6_multiply_4 FU (A 22) 1 2 F4 = _ from ml, Option.bind_some, pe]
theorem C_standard (hA : Inj A) (h : CC A F S W N PT PO QT QO aw) (hS : ∀ i, i < 4 → okS (S i)) {i : Nat} (hi : i < 4) : ∃ F', mX9_standard F (A 0) (iN i) = some (.inr (prd (fun q => stdW (S i) (nu q)) 38 2 1), F') ∧ CC A F' S W N PT PO QT QO aw ∧ Agr A CTs F F' := by
  have ti := h.2.2.2.1 i hi
  have hC := h.2.2.2.2.2.2.2.2.2.2.1
  obtain ⟨F', e1, e2, e3⟩ := X6_count hA (a := 37 + 2 * i) (la := 38 + 2 * i) (hS i hi) (by omega) hC ti
  obtain ⟨h1, h2, h3, h4, h5, h6, h7, h8, h9, h10, h11, h12, h13⟩ := h
  refine ⟨F', ?_, ⟨gB_fr e3 h1 (by simp), isTA_fr (j := 3) e3 h2 (by omega) (by simp), isTA_fr (j := 6) e3 h3 (by omega) (by simp), gS_fr e3 h4 (fun t q => by simp at q; omega), gW_fr e3 h5 (fun t q => by simp at q; omega), gT_fr e3 h6 (by omega) (by simp), gT_fr e3 h7 (by omega) (by simp), gU_fr e3 h8 (by omega) (by simp), gH_fr e3 h9 (by simp), gO_fr e3 h10 (by simp), e2, gF_fr e3 h12 (by simp), gP_fr e3 h13 (by simp)⟩, e3.mono (CTs_of (fun t q => by simp at q; omega))⟩
  unfold mX9_standard
  rw [gfR_at (k := 10) (v := A 22) h1.1 rfl, Option.bind_some, obj_of h1.1, Option.bind_some, C_slot h1 hi, thn_r, obj_of hC.1, Option.bind_some, e1, Option.bind_some]
end STD4
