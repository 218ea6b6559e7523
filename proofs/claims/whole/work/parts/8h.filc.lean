section FILC
variable {A : Nat → Nat} {F : Mem} {S W : Nat → Nat → Nat} {N : Nat → Nat} {PT : Nat → Nat → Nat} {PO : Nat → Nat} {QT : Nat → Nat → Nat} {QO : Nat → Nat} {aw : Bool} {th : Int32}
/-- a whole array filled -/
theorem J_fg5 {a n : Nat} {x : Int32} (hn : n < 1000) {f : Nat → Int32} : ∀ (m fu i : Nat) (F : Mem), i + m = n → m < fu → F a = .inl (0, n, .inl (fillF 0 i (fun _ => x) f)) → fJ7_fill_53178_5 fu a x (iN i) (iN n) F = some (va_up F a (.inl (0, n, .inl (fillF 0 n (fun _ => x) f)))) := by
  intro m
  induction m with
  | zero =>
    intro fu i F h1 h2 h
    obtain ⟨f', rfl⟩ : ∃ f', fu = f' + 1 := ⟨fu - 1, by omega⟩
    have : i = n := by omega
    subst this
    rw [fJ7_fill_53178_5.eq_2, if_pos (Int32.le_refl _), up_self h]
  | succ m ih =>
    intro fu i F h1 h2 h
    obtain ⟨f', rfl⟩ : ∃ f', fu = f' + 1 := ⟨fu - 1, by omega⟩
    have s := fillF_s 0 i (fun _ => x) f
    rw [Nat.zero_add] at s
    rw [fJ7_fill_53178_5.eq_2, if_neg (fun q => by have := (iN_le (by omega) (by omega)).mp q; omega), wrI_at h (by omega) (by omega), s, Option.bind_some, iN_one, ih f' (i + 1) _ (by omega) (by omega) (up_eq _ _ _), up_up]
theorem J_fillG {a n : Nat} {x : Int32} {f : Nat → Int32} (hn : n < 1000) (h : F a = .inl (0, n, .inl f)) : mJ7_fill_53178 F a x = some (va_up F a (.inl (0, n, .inl (fillF 0 n (fun _ => x) f)))) := by
  have := FU_big
  unfold mJ7_fill_53178
  have ea : alI F 0 a = some (iN n) := by unfold alI; rw [arI_of h]; rfl
  rw [ea, Option.bind_some]
  exact J_fg5 hn n FU 0 F (by omega) (by omega) (by rw [fillF_z]; exact h)
/-- how many of the first i letters are x -/
def cntL (W : Nat → Nat) (x : Nat) : Nat → Nat
  | 0 => 0
  | i + 1 => cntL W x i + (if W i = x then 1 else 0)
theorem cntL_le (W : Nat → Nat) (n : Nat) : ∀ x, sumN (fun y => cntL W (y + 1) n) x ≤ n := by
  intro x
  induction n with
  | zero => rw [sumN_zero (g := fun y => cntL W (y + 1) 0) (fun i _ => rfl)]; omega
  | succ n ih =>
    have e : sumN (fun y => cntL W (y + 1) (n + 1)) x = sumN (fun y => cntL W (y + 1) n) x + sumN (fun y => if W n = y + 1 then 1 else 0) x := by
      rw [← sumN_add]
      rfl
    have : sumN (fun y => if W n = y + 1 then 1 else 0) x ≤ 1 := by
      by_cases c : 0 < W n ∧ W n - 1 < x
      · rw [sumN_single (i0 := W n - 1) c.2 (fun i _ hne => if_neg (fun q => hne (by omega)))]
        split <;> omega
      · rw [sumN_zero (fun i hi => if_neg (fun q => c (by omega)))]
        omega
    omega
theorem cntL_all {W : Nat → Nat} {n : Nat} (h : ∀ i, i < n → 1 ≤ W i ∧ W i ≤ 16) : sumN (fun y => cntL W (y + 1) n) 16 = n := by
  induction n with
  | zero => rw [sumN_zero (g := fun y => cntL W (y + 1) 0) (fun i _ => rfl)]
  | succ n ih =>
    have e : sumN (fun y => cntL W (y + 1) (n + 1)) 16 = sumN (fun y => cntL W (y + 1) n) 16 + sumN (fun y => if W n = y + 1 then 1 else 0) 16 := by
      rw [← sumN_add]
      rfl
    have hw := h n (by omega)
    rw [e, ih (fun i hi => h i (by omega)), sumN_single (i0 := W n - 1) (by omega) (fun i _ hne => if_neg (fun q => hne (by omega))), if_pos (by omega)]
/-- the counts that are there, the last letter's first -/
def csx (c : Nat → Nat) : Nat → List Nat
  | 0 => []
  | x + 1 => if c (x + 1) = 0 then csx c x else c (x + 1) :: csx c x
theorem csx_sum (c : Nat → Nat) : ∀ x, (csx c x).sum = sumN (fun y => c (y + 1)) x := by
  intro x
  induction x with
  | zero => rfl
  | succ x ih =>
    simp only [csx, sumN]
    by_cases k : c (x + 1) = 0
    · rw [if_pos k, ih, k]; rfl
    · rw [if_neg k, List.sum_cons, ih]; omega
theorem nlOk_cong {nl ml : Nat → Bool} : ∀ cs, (∀ p, p < cs.sum → nl p = ml p) → nlOk nl cs → nlOk ml cs := by
  intro cs
  induction cs with
  | nil => intro _ _; trivial
  | cons c cs ih =>
    intro h hn
    obtain ⟨h1, h2, h3, h4⟩ := hn
    rw [List.sum_cons] at h
    refine ⟨h1, ?_, fun s hs => ?_, ih (fun p hp => h p (by omega)) h4⟩
    · rw [← h _ (by omega)]; exact h2
    · rw [← h _ (by omega)]; exact h3 s hs
abbrev gNew : Nat → Int32 := fun t => if t = 0 then 1 else 0
theorem nar01 : vp_nar .boolean 0 = 0 ∧ vp_nar .boolean 1 = 1 := ⟨rfl, rfl⟩
theorem wrZ_at {F : Mem} {a n i : Nat} {f : Nat → Int32} (h : F a = .inl (2, n, .inl f)) (hi : i < n) (hn : n ≤ 2 ^ 31) (x : Int32) : wrZ F a (iN i) x = some (va_up F a (.inl (2, n, .inl (upd f i (vp_nar .boolean x))))) := by
  simp only [wrZ, arI_of h, Option.bind_some, iN_inb (show i < 2 ^ 31 by omega), hi, decide_true, if_true, iN_nat (show i < 2 ^ 31 by omega)]
abbrev fc24 (A : Nat → Nat) : Cl := .inr (0, [.ref (A 25), .ref (A 26), .ref (A 27), .ref (A 28)])
theorem X0_sl16 (hA : Inj A) {a wa n x p0 : Nat} {V : Nat → Nat} {b : Nat → Int32} (hn : n ≤ 16) (hV : ∀ i, i < n → V i < 100) (hx : x < 100) (ha : a < 67) (hwa : wa < 67) (hane : a ≠ 27) (hwne : wa ≠ 27) (K : Nat → Nat → Int32 → Int32 → Mem → Option Mem) (hp : p0 + cntL V x n ≤ 16) : ∀ (m fu i : Nat) (F : Mem), i + m = n → m < fu → F (A 24) = fc24 A → isW F (A a) (A wa) V n → F (A 27) = .inl (2, 16, .inl (fillF p0 (cntL V x i) gNew b)) → fX0_sortLetters_16 K fu (A 24) (A a) (iN (p0 + cntL V x i)) (iN x) (iN p0) (iN i) F = K (A 24) (A a) (iN (p0 + cntL V x n)) (iN x) (va_up F (A 27) (.inl (2, 16, .inl (fillF p0 (cntL V x n) gNew b)))) := by
  have mono : ∀ d i, cntL V x i ≤ cntL V x (i + d) := by
    intro d
    induction d with
    | zero => intro i; exact Nat.le_refl _
    | succ d ih => intro i; have := ih i; rw [← Nat.add_assoc]; simp only [cntL]; omega
  intro m
  induction m with
  | zero =>
    intro fu i F h1 h2 h24 hW h27
    obtain ⟨f', rfl⟩ : ∃ f', fu = f' + 1 := ⟨fu - 1, by omega⟩
    have : i = n := by omega
    subst this
    rw [fX0_sortLetters_16.eq_2, gfI_at (k := 1) (v := iN i) hW.1 rfl, Option.bind_some, if_pos (Int32.le_refl _), up_self h27]
  | succ m ih =>
    intro fu i F h1 h2 h24 hW h27
    obtain ⟨f', rfl⟩ : ∃ f', fu = f' + 1 := ⟨fu - 1, by omega⟩
    have v := hV i (by omega)
    have mo := mono m (i + 1)
    rw [show i + 1 + m = n by omega] at mo
    rw [fX0_sortLetters_16.eq_2, gfI_at (k := 1) (v := iN n) hW.1 rfl, Option.bind_some, if_neg (fun q => by have := (iN_le (by omega) (by omega)).mp q; omega), gfR_at (k := 0) (v := A wa) hW.1 rfl, Option.bind_some, rdI_at hW.2 (by omega) (by omega), Option.bind_some]
    by_cases c : V i = x
    · have e1 : cntL V x (i + 1) = cntL V x i + 1 := by simp only [cntL]; rw [if_pos c]
      rw [if_pos (by rw [c]), gfR_at (k := 2) (v := A 27) h24 rfl, Option.bind_some]
      generalize hF1 : va_up F (A 27) (.inl (2, 16, .inl (fillF p0 (cntL V x (i + 1)) gNew b))) = F1
      have k1 : Agr A [27] F F1 := by rw [← hF1]; exact (Agr.refl A _ F).up hA (by omega) (by simp)
      have c27 : F1 (A 27) = .inl (2, 16, .inl (fillF p0 (cntL V x (i + 1)) gNew b)) := by rw [← hF1, up_eq]
      have q := ih f' (i + 1) F1 (by omega) (by omega) ((k1 24 (by omega) (by simp)).trans h24) (isW_fr hW (k1 _ ha (by simp; exact hane)) (k1 _ hwa (by simp; exact hwne))) c27
      have fin : ∀ x0 : Int32, vp_nar .boolean x0 = gNew (cntL V x i) → wrZ F (A 27) (iN (p0 + cntL V x i)) x0 = some F1 := by
        intro x0 hx0
        rw [wrZ_at h27 (by omega) (by omega), hx0, fillF_s p0 (cntL V x i) gNew b, ← e1, hF1]
      rw [← hF1, up_up, hF1] at q
      unfold fX0_sortLetters_52 fX0_sortLetters_56
      rw [iN_one, iN_one, show p0 + cntL V x i + 1 = p0 + cntL V x (i + 1) by omega]
      by_cases d : cntL V x i = 0
      · rw [if_pos (by rw [d]; rfl), fin 1 (by rw [d]; rfl), Option.bind_some]
        exact q
      · rw [if_neg (fun w => d (by have := (iN_inj (by omega) (by omega)).mp w; omega)), fin 0 (by show (0 : Int32) = (if cntL V x i = 0 then 1 else 0); rw [if_neg d]), Option.bind_some]
        exact q
    · have e1 : cntL V x (i + 1) = cntL V x i := by simp only [cntL]; rw [if_neg c]; rfl
      rw [if_neg (fun w => c ((iN_inj (by omega) (by omega)).mp w))]
      unfold fX0_sortLetters_56
      rw [iN_one]
      have q := ih f' (i + 1) F (by omega) (by omega) h24 hW (by rw [e1]; exact h27)
      rw [e1] at q
      exact q
/-- where new letters begin -/
def nlB (b : Nat → Int32) (p : Nat) : Bool := decide (b p ≠ 0)
theorem X0_sl4 (hA : Inj A) {a wa n : Nat} {V : Nat → Nat} (hn : n ≤ 16) (hV : ∀ i, i < n → V i < 100) (ha : a < 67) (hwa : wa < 67) (hane : a ≠ 27) (hwne : wa ≠ 27) : ∀ (m fu x : Nat) (F : Mem) (b : Nat → Int32), x + m = 16 → m < fu → F (A 24) = fc24 A → isW F (A a) (A wa) V n → F (A 27) = .inl (2, 16, .inl b) → nlOk (nlB b) (csx (fun y => cntL V y n) x) → (∀ p, p < sumN (fun y => cntL V (y + 1) n) x → b p = bI (nlB b p)) → ∃ b', fX0_sortLetters_4 fu (A 24) (A a) (iN (sumN (fun y => cntL V (y + 1) n) x)) (iN (x + 1)) F = some (va_up F (A 27) (.inl (2, 16, .inl b'))) ∧ nlOk (nlB b') (csx (fun y => cntL V y n) 16) ∧ (∀ p, p < sumN (fun y => cntL V (y + 1) n) 16 → b' p = bI (nlB b' p)) := by
  have := FU_big
  intro m
  induction m with
  | zero =>
    intro fu x F b h1 h2 h24 hW h27 hnl hbz
    obtain ⟨f', rfl⟩ : ∃ f', fu = f' + 1 := ⟨fu - 1, by omega⟩
    have : x = 16 := by omega
    subst this
    refine ⟨b, ?_, hnl, hbz⟩
    rw [fX0_sortLetters_4.eq_2, if_pos (by decide), up_self h27]
  | succ m ih =>
    intro fu x F b h1 h2 h24 hW h27 hnl hbz
    obtain ⟨f', rfl⟩ : ∃ f', fu = f' + 1 := ⟨fu - 1, by omega⟩
    have tot := cntL_le V n (x + 1)
    have esum : sumN (fun y => cntL V (y + 1) n) (x + 1) = sumN (fun y => cntL V (y + 1) n) x + cntL V (x + 1) n := rfl
    generalize hF1 : va_up F (A 27) (.inl (2, 16, .inl (fillF (sumN (fun y => cntL V (y + 1) n) x) (cntL V (x + 1) n) gNew b))) = F1
    have k1 : Agr A [27] F F1 := by rw [← hF1]; exact (Agr.refl A _ F).up hA (by omega) (by simp)
    have c27 : F1 (A 27) = .inl (2, 16, .inl (fillF (sumN (fun y => cntL V (y + 1) n) x) (cntL V (x + 1) n) gNew b)) := by rw [← hF1, up_eq]
    have cs := csx_sum (fun y => cntL V y n) x
    have hnl1 : nlOk (nlB (fillF (sumN (fun y => cntL V (y + 1) n) x) (cntL V (x + 1) n) gNew b)) (csx (fun y => cntL V y n) x) := nlOk_cong _ (fun p hp => by
      unfold nlB
      rw [fillF_out (by rw [cs] at hp; omega)]) hnl
    have hnl2 : nlOk (nlB (fillF (sumN (fun y => cntL V (y + 1) n) x) (cntL V (x + 1) n) gNew b)) (csx (fun y => cntL V y n) (x + 1)) := by
      simp only [csx]
      by_cases c : cntL V (x + 1) n = 0
      · rw [if_pos c]; exact hnl1
      · rw [if_neg c]
        refine ⟨by omega, ?_, fun s hs => ?_, hnl1⟩
        · rw [cs]
          unfold nlB
          rw [fillF_in (by omega), Nat.sub_self]
          rfl
        · rw [cs]
          unfold nlB
          rw [fillF_in (by omega), show sumN (fun y => cntL V (y + 1) n) x + 1 + s - sumN (fun y => cntL V (y + 1) n) x = s + 1 by omega]
          simp
    obtain ⟨b', b1, b2⟩ := ih f' (x + 1) F1 _ (by omega) (by omega) ((k1 24 (by omega) (by simp)).trans h24) (isW_fr hW (k1 _ ha (by simp; exact hane)) (k1 _ hwa (by simp; exact hwne))) c27 hnl2 (fun p hp => by
      by_cases c : p < sumN (fun y => cntL V (y + 1) n) x
      · unfold nlB
        rw [fillF_out (by omega)]
        exact hbz p c
      · unfold nlB
        rw [fillF_in (by omega)]
        show (if p - sumN (fun y => cntL V (y + 1) n) x = 0 then (1 : Int32) else 0) = bI (decide ((if p - sumN (fun y => cntL V (y + 1) n) x = 0 then (1 : Int32) else 0) ≠ 0))
        split <;> decide)
    refine ⟨b', ?_, b2⟩
    rw [← hF1, up_up, hF1] at b1
    rw [fX0_sortLetters_4.eq_2, if_neg (fun q => by have := (iN_lt (a := 16) (by omega) (by omega)).mp q; omega)]
    refine (X0_sl16 hA (a := a) (wa := wa) (n := n) (x := x + 1) (p0 := sumN (fun y => cntL V (y + 1) n) x) (b := b) hn hV (by omega) ha hwa hane hwne _ (by omega) n FU 0 F (by omega) (by omega) h24 hW (by rw [show cntL V (x + 1) 0 = 0 from rfl, fillF_z]; exact h27)).trans ?_
    rw [hF1, iN_one]
    exact b1
theorem X0_sortLetters (hA : Inj A) {a wa n : Nat} {V : Nat → Nat} (hn : n ≤ 16) (hV : ∀ i, i < n → V i < 100) (ha : a < 67) (hwa : wa < 67) (hane : a ≠ 27) (hwne : wa ≠ 27) (h24 : F (A 24) = fc24 A) (hW : isW F (A a) (A wa) V n) (h27 : ∃ b, F (A 27) = .inl (2, 16, .inl b)) : ∃ b', mX0_sortLetters F (A 24) (A a) = some (va_up F (A 27) (.inl (2, 16, .inl b'))) ∧ nlOk (nlB b') (csx (fun y => cntL V y n) 16) ∧ (∀ p, p < sumN (fun y => cntL V (y + 1) n) 16 → b' p = bI (nlB b' p)) := by
  have := FU_big
  obtain ⟨b, h27⟩ := h27
  exact X0_sl4 hA hn hV ha hwa hane hwne 16 FU 0 F b (by omega) (by omega) h24 hW h27 trivial (fun p hp => by simp [sumN] at hp)
/-- the endings' table: rows below i are done, and row i up to v0 -/
def eTb (S : Nat → Nat) (f : Nat → Int32) (i v0 : Nat) : Nat → Int32 := fun k => if k < 153 then (if i < k / 17 ∨ (k / 17 = i ∧ k % 17 < v0) then iN (en S (8 - k / 17) (k / 17) (k % 17)) else 1) else f k
theorem eTb_s (S : Nat → Nat) (f : Nat → Int32) {i v : Nat} (hi : i < 8) (hv : v < 17) : upd (eTb S f i v) (i * 17 + v) (iN (en S (8 - i) i v)) = eTb S f i (v + 1) := by
  funext k
  unfold upd
  by_cases c : k = i * 17 + v
  · subst c
    rw [if_pos rfl]
    unfold eTb
    rw [if_pos (by omega), show (i * 17 + v) / 17 = i by omega, show (i * 17 + v) % 17 = v by omega, if_pos (by omega)]
  · rw [if_neg c]
    unfold eTb
    by_cases d : k < 153
    · rw [if_pos d, if_pos d]
      by_cases e : i < k / 17 ∨ (k / 17 = i ∧ k % 17 < v)
      · rw [if_pos e, if_pos (by omega)]
      · rw [if_neg e, if_neg (by omega)]
    · rw [if_neg d, if_neg d]
theorem eTb_next (S : Nat → Nat) (f : Nat → Int32) (i : Nat) : eTb S f (i + 1) 17 = eTb S f i 1 := by
  funext k
  unfold eTb
  by_cases d : k < 153
  · rw [if_pos d, if_pos d]
    by_cases e : i + 1 < k / 17 ∨ (k / 17 = i + 1 ∧ k % 17 < 17)
    · rw [if_pos e, if_pos (by omega)]
    · rw [if_neg e]
      by_cases g : i < k / 17 ∨ (k / 17 = i ∧ k % 17 < 1)
      · rw [if_pos g, show k % 17 = 0 by omega, en_z]; rfl
      · rw [if_neg g]
  · rw [if_neg d, if_neg d]
theorem eTb_get (S : Nat → Nat) (f : Nat → Int32) {i v0 r v : Nat} (hr : r ≤ 8) (hv : v < 17) (h : i < r ∨ (r = i ∧ v < v0)) : eTb S f i v0 (r * 17 + v) = iN (en S (8 - r) r v) := by
  unfold eTb
  rw [if_pos (by omega), show (r * 17 + v) / 17 = r by omega, show (r * 17 + v) % 17 = v by omega, if_pos h]
theorem X0_ce17 (hA : Inj A) {a la i : Nat} {V : Nat → Nat} {f : Nat → Int32} (hV : ∀ k, V k ≤ 24) (hi : i < 8) (ha : a < 67) (hla : la < 67) (hane : a ≠ 26) (hlne : la ≠ 26) (K : Nat → Nat → Int32 → Mem → Option Mem) : ∀ (m fu v : Nat) (F : Mem), 1 ≤ v → v + m = 17 → m < fu → F (A 24) = fc24 A → isS F (A a) (A la) V → F (A 26) = .inl (0, 153, .inl (eTb V f i v)) → fX0_countEndings_17 K fu (A 24) (A a) (iN i) (iN v) F = K (A 24) (A a) (iN i) (va_up F (A 26) (.inl (0, 153, .inl (eTb V f i 17)))) := by
  intro m
  induction m with
  | zero =>
    intro fu v F h0 h1 h2 h24 hS h26
    obtain ⟨f', rfl⟩ : ∃ f', fu = f' + 1 := ⟨fu - 1, by omega⟩
    have : v = 17 := by omega
    subst this
    rw [fX0_countEndings_17.eq_2, if_pos (by decide), up_self h26]
  | succ m ih =>
    intro fu v F h0 h1 h2 h24 hS h26
    obtain ⟨f', rfl⟩ : ∃ f', fu = f' + 1 := ⟨fu - 1, by omega⟩
    have vi := hV i
    generalize hF1 : va_up F (A 26) (.inl (0, 153, .inl (eTb V f i (v + 1)))) = F1
    have k1 : Agr A [26] F F1 := by rw [← hF1]; exact (Agr.refl A _ F).up hA (by omega) (by simp)
    have q := ih f' (v + 1) F1 (by omega) (by omega) (by omega) ((k1 24 (by omega) (by simp)).trans h24) (isS_fr hS (k1 _ ha (by simp; exact hane)) (k1 _ hla (by simp; exact hlne))) (by rw [← hF1, up_eq])
    rw [← hF1, up_up, hF1] at q
    obtain ⟨u, hu⟩ : ∃ u, v = u + 1 := ⟨v - 1, by omega⟩
    have fin : ∀ s0 : Int32, s0 = iN (if v ≤ V i then en V (8 - i - 1) (i + 1) v else 0) → fX0_countEndings_50 (fX0_countEndings_17 K f') K (A 24) (A a) (iN i) (iN v) s0 F = K (A 24) (A a) (iN i) (va_up F (A 26) (.inl (0, 153, .inl (eTb V f i 17)))) := by
      intro s0 hs0
      have ee : en V (8 - i) i v = en V (8 - i) i (v - 1) + (if v ≤ V i then en V (8 - i - 1) (i + 1) v else 0) := by
        rw [hu, show 8 - i = (8 - i - 1) + 1 by omega, en_ss]
        rfl
      unfold fX0_countEndings_50
      rw [gfR_at (k := 1) (v := A 26) h24 rfl, Option.bind_some, Option.bind_some, show (17 : Int32) = iN 17 from rfl, iN_mul, iN_add, il1, iN_sub (by omega), show i * 17 + v - 1 = i * 17 + (v - 1) by omega, rdI_at h26 (by omega) (by omega), Option.bind_some, eTb_get V f (by omega) (by omega) (by omega), hs0, iN_add, ← ee, wrI_at h26 (by omega) (by omega), eTb_s V f hi (by omega), hF1, Option.bind_some, iN_add]
      exact q
    rw [fX0_countEndings_17.eq_2, if_neg (fun q => by have := (iN_le (a := 17) (by omega) (by omega)).mp q; omega), gfR_at (k := 0) (v := A la) hS.1 rfl, Option.bind_some, rdI_at hS.2 (by omega) (by omega), Option.bind_some]
    by_cases c : v ≤ V i
    · rw [if_pos ((iN_le (by omega) (by omega)).mpr c), gfR_at (k := 1) (v := A 26) h24 rfl, Option.bind_some, iN_one, show (17 : Int32) = iN 17 from rfl, iN_mul, iN_add, rdI_at h26 (by omega) (by omega), Option.bind_some, eTb_get V f (by omega) (by omega) (by omega)]
      exact fin _ (by rw [if_pos c, show 8 - (i + 1) = 8 - i - 1 by omega])
    · rw [if_neg (fun w => c ((iN_le (by omega) (by omega)).mp w))]
      exact fin _ (by rw [if_neg c]; rfl)
theorem X0_ce11 (hA : Inj A) {a la : Nat} {V : Nat → Nat} {f : Nat → Int32} (hV : ∀ k, V k ≤ 24) (ha : a < 67) (hla : la < 67) (hane : a ≠ 26) (hlne : la ≠ 26) : ∀ (i fu : Nat) (F : Mem), i < 8 → i + 1 < fu → F (A 24) = fc24 A → isS F (A a) (A la) V → F (A 26) = .inl (0, 153, .inl (eTb V f i 1)) → fX0_countEndings_11 fu (A 24) (A a) (iN i) F = some (va_up F (A 26) (.inl (0, 153, .inl (eTb V f 0 17)))) := by
  have := FU_big
  intro i
  induction i with
  | zero =>
    intro fu F h1 h2 h24 hS h26
    obtain ⟨f', rfl⟩ : ∃ f', fu = f' + 2 := ⟨fu - 2, by omega⟩
    rw [fX0_countEndings_11.eq_2, if_neg (iN_neg (by omega))]
    refine (X0_ce17 hA hV (by omega) ha hla hane hlne _ 16 FU 1 F (by omega) (by omega) (by omega) h24 hS h26).trans ?_
    rw [fX0_countEndings_11.eq_2, if_pos (by decide)]
  | succ i ih =>
    intro fu F h1 h2 h24 hS h26
    obtain ⟨f', rfl⟩ : ∃ f', fu = f' + 1 := ⟨fu - 1, by omega⟩
    generalize hF1 : va_up F (A 26) (.inl (0, 153, .inl (eTb V f (i + 1) 17))) = F1
    have k1 : Agr A [26] F F1 := by rw [← hF1]; exact (Agr.refl A _ F).up hA (by omega) (by simp)
    have q := ih f' F1 (by omega) (by omega) ((k1 24 (by omega) (by simp)).trans h24) (isS_fr hS (k1 _ ha (by simp; exact hane)) (k1 _ hla (by simp; exact hlne))) (by rw [← hF1, up_eq, eTb_next])
    rw [← hF1, up_up, hF1] at q
    rw [fX0_countEndings_11.eq_2, if_neg (iN_neg (by omega))]
    refine (X0_ce17 hA hV h1 ha hla hane hlne _ 16 FU 1 F (by omega) (by omega) (by omega) h24 hS h26).trans ?_
    rw [hF1, iN_pred]
    exact q
theorem X0_countEndings (hA : Inj A) {a la : Nat} {V : Nat → Nat} (hV : ∀ k, V k ≤ 24) (ha : a < 67) (hla : la < 67) (hane : a ≠ 26) (hlne : la ≠ 26) (h24 : F (A 24) = fc24 A) (hS : isS F (A a) (A la) V) (h26 : ∃ f, F (A 26) = .inl (0, 153, .inl f)) : ∃ f, mX0_countEndings F (A 24) (A a) = some (va_up F (A 26) (.inl (0, 153, .inl f))) ∧ (∀ r v, r ≤ 8 → v < 17 → f (r * 17 + v) = iN (en V (8 - r) r v)) := by
  have := FU_big
  obtain ⟨f, h26⟩ := h26
  generalize hF1 : va_up F (A 26) (.inl (0, 153, .inl (fillF 0 153 (fun _ => 1) f))) = F1
  have k1 : Agr A [26] F F1 := by rw [← hF1]; exact (Agr.refl A _ F).up hA (by omega) (by simp)
  have e0 : fillF 0 153 (fun _ => 1) f = eTb V f 7 1 := by
    funext k
    unfold fillF eTb
    by_cases d : k < 153
    · rw [if_pos (by omega), if_pos d]
      by_cases e : 7 < k / 17 ∨ (k / 17 = 7 ∧ k % 17 < 1)
      · rw [if_pos e]
        by_cases g : k / 17 = 7
        · rw [show k % 17 = 0 by omega, en_z]; rfl
        · rw [show 8 - k / 17 = 0 by omega]; rfl
      · rw [if_neg e]
    · rw [if_neg (by omega), if_neg d]
  have q := X0_ce11 hA (a := a) (la := la) (V := V) (f := f) hV ha hla hane hlne 7 FU F1 (by omega) (by omega) ((k1 24 (by omega) (by simp)).trans h24) (isS_fr hS (k1 _ ha (by simp; exact hane)) (k1 _ hla (by simp; exact hlne))) (by rw [← hF1, up_eq, e0])
  rw [← hF1, up_up, hF1] at q
  refine ⟨eTb V f 0 17, ?_, fun r v hr hv => eTb_get V f hr hv (by omega)⟩
  unfold mX0_countEndings
  rw [gfR_at (k := 1) (v := A 26) h24 rfl, Option.bind_some, J_fillG (by omega) h26, hF1, Option.bind_some]
  exact q
end FILC
