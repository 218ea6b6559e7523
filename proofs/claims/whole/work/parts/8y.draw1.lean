section DRAW1
/-- the seed's next, and the number drawn below k -/
def sdN (s : Int64) : Int64 := (s * 6364136223846793005) + 1442695040888963407
def pkN (s : Int64) (k : Nat) : Nat := s.toBitVec.toNat / 2 ^ 33 % k
theorem jN_of_bv (b : BitVec 64) (n : Nat) (h : b.toNat = n) : Int64.ofBitVec b = jN n := by
  subst h
  apply Int64.toBitVec.inj
  show b = BitVec.ofNat 64 b.toNat
  rw [BitVec.ofNat_toNat, BitVec.setWidth_eq]
theorem lush33 (s : Int64) : lush s 33 = jN (s.toBitVec.toNat / 2 ^ 33) := by
  have e : lush s 33 = Int64.ofBitVec (s.toBitVec >>> 33) := rfl
  rw [e]
  apply jN_of_bv
  rw [BitVec.toNat_ushiftRight, Nat.shiftRight_eq_div_pow]
theorem jN_div {a b : Nat} (ha : a < 2 ^ 63) (hb : b < 2 ^ 63) : jN a / jN b = jN (a / b) := by
  have m1 : Int64.minValue.toInt = -9223372036854775808 := by decide
  have m2 : Int64.maxValue.toInt = 9223372036854775807 := by decide
  have := Int64.ofInt_tdiv (a := (a : Int)) (b := (b : Int)) (by rw [m1]; omega) (by rw [m2]; omega) (by rw [m1]; omega) (by rw [m2]; omega)
  rw [← Int.ofNat_tdiv, Int64.ofInt_eq_ofNat, Int64.ofInt_eq_ofNat, Int64.ofInt_eq_ofNat] at this
  exact this.symm
theorem jN_back {a b c : Nat} (h : c + b = a) : jN a - jN b = jN c := by
  rw [← h, ← jN_add]
  exact Int64.add_sub_cancel _ _
theorem lrem_at {s : Int64} {k : Nat} (hk : 0 < k) (hk2 : k < 2 ^ 31) : lrem0 (lush s 33) (Int32.toInt64 (iN k)) = some (jN (pkN s k)) := by
  have m2 : Int32.maxValue.toInt = 2147483647 := by decide
  have e : Int32.toInt64 (iN k) = jN k := Int32.toInt64_ofNat' (by rw [m2]; omega)
  have hb : s.toBitVec.toNat / 2 ^ 33 < 2 ^ 31 := by
    have := s.toBitVec.isLt
    omega
  unfold lrem0
  rw [e, lush33, if_neg (show ¬ jN k = 0 from fun q => by have := (jN_inj (b := 0) (by omega) (by omega)).mp q; omega), jN_div (by omega) (by omega), show jN (s.toBitVec.toNat / 2 ^ 33 / k) * jN k = jN (s.toBitVec.toNat / 2 ^ 33 / k * k) from (Int64.ofNat_mul _ _).symm]
  rw [jN_back (c := pkN s k)]
  unfold pkN
  have := Nat.div_add_mod (s.toBitVec.toNat / 2 ^ 33) k
  rw [Nat.mul_comm] at this
  omega
theorem toI_jN (n : Nat) : Int64.toInt32 (jN n) = iN n := Int64.toInt32_ofNat'
theorem pkN_lt {s : Int64} {k : Nat} (hk : 0 < k) : pkN s k < k := Nat.mod_lt _ hk
/-! the walk -/
def othN (V : Nat → Nat) (r c : Nat) : Nat := hkN V r c - 1
def goB : Nat → (Nat → Nat) → Nat → Nat → Nat × Nat
  | 0, _, r, c => (r, c)
  | f + 1, V, r, c => if c < V r then (r, c) else goB f V (r + 1) (c - V r)
theorem goB_ok {V : Nat → Nat} : ∀ (f r c : Nat), f + r = 8 → c + boxes V r < boxes V 8 → (goB f V r c).1 < 8 ∧ (goB f V r c).2 < V (goB f V r c).1 := by
  intro f
  induction f with
  | zero =>
    intro r c h1 h2
    rw [show r = 8 by omega] at h2
    omega
  | succ f ih =>
    intro r c h1 h2
    unfold goB
    by_cases q : c < V r
    · rw [if_pos q]; exact ⟨by show r < 8; omega, q⟩
    · rw [if_neg q]
      refine ih (r + 1) (c - V r) (by omega) ?_
      have e : boxes V (r + 1) = boxes V r + V r := rfl
      omega
def wlk : Nat → (Nat → Nat) → Int64 → Nat → Nat → Int64 × (Nat × Nat)
  | 0, _, s, r, c => (s, (r, c))
  | f + 1, V, s, r, c => if othN V r c = 0 then (s, (r, c)) else if pkN (sdN s) (othN V r c) < V r - 1 - c then wlk f V (sdN s) r (c + (pkN (sdN s) (othN V r c) + 1)) else wlk f V (sdN s) (r + (pkN (sdN s) (othN V r c) - (V r - 1 - c) + 1)) c
theorem clen_iff {V : Nat → Nat} (h : par V) {r c : Nat} : ∀ m, r < m → (r < clen V c m ↔ c < V r) := by
  intro m
  induction m with
  | zero => intro q; omega
  | succ m ih =>
    intro hr
    have full : c < V m → ∀ t, t ≤ m → clen V c t = t := by
      intro q t
      induction t with
      | zero => intro _; rfl
      | succ t it =>
        intro ht
        have pl := par_le h (show t ≤ m by omega)
        show clen V c t + (if c < V t then 1 else 0) = t + 1
        rw [it (by omega), if_pos (by omega)]
    show r < clen V c m + (if c < V m then 1 else 0) ↔ c < V r
    by_cases q : c < V m
    · rw [if_pos q, full q m (Nat.le_refl _)]
      have pl := par_le h (show r ≤ m by omega)
      omega
    · rw [if_neg q, Nat.add_zero]
      by_cases e : r = m
      · have := clen_le V c m
        rw [e]
        omega
      · exact ih (by omega)
theorem clen_mono {V : Nat → Nat} {c d : Nat} (h : c ≤ d) : ∀ m, clen V d m ≤ clen V c m := by
  intro m
  induction m with
  | zero => exact Nat.le_refl _
  | succ m ih =>
    show clen V d m + (if d < V m then 1 else 0) ≤ clen V c m + (if c < V m then 1 else 0)
    by_cases q : d < V m
    · rw [if_pos q, if_pos (by omega)]; omega
    · rw [if_neg q]; omega
theorem hk_un {V : Nat → Nat} (h : okS V) {r c : Nat} (hr : r < 8) (hc : c < V r) : hkN V r c = (V r - 1 - c) + (clen V c 8 - 1 - r) + 1 ∧ r < clen V c 8 := by
  have q := (clen_iff h.1 (r := r) (c := c) 8 hr).mpr hc
  refine ⟨?_, q⟩
  unfold hkN
  omega
theorem wlk_right {V : Nat → Nat} (h : okS V) {r c x : Nat} (hr : r < 8) (hc : c < V r) (hx : x < V r - 1 - c) : c + (x + 1) < V r ∧ othN V r (c + (x + 1)) < othN V r c := by
  have q1 : c + (x + 1) < V r := by omega
  refine ⟨q1, ?_⟩
  have e1 := hk_un h hr hc
  have e2 := hk_un h hr q1
  have mo := clen_mono (V := V) (show c ≤ c + (x + 1) by omega) 8
  unfold othN
  omega
theorem wlk_down {V : Nat → Nat} (h : okS V) {r c x : Nat} (hr : r < 8) (hc : c < V r) (hx : ¬ x < V r - 1 - c) (hx2 : x < othN V r c) : r + (x - (V r - 1 - c) + 1) < 8 ∧ c < V (r + (x - (V r - 1 - c) + 1)) ∧ othN V (r + (x - (V r - 1 - c) + 1)) c < othN V r c := by
  have e1 := hk_un h hr hc
  have cl := clen_le V c 8
  unfold othN at hx2
  have r8 : r + (x - (V r - 1 - c) + 1) < 8 := by omega
  have c8 : c < V (r + (x - (V r - 1 - c) + 1)) := (clen_iff h.1 8 r8).mp (by omega)
  have e2 := hk_un h r8 c8
  have pl := par_le h.1 (show r ≤ r + (x - (V r - 1 - c) + 1) by omega)
  refine ⟨r8, c8, ?_⟩
  unfold othN
  omega
/-- a box with nothing else in its hook is a corner -/
theorem oth_corner {V : Nat → Nat} (h : okS V) {r c : Nat} (hr : r < 8) (hc : c < V r) (h0 : othN V r c = 0) : V r = c + 1 ∧ V (r + 1) ≤ c := by
  have e1 := hk_un h hr hc
  unfold othN at h0
  refine ⟨by omega, ?_⟩
  by_cases q : r + 1 < 8
  · have := clen_iff h.1 (r := r + 1) (c := c) 8 q
    omega
  · rw [h.2.1 (r + 1) (by omega)]; omega
theorem wlk_ok {V : Nat → Nat} (h : okS V) : ∀ (f : Nat) (s : Int64) (r c : Nat), r < 8 → c < V r → othN V r c ≤ f → (wlk f V s r c).2.1 < 8 ∧ V (wlk f V s r c).2.1 = (wlk f V s r c).2.2 + 1 ∧ V ((wlk f V s r c).2.1 + 1) ≤ (wlk f V s r c).2.2 := by
  intro f
  induction f with
  | zero =>
    intro s r c hr hc ho
    have q := oth_corner h hr hc (by omega)
    exact ⟨hr, q.1, q.2⟩
  | succ f ih =>
    intro s r c hr hc ho
    unfold wlk
    by_cases q : othN V r c = 0
    · rw [if_pos q]
      have q := oth_corner h hr hc q
      exact ⟨hr, q.1, q.2⟩
    · rw [if_neg q]
      have pl := pkN_lt (s := sdN s) (show 0 < othN V r c by omega)
      by_cases d : pkN (sdN s) (othN V r c) < V r - 1 - c
      · rw [if_pos d]
        have w := wlk_right h hr hc d
        exact ih _ _ _ hr w.1 (by omega)
      · rw [if_neg d]
        have w := wlk_down h hr hc d pl
        exact ih _ _ _ w.1 w.2.1 (by omega)
/-- a corner dropped -/
theorem okS_drop {V : Nat → Nat} (h : okS V) {r c : Nat} (hr : r < 8) (h1 : V r = c + 1) (h2 : V (r + 1) ≤ c) : okS (upL V r c) ∧ boxes (upL V r c) 8 + 1 = boxes V 8 := by
  have bx : ∀ m, boxes (upL V r c) m + (if r < m then 1 else 0) = boxes V m := by
    intro m
    induction m with
    | zero => rw [if_neg (by omega)]; rfl
    | succ m ih =>
      show boxes (upL V r c) m + upL V r c m + (if r < m + 1 then 1 else 0) = boxes V m + V m
      by_cases e : m = r
      · subst e
        rw [if_neg (by omega)] at ih
        rw [upL_at, if_pos (by omega), h1]
        omega
      · rw [upL_ne e]
        by_cases q : r < m
        · rw [if_pos q] at ih
          rw [if_pos (by omega)]
          omega
        · rw [if_neg q] at ih
          rw [if_neg (by omega)]
          omega
  have b8 := bx 8
  rw [if_pos hr] at b8
  refine ⟨⟨fun k => ?_, fun k hk => ?_, by have := h.2.2; omega⟩, b8⟩
  · by_cases e : k + 1 = r
    · rw [← e, upL_at, upL_ne (by omega)]
      have := h.1 k
      rw [e] at this
      omega
    · rw [upL_ne e]
      by_cases e2 : k = r
      · rw [e2, upL_at]; exact h2
      · rw [upL_ne e2]; exact h.1 k
  · rw [upL_ne (by omega)]; exact h.2.1 k hk
/-- the box that gets k + 1 -/
def drB (k : Nat) (V : Nat → Nat) (s : Int64) : Int64 × (Nat × Nat) := wlk 24 V (sdN s) (goB 8 V 0 (pkN (sdN s) (k + 1))).1 (goB 8 V 0 (pkN (sdN s) (k + 1))).2
def drw : Nat → (Nat → Nat) → Int64 → (Nat → Nat → Nat) → Int64 × (Nat → Nat → Nat)
  | 0, _, s, T => (s, T)
  | k + 1, V, s, T => drw k (upL V (drB k V s).2.1 (drB k V s).2.2) (drB k V s).1 (upT T (drB k V s).2.1 (drB k V s).2.2 (k + 1))
theorem drB_in {V : Nat → Nat} (h : okS V) {k : Nat} (hk : boxes V 8 = k + 1) (s : Int64) : (goB 8 V 0 (pkN (sdN s) (k + 1))).1 < 8 ∧ (goB 8 V 0 (pkN (sdN s) (k + 1))).2 < V (goB 8 V 0 (pkN (sdN s) (k + 1))).1 := by
  have pl := pkN_lt (s := sdN s) (show 0 < k + 1 by omega)
  refine goB_ok 8 0 _ rfl ?_
  show pkN (sdN s) (k + 1) + 0 < _
  omega
theorem drB_ok {V : Nat → Nat} (h : okS V) {k : Nat} (hk : boxes V 8 = k + 1) (s : Int64) : (drB k V s).2.1 < 8 ∧ V (drB k V s).2.1 = (drB k V s).2.2 + 1 ∧ V ((drB k V s).2.1 + 1) ≤ (drB k V s).2.2 := by
  have g := drB_in h hk s
  have hl := hk_le h g.1 g.2
  exact wlk_ok h 24 _ _ _ g.1 g.2 (by unfold othN; omega)
/-- what is drawn: T' in the boxes of V, 1 .. k, rising in rows and columns; else T -/
theorem drw_ok : ∀ (k : Nat) (V : Nat → Nat) (s : Int64) (T : Nat → Nat → Nat), okS V → boxes V 8 = k → (∀ r c, V r ≤ c → (drw k V s T).2 r c = T r c) ∧ (∀ T' r c, c < V r → (drw k V s T).2 r c = (drw k V s T').2 r c) ∧ (∀ r c, c < V r → 1 ≤ (drw k V s T).2 r c ∧ (drw k V s T).2 r c ≤ k) ∧ (∀ r c, c + 1 < V r → (drw k V s T).2 r c < (drw k V s T).2 r (c + 1)) ∧ (∀ r c, c < V (r + 1) → (drw k V s T).2 r c < (drw k V s T).2 (r + 1) c) ∧ (∀ T', (drw k V s T).1 = (drw k V s T').1) := by
  intro k
  induction k with
  | zero =>
    intro V s T h hb
    have z : ∀ m, m ≤ 8 → boxes V m = 0 := by
      have mono : ∀ d m, boxes V m ≤ boxes V (m + d) := by
        intro d m
        induction d with
        | zero => exact Nat.le_refl _
        | succ d ih => exact Nat.le_trans ih (Nat.le_add_right _ _)
      intro m hm
      have := mono (8 - m) m
      rw [show m + (8 - m) = 8 by omega] at this
      omega
    have v0 : ∀ r, V r = 0 := by
      intro r
      by_cases q : r < 8
      · have e : boxes V (r + 1) = boxes V r + V r := rfl
        rw [z _ (by omega), z _ (by omega)] at e
        omega
      · exact h.2.1 r (by omega)
    refine ⟨fun _ _ _ => rfl, fun T' r c q => ?_, fun r c q => ?_, fun r c q => ?_, fun r c q => ?_, fun _ => rfl⟩
    · rw [v0 r] at q; omega
    · rw [v0 r] at q; omega
    · rw [v0 r] at q; omega
    · rw [v0 (r + 1)] at q; omega
  | succ k ih =>
    intro V s T h hb
    have db := drB_ok h hb s
    have dd := okS_drop h db.1 db.2.1 db.2.2
    have I := fun T => ih (upL V (drB k V s).2.1 (drB k V s).2.2) (drB k V s).1 T dd.1 (by omega)
    unfold drw
    generalize drB k V s = p at db dd I ⊢
    obtain ⟨s', r', c'⟩ := p
    simp only at db dd I ⊢
    have at' : ∀ T, (drw k (upL V r' c') s' (upT T r' c' (k + 1))).2 r' c' = k + 1 := fun T => by
      rw [(I _).1 r' c' (Nat.le_of_eq (upL_at V r' c')), upT_at]
    have cas : ∀ r c, c < V r → (r = r' ∧ c = c') ∨ c < upL V r' c' r := by
      intro r c q
      by_cases e : r = r'
      · subst e
        rw [upL_at]
        omega
      · rw [upL_ne e]; exact .inr q
    have bnd : ∀ r c, c < V r → 1 ≤ (drw k (upL V r' c') s' (upT T r' c' (k + 1))).2 r c ∧ (drw k (upL V r' c') s' (upT T r' c' (k + 1))).2 r c ≤ k + 1 := by
      intro r c q
      rcases cas r c q with ⟨rfl, rfl⟩ | w
      · rw [at']; omega
      · have := (I (upT T r' c' (k + 1))).2.2.1 r c w
        omega
    refine ⟨fun r c q => ?_, fun T' r c q => ?_, bnd, fun r c q => ?_, fun r c q => ?_, fun T' => (I _).2.2.2.2.2 _⟩
    · have ne : ¬ (r = r' ∧ c = c') := fun e => by
        rw [e.1, e.2] at q
        omega
      rw [(I _).1 r c, upT_ne ne]
      by_cases e : r = r'
      · subst e; rw [upL_at]; omega
      · rw [upL_ne e]; exact q
    · rcases cas r c q with ⟨rfl, rfl⟩ | w
      · rw [at', at']
      · exact (I _).2.1 _ r c w
    · rcases cas r (c + 1) q with ⟨e1, e2⟩ | w
      · rw [e1, e2, at']
        have w : c < upL V r' c' r' := by rw [upL_at]; omega
        have := ((I (upT T r' c' (k + 1))).2.2.1 r' c w).2
        omega
      · exact (I _).2.2.2.1 r c w
    · rcases cas (r + 1) c q with ⟨e1, e2⟩ | w
      · rw [e1, e2, at']
        have pl := h.1 r
        have w : c' < upL V r' c' r := by
          rw [upL_ne (by omega)]
          rw [e1] at pl
          omega
        have := ((I (upT T r' c' (k + 1))).2.2.1 r c' w).2
        omega
      · exact (I _).2.2.2.2.1 r c w
end DRAW1
