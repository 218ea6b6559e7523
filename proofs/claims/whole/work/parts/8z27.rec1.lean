section REC1
/-- the last place up to c whose letter is less than x; else 0 -/
def llF (f : Nat → Nat) (x : Nat) : Nat → Nat
  | 0 => 0
  | c + 1 => if f (c + 1) < x then c + 1 else llF f x c
theorem llF_le (f : Nat → Nat) (x : Nat) : ∀ c, llF f x c ≤ c := by
  intro c
  induction c with
  | zero => exact Nat.le_refl _
  | succ c ih =>
    unfold llF
    split
    · exact Nat.le_refl _
    · omega
theorem llF_get {f : Nat → Nat} {x : Nat} : ∀ c, (∃ d, d ≤ c ∧ f d < x) → f (llF f x c) < x ∧ ∀ d, d ≤ c → f d < x → d ≤ llF f x c := by
  intro c
  induction c with
  | zero =>
    rintro ⟨d, h1, h2⟩
    have : d = 0 := by omega
    subst this
    exact ⟨h2, fun e he _ => he⟩
  | succ c ih =>
    rintro ⟨d, h1, h2⟩
    unfold llF
    by_cases q : f (c + 1) < x
    · rw [if_pos q]
      exact ⟨q, fun e he _ => he⟩
    · rw [if_neg q]
      have hd : d ≤ c := by
        by_cases w : d = c + 1
        · subst w; exact absurd h2 q
        · omega
      obtain ⟨i1, i2⟩ := ih ⟨d, hd, h2⟩
      refine ⟨i1, fun e he h => ?_⟩
      by_cases w : e = c + 1
      · subst w; exact absurd h q
      · exact i2 e (by omega) h
theorem llF_two {f g : Nat → Nat} {x : Nat} : ∀ c, (∀ d, d ≤ c → f d = g d) → llF f x c = llF g x c := by
  intro c
  induction c with
  | zero => intro _; rfl
  | succ c ih =>
    intro h
    unfold llF
    rw [h (c + 1) (Nat.le_refl _), ih (fun d hd => h d (by omega))]
/-- the letter x, which comes from row r, goes up: rows r - 1 .. 0 -/
def tkF (O : Nat → Nat) : Nat → (Nat → Nat → Nat) → Nat → (Nat → Nat → Nat) × Nat
  | 0, T, x => (T, x)
  | r + 1, T, x => tkF O r (upT T r (llF (T r) x (O r - 1)) x) (T r (llF (T r) x (O r - 1)))
theorem tk_one {T : Nat → Nat → Nat} {O : Nat → Nat} {r x c' : Nat} (hT : okT T O) (h1 : c' < O r) (h2 : T r c' < x) (h3 : ∀ d, c' ≤ d → d < O (r + 1) → x < T (r + 1) d) : ∃ c, llF (T r) x (O r - 1) = c ∧ c' ≤ c ∧ c < O r ∧ T r c < x ∧ (∀ d, c < d → d < O r → x ≤ T r d) ∧ okT (upT T r c x) O ∧ (∀ s, r = s + 1 → c < O s ∧ upT T r c x s c < T r c) ∧ (∀ d, c ≤ d → d < O r → T r c < upT T r c x r d) := by
  obtain ⟨g1, g2⟩ := llF_get (f := T r) (x := x) (O r - 1) ⟨c', by omega, h2⟩
  have g3 := llF_le (T r) x (O r - 1)
  have g4 := g2 c' (by omega) h2
  generalize llF (T r) x (O r - 1) = c at *
  have g5 : ∀ d, c < d → d < O r → x ≤ T r d := fun d a b => by
    by_cases w : x ≤ T r d
    · exact w
    · have := g2 d (by omega) (by omega)
      omega
  obtain ⟨t1, t2, t3⟩ := hT
  refine ⟨c, rfl, g4, by omega, g1, g5, ⟨t1, fun s d hd => ?_, fun s d hd => ?_⟩, fun s hs => ?_, fun d a b => ?_⟩
  · have w := t2 s d hd
    by_cases e : s = r
    · subst e
      by_cases e1 : d = c
      · subst e1
        rw [upT_at, upT_ne (by omega)]
        exact g5 _ (by omega) hd
      · rw [upT_ne (by omega)]
        by_cases e2 : d + 1 = c
        · rw [e2, upT_at]
          rw [e2] at w
          omega
        · rw [upT_ne (by omega)]
          exact w
    · rw [upT_ne (by omega), upT_ne (by omega)]
      exact w
  · have w := t3 s d hd
    by_cases e : s = r
    · subst e
      rw [upT_ne (T := T) (s := s + 1) (by omega)]
      by_cases e1 : d = c
      · subst e1
        rw [upT_at]
        exact h3 d g4 hd
      · rw [upT_ne (by omega)]
        exact w
    · rw [upT_ne (T := T) (s := s) (by omega)]
      by_cases e1 : s + 1 = r ∧ d = c
      · rw [e1.1, e1.2, upT_at]
        rw [e1.1, e1.2] at w
        omega
      · rw [upT_ne e1]
        exact w
  · subst hs
    have := t1 s
    rw [upT_ne (by omega)]
    exact ⟨by omega, t3 s c (by omega)⟩
  · by_cases e : d = c
    · subst e; rw [upT_at]; exact g1
    · rw [upT_ne (by omega)]
      have := g5 d (by omega) b
      omega
theorem tkF_ok {O : Nat → Nat} : ∀ (r : Nat) (T : Nat → Nat → Nat) (x c' : Nat), okT T O → (∀ s, r = s + 1 → c' < O s ∧ T s c' < x) → (∀ d, c' ≤ d → d < O r → x < T r d) → okT (tkF O r T x).1 O := by
  intro r
  induction r with
  | zero => intro T x c' h _ _; exact h
  | succ r ih =>
    intro T x c' h h1 h2
    obtain ⟨a1, a2⟩ := h1 r rfl
    obtain ⟨c, e, _, _, _, _, b1, b2, b3⟩ := tk_one h a1 a2 h2
    show okT (tkF O r (upT T r (llF (T r) x (O r - 1)) x) (T r (llF (T r) x (O r - 1)))).1 O
    rw [e]
    exact ih _ _ c b1 b2 b3
theorem tkF_p (p : Nat → Prop) {O : Nat → Nat} : ∀ (r : Nat) (T : Nat → Nat → Nat) (x : Nat), (∀ s, s < r → 0 < O s) → p x → (∀ s d, d < O s → p (T s d)) → p (tkF O r T x).2 ∧ ∀ s d, d < O s → p ((tkF O r T x).1 s d) := by
  intro r
  induction r with
  | zero => intro T x _ h1 h2; exact ⟨h1, h2⟩
  | succ r ih =>
    intro T x h0 h1 h2
    have := h0 r (by omega)
    have l := llF_le (T r) x (O r - 1)
    refine ih _ _ (fun s hs => h0 s (by omega)) (h2 r _ (by omega)) (fun s d hd => ?_)
    by_cases e : s = r ∧ d = llF (T r) x (O r - 1)
    · rw [e.1, e.2, upT_at]; exact h1
    · rw [upT_ne e]; exact h2 s d hd
theorem tkF_two {O : Nat → Nat} : ∀ (r : Nat) (T T' : Nat → Nat → Nat) (x : Nat), (∀ s, s < r → 0 < O s) → (∀ s d, d < O s → T s d = T' s d) → (tkF O r T x).2 = (tkF O r T' x).2 ∧ ∀ s d, d < O s → (tkF O r T x).1 s d = (tkF O r T' x).1 s d := by
  intro r
  induction r with
  | zero => intro T T' x _ h; exact ⟨rfl, h⟩
  | succ r ih =>
    intro T T' x h0 h
    have := h0 r (by omega)
    have l := llF_le (T r) x (O r - 1)
    have e1 : llF (T' r) x (O r - 1) = llF (T r) x (O r - 1) := (llF_two _ (fun d hd => h r d (by omega))).symm
    show (tkF O r (upT T r (llF (T r) x (O r - 1)) x) (T r (llF (T r) x (O r - 1)))).2 = (tkF O r (upT T' r (llF (T' r) x (O r - 1)) x) (T' r (llF (T' r) x (O r - 1)))).2 ∧ ∀ s d, d < O s → (tkF O r (upT T r (llF (T r) x (O r - 1)) x) (T r (llF (T r) x (O r - 1)))).1 s d = (tkF O r (upT T' r (llF (T' r) x (O r - 1)) x) (T' r (llF (T' r) x (O r - 1)))).1 s d
    rw [e1, ← h r _ (show llF (T r) x (O r - 1) < O r by omega)]
    refine ih _ _ _ (fun s hs => h0 s (by omega)) (fun s d hd => ?_)
    by_cases e : s = r ∧ d = llF (T r) x (O r - 1)
    · rw [e.1, e.2, upT_at, upT_at]
    · rw [upT_ne e, upT_ne e]; exact h s d hd
/-- a box taken out at the end of row q -/
abbrev tkB (O : Nat → Nat) (q : Nat) (T : Nat → Nat → Nat) : (Nat → Nat → Nat) × Nat := tkF O q T (T q (O q))
theorem ups_pos {O : Nat → Nat} {q : Nat} (h : par (upL O q (O q + 1))) : ∀ s, s < q → 0 < O s := fun s hs => by
  have := par_le h (show s ≤ q by omega)
  rw [upL_at, upL_ne (by omega)] at this
  omega
theorem ups_sub {O : Nat → Nat} {q : Nat} {s d : Nat} (h : d < O s) : d < upL O q (O q + 1) s := by
  by_cases e : s = q
  · subst e; rw [upL_at]; omega
  · rw [upL_ne e]; exact h
theorem okT_sub {T : Nat → Nat → Nat} {O : Nat → Nat} {q : Nat} (hp : par O) (h : okT T (upL O q (O q + 1))) : okT T O := ⟨hp, fun r c hc => h.2.1 r c (ups_sub hc), fun r c hc => h.2.2 r c (ups_sub hc)⟩
theorem tkB_start {T : Nat → Nat → Nat} {O : Nat → Nat} {q : Nat} (h : okT T (upL O q (O q + 1))) : (∀ s, q = s + 1 → O q < O s ∧ T s (O q) < T q (O q)) ∧ (∀ d, O q ≤ d → d < O q → T q (O q) < T q d) := by
  refine ⟨fun s hs => ?_, fun d a b => by omega⟩
  subst hs
  have p := h.1 s
  have c := h.2.2 s (O (s + 1)) (by rw [upL_at]; omega)
  rw [upL_at, upL_ne (by omega)] at p
  exact ⟨by omega, c⟩
theorem tkB_ok {T : Nat → Nat → Nat} {O : Nat → Nat} {q : Nat} (hp : par O) (h : okT T (upL O q (O q + 1))) : okT (tkB O q T).1 O := by
  obtain ⟨a, b⟩ := tkB_start h
  exact tkF_ok q T _ (O q) (okT_sub hp h) a b
theorem tkB_p (p : Nat → Prop) {T : Nat → Nat → Nat} {O : Nat → Nat} {q : Nat} (h : par (upL O q (O q + 1))) (hl : ∀ s d, d < upL O q (O q + 1) s → p (T s d)) : p (tkB O q T).2 ∧ ∀ s d, d < O s → p ((tkB O q T).1 s d) := tkF_p p q T _ (ups_pos h) (hl q _ (by rw [upL_at]; omega)) (fun s d hd => hl s d (ups_sub hd))
theorem tkB_two {T T' : Nat → Nat → Nat} {O : Nat → Nat} {q : Nat} (h : par (upL O q (O q + 1))) (hl : ∀ s d, d < upL O q (O q + 1) s → T s d = T' s d) : (tkB O q T).2 = (tkB O q T').2 ∧ ∀ s d, d < O s → (tkB O q T).1 s d = (tkB O q T').1 s d := by
  unfold tkB
  rw [← hl q (O q) (by rw [upL_at]; omega)]
  exact tkF_two q T T' _ (ups_pos h) (fun s d hd => hl s d (ups_sub hd))
/-- Q's history: box k + 1 came to row q k of the shape Os k -/
def hisQ (n : Nat) (q : Nat → Nat) (Os : Nat → Nat → Nat) (QT : Nat → Nat → Nat) : Prop := Os 0 = I0 ∧ ∀ k, k < n → q k < 16 ∧ Os (k + 1) = upL (Os k) (q k) (Os k (q k) + 1) ∧ par (Os (k + 1)) ∧ QT (q k) (Os k (q k)) = k + 1
theorem his_par {n : Nat} {q : Nat → Nat} {Os : Nat → Nat → Nat} {QT : Nat → Nat → Nat} (h : hisQ n q Os QT) : ∀ k, k ≤ n → par (Os k) := by
  intro k hk
  cases k with
  | zero => rw [h.1]; exact fun _ => Nat.le_refl _
  | succ k => exact (h.2 k (by omega)).2.2.1
theorem his_mono {n : Nat} {q : Nat → Nat} {Os : Nat → Nat → Nat} {QT : Nat → Nat → Nat} (h : hisQ n q Os QT) : ∀ k j, k ≤ j → j ≤ n → ∀ s, Os k s ≤ Os j s := by
  intro k j hkj
  induction hkj with
  | refl => intro _ s; exact Nat.le_refl _
  | step hm ih =>
    intro hj s
    rename_i m
    have a := ih (by omega) s
    rw [show m.succ = m + 1 from rfl, (h.2 m (by omega)).2.1]
    by_cases e : s = q m
    · subst e; rw [upL_at]; omega
    · rw [upL_ne e]; exact a
theorem his_le {n : Nat} {q : Nat → Nat} {Os : Nat → Nat → Nat} {QT : Nat → Nat → Nat} (h : hisQ n q Os QT) : ∀ k, k ≤ n → ∀ s d, d < Os k s → QT s d ≤ k := by
  intro k
  induction k with
  | zero => intro _ s d hd; rw [h.1] at hd; cases hd
  | succ k ih =>
    intro hk s d hd
    obtain ⟨a1, a2, a3, a4⟩ := h.2 k (by omega)
    rw [a2] at hd
    by_cases e : s = q k
    · subst e
      rw [upL_at] at hd
      by_cases e2 : d = Os k (q k)
      · rw [e2, a4]; exact Nat.le_refl _
      · have := ih (by omega) (q k) d (by omega)
        omega
    · rw [upL_ne e] at hd
      have := ih (by omega) s d hd
      omega
/-- the number k + 1 is at the end of row q k alone -/
theorem his_row {n : Nat} {q : Nat → Nat} {Os : Nat → Nat → Nat} {QT : Nat → Nat → Nat} (h : hisQ n q Os QT) {k : Nat} (hk : k < n) {r : Nat} (h0 : 0 < Os (k + 1) r) : QT r (Os (k + 1) r - 1) = k + 1 ↔ r = q k := by
  obtain ⟨a1, a2, a3, a4⟩ := h.2 k hk
  rw [a2] at h0 ⊢
  by_cases e : r = q k
  · subst e
    rw [upL_at, Nat.add_sub_cancel, a4]
    simp
  · rw [upL_ne e] at h0 ⊢
    have := his_le h k (by omega) r (Os k r - 1) (by omega)
    simp only [e, iff_false]
    omega
theorem his_at {n : Nat} {q : Nat → Nat} {Os : Nat → Nat → Nat} {QT : Nat → Nat → Nat} (h : hisQ n q Os QT) {k : Nat} (hk : k < n) : 0 < Os (k + 1) (q k) := by
  rw [(h.2 k hk).2.1, upL_at]
  omega
theorem his_16 {n : Nat} {q : Nat → Nat} {Os : Nat → Nat → Nat} {QT : Nat → Nat → Nat} (h : hisQ n q Os QT) : ∀ k, k ≤ n → ∀ s, 16 ≤ s → Os k s = 0 := by
  intro k
  induction k with
  | zero => intro _ s _; rw [h.1]
  | succ k ih =>
    intro hk s hs
    obtain ⟨a1, a2, a3, a4⟩ := h.2 k (by omega)
    rw [a2, upL_ne (by omega)]
    exact ih (by omega) s hs
theorem his_box {n : Nat} {q : Nat → Nat} {Os : Nat → Nat → Nat} {QT : Nat → Nat → Nat} (h : hisQ n q Os QT) : ∀ k, k ≤ n → boxes (Os k) 16 = k := by
  intro k
  induction k with
  | zero => intro _; rw [h.1]; exact boxes_0 16
  | succ k ih =>
    intro hk
    obtain ⟨a1, a2, a3, a4⟩ := h.2 k (by omega)
    rw [a2, boxes_more, if_pos a1, ih (by omega)]
/-- the letters that come out, last first -/
def rcL (q : Nat → Nat) (Os : Nat → Nat → Nat) : Nat → (Nat → Nat → Nat) → (Nat → Nat) → Nat → Nat
  | 0, _, V => V
  | k + 1, T, V => rcL q Os k (tkB (Os k) (q k) T).1 (upL V k (tkB (Os k) (q k) T).2)
theorem rcL_high {q : Nat → Nat} {Os : Nat → Nat → Nat} : ∀ (k : Nat) (T : Nat → Nat → Nat) (V : Nat → Nat) (i : Nat), k ≤ i → rcL q Os k T V i = V i := by
  intro k
  induction k with
  | zero => intro T V i _; rfl
  | succ k ih =>
    intro T V i hi
    show rcL q Os k _ _ i = V i
    rw [ih _ _ i (by omega), upL_ne (by omega)]
theorem rcL_two {n : Nat} {q : Nat → Nat} {Os : Nat → Nat → Nat} {QT : Nat → Nat → Nat} (h : hisQ n q Os QT) : ∀ (k : Nat) (T T' : Nat → Nat → Nat) (V V' : Nat → Nat), k ≤ n → (∀ s d, d < Os k s → T s d = T' s d) → ∀ i, i < k → rcL q Os k T V i = rcL q Os k T' V' i := by
  intro k
  induction k with
  | zero => intro T T' V V' _ _ i hi; omega
  | succ k ih =>
    intro T T' V V' hk ht i hi
    obtain ⟨a1, a2, a3, a4⟩ := h.2 k (by omega)
    rw [a2] at ht a3
    obtain ⟨b1, b2⟩ := tkB_two a3 ht
    show rcL q Os k _ _ i = rcL q Os k _ _ i
    by_cases e : i < k
    · exact ih _ _ _ _ (by omega) b2 i e
    · have : i = k := by omega
      subst this
      rw [rcL_high _ _ _ _ (Nat.le_refl _), rcL_high _ _ _ _ (Nat.le_refl _), upL_at, upL_at, b1]
theorem rcL_p (p : Nat → Prop) {n : Nat} {q : Nat → Nat} {Os : Nat → Nat → Nat} {QT : Nat → Nat → Nat} (h : hisQ n q Os QT) : ∀ (k : Nat) (T : Nat → Nat → Nat) (V : Nat → Nat), k ≤ n → (∀ s d, d < Os k s → p (T s d)) → ∀ i, i < k → p (rcL q Os k T V i) := by
  intro k
  induction k with
  | zero => intro T V _ _ i hi; omega
  | succ k ih =>
    intro T V hk ht i hi
    obtain ⟨a1, a2, a3, a4⟩ := h.2 k (by omega)
    rw [a2] at ht a3
    obtain ⟨b1, b2⟩ := tkB_p p a3 ht
    show p (rcL q Os k _ _ i)
    by_cases e : i < k
    · exact ih _ _ (by omega) b2 i e
    · have : i = k := by omega
      subst this
      rw [rcL_high _ _ _ _ (Nat.le_refl _), upL_at]
      exact b1
/-- what holds of P and Q when Q is not away -/
def okQ (PT : Nat → Nat → Nat) (PO : Nat → Nat) (QT : Nat → Nat → Nat) (QO : Nat → Nat) (aw : Bool) : Prop := aw = false → (∀ s, QO s = PO s) ∧ (∀ s d, d < PO s → PT s d ≤ 16) ∧ ∃ n q Os, n ≤ 16 ∧ hisQ n q Os QT ∧ (∀ s, Os n s = PO s)
theorem isF_his (co : Bool) {W : Nat → Nat} {n : Nat} (T0 Q0 : Nat → Nat → Nat) (hn : n ≤ 16) (hW : ∀ k, k < n → 1 ≤ W k ∧ W k ≤ 16) : ∀ i, i ≤ n → hisQ i (fun k => (inS co (isF co W T0 Q0 k).1 (isF co W T0 Q0 k).2.1 (W k)).2.2) (fun k => (isF co W T0 Q0 k).2.1) (isF co W T0 Q0 i).2.2.1 := by
  intro i
  induction i with
  | zero => intro _; exact ⟨rfl, fun k hk => by omega⟩
  | succ i ih =>
    intro hi
    have H := ih (by omega)
    have ok := fun k (hk : k ≤ n) => isF_ok co (W := W) (n := n) (lo := 1) (hi := 16) T0 Q0 hn hW k hk
    have one : ∀ k, k < n → (inS co (isF co W T0 Q0 k).1 (isF co W T0 Q0 k).2.1 (W k)).2.2 < 16 ∧ (isF co W T0 Q0 (k + 1)).2.1 = upL (isF co W T0 Q0 k).2.1 (inS co (isF co W T0 Q0 k).1 (isF co W T0 Q0 k).2.1 (W k)).2.2 ((isF co W T0 Q0 k).2.1 (inS co (isF co W T0 Q0 k).1 (isF co W T0 Q0 k).2.1 (W k)).2.2 + 1) ∧ par (isF co W T0 Q0 (k + 1)).2.1 := by
      intro k hk
      obtain ⟨c1, c2, c3, c4⟩ := ok k (by omega)
      obtain ⟨b1, b2, b3, b4⟩ := inS_ok (lo := 1) (hi := 16) co (x := W k) c1 c2 c3 (by omega) (hW k hk).1 (hW k hk).2 c4
      exact ⟨by omega, b2, (ok (k + 1) (by omega)).1.1⟩
    refine ⟨rfl, fun k hk => ?_⟩
    obtain ⟨a1, a2, a3⟩ := one k (by omega)
    refine ⟨a1, a2, a3, ?_⟩
    by_cases e : k = i
    · subst e
      exact upT_at _ _ _ _
    · have old := (H.2 k (by omega)).2.2.2
      refine Eq.trans (upT_ne ?_) old
      rintro ⟨w1, w2⟩
      have mono := his_mono H (k + 1) i (by omega) (Nat.le_refl _) (inS co (isF co W T0 Q0 k).1 (isF co W T0 Q0 k).2.1 (W k)).2.2
      simp only at mono w1 w2
      rw [a2, upL_at] at mono
      rw [← w1] at w2
      omega
theorem isF_okQ (co : Bool) {W : Nat → Nat} {n : Nat} (T0 Q0 : Nat → Nat → Nat) (hn : n ≤ 16) (hW : ∀ k, k < n → 1 ≤ W k ∧ W k ≤ 16) : okQ (isF co W T0 Q0 n).1 (isF co W T0 Q0 n).2.1 (isF co W T0 Q0 n).2.2.1 (isF co W T0 Q0 n).2.1 false := fun _ => ⟨fun _ => rfl, fun s d hd => ((isF_ok co (W := W) (n := n) (lo := 1) (hi := 16) T0 Q0 hn hW n (Nat.le_refl _)).2.2.2 s d hd).2, n, _, _, hn, isF_his co T0 Q0 hn hW n (Nat.le_refl _), fun _ => rfl⟩
end REC1
