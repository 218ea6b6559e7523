section JEU
/-- n letters of f, from place a on -/
def seg (f : Nat → Nat) (a : Nat) : Nat → List Nat
  | 0 => []
  | n + 1 => f a :: seg f (a + 1) n
theorem seg_len (f : Nat → Nat) : ∀ (n a : Nat), (seg f a n).length = n := by
  intro n
  induction n with
  | zero => intro a; rfl
  | succ n ih => intro a; simp [seg, ih]
theorem seg_app (f : Nat → Nat) : ∀ (n a m : Nat), seg f a (n + m) = seg f a n ++ seg f (a + n) m := by
  intro n
  induction n with
  | zero => intro a m; simp [seg]
  | succ n ih =>
    intro a m
    rw [show n + 1 + m = (n + m) + 1 by omega]
    show f a :: seg f (a + 1) (n + m) = f a :: seg f (a + 1) n ++ _
    rw [ih, show a + 1 + n = a + (n + 1) by omega]
    rfl
theorem seg_congr {f g : Nat → Nat} : ∀ (n a : Nat), (∀ i, a ≤ i → i < a + n → f i = g i) → seg f a n = seg g a n := by
  intro n
  induction n with
  | zero => intro a _; rfl
  | succ n ih =>
    intro a h
    show f a :: _ = g a :: _
    rw [h a (Nat.le_refl _) (by omega), ih (a + 1) (fun i h1 h2 => h i (by omega) (by omega))]
theorem seg_mem {f : Nat → Nat} {x : Nat} : ∀ {n a : Nat}, x ∈ seg f a n → ∃ i, a ≤ i ∧ i < a + n ∧ x = f i := by
  intro n
  induction n with
  | zero => intro a h; cases h
  | succ n ih =>
    intro a h
    rcases List.mem_cons.mp h with h | h
    · exact ⟨a, Nat.le_refl _, by omega, h⟩
    · obtain ⟨i, h1, h2, h3⟩ := ih h
      exact ⟨i, by omega, by omega, h3⟩
theorem seg_srt {f : Nat → Nat} : ∀ (n a : Nat), (∀ i j, a ≤ i → i < j → j < a + n → f i ≤ f j) → srt (seg f a n) := by
  intro n
  induction n with
  | zero => intro a _; exact List.Pairwise.nil
  | succ n ih =>
    intro a h
    refine List.pairwise_cons.mpr ⟨fun x hx => ?_, ih (a + 1) (fun i j h1 h2 h3 => h i j (by omega) h2 (by omega))⟩
    obtain ⟨i, h1, h2, rfl⟩ := seg_mem hx
    exact h a i (Nat.le_refl _) (by omega) (by omega)
theorem seg_dom {f g : Nat → Nat} : ∀ (m n a : Nat), m ≤ n → (∀ i, a ≤ i → i < a + m → f i < g i) → dom (seg f a n) (seg g a m) := by
  intro m
  induction m with
  | zero => intro n a _ _; exact dom_nil _
  | succ m ih =>
    intro n a hmn h
    obtain ⟨n', rfl⟩ : ∃ n', n = n' + 1 := ⟨n - 1, by omega⟩
    exact ⟨h a (Nat.le_refl _) (by omega), ih n' (a + 1) (by omega) (fun i h1 h2 => h i (by omega) (by omega))⟩
/-- a change in two rows that stand one under the other -/
theorem rdF_two {T1 T2 : Tab} {r : Nat} (h : ∀ s, s ≠ r → s ≠ r + 1 → T1 s = T2 s) (hK : KQ (T1 (r + 1) ++ T1 r) (T2 (r + 1) ++ T2 r)) : ∀ (N k : Nat), (k ≤ r → r + 1 < k + N) → k ≤ r → KQ (rdF T1 k N) (rdF T2 k N) := by
  have far : ∀ (N k : Nat), r + 1 < k → rdF T1 k N = rdF T2 k N := by
    intro N
    induction N with
    | zero => intro k _; rfl
    | succ N ih =>
      intro k hk
      show rdF T1 (k + 1) N ++ T1 k = rdF T2 (k + 1) N ++ T2 k
      rw [ih (k + 1) (by omega), h k (by omega) (by omega)]
  intro N
  induction N with
  | zero => intro k h1 h2; have := h1 h2; omega
  | succ N ih =>
    intro k h1 h2
    by_cases c : k = r
    · subst c
      obtain ⟨N', rfl⟩ : ∃ N', N = N' + 1 := ⟨N - 1, by have := h1 h2; omega⟩
      show KQ (rdF T1 (k + 1 + 1) N' ++ T1 (k + 1) ++ T1 k) (rdF T2 (k + 1 + 1) N' ++ T2 (k + 1) ++ T2 k)
      rw [far N' (k + 1 + 1) (by omega), List.append_assoc, List.append_assoc]
      exact hK.l _
    · show KQ (rdF T1 (k + 1) N ++ T1 k) (rdF T2 (k + 1) N ++ T2 k)
      rw [h k c (by omega)]
      exact (ih (k + 1) (fun _ => by have := h1 h2; omega) (by omega)).r _
theorem rdF_eq {T1 T2 : Tab} (h : ∀ s, T1 s = T2 s) (k N : Nat) : rdF T1 k N = rdF T2 k N := by
  rw [show T1 = T2 from funext h]
/-- a filling between I and O with a hole at r, c -/
abbrev skw (T : Nat → Nat → Nat) (I O : Nat → Nat) (r c : Nat) : Prop :=
  (∀ s t, s ≤ t → I t ≤ I s) ∧ (∀ s t, s ≤ t → O t ≤ O s) ∧ (∀ s, I s ≤ O s) ∧ I r ≤ c ∧ c < O r ∧
  (∀ s d e, I s ≤ d → d < e → e < O s → ¬(s = r ∧ d = c) → ¬(s = r ∧ e = c) → T s d ≤ T s e) ∧
  (∀ s t d, s < t → I s ≤ d → d < O t → ¬(s = r ∧ d = c) → ¬(t = r ∧ d = c) → T s d < T t d)
def upT (T : Nat → Nat → Nat) (r c x : Nat) : Nat → Nat → Nat := fun s d => if s = r ∧ d = c then x else T s d
theorem upT_at (T : Nat → Nat → Nat) (r c x : Nat) : upT T r c x r c = x := by simp [upT]
theorem upT_ne {T : Nat → Nat → Nat} {r c x s d : Nat} (h : ¬(s = r ∧ d = c)) : upT T r c x s d = T s d := by simp only [upT, h, if_false]
theorem skw_down {T : Nat → Nat → Nat} {I O : Nat → Nat} {r c : Nat} (h : skw T I O r c) (hb : c < O (r + 1)) (hr : O r ≤ c + 1 ∨ T (r + 1) c ≤ T r (c + 1)) : skw (upT T r c (T (r + 1) c)) I O (r + 1) c := by
  obtain ⟨hI, hO, hIO, h1, h2, row, col⟩ := h
  have hI1 := hI r (r + 1) (by omega)
  refine ⟨hI, hO, hIO, by omega, hb, fun s d e a1 a2 a3 a4 a5 => ?_, fun s t d a1 a2 a3 a4 a5 => ?_⟩
  · by_cases k1 : s = r ∧ d = c
    · obtain ⟨rfl, rfl⟩ := k1
      rw [upT_at, upT_ne (by omega)]
      have hx : T (s + 1) d ≤ T s (d + 1) := by
        rcases hr with hr | hr
        · omega
        · exact hr
      by_cases k2 : e = d + 1
      · subst k2; exact hx
      · exact Nat.le_trans hx (row s (d + 1) e (by omega) (by omega) a3 (by omega) (by omega))
    · rw [upT_ne k1]
      by_cases k2 : s = r ∧ e = c
      · obtain ⟨rfl, rfl⟩ := k2
        rw [upT_at]
        have b1 := col s (s + 1) d (by omega) a1 (by omega) k1 (by omega)
        have b2 := row (s + 1) d e (by omega) a2 hb (by omega) (by omega)
        omega
      · rw [upT_ne k2]
        exact row s d e a1 a2 a3 k1 k2
  · by_cases k1 : s = r ∧ d = c
    · obtain ⟨rfl, rfl⟩ := k1
      rw [upT_at, upT_ne (by omega)]
      exact col (s + 1) t d (by omega) (by omega) a3 (by omega) (by omega)
    · rw [upT_ne k1]
      by_cases k2 : t = r ∧ d = c
      · obtain ⟨rfl, rfl⟩ := k2
        rw [upT_at]
        exact col s (t + 1) d (by omega) a2 hb k1 (by omega)
      · rw [upT_ne k2]
        exact col s t d a1 a2 a3 k1 k2
theorem skw_right {T : Nat → Nat → Nat} {I O : Nat → Nat} {r c : Nat} (h : skw T I O r c) (hr : c + 1 < O r) (hb : O (r + 1) ≤ c ∨ T r (c + 1) < T (r + 1) c) : skw (upT T r c (T r (c + 1))) I O r (c + 1) := by
  obtain ⟨hI, hO, hIO, h1, h2, row, col⟩ := h
  refine ⟨hI, hO, hIO, by omega, hr, fun s d e a1 a2 a3 a4 a5 => ?_, fun s t d a1 a2 a3 a4 a5 => ?_⟩
  · by_cases k1 : s = r ∧ d = c
    · obtain ⟨rfl, rfl⟩ := k1
      rw [upT_at, upT_ne (by omega)]
      exact row s (d + 1) e (by omega) (by omega) a3 (by omega) (by omega)
    · rw [upT_ne k1]
      by_cases k2 : s = r ∧ e = c
      · obtain ⟨rfl, rfl⟩ := k2
        rw [upT_at]
        exact row s d (e + 1) a1 (by omega) hr k1 (by omega)
      · rw [upT_ne k2]
        exact row s d e a1 a2 a3 k1 k2
  · by_cases k1 : s = r ∧ d = c
    · obtain ⟨rfl, rfl⟩ := k1
      rw [upT_at, upT_ne (by omega)]
      have hO1 := hO (s + 1) t (by omega)
      have hx : T s (d + 1) < T (s + 1) d := by
        rcases hb with hb | hb
        · omega
        · exact hb
      by_cases k2 : t = s + 1
      · subst k2; exact hx
      · have hI1 := hI s (s + 1) (by omega)
        have := col (s + 1) t d (by omega) (by omega) a3 (by omega) (by omega)
        omega
    · rw [upT_ne k1]
      by_cases k2 : t = r ∧ d = c
      · obtain ⟨rfl, rfl⟩ := k2
        rw [upT_at]
        have hO1 := hO s t (by omega)
        have b1 := row s d (d + 1) a2 (by omega) (by omega) k1 (by omega)
        have b2 := col s t (d + 1) a1 (by omega) hr (by omega) (by omega)
        omega
      · rw [upT_ne k2]
        exact col s t d a1 a2 a3 k1 k2
/-- the rows of a filling with a hole -/
def rowH (T : Nat → Nat → Nat) (I O : Nat → Nat) (r c : Nat) : Tab := fun s =>
  if s = r then seg (T s) (I s) (c - I s) ++ seg (T s) (c + 1) (O s - (c + 1)) else seg (T s) (I s) (O s - I s)
theorem rowH_at (T : Nat → Nat → Nat) (I O : Nat → Nat) (r c : Nat) : rowH T I O r c r = seg (T r) (I r) (c - I r) ++ seg (T r) (c + 1) (O r - (c + 1)) := by simp [rowH]
theorem rowH_ne {T : Nat → Nat → Nat} {I O : Nat → Nat} {r c s : Nat} (h : s ≠ r) : rowH T I O r c s = seg (T s) (I s) (O s - I s) := by simp [rowH, h]
/-- a row, cut at c -/
theorem seg_cut (f : Nat → Nat) {a c o : Nat} (h1 : a ≤ c) (h2 : c < o) : seg f a (o - a) = seg f a (c - a) ++ f c :: seg f (c + 1) (o - (c + 1)) := by
  rw [show o - a = (c - a) + ((o - (c + 1)) + 1) by omega, seg_app, show a + (c - a) = c by omega]
  rfl
theorem rowH_right {T : Nat → Nat → Nat} {I O : Nat → Nat} {r c : Nat} (h1 : I r ≤ c) (hr : c + 1 < O r) (s : Nat) : rowH (upT T r c (T r (c + 1))) I O r (c + 1) s = rowH T I O r c s := by
  by_cases k : s = r
  · subst k
    rw [rowH_at, rowH_at]
    have e1 : seg (upT T s c (T s (c + 1)) s) (I s) (c + 1 - I s) = seg (T s) (I s) (c - I s) ++ [T s (c + 1)] := by
      rw [show c + 1 - I s = (c - I s) + 1 by omega, seg_app, show I s + (c - I s) = c by omega]
      congr 1
      · exact seg_congr _ _ (fun i b1 b2 => upT_ne (by omega))
      · show [upT T s c (T s (c + 1)) s c] = _
        rw [upT_at]
    have e2 : seg (T s) (c + 1) (O s - (c + 1)) = T s (c + 1) :: seg (T s) (c + 1 + 1) (O s - (c + 1 + 1)) := by
      rw [show O s - (c + 1) = (O s - (c + 1 + 1)) + 1 by omega]
      rfl
    have e3 : seg (upT T s c (T s (c + 1)) s) (c + 1 + 1) (O s - (c + 1 + 1)) = seg (T s) (c + 1 + 1) (O s - (c + 1 + 1)) := seg_congr _ _ (fun i b1 b2 => upT_ne (by omega))
    rw [e1, e2, e3]
    simp
  · rw [rowH_ne k, rowH_ne k]
    exact seg_congr _ _ (fun i b1 b2 => upT_ne (by omega))
theorem rowH_down {T : Nat → Nat → Nat} {I O : Nat → Nat} {r c : Nat} (h : skw T I O r c) (hb : c < O (r + 1)) (hr : O r ≤ c + 1 ∨ T (r + 1) c ≤ T r (c + 1)) : KQ (rowH T I O r c (r + 1) ++ rowH T I O r c r) (rowH (upT T r c (T (r + 1) c)) I O (r + 1) c (r + 1) ++ rowH (upT T r c (T (r + 1) c)) I O (r + 1) c r) := by
  obtain ⟨hI, hO, hIO, h1, h2, row, col⟩ := h
  have hI1 := hI r (r + 1) (by omega)
  have hO1 := hO r (r + 1) (by omega)
  rw [rowH_at, rowH_at, rowH_ne (show r + 1 ≠ r by omega), rowH_ne (show r ≠ r + 1 by omega)]
  have e1 : ∀ a n, seg (upT T r c (T (r + 1) c) (r + 1)) a n = seg (T (r + 1)) a n := fun a n => seg_congr _ _ (fun i b1 b2 => upT_ne (by omega))
  rw [e1, e1, seg_cut _ (show I (r + 1) ≤ c by omega) hb, seg_cut (upT T r c (T (r + 1) c) r) h1 h2, upT_at]
  have e2 : seg (upT T r c (T (r + 1) c) r) (I r) (c - I r) = seg (T r) (I r) (c - I r) := seg_congr _ _ (fun i b1 b2 => upT_ne (by omega))
  have e3 : seg (upT T r c (T (r + 1) c) r) (c + 1) (O r - (c + 1)) = seg (T r) (c + 1) (O r - (c + 1)) := seg_congr _ _ (fun i b1 b2 => upT_ne (by omega))
  rw [e2, e3]
  have e4 : seg (T (r + 1)) (I (r + 1)) (c - I (r + 1)) = seg (T (r + 1)) (I (r + 1)) (I r - I (r + 1)) ++ seg (T (r + 1)) (I r) (c - I r) := by
    rw [show c - I (r + 1) = (I r - I (r + 1)) + (c - I r) by omega, seg_app, show I (r + 1) + (I r - I (r + 1)) = I r by omega]
  rw [e4]
  have hl : srt (seg (T (r + 1)) (I r) (c - I r) ++ T (r + 1) c :: seg (T (r + 1)) (c + 1) (O (r + 1) - (c + 1))) := by
    rw [← seg_cut _ h1 hb]
    exact seg_srt _ _ (fun i j b1 b2 b3 => row (r + 1) i j (by omega) b2 (by omega) (by omega) (by omega))
  have hY : srt (T (r + 1) c :: seg (T r) (c + 1) (O r - (c + 1))) := by
    refine List.pairwise_cons.mpr ⟨fun y hy => ?_, seg_srt _ _ (fun i j b1 b2 b3 => row r i j (by omega) b2 (by omega) (by omega) (by omega))⟩
    obtain ⟨i, b1, b2, rfl⟩ := seg_mem hy
    rcases hr with hr | hr
    · omega
    · by_cases k : i = c + 1
      · subst k; exact hr
      · exact Nat.le_trans hr (row r (c + 1) i (by omega) (by omega) (by omega) (by omega) (by omega))
  have hd : dom (seg (T r) (c + 1) (O r - (c + 1))) (seg (T (r + 1)) (c + 1) (O (r + 1) - (c + 1))) := seg_dom _ _ _ (by omega) (fun i b1 b2 => col r (r + 1) i (by omega) (by omega) (by omega) (by omega) (by omega))
  have hUV : dom (seg (T r) (I r) (c - I r)) (seg (T (r + 1)) (I r) (c - I r)) := seg_dom _ _ _ (Nat.le_refl _) (fun i b1 b2 => col r (r + 1) i (by omega) (by omega) (by omega) (by omega) (by omega))
  have q := (slide2 hl hY hd hUV (by rw [seg_len, seg_len])).l (seg (T (r + 1)) (I (r + 1)) (I r - I (r + 1)))
  simpa only [List.append_assoc, List.cons_append] using q
theorem rowH_down' {T : Nat → Nat → Nat} {I O : Nat → Nat} {r c : Nat} (h : skw T I O r c) (hb : c < O (r + 1)) (hr : O r ≤ c + 1 ∨ T (r + 1) c ≤ T r (c + 1)) {N : Nat} (hN : r + 1 < N) : KQ (rdF (rowH T I O r c) 0 N) (rdF (rowH (upT T r c (T (r + 1) c)) I O (r + 1) c) 0 N) := by
  refine rdF_two (r := r) (fun s k1 k2 => ?_) (rowH_down h hb hr) N 0 (fun _ => by omega) (Nat.zero_le _)
  rw [rowH_ne k1, rowH_ne k2]
  exact seg_congr _ _ (fun i b1 b2 => (upT_ne (by omega)).symm)
/-- the slide: filling, lengths, the row that lost its box -/
def slF (O : Nat → Nat) : Nat → (Nat → Nat → Nat) → Nat → Nat → (Nat → Nat → Nat) × Nat × Nat
  | 0, T, r, c => (T, r, c)
  | n + 1, T, r, c =>
    if O r ≤ c + 1 ∧ O (r + 1) ≤ c then (T, r, c)
    else if c < O (r + 1) ∧ (O r ≤ c + 1 ∨ T (r + 1) c ≤ T r (c + 1)) then slF O n (upT T r c (T (r + 1) c)) (r + 1) c
    else slF O n (upT T r c (T r (c + 1))) r (c + 1)
theorem slF_ok {I O : Nat → Nat} {N C : Nat} (hC : ∀ s, O s ≤ C) (hN : ∀ s, N ≤ s → O s = 0) : ∀ (n : Nat) (T : Nat → Nat → Nat) (r c : Nat), skw T I O r c → N + C ≤ r + c + n → ∃ T' r' c', slF O n T r c = (T', r', c') ∧ skw T' I O r' c' ∧ O r' = c' + 1 ∧ O (r' + 1) ≤ c' ∧ KQ (rdF (rowH T I O r c) 0 N) (rdF (rowH T' I O r' c') 0 N) := by
  intro n
  induction n with
  | zero =>
    intro T r c h hn
    have h2 := h.2.2.2.2.1
    have := hC r
    by_cases k : N ≤ r
    · have := hN r k; omega
    · omega
  | succ n ih =>
    intro T r c h hn
    have h1 := h.2.2.2.1
    have h2 := h.2.2.2.2.1
    simp only [slF]
    by_cases k1 : O r ≤ c + 1 ∧ O (r + 1) ≤ c
    · rw [if_pos k1]
      exact ⟨T, r, c, rfl, h, by omega, k1.2, KQ.rf _⟩
    · rw [if_neg k1]
      by_cases k2 : c < O (r + 1) ∧ (O r ≤ c + 1 ∨ T (r + 1) c ≤ T r (c + 1))
      · rw [if_pos k2]
        obtain ⟨T', r', c', e1, e2, e3, e4, e5⟩ := ih _ (r + 1) c (skw_down h k2.1 k2.2) (by omega)
        refine ⟨T', r', c', e1, e2, e3, e4, (rowH_down' h k2.1 k2.2 ?_).tr e5⟩
        by_cases k : r + 1 < N
        · exact k
        · have := hN (r + 1) (by omega); omega
      · rw [if_neg k2]
        have k3 : c + 1 < O r := by
          by_cases q : c + 1 < O r
          · exact q
          · exfalso
            exact k2 ⟨by omega, Or.inl (by omega)⟩
        have k4 : O (r + 1) ≤ c ∨ T r (c + 1) < T (r + 1) c := by
          by_cases q : O (r + 1) ≤ c
          · exact Or.inl q
          · right
            by_cases q2 : T r (c + 1) < T (r + 1) c
            · exact q2
            · exact absurd ⟨by omega, Or.inr (by omega)⟩ k2
        obtain ⟨T', r', c', e1, e2, e3, e4, e5⟩ := ih _ r (c + 1) (skw_right h k3 k4) (by omega)
        refine ⟨T', r', c', e1, e2, e3, e4, ?_⟩
        rw [← rdF_eq (rowH_right h1 k3) 0 N]
        exact e5
end JEU
