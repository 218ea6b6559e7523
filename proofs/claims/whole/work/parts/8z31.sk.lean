section SKP
theorem ins_boxes {T : Nat → Nat → Nat} {O : Nat → Nat} {w : List Nat} (h : tabS T I0 O = insF T0 w) (h16 : ∀ s, 16 ≤ s → O s = 0) : boxes O 16 = w.length := by
  have e1 : ∀ s, w.length ≤ s → insF T0 w s = [] := fun s hs => insF_hgt T0_hgt w s (by omega)
  have e2 : ∀ s, 16 ≤ s → insF T0 w s = [] := fun s hs => by
    rw [← h]
    show seg (T s) 0 (O s - 0) = []
    rw [h16 s hs]
    rfl
  have a := rdF_more (P := insF T0 w) 16 w.length 0 (fun s hs => e1 s (by omega))
  have b := rdF_more (P := insF T0 w) w.length 16 0 (fun s hs => e2 s (by omega))
  have c := KQ_length (KQ_rdF w)
  rw [← rdF_boxes T O 16, h, ← b, Nat.add_comm, a]
  exact c.symm
theorem ins_let {T : Nat → Nat → Nat} {O : Nat → Nat} {w : List Nat} (h : tabS T I0 O = insF T0 w) {s d : Nat} (hd : d < O s) : T s d ∈ w := by
  have m : T s d ∈ insF T0 w s := by
    rw [← h]
    exact seg_in (f := T s) (O s - 0) 0 d (Nat.zero_le _) (by omega)
  have hs : s < w.length := by
    by_cases q : s < w.length
    · exact q
    · have := insF_hgt T0_hgt w s (by omega)
      rw [this] at m
      cases m
  exact (KQ_mem (KQ_rdF w) _).mpr (rdF_in w.length 0 s (Nat.zero_le _) (by omega) m)
theorem okP_ins {T : Nat → Nat → Nat} {O : Nat → Nat} {w : List Nat} (h : tabS T I0 O = insF T0 w) (h16 : ∀ s, 16 ≤ s → O s = 0) (hl : w.length ≤ 24) (hw : ∀ x, x ∈ w → 1 ≤ x ∧ x ≤ 24) : okP T O := by
  have ok : okT T O := okT_of (by rw [h]; exact insF_srt T0_srt) (by rw [h]; exact insF_cstr T0_srt T0_cstr)
  have b := ins_boxes h h16
  refine ⟨ok, ⟨fun s => ?_, h16⟩, by omega, fun s d hd => hw _ (ins_let h hd)⟩
  have := boxes_row (O := O) 16 (by omega)
  have := par_le ok.1 (Nat.zero_le s)
  omega
/-- boxes between two shapes, in the first m rows -/
def dfB (I O : Nat → Nat) : Nat → Nat
  | 0 => 0
  | m + 1 => dfB I O m + (O m - I m)
theorem dfB_boxes {I O : Nat → Nat} (h : ∀ s, I s ≤ O s) : ∀ m, boxes O m = boxes I m + dfB I O m := by
  intro m
  induction m with
  | zero => rfl
  | succ m ih =>
    have := h m
    show boxes O m + O m = boxes I m + I m + (dfB I O m + (O m - I m))
    omega
theorem dfB_mono (I O : Nat → Nat) : ∀ a b, a ≤ b → dfB I O a ≤ dfB I O b := by
  intro a b h
  induction h with
  | refl => exact Nat.le_refl _
  | step _ ih => exact Nat.le_trans ih (Nat.le_add_right _ _)
/-- the filling that the word V gives -/
def skF (V : Nat → Nat) (I O : Nat → Nat) : Nat → Nat → Nat := fun r c => V (dfB I O 8 - dfB I O (r + 1) + (c - I r))
theorem seg_shift {f g : Nat → Nat} : ∀ (n a b : Nat), (∀ t, t < n → f (a + t) = g (b + t)) → seg f a n = seg g b n := by
  intro n
  induction n with
  | zero => intro a b _; rfl
  | succ n ih =>
    intro a b h
    show f a :: seg f (a + 1) n = g b :: seg g (b + 1) n
    rw [ih (a + 1) (b + 1) (fun t ht => by have := h (t + 1) (by omega); rwa [show a + (t + 1) = a + 1 + t by omega, show b + (t + 1) = b + 1 + t by omega] at this)]
    have := h 0 (by omega)
    rw [Nat.add_zero, Nat.add_zero] at this
    rw [this]
theorem rdF_sk {V : Nat → Nat} {I O : Nat → Nat} {T : Nat → Nat → Nat} (hT : ∀ r c, r < 8 → I r ≤ c → c < O r → T r c = skF V I O r c) : ∀ m, m ≤ 8 → rdF (tabS T I O) 0 m = seg V (dfB I O 8 - dfB I O m) (dfB I O m) := by
  intro m
  induction m with
  | zero => intro _; rfl
  | succ m ih =>
    intro hm
    have mo := dfB_mono I O (m + 1) 8 hm
    have es : dfB I O (m + 1) = dfB I O m + (O m - I m) := rfl
    rw [rdF_last, Nat.zero_add, ih (by omega)]
    have e1 : tabS T I O m = seg V (dfB I O 8 - dfB I O (m + 1)) (O m - I m) := by
      refine seg_shift _ _ _ (fun t ht => ?_)
      rw [hT m (I m + t) (by omega) (by omega) (by omega)]
      show V (_ + (I m + t - I m)) = _
      rw [Nat.add_sub_cancel_left]
    rw [e1, show dfB I O 8 - dfB I O m = dfB I O 8 - dfB I O (m + 1) + (O m - I m) by omega, ← seg_app, es, Nat.add_comm]
theorem rdF_pad {P : Tab} {a : Nat} (h : ∀ s, a ≤ s → P s = []) : ∀ d, rdF P 0 (a + d) = rdF P 0 a := by
  intro d
  induction d with
  | zero => rfl
  | succ d ih =>
    show rdF P 0 (a + d + 1) = _
    rw [rdF_last, Nat.zero_add, ih, h (a + d) (by omega)]
    rfl
theorem rdF_sk16 {V : Nat → Nat} {I O : Nat → Nat} {T : Nat → Nat → Nat} (hT : ∀ r c, r < 8 → I r ≤ c → c < O r → T r c = skF V I O r c) (h8 : ∀ s, 8 ≤ s → O s = 0) : rdF (tabS T I O) 0 16 = seg V 0 (dfB I O 8) := by
  have e := rdF_pad (P := tabS T I O) (a := 8) (fun s hs => by
    show seg (T s) (I s) (O s - I s) = []
    rw [h8 s hs, Nat.zero_sub]
    rfl) 8
  rw [show 16 = 8 + 8 from rfl, e, rdF_sk hT 8 (Nat.le_refl _), Nat.sub_self]
/-- column-strict at a box, as the class asks -/
def strA (T : Nat → Nat → Nat) (I : Nat → Nat) (r c : Nat) : Prop := (I r < c → T r (c - 1) ≤ T r c) ∧ (0 < r → I (r - 1) ≤ c → T (r - 1) c < T r c)
/-- as the reference asks -/
def strB (T : Nat → Nat → Nat) (I O : Nat → Nat) (r c : Nat) : Prop := (I r ≠ c → T r (c - 1) ≤ T r c) ∧ (r ≠ 7 → I (r + 1) ≤ c → c < O (r + 1) → T r c < T (r + 1) c)
def strS (T : Nat → Nat → Nat) (I O : Nat → Nat) : Prop := ∀ r c, r < 8 → I r ≤ c → c < O r → strA T I r c
def strR (T : Nat → Nat → Nat) (I O : Nat → Nat) : Prop := ∀ r c, r < 8 → I r ≤ c → c < O r → strB T I O r c
theorem strS_iff {T : Nat → Nat → Nat} {I O : Nat → Nat} (hI : par I) (hO : par O) : strS T I O ↔ strR T I O := by
  constructor
  · intro h r c h1 h2 h3
    refine ⟨fun q => (h r c h1 h2 h3).1 (by omega), fun q1 q2 q3 => ?_⟩
    have w := (h (r + 1) c (by omega) q2 q3).2 (by omega)
    rw [Nat.add_sub_cancel] at w
    exact w h2
  · intro h r c h1 h2 h3
    refine ⟨fun q => (h r c h1 h2 h3).1 (by omega), fun q1 q2 => ?_⟩
    obtain ⟨r, rfl⟩ : ∃ s, r = s + 1 := ⟨r - 1, by omega⟩
    rw [Nat.add_sub_cancel] at q2 ⊢
    have := hO r
    exact (h r c (by omega) q2 (by omega)).2 (by omega) h2 h3
theorem strS_cg {T T' : Nat → Nat → Nat} {I O : Nat → Nat} (hO : par O) (e : ∀ r c, r < 8 → I r ≤ c → c < O r → T r c = T' r c) (h : strS T I O) : strS T' I O := by
  intro r c h1 h2 h3
  obtain ⟨a, b⟩ := h r c h1 h2 h3
  refine ⟨fun q => ?_, fun q1 q2 => ?_⟩
  · rw [← e r (c - 1) h1 (by omega) (by omega), ← e r c h1 h2 h3]
    exact a q
  · obtain ⟨r, rfl⟩ : ∃ s, r = s + 1 := ⟨r - 1, by omega⟩
    have := hO r
    rw [Nat.add_sub_cancel] at q2 b ⊢
    rw [← e r c (by omega) q2 (by omega), ← e (r + 1) c h1 h2 h3]
    exact b q1 q2
theorem fil_of {T : Nat → Nat → Nat} {I O : Nat → Nat} (hI : par I) (hO : par O) (hIO : ∀ s, I s ≤ O s) (h8 : ∀ s, 8 ≤ s → O s = 0) (h : strS T I O) : fil T I O := by
  have lt8 : ∀ s d, d < O s → s < 8 := fun s d hd => by
    by_cases q : s < 8
    · exact q
    · have := h8 s (by omega)
      omega
  refine ⟨fun s t hst => par_le hI hst, fun s t hst => par_le hO hst, hIO, fun s d e h1 h2 h3 => ?_, fun s t d h1 h2 h3 => ?_⟩
  · have : ∀ k, d + k < O s → T s d ≤ T s (d + k) := by
      intro k
      induction k with
      | zero => intro _; exact Nat.le_refl _
      | succ k ih =>
        intro hk
        have w := (h s (d + k + 1) (lt8 s _ hk) (by omega) hk).1 (by omega)
        rw [Nat.add_sub_cancel] at w
        exact Nat.le_trans (ih (by omega)) w
    have w := this (e - d) (by omega)
    rwa [show d + (e - d) = e by omega] at w
  · have : ∀ k, d < O (s + k + 1) → T s d < T (s + k + 1) d := by
      intro k
      induction k with
      | zero =>
        intro hk
        have hs := hI s
        have w := (h (s + 1) d (lt8 _ _ hk) (by omega) hk).2 (by omega)
        rw [Nat.add_sub_cancel] at w
        exact w h2
      | succ k ih =>
        intro hk
        have o1 := hO (s + k + 1)
        have i1 := par_le hI (show s ≤ s + k + 1 by omega)
        have i2 := par_le hI (show s ≤ s + (k + 1) + 1 by omega)
        have w := (h (s + (k + 1) + 1) d (lt8 _ _ hk) (by omega) hk).2 (by omega)
        rw [Nat.add_sub_cancel] at w
        have w2 := w (show I (s + (k + 1)) ≤ d from by rw [show s + (k + 1) = s + k + 1 by omega]; omega)
        exact Nat.lt_trans (ih (by rw [show s + k + 1 + 1 = s + (k + 1) + 1 by omega] at o1; omega)) w2
    have w := this (t - s - 1)
    rw [show s + (t - s - 1) + 1 = t by omega] at w
    exact w h3
end SKP
