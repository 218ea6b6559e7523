section EVAC
/-- a filling between I and O -/
abbrev fil (T : Nat → Nat → Nat) (I O : Nat → Nat) : Prop :=
  (∀ s t, s ≤ t → I t ≤ I s) ∧ (∀ s t, s ≤ t → O t ≤ O s) ∧ (∀ s, I s ≤ O s) ∧
  (∀ s d e, I s ≤ d → d < e → e < O s → T s d ≤ T s e) ∧
  (∀ s t d, s < t → I s ≤ d → d < O t → T s d < T t d)
abbrev tabS (T : Nat → Nat → Nat) (I O : Nat → Nat) : Tab := fun s => seg (T s) (I s) (O s - I s)
def upL (O : Nat → Nat) (r x : Nat) : Nat → Nat := fun s => if s = r then x else O s
theorem upL_at (O : Nat → Nat) (r x : Nat) : upL O r x r = x := by simp [upL]
theorem upL_ne {O : Nat → Nat} {r x s : Nat} (h : s ≠ r) : upL O r x s = O s := by simp [upL, h]
/-- an inner corner becomes a hole -/
theorem fil_skw {T : Nat → Nat → Nat} {I O : Nat → Nat} {r c : Nat} (h : fil T I O) (h1 : I r = c + 1) (h2 : I (r + 1) ≤ c) : skw T (upL I r c) O r c := by
  obtain ⟨hI, hO, hIO, row, col⟩ := h
  have le : ∀ s d, upL I r c s ≤ d → ¬(s = r ∧ d = c) → I s ≤ d := by
    intro s d q1 q2
    by_cases k : s = r
    · subst k
      rw [upL_at] at q1
      omega
    · rwa [upL_ne k] at q1
  refine ⟨fun s t hst => ?_, hO, fun s => ?_, by rw [upL_at]; exact Nat.le_refl _, by have := hIO r; omega, fun s d e a1 a2 a3 a4 a5 => row s d e (le s d a1 a4) a2 a3, fun s t d a1 a2 a3 a4 a5 => col s t d a1 (le s d a2 a4) a3⟩
  · by_cases k1 : s = r
    · subst k1
      rw [upL_at]
      by_cases k2 : t = s
      · subst k2; rw [upL_at]; exact Nat.le_refl _
      · rw [upL_ne k2]
        have := hI (s + 1) t (by omega)
        omega
    · rw [upL_ne k1]
      by_cases k2 : t = r
      · subst k2
        rw [upL_at]
        have := hI s t hst
        omega
      · rw [upL_ne k2]; exact hI s t hst
  · by_cases k : s = r
    · subst k; rw [upL_at]; have := hIO s; omega
    · rw [upL_ne k]; exact hIO s
theorem rowH_in {T : Nat → Nat → Nat} {I O : Nat → Nat} {r c : Nat} (h1 : I r = c + 1) (s : Nat) : rowH T (upL I r c) O r c s = tabS T I O s := by
  by_cases k : s = r
  · subst k
    rw [rowH_at, upL_at, Nat.sub_self]
    show [] ++ _ = seg (T s) (I s) (O s - I s)
    rw [h1, List.nil_append]
  · rw [rowH_ne k, upL_ne k]
theorem skw_fil {T : Nat → Nat → Nat} {I O : Nat → Nat} {r c : Nat} (h : skw T I O r c) (h1 : O r = c + 1) (h2 : O (r + 1) ≤ c) : fil T I (upL O r c) := by
  obtain ⟨hI, hO, hIO, k1, k2, row, col⟩ := h
  have lt : ∀ s d, d < upL O r c s → d < O s ∧ ¬(s = r ∧ d = c) := by
    intro s d q
    by_cases k : s = r
    · subst k
      rw [upL_at] at q
      omega
    · rw [upL_ne k] at q
      exact ⟨q, fun x => k x.1⟩
  have anti : ∀ s t, s ≤ t → upL O r c t ≤ upL O r c s := by
    intro s t hst
    by_cases k1 : s = r
    · subst k1
      rw [upL_at]
      by_cases k2 : t = s
      · subst k2; rw [upL_at]; exact Nat.le_refl _
      · rw [upL_ne k2]
        have := hO (s + 1) t (by omega)
        omega
    · rw [upL_ne k1]
      by_cases k2 : t = r
      · subst k2
        rw [upL_at]
        have := hO s t hst
        omega
      · rw [upL_ne k2]; exact hO s t hst
  refine ⟨hI, anti, fun s => ?_, fun s d e a1 a2 a3 => ?_, fun s t d a1 a2 a3 => ?_⟩
  · by_cases k : s = r
    · subst k; rw [upL_at]; exact k1
    · rw [upL_ne k]; exact hIO s
  · exact row s d e a1 a2 (lt s e a3).1 (lt s d (by omega)).2 (lt s e a3).2
  · have := anti s t (by omega)
    exact col s t d a1 a2 (lt t d a3).1 (lt s d (by omega)).2 (lt t d a3).2
theorem rowH_out {T : Nat → Nat → Nat} {I O : Nat → Nat} {r c : Nat} (h1 : O r = c + 1) (s : Nat) : rowH T I O r c s = tabS T I (upL O r c) s := by
  by_cases k : s = r
  · subst k
    rw [rowH_at]
    show _ = seg (T s) (I s) (upL O s c s - I s)
    rw [upL_at, h1, Nat.sub_self]
    simp [seg]
  · rw [rowH_ne k]
    show _ = seg (T s) (I s) (upL O r c s - I s)
    rw [upL_ne k]
/-- one slide, from an inner corner -/
theorem slide_one {T : Nat → Nat → Nat} {I O : Nat → Nat} {N C n r c : Nat} (hC : ∀ s, O s ≤ C) (hN : ∀ s, N ≤ s → O s = 0) (hn : N + C ≤ n) (h : fil T I O) (h1 : I r = c + 1) (h2 : I (r + 1) ≤ c) : ∃ T' r' c', slF O n T r c = (T', r', c') ∧ O r' = c' + 1 ∧ fil T' (upL I r c) (upL O r' c') ∧ KQ (rdF (tabS T I O) 0 N) (rdF (tabS T' (upL I r c) (upL O r' c')) 0 N) := by
  obtain ⟨T', r', c', e1, e2, e3, e4, e5⟩ := slF_ok hC hN n T r c (fil_skw h h1 h2) (by omega)
  refine ⟨T', r', c', e1, e3, skw_fil e2 e3 e4, ?_⟩
  rw [rdF_eq (rowH_in h1) 0 N, rdF_eq (rowH_out e3) 0 N] at e5
  exact e5
abbrev I0 : Nat → Nat := fun _ => 0
/-- a straight filling is the tableau of its reading -/
theorem tabS_srt {T : Nat → Nat → Nat} {I O : Nat → Nat} (h : fil T I O) : rsrt (tabS T I O) := fun s => seg_srt _ _ (fun i j a1 a2 a3 => h.2.2.2.1 s i j a1 a2 (by have := h.2.2.1 s; omega))
theorem tabS_cstr {T : Nat → Nat → Nat} {O : Nat → Nat} (h : fil T I0 O) : cstr (tabS T I0 O) := fun s => seg_dom _ _ _ (by have := h.2.1 s (s + 1) (by omega); omega) (fun i a1 a2 => h.2.2.2.2 s (s + 1) i (by omega) (Nat.zero_le _) (by simpa using a2))
theorem tabS_ins {T : Nat → Nat → Nat} {O : Nat → Nat} {N : Nat} (hN : ∀ s, N ≤ s → O s = 0) (h : fil T I0 O) : insF T0 (rdF (tabS T I0 O) 0 N) = tabS T I0 O := by
  have q := rdF_ins (tabS_srt h) (tabS_cstr h) 0 N
  rw [show insF T0 (rdF (tabS T I0 O) 0 N) = insF (fun _ => []) (rdF (tabS T I0 O) 0 N) from rfl, q]
  funext r
  by_cases k : r < N
  · simp only [k, if_true, Nat.zero_add]
  · simp only [k, if_false]
    show [] = seg (T r) 0 (O r - 0)
    rw [hN r (by omega)]
    rfl
theorem tabS_known {T : Nat → Nat → Nat} {O : Nat → Nat} {N : Nat} {w : List Nat} (hN : ∀ s, N ≤ s → O s = 0) (h : fil T I0 O) (hK : KQ w (rdF (tabS T I0 O) 0 N)) : insF T0 w = tabS T I0 O := (KQ.ins hK T0_srt).trans (tabS_ins hN h)
theorem rdF_mem {T : Tab} {x : Nat} : ∀ {N k : Nat}, x ∈ rdF T k N → ∃ s, k ≤ s ∧ s < k + N ∧ x ∈ T s := by
  intro N
  induction N with
  | zero => intro k h; cases h
  | succ N ih =>
    intro k h
    rcases List.mem_append.mp h with h | h
    · obtain ⟨s, h1, h2, h3⟩ := ih h
      exact ⟨s, by omega, by omega, h3⟩
    · exact ⟨k, Nat.le_refl _, by omega, h⟩
theorem rdF_filter (T : Tab) (p : Nat → Bool) : ∀ (N k : Nat), (rdF T k N).filter p = rdF (fun s => (T s).filter p) k N := by
  intro N
  induction N with
  | zero => intro k; rfl
  | succ N ih =>
    intro k
    show (rdF T (k + 1) N ++ T k).filter p = _
    rw [List.filter_append, ih]
    rfl
theorem rdF_congr {T1 T2 : Tab} : ∀ (N k : Nat), (∀ s, k ≤ s → s < k + N → T1 s = T2 s) → rdF T1 k N = rdF T2 k N := by
  intro N
  induction N with
  | zero => intro k _; rfl
  | succ N ih =>
    intro k h
    show rdF T1 (k + 1) N ++ T1 k = rdF T2 (k + 1) N ++ T2 k
    rw [ih (k + 1) (fun s h1 h2 => h s (by omega) (by omega)), h k (Nat.le_refl _) (by omega)]
/-- the corner's letter goes out: the slide into it gives the tableau of the letters that are greater -/
theorem evac_one {T : Nat → Nat → Nat} {O : Nat → Nat} {N C n i : Nat} {w : List Nat} (hC : ∀ s, O s ≤ C) (hN : ∀ s, N ≤ s → O s = 0) (hn : N + C ≤ n) (h : fil T I0 O) (hK : KQ (gtf i w) (rdF (tabS T I0 O) 0 N)) (hnd : w.Nodup) (hi : i + 1 ∈ w) : ∃ T' r' c', slF O n T 0 0 = (T', r', c') ∧ O r' = c' + 1 ∧ fil T' I0 (upL O r' c') ∧ KQ (gtf (i + 1) w) (rdF (tabS T' I0 (upL O r' c')) 0 N) := by
  have hfil := h
  obtain ⟨hI, hO, hIO, row, col⟩ := h
  have hmem : i + 1 ∈ rdF (tabS T I0 O) 0 N := (KQ_mem hK (i + 1)).mp (List.mem_filter.mpr ⟨hi, by simp⟩)
  obtain ⟨s0, -, h02, h03⟩ := rdF_mem hmem
  obtain ⟨d0, -, h04, h05⟩ := seg_mem h03
  have h04' : d0 < O s0 := by simpa using h04
  have hO0 : 0 < O 0 := by have := hO 0 s0 (Nat.zero_le _); omega
  have inw : ∀ s d, d < O s → s < N → T s d ∈ rdF (tabS T I0 O) 0 N := by
    have seg_in : ∀ (f : Nat → Nat) (n a i : Nat), a ≤ i → i < a + n → f i ∈ seg f a n := by
      intro f n
      induction n with
      | zero => intro a i h1 h2; omega
      | succ n ih =>
        intro a i h1 h2
        by_cases k : i = a
        · subst k; exact List.mem_cons_self
        · exact List.mem_cons_of_mem _ (ih (a + 1) i (by omega) (by omega))
    have rd_in : ∀ (T : Tab) (x : Nat) (N k s : Nat), k ≤ s → s < k + N → x ∈ T s → x ∈ rdF T k N := by
      intro T x N
      induction N with
      | zero => intro k s h1 h2; omega
      | succ N ih =>
        intro k s h1 h2 h3
        by_cases k' : s = k
        · subst k'; exact List.mem_append_right _ h3
        · exact List.mem_append_left _ (ih (k + 1) s (by omega) (by omega) h3)
    intro s d h1 h2
    exact rd_in _ _ _ _ s (Nat.zero_le _) (by omega) (seg_in _ _ _ d (Nat.zero_le _) (by simpa using h1))
  have hNs : ∀ s d, d < O s → s < N := fun s d h1 => by
    by_cases k : s < N
    · exact k
    · have := hN s (by omega); omega
  have low : ∀ s d, d < O s → i + 1 ≤ T s d := fun s d h1 => by
    have := (KQ_mem hK (T s d)).mpr (inw s d h1 (hNs s d h1))
    have := (List.mem_filter.mp this).2
    have := of_decide_eq_true this
    omega
  have corner : T 0 0 = i + 1 := by
    have a := low 0 0 hO0
    have b1 : T 0 0 ≤ T s0 0 := by
      by_cases k : s0 = 0
      · subst k; exact Nat.le_refl _
      · exact Nat.le_of_lt (col 0 s0 0 (by omega) (Nat.zero_le _) (by omega))
    have b2 : T s0 0 ≤ T s0 d0 := by
      by_cases k : d0 = 0
      · subst k; exact Nat.le_refl _
      · exact row s0 0 d0 (Nat.zero_le _) (by omega) h04'
    omega
  have nd : (rdF (tabS T I0 O) 0 N).Nodup := (KQ_perm hK).nodup_iff.mp (hnd.sublist List.filter_sublist)
  have nd0 : (tabS T I0 O 0).Nodup := by
    obtain ⟨N', rfl⟩ : ∃ N', N = N' + 1 := ⟨N - 1, by omega⟩
    exact nd.sublist (List.sublist_append_right _ _)
  have e0 : tabS T I0 O 0 = T 0 0 :: seg (T 0) 1 (O 0 - 1) := by
    show seg (T 0) 0 (O 0 - 0) = _
    rw [show O 0 - 0 = (O 0 - 1) + 1 by omega]
    rfl
  have up : ∀ s d, d < O s → ¬(s = 0 ∧ d = 0) → i + 1 < T s d := by
    intro s d h1 h2
    by_cases k : s = 0
    · subst k
      have q := low 0 d h1
      rw [e0] at nd0
      have q2 := (List.nodup_cons.mp nd0).1
      have q3 : T 0 d ∈ seg (T 0) 1 (O 0 - 1) := by
        have seg_in : ∀ (f : Nat → Nat) (n a i : Nat), a ≤ i → i < a + n → f i ∈ seg f a n := by
          intro f n
          induction n with
          | zero => intro a i h1 h2; omega
          | succ n ih =>
            intro a i h1 h2
            by_cases k : i = a
            · subst k; exact List.mem_cons_self
            · exact List.mem_cons_of_mem _ (ih (a + 1) i (by omega) (by omega))
        exact seg_in _ _ _ d (by omega) (by omega)
      by_cases q4 : T 0 d = i + 1
      · rw [q4, ← corner] at q3; exact absurd q3 q2
      · omega
    · have a := col 0 s 0 (by omega) (Nat.zero_le _) (by omega)
      by_cases k2 : d = 0
      · subst k2; omega
      · have b := row s 0 d (Nat.zero_le _) (by omega) h1
        omega
  have sk : skw T I0 O 0 0 := ⟨hI, hO, hIO, Nat.zero_le _, hO0, fun s d e a1 a2 a3 _ _ => row s d e a1 a2 a3, fun s t d a1 a2 a3 _ _ => col s t d a1 a2 a3⟩
  obtain ⟨T', r', c', e1, e2, e3, e4, e5⟩ := slF_ok hC hN n T 0 0 sk (by omega)
  refine ⟨T', r', c', e1, e3, skw_fil e2 e3 e4, ?_⟩
  rw [rdF_eq (rowH_out e3) 0 N] at e5
  refine KQ.tr ?_ e5
  have f1 := KQ_filter (p := fun a => decide (i + 1 < a)) (fun x y z h1 h2 h3 _ => by have := of_decide_eq_true h3; exact decide_eq_true (by omega)) hK
  have f2 : (gtf i w).filter (fun a => decide (i + 1 < a)) = gtf (i + 1) w := by
    rw [List.filter_filter]
    refine List.filter_congr (fun x _ => ?_)
    by_cases k : i + 1 < x
    · simp [k]; omega
    · simp [k]
  rw [f2, rdF_filter] at f1
  have f3 : rdF (fun s => (tabS T I0 O s).filter (fun a => decide (i + 1 < a))) 0 N = rdF (rowH T I0 O 0 0) 0 N := by
    refine rdF_congr N 0 (fun s _ _ => ?_)
    have all : ∀ (a n : Nat), (∀ d, a ≤ d → d < a + n → i + 1 < T s d) → (seg (T s) a n).filter (fun a => decide (i + 1 < a)) = seg (T s) a n := by
      intro a n hh
      refine List.filter_eq_self.mpr (fun x hx => ?_)
      obtain ⟨d, q1, q2, rfl⟩ := seg_mem hx
      exact decide_eq_true (hh d q1 q2)
    by_cases k : s = 0
    · subst k
      rw [rowH_at]
      show (tabS T I0 O 0).filter _ = [] ++ seg (T 0) 1 (O 0 - 1)
      rw [e0, List.nil_append, List.filter_cons, if_neg (by rw [corner]; simp)]
      exact all 1 (O 0 - 1) (fun d q1 q2 => up 0 d (by omega) (by omega))
    · rw [rowH_ne k]
      exact all 0 (O s - 0) (fun d q1 q2 => up s d (by omega) (by omega))
  rw [f3] at f1
  exact f1
/-- how long the rows are on the way: as the turned word's tableau is up to n - i -/
theorem evac_lens {T : Nat → Nat → Nat} {O : Nat → Nat} {N n i : Nat} {w : List Nat} (hN : ∀ s, N ≤ s → O s = 0) (h : fil T I0 O) (hK : KQ (gtf i w) (rdF (tabS T I0 O) 0 N)) (hw : ∀ a ∈ w, 1 ≤ a ∧ a ≤ n) (hi : i ≤ n) (s : Nat) : (lef (n - i) (insF T0 (star n w) s)).length = O s := by
  rw [← ins0_lef, star_lef (by omega) hw, show n - (n - i) = i by omega, star_shape (fun a ha => hw a (List.mem_filter.mp ha).1), tabS_known hN h hK]
  show (seg (T s) 0 (O s - 0)).length = _
  rw [seg_len]
  rfl
/-- the letter of the box that is set free -/
theorem srt_box {R : List Nat} (hR : srt R) {m d : Nat} (h1 : (lef m R).length = d) (h2 : (lef (m + 1) R).length = d + 1) : R[d]? = some (m + 1) := by
  induction R generalizing d with
  | nil => rw [show lef (m + 1) [] = [] from rfl] at h2; simp at h2
  | cons a R ih =>
    have a1 := List.pairwise_cons.mp hR
    by_cases c : a ≤ m
    · rw [lef_yes c] at h1
      rw [lef_yes (by omega)] at h2
      simp only [List.length_cons] at h1 h2
      obtain ⟨d', rfl⟩ : ∃ d', d = d' + 1 := ⟨d - 1, by omega⟩
      rw [List.getElem?_cons_succ]
      exact ih a1.2 (by omega) (by omega)
    · have z : lef m (a :: R) = [] := lef_none (fun x hx => by
        rcases List.mem_cons.mp hx with rfl | hx
        · omega
        · have := a1.1 x hx; omega)
      rw [z] at h1
      have hd : d = 0 := by simpa using h1.symm
      subst hd
      by_cases e : a ≤ m + 1
      · have : a = m + 1 := by omega
        subst this
        rfl
      · have z2 : lef (m + 1) (a :: R) = [] := lef_none (fun x hx => by
          rcases List.mem_cons.mp hx with rfl | hx
          · omega
          · have := a1.1 x hx; omega)
        rw [z2] at h2
        simp at h2
end EVAC
