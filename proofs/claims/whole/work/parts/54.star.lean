section STAR
/-- a word turned around: from its end, each letter a as n + 1 - a -/
def star (n : Nat) (w : List Nat) : List Nat := (w.map (fun a => n + 1 - a)).reverse
theorem star_app (n : Nat) (u v : List Nat) : star n (u ++ v) = star n v ++ star n u := by simp [star]
theorem star_len (n : Nat) (w : List Nat) : (star n w).length = w.length := by simp [star]
theorem star_star {n : Nat} {w : List Nat} (h : ∀ a ∈ w, a ≤ n) : star n (star n w) = w := by
  simp only [star, List.map_reverse, List.reverse_reverse, List.map_map]
  have : ∀ a ∈ w, ((fun a => n + 1 - a) ∘ fun a => n + 1 - a) a = a := fun a ha => by
    have := h a ha
    simp only [Function.comp]
    omega
  exact (List.map_congr_left this).trans (List.map_id w)
theorem star_srt {n : Nat} {w : List Nat} (h : srt w) : srt (star n w) := by
  unfold star srt
  rw [List.pairwise_reverse, List.pairwise_map]
  exact h.imp (fun hab => by omega)
theorem star_mem {n a : Nat} {w : List Nat} (h : a ∈ star n w) : ∃ b ∈ w, a = n + 1 - b := by
  simp only [star, List.mem_reverse, List.mem_map] at h
  obtain ⟨b, hb, e⟩ := h
  exact ⟨b, hb, e.symm⟩
theorem K3_mem {a b : List Nat} (h : K3 a b) (x : Nat) : x ∈ a ↔ x ∈ b := by
  obtain ⟨p, q, r, h⟩ := h
  rcases h with ⟨-, -, rfl, rfl⟩ | ⟨-, -, rfl, rfl⟩
  · simp only [List.mem_cons, List.not_mem_nil, or_false]
    constructor <;> (intro h; rcases h with h | h | h <;> simp [h])
  · simp only [List.mem_cons, List.not_mem_nil, or_false]
    constructor <;> (intro h; rcases h with h | h | h <;> simp [h])
theorem KQ_mem {w w' : List Nat} (h : KQ w w') (x : Nat) : x ∈ w ↔ x ∈ w' := by
  refine h (fun z => x ∈ z) (fun u v a b hab => ?_)
  simp only [List.mem_append, K3_mem hab x]
theorem K3_star {n : Nat} {a b : List Nat} (h : K3 a b) (ha : ∀ x ∈ a, x ≤ n) : K3 (star n b) (star n a) ∨ K3 (star n a) (star n b) := by
  obtain ⟨x, y, z, h⟩ := h
  rcases h with ⟨h1, h2, rfl, rfl⟩ | ⟨h1, h2, rfl, rfl⟩
  · have hx := ha x (by simp)
    have hy := ha y (by simp)
    left
    refine ⟨n + 1 - z, n + 1 - y, n + 1 - x, Or.inr ⟨by omega, by omega, ?_, ?_⟩⟩ <;> simp [star]
  · have hx := ha x (by simp)
    have hy := ha y (by simp)
    have hz := ha z (by simp)
    left
    refine ⟨n + 1 - z, n + 1 - y, n + 1 - x, Or.inl ⟨by omega, by omega, ?_, ?_⟩⟩ <;> simp [star]
theorem KQ_star {n : Nat} {w w' : List Nat} (h : KQ w w') (hw : ∀ x ∈ w, x ≤ n) : KQ (star n w) (star n w') := by
  intro g hg
  have key := h (fun z => (∀ x ∈ z, x ≤ n) → g (star n z)) (fun u v a b hab => ?_)
  · have hw' : ∀ x ∈ w', x ≤ n := fun x hx => hw x ((KQ_mem h x).mpr hx)
    exact ⟨fun q => key.mp (fun _ => q) hw', fun q => key.mpr (fun _ => q) hw⟩
  · have mm : ∀ x, x ∈ u ++ a ++ v ↔ x ∈ u ++ b ++ v := fun x => by simp only [List.mem_append, K3_mem hab x]
    have core : (∀ x ∈ u ++ a ++ v, x ≤ n) → (g (star n (u ++ a ++ v)) ↔ g (star n (u ++ b ++ v))) := by
      intro hb
      have e : ∀ c, star n (u ++ c ++ v) = star n v ++ star n c ++ star n u := fun c => by rw [star_app, star_app, List.append_assoc]
      rw [e a, e b]
      rcases K3_star hab (fun x hx => hb x (by simp [hx])) with q | q
      · exact (hg _ _ _ _ q).symm
      · exact hg _ _ _ _ q
    constructor
    · intro q hb
      have ha : ∀ x ∈ u ++ a ++ v, x ≤ n := fun x hx => hb x ((mm x).mp hx)
      exact (core ha).mp (q ha)
    · intro q ha
      have hb : ∀ x ∈ u ++ b ++ v, x ≤ n := fun x hx => ha x ((mm x).mpr hx)
      exact (core ha).mpr (q hb)
/-- the empty tableau -/
abbrev T0 : Tab := fun _ => []
theorem T0_srt : rsrt T0 := fun _ => List.Pairwise.nil
theorem T0_cstr : cstr T0 := fun _ => dom_nil _
theorem T0_hgt : hgt T0 0 := fun _ _ => rfl
theorem insF_hgt {P : Tab} {N : Nat} (h : hgt P N) (w : List Nat) : hgt (insF P w) (N + w.length) := by
  induction w generalizing P N with
  | nil => rw [insF_nil]; exact h
  | cons x w ih =>
    have e : insF P (x :: w) = insF (insF P [x]) w := insF_app P [x] w
    rw [e]
    obtain ⟨r1, a1, a2, a3⟩ := ins_end h x
    have hl := ins_lens a2 a3
    have h' : hgt (insF P [x]) (N + 1) := by
      intro r hr
      have := hl r
      rw [if_neg (by omega), h r (by omega)] at this
      exact List.eq_nil_of_length_eq_zero (by simpa using this)
    have := ih h'
    simp only [List.length_cons]
    rw [show N + (w.length + 1) = N + 1 + w.length by omega]
    exact this
/-- a word is equivalent to the reading of its tableau -/
theorem rdF_push (U : List Nat) (P : Tab) (n : Nat) : rdF (push U P) 1 n = rdF P 0 n := by
  have : ∀ n k, rdF (push U P) (k + 1) n = rdF P k n := by
    intro n
    induction n with
    | zero => intro k; rfl
    | succ n ih => intro k; show rdF (push U P) (k + 1 + 1) n ++ push U P (k + 1) = _; rw [ih]; rfl
  exact this n 0
theorem wd_shift (P : Tab) (w : List Nat) (k r : Nat) : wd P w (k + r) = wd (fun i => P (k + i)) (wd P w k) r := by
  induction r with
  | zero => rfl
  | succ r ih =>
    show (rinW (wd P w (k + r)) (P (k + r))).2 = _
    rw [ih]
    rfl
theorem KQ_ins {N : Nat} : ∀ (P : Tab) (k : Nat) (w : List Nat), rsrt P → wd (fun i => P (k + i)) w N = [] → KQ (rdF P k N ++ w) (rdF (fun i => if i < k then [] else insF (fun j => P (k + j)) w (i - k)) k N) := by
  induction N with
  | zero =>
    intro P k w hP hw
    have hw' : w = [] := hw
    subst hw'
    exact KQ.rf _
  | succ N ih =>
    intro P k w hP hw
    have hrow : ∀ (R w : List Nat), srt R → KQ (R ++ w) ((rinW w R).2 ++ (rinW w R).1) := by
      intro R w
      induction w generalizing R with
      | nil => intro hR; show KQ (R ++ []) ([] ++ R); simp only [List.append_nil, List.nil_append]; exact KQ.rf _
      | cons x w ih2 =>
        intro hR
        have s1 := (KQ_bump (x := x) hR).r w
        have s2 := (ih2 (rin x R).1 (rin_srt hR)).l (rin x R).2
        have s3 := s1.tr (by simpa only [List.append_assoc] using s2)
        simpa [rinW] using s3
    have e1 : rdF P k (N + 1) ++ w = rdF P (k + 1) N ++ (P k ++ w) := by simp [rdF]
    rw [e1]
    have s1 : KQ (rdF P (k + 1) N ++ (P k ++ w)) (rdF P (k + 1) N ++ ((rinW w (P k)).2 ++ (rinW w (P k)).1)) := (hrow (P k) w (hP k)).l _
    have hb : wd (fun i => P (k + 1 + i)) (rinW w (P k)).2 N = [] := by
      have q := wd_shift (fun i => P (k + i)) w 1 N
      rw [Nat.add_comm 1 N] at q
      rw [hw] at q
      have e3 : (fun i => P (k + 1 + i)) = fun i => (fun i => P (k + i)) (1 + i) := by
        funext i
        show P (k + 1 + i) = P (k + (1 + i))
        rw [Nat.add_assoc]
      rw [e3]
      exact q.symm
    have s2 := (ih P (k + 1) (rinW w (P k)).2 hP hb).r (rinW w (P k)).1
    refine s1.tr ?_
    rw [← List.append_assoc]
    refine s2.tr ?_
    have e4 : ∀ M k2, k < k2 → rdF (fun i => if i < k + 1 then [] else insF (fun j => P (k + 1 + j)) (rinW w (P k)).2 (i - (k + 1))) k2 M = rdF (fun i => if i < k then [] else insF (fun j => P (k + j)) w (i - k)) k2 M := by
      intro M
      induction M with
      | zero => intro k2 _; rfl
      | succ M ihM =>
        intro k2 hk2
        show rdF _ (k2 + 1) M ++ _ = rdF _ (k2 + 1) M ++ _
        rw [ihM (k2 + 1) (by omega)]
        congr 1
        show (if k2 < k + 1 then [] else insF (fun j => P (k + 1 + j)) (rinW w (P k)).2 (k2 - (k + 1))) = if k2 < k then [] else insF (fun j => P (k + j)) w (k2 - k)
        rw [if_neg (by omega), if_neg (by omega)]
        obtain ⟨d, rfl⟩ : ∃ d, k2 = k + 1 + d := ⟨k2 - (k + 1), by omega⟩
        have a1 : k + 1 + d - (k + 1) = d := by omega
        have a2 : k + 1 + d - k = 1 + d := by omega
        rw [a1, a2]
        show (rinW (wd (fun j => P (k + 1 + j)) (rinW w (P k)).2 d) (P (k + 1 + d))).1 = (rinW (wd (fun j => P (k + j)) w (1 + d)) (P (k + (1 + d)))).1
        rw [wd_shift]
        have e5 : (fun i => P (k + (1 + i))) = fun j => P (k + 1 + j) := by
          funext i
          rw [Nat.add_assoc]
        show _ = (rinW (wd (fun i => P (k + (1 + i))) (rinW w (P k)).2 d) (P (k + (1 + d)))).1
        rw [e5, Nat.add_assoc]
    show KQ _ (rdF _ (k + 1) N ++ (if k < k then [] else insF (fun j => P (k + j)) w (k - k)))
    rw [if_neg (Nat.lt_irrefl _), e4 N (k + 1) (by omega), Nat.sub_self]
    exact KQ.rf _
end STAR
