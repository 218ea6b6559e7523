section SLIDE
/-- below: Z stands under Y, not longer, each letter greater -/
def dom : List Nat → List Nat → Prop
  | _, [] => True
  | [], _ :: _ => False
  | y :: Y, z :: Z => y < z ∧ dom Y Z
theorem dom_nil (Y : List Nat) : dom Y [] := by cases Y <;> trivial
theorem dom_shift {z y : Nat} {Z Y : List Nat} (h : srt (z :: Z)) (hy : y < z) (hd : dom Y Z) : dom (y :: Y) Z := by
  induction Z generalizing z y Y with
  | nil => exact dom_nil _
  | cons w Z ih =>
    have h1 := List.pairwise_cons.mp h
    have hw := h1.1 w List.mem_cons_self
    cases Y with
    | nil => exact hd.elim
    | cons v Y => exact ⟨by omega, ih h1.2 hd.1 hd.2⟩
theorem srt_tail {x : Nat} {R : List Nat} (h : srt (x :: R)) : srt R := (List.pairwise_cons.mp h).2
theorem srt_drop2 {x y : Nat} {R : List Nat} (h : srt (x :: y :: R)) : srt (x :: R) := by
  have h1 := List.pairwise_cons.mp h
  exact List.pairwise_cons.mpr ⟨fun a ha => h1.1 a (List.mem_cons_of_mem _ ha), srt_tail h1.2⟩
theorem srt_less {x y : Nat} {R : List Nat} (h : srt (y :: R)) (hxy : x ≤ y) : srt (x :: R) := by
  have h1 := List.pairwise_cons.mp h
  exact List.pairwise_cons.mpr ⟨fun a ha => by have := h1.1 a ha; omega, h1.2⟩
/-- a letter that moves up, with nothing left of it above -/
theorem slideA {x : Nat} {Z Y : List Nat} (hZ : srt (x :: Z)) (hY : srt (x :: Y)) (hd : dom Y Z) : KQ (x :: (Z ++ Y)) (Z ++ x :: Y) := by
  induction Z generalizing x Y with
  | nil => exact KQ.rf _
  | cons z Z ih =>
    cases Y with
    | nil => exact hd.elim
    | cons y Y =>
      have hz := srt_tail hZ
      have hxy := (List.pairwise_cons.mp hY).1 y List.mem_cons_self
      have s1 : KQ (x :: (z :: Z ++ y :: Y)) (x :: z :: y :: (Z ++ Y)) := by
        have := ((KQ_past (x := y) hz hd.1).l [x]).r Y
        simpa using this
      have s2 : KQ (x :: z :: y :: (Z ++ Y)) (z :: x :: y :: (Z ++ Y)) := (KQ.k3 (a := [x, z, y]) (b := [z, x, y]) ⟨x, y, z, Or.inr ⟨hxy, hd.1, rfl, rfl⟩⟩).r (Z ++ Y)
      have s3 : KQ (z :: x :: y :: (Z ++ Y)) (z :: x :: (Z ++ y :: Y)) := (ih (srt_less hz (by have := hd.1; omega)) (srt_tail hY) hd.2).l [z, x]
      have s4 : KQ (z :: x :: (Z ++ y :: Y)) (z :: (Z ++ x :: y :: Y)) := (ih (srt_drop2 hZ) hY (dom_shift hz hd.1 hd.2)).l [z]
      exact s1.tr (s2.tr (s3.tr s4))
/-- a letter x moves up from the lower row V x Z into the upper row U _ Y -/
theorem slide2 {x : Nat} {V U Z Y : List Nat} (hl : srt (V ++ x :: Z)) (hY : srt (x :: Y)) (hd : dom Y Z) (hUV : dom U V) (hlen : V.length = U.length) : KQ (V ++ x :: Z ++ (U ++ Y)) (V ++ Z ++ (U ++ x :: Y)) := by
  induction V generalizing U with
  | nil =>
    cases U with
    | nil => exact slideA hl hY hd
    | cons u U => simp at hlen
  | cons v V ih =>
    cases U with
    | nil => simp at hlen
    | cons u U =>
      have hl' : srt (v :: (V ++ x :: Z)) := hl
      have hl2 : srt (v :: (V ++ Z)) := by
        have h1 := List.pairwise_cons.mp hl'
        refine List.pairwise_cons.mpr ⟨fun a ha => h1.1 a ?_, ?_⟩
        · rcases List.mem_append.mp ha with ha | ha
          · exact List.mem_append_left _ ha
          · exact List.mem_append_right _ (List.mem_cons_of_mem _ ha)
        · exact h1.2.sublist (List.Sublist.append_left (List.sublist_cons_self x Z) V)
      have i := ih (srt_tail hl') (U := U) hUV.2 (by simpa using hlen)
      have s1 : KQ (v :: V ++ x :: Z ++ (u :: U ++ Y)) (v :: u :: (V ++ x :: Z ++ (U ++ Y))) := by
        have := (KQ_past (x := u) hl' hUV.1).r (U ++ Y)
        simpa using this
      have s2 : KQ (v :: u :: (V ++ Z ++ (U ++ x :: Y))) (v :: V ++ Z ++ (u :: U ++ x :: Y)) := by
        have := ((KQ_past (x := u) hl2 hUV.1).r (U ++ x :: Y)).sm
        simpa using this
      exact s1.tr ((i.l [v, u]).tr s2)
theorem rinW_pass {r : Nat} {w rs : List Nat} (h : ∀ a ∈ w, r ≤ a) : rinW w (r :: rs) = (r :: (rinW w rs).1, (rinW w rs).2) := by
  induction w generalizing rs with
  | nil => rfl
  | cons a w ih =>
    have h1 := h a List.mem_cons_self
    simp only [rinW, rin_le h1]
    rw [ih (fun b hb => h b (List.mem_cons_of_mem _ hb))]
/-- a row put on top of one below which it fits: it takes its place -/
theorem rinW_dom {U V : List Nat} (hU : srt U) (hd : dom U V) : rinW U V = (U, V) := by
  induction U generalizing V with
  | nil =>
    cases V with
    | nil => rfl
    | cons v V => exact hd.elim
  | cons u U ih =>
    have h1 := List.pairwise_cons.mp hU
    cases V with
    | nil =>
      show ((rinW U [u]).1, [] ++ (rinW U [u]).2) = _
      rw [rinW_pass h1.1, ih h1.2 (dom_nil _)]
      rfl
    | cons v V =>
      show ((rinW U (rin u (v :: V)).1).1, (rin u (v :: V)).2 ++ (rinW U (rin u (v :: V)).1).2) = _
      rw [rin_gt hd.1]
      dsimp only
      rw [rinW_pass h1.1, ih h1.2 hd.2]
      rfl
def push (U : List Nat) (P : Tab) : Tab := fun r => match r with
  | 0 => U
  | r + 1 => P r
theorem insF_push {P : Tab} {U : List Nat} (hP : rsrt P) (hc : ∀ r, dom (P r) (P (r + 1))) (hU : srt U) (hd : dom U (P 0)) : insF P U = push U P := by
  have h : ∀ r, wd P U r = push U P r ∧ dom (push U P r) (P r) ∧ srt (push U P r) := by
    intro r
    induction r with
    | zero => exact ⟨rfl, hd, hU⟩
    | succ r ih =>
      refine ⟨?_, hc r, hP r⟩
      show (rinW (wd P U r) (P r)).2 = P r
      rw [ih.1, rinW_dom ih.2.2 ih.2.1]
  funext r
  show (rinW (wd P U r) (P r)).1 = _
  rw [(h r).1, rinW_dom (h r).2.2 (h r).2.1]
/-- the reading of rows k + n - 1, .. , k -/
def rdF (T : Tab) (k : Nat) : Nat → List Nat
  | 0 => []
  | n + 1 => rdF T (k + 1) n ++ T k
theorem rdF_ins {T : Tab} (hT : rsrt T) (hc : ∀ r, dom (T r) (T (r + 1))) (k n : Nat) : insF (fun _ => []) (rdF T k n) = fun r => if r < n then T (k + r) else [] := by
  induction n generalizing k with
  | zero =>
    show insF _ [] = _
    rw [insF_nil]
    funext r
    simp
  | succ n ih =>
    show insF _ (rdF T (k + 1) n ++ T k) = _
    rw [insF_app, ih]
    rw [insF_push]
    · funext r
      cases r with
      | zero => simp [push]
      | succ r =>
        have e : k + 1 + r = k + (r + 1) := by omega
        simp only [push, Nat.add_lt_add_iff_right, e]
    · intro r
      by_cases h : r < n
      · simp only [h, if_true]; exact hT _
      · simp only [h, if_false]; exact List.Pairwise.nil
    · intro r
      by_cases h : r + 1 < n
      · have h2 : r < n := by omega
        simp only [h, h2, if_true]
        exact hc (k + 1 + r)
      · simp only [h, if_false]; exact dom_nil _
    · exact hT k
    · by_cases h : 0 < n
      · simp only [h, if_true]
        exact hc k
      · simp only [h, if_false]; exact dom_nil _
end SLIDE
