section FILT
theorem K3_perm {a b : List Nat} (h : K3 a b) : List.Perm a b := by
  obtain ⟨x, y, z, h⟩ := h
  rcases h with ⟨-, -, rfl, rfl⟩ | ⟨-, -, rfl, rfl⟩
  · exact List.Perm.cons _ (List.Perm.swap _ _ _)
  · exact List.Perm.swap _ _ _
theorem KQ_perm {w w' : List Nat} (h : KQ w w') : List.Perm w w' := by
  have := h (fun z => List.Perm w z) (fun u v a b hab => by
    have q : List.Perm (u ++ a ++ v) (u ++ b ++ v) := ((K3_perm hab).append_left u).append_right v
    exact ⟨fun p => p.trans q, fun p => p.trans q.symm⟩)
  exact this.mp (List.Perm.refl _)
theorem KQ_filter {p : Nat → Bool} (hp : ∀ x y z, x ≤ y → y ≤ z → p x = true → p z = true → p y = true) {w w' : List Nat} (h : KQ w w') : KQ (w.filter p) (w'.filter p) := by
  intro g hg
  refine h (fun z => g (z.filter p)) (fun u v a b hab => ?_)
  have core : KQ (a.filter p) (b.filter p) := by
    obtain ⟨x, y, z, hab⟩ := hab
    rcases hab with ⟨h1, h2, rfl, rfl⟩ | ⟨h1, h2, rfl, rfl⟩
    · have hy := hp x y z (by omega) h2
      cases px : p x with
      | false => cases py : p y <;> cases pz : p z <;> simp [px, py, pz] <;> exact KQ.rf _
      | true =>
        cases pz : p z with
        | false => cases py : p y <;> simp [px, py, pz] <;> exact KQ.rf _
        | true =>
          have py := hy px pz
          simp only [List.filter_cons, px, py, pz, List.filter_nil, if_true]
          exact KQ.k3 ⟨x, y, z, Or.inl ⟨h1, h2, rfl, rfl⟩⟩
    · have hy := hp x y z h1 (by omega)
      cases px : p x with
      | false => cases py : p y <;> cases pz : p z <;> simp [px, py, pz] <;> exact KQ.rf _
      | true =>
        cases pz : p z with
        | false => cases py : p y <;> simp [px, py, pz] <;> exact KQ.rf _
        | true =>
          have py := hy px pz
          simp only [List.filter_cons, px, py, pz, List.filter_nil, if_true]
          exact KQ.k3 ⟨x, y, z, Or.inr ⟨h1, h2, rfl, rfl⟩⟩
  show g ((u ++ a ++ v).filter p) ↔ g ((u ++ b ++ v).filter p)
  rw [List.filter_append, List.filter_append, List.filter_append, List.filter_append]
  exact ((core.l (u.filter p)).r (v.filter p)) g hg
/-- the letters that are not greater than m -/
abbrev lef (m : Nat) (w : List Nat) : List Nat := w.filter (fun a => decide (a ≤ m))
/-- the letters that are greater than m -/
abbrev gtf (m : Nat) (w : List Nat) : List Nat := w.filter (fun a => decide (m < a))
theorem lef_yes {m x : Nat} {w : List Nat} (h : x ≤ m) : lef m (x :: w) = x :: lef m w := by simp [lef, h]
theorem lef_no {m x : Nat} {w : List Nat} (h : m < x) : lef m (x :: w) = lef m w := by simp [lef, List.filter_cons]; omega
theorem lef_none {m : Nat} {w : List Nat} (h : ∀ a ∈ w, m < a) : lef m w = [] := by
  induction w with
  | nil => rfl
  | cons x w ih => rw [lef_no (h x List.mem_cons_self)]; exact ih (fun a ha => h a (List.mem_cons_of_mem _ ha))
theorem rin_lef {m x : Nat} (hx : x ≤ m) {R : List Nat} (hR : srt R) : rin x (lef m R) = (lef m (rin x R).1, lef m (rin x R).2) := by
  induction R with
  | nil =>
    show ([x], []) = (lef m [x], lef m [])
    rw [lef_yes hx]
    rfl
  | cons y R ih =>
    have h1 := List.pairwise_cons.mp hR
    by_cases c : y ≤ x
    · rw [rin_le c, lef_yes (by omega), rin_le c, ih h1.2]
      dsimp only
      rw [lef_yes (by omega)]
    · by_cases d : y ≤ m
      · rw [rin_gt (by omega), lef_yes d, rin_gt (by omega)]
        dsimp only
        rw [lef_yes hx, lef_yes d]
        rfl
      · rw [rin_gt (by omega), lef_no (by omega), lef_none (w := R) (fun a ha => by have := h1.1 a ha; omega)]
        dsimp only
        rw [lef_yes hx, lef_no (by omega), lef_none (w := R) (fun a ha => by have := h1.1 a ha; omega)]
        rfl
theorem rin_lef_no {m x : Nat} (hx : m < x) (R : List Nat) : lef m (rin x R).1 = lef m R ∧ lef m (rin x R).2 = [] := by
  induction R with
  | nil =>
    refine ⟨?_, rfl⟩
    show lef m [x] = _
    rw [lef_no hx]
  | cons y R ih =>
    by_cases c : y ≤ x
    · rw [rin_le c]
      refine ⟨?_, ih.2⟩
      dsimp only
      by_cases d : y ≤ m
      · rw [lef_yes d, lef_yes d, ih.1]
      · rw [lef_no (by omega), lef_no (by omega), ih.1]
    · rw [rin_gt (by omega)]
      dsimp only
      rw [lef_no hx, lef_no (show m < y by omega), lef_no (show m < y by omega)]
      exact ⟨rfl, rfl⟩
theorem rinW_lef {m : Nat} (w : List Nat) : ∀ {R : List Nat}, srt R → rinW (lef m w) (lef m R) = (lef m (rinW w R).1, lef m (rinW w R).2) := by
  induction w with
  | nil => intro R _; rfl
  | cons x w ih =>
    intro R hR
    have h1 := ih (rin_srt (x := x) hR)
    by_cases c : x ≤ m
    · rw [lef_yes c]
      simp only [rinW]
      rw [rin_lef c hR]
      dsimp only
      rw [h1]
      dsimp only
      rw [show lef m ((rin x R).2 ++ (rinW w (rin x R).1).2) = lef m (rin x R).2 ++ lef m (rinW w (rin x R).1).2 from List.filter_append _ _]
    · obtain ⟨q1, q2⟩ := rin_lef_no (m := m) (show m < x by omega) R
      rw [lef_no (by omega)]
      simp only [rinW]
      rw [show lef m ((rin x R).2 ++ (rinW w (rin x R).1).2) = lef m (rin x R).2 ++ lef m (rinW w (rin x R).1).2 from List.filter_append _ _, q2, ← q1, h1]
      rfl
theorem wd_lef {m : Nat} {P : Tab} (hP : rsrt P) (w : List Nat) (r : Nat) : wd (fun s => lef m (P s)) (lef m w) r = lef m (wd P w r) := by
  induction r with
  | zero => rfl
  | succ r ih =>
    show (rinW (wd (fun s => lef m (P s)) (lef m w) r) (lef m (P r))).2 = _
    rw [ih, rinW_lef _ (hP r)]
    rfl
theorem insF_lef {m : Nat} {P : Tab} (hP : rsrt P) (w : List Nat) (r : Nat) : insF (fun s => lef m (P s)) (lef m w) r = lef m (insF P w r) := by
  show (rinW (wd (fun s => lef m (P s)) (lef m w) r) (lef m (P r))).1 = _
  rw [wd_lef hP, rinW_lef _ (hP r)]
  rfl
theorem ins0_lef (m : Nat) (w : List Nat) (r : Nat) : insF T0 (lef m w) r = lef m (insF T0 w r) := insF_lef T0_srt w r
/-- a rising row is known by how many letters it has up to m, for each m -/
theorem srt_known : ∀ {A B : List Nat}, srt A → srt B → (∀ m, (lef m A).length = (lef m B).length) → A = B := by
  intro A
  induction A with
  | nil =>
    intro B _ _ h
    cases B with
    | nil => rfl
    | cons b B =>
      have := h b
      rw [lef_yes (Nat.le_refl b)] at this
      simp at this
  | cons a A ih =>
    intro B hA hB h
    have a1 := List.pairwise_cons.mp hA
    cases B with
    | nil =>
      have := h a
      rw [lef_yes (Nat.le_refl a)] at this
      simp at this
    | cons b B =>
      have b1 := List.pairwise_cons.mp hB
      have e : a = b := by
        rcases Nat.lt_trichotomy a b with c | c | c
        · have := h a
          rw [lef_yes (Nat.le_refl a), lef_no c, lef_none (w := B) (fun y hy => by have := b1.1 y hy; omega)] at this
          simp at this
        · exact c
        · have := h b
          rw [lef_yes (Nat.le_refl b), lef_no c, lef_none (w := A) (fun y hy => by have := a1.1 y hy; omega)] at this
          simp at this
      subst e
      rw [ih a1.2 b1.2 (fun m => by
        have := h m
        by_cases c : a ≤ m
        · rw [lef_yes c, lef_yes c] at this
          simpa using this
        · rw [lef_no (by omega), lef_no (by omega)] at this
          exact this)]
/-- the turned word up to m: the letters that were greater than n - m -/
theorem star_lef {n m : Nat} (hm : m ≤ n) {w : List Nat} (hw : ∀ a ∈ w, 1 ≤ a ∧ a ≤ n) : lef m (star n w) = star n (gtf (n - m) w) := by
  induction w with
  | nil => rfl
  | cons x w ih =>
    have hx := hw x List.mem_cons_self
    have i := ih (fun a ha => hw a (List.mem_cons_of_mem _ ha))
    have e : ∀ u, star n (x :: u) = star n u ++ [n + 1 - x] := fun u => by simp [star]
    rw [e, show lef m (star n w ++ [n + 1 - x]) = lef m (star n w) ++ lef m [n + 1 - x] from List.filter_append _ _, i]
    by_cases c : n - m < x
    · rw [show gtf (n - m) (x :: w) = x :: gtf (n - m) w by simp [gtf, c], e, lef_yes (by omega)]
      rfl
    · rw [show gtf (n - m) (x :: w) = gtf (n - m) w by simp [gtf, List.filter_cons]; omega, lef_no (by omega)]
      simp [lef]
end FILT
