section HPS
/-- n cells at different addresses -/
def Hp (n : Nat) (A : Nat → Nat) (C : Nat → Cl) (F : Mem) : Prop := (∀ i j, i < n → j < n → A i = A j → i = j) ∧ (∀ i, i < n → F (A i) = C i) ∧ (∀ i, i < n → C i ≠ jk)
variable {n : Nat} {A : Nat → Nat} {C : Nat → Cl} {F : Mem}
theorem nj_l (x : Nat × vp_A) : (.inl x : Cl) ≠ jk := fun h => by
  unfold jk at h
  cases h
theorem nj_r {ci : Nat} {fs : List Value} (h : ci ≠ 99) : (.inr (ci, fs) : Cl) ≠ jk := fun e => by
  unfold jk at e
  injection e with e
  injection e with e1 _
  exact h e1
theorem Hp.ne {q : Nat} (h : Hp n A C F) (hq : F q = jk) {i : Nat} (hi : i < n) : A i ≠ q := fun e => h.2.2 i hi (by rw [← h.2.1 i hi, e]; exact hq)
theorem Hp.new {q : Nat} {c : Cl} (h : Hp n A C F) (hq : F q = jk) (hc : c ≠ jk) : Hp (n + 1) (upL A n q) (upK C n c) (va_up F q c) := by
  refine ⟨fun i j hi hj e => ?_, fun i hi => ?_, fun i hi => ?_⟩
  · by_cases a : i = n
    · by_cases b : j = n
      · omega
      · subst a
        rw [upL_at, upL_ne b] at e
        exact absurd e.symm (h.ne hq (by omega))
    · by_cases b : j = n
      · subst b
        rw [upL_at, upL_ne a] at e
        exact absurd e (h.ne hq (by omega))
      · rw [upL_ne a, upL_ne b] at e
        exact h.1 i j (by omega) (by omega) e
  · by_cases a : i = n
    · subst a; rw [upL_at, upK_at, up_eq]
    · rw [upL_ne a, upK_ne a, up_ne (h.ne hq (by omega))]
      exact h.2.1 i (by omega)
  · by_cases a : i = n
    · subst a; rw [upK_at]; exact hc
    · rw [upK_ne a]; exact h.2.2 i (by omega)
theorem Hp.put {i a : Nat} {c : Cl} (h : Hp n A C F) (hi : i < n) (ha : A i = a) (hc : c ≠ jk) : Hp n A (upK C i c) (va_up F a c) := by
  refine ⟨h.1, fun j hj => ?_, fun j hj => ?_⟩
  · by_cases e : j = i
    · subst e; rw [upK_at, ha, up_eq]
    · rw [upK_ne e, up_ne (fun w => e (h.1 j i hj hi (w.trans ha.symm)))]
      exact h.2.1 j hj
  · by_cases e : j = i
    · subst e; rw [upK_at]; exact hc
    · rw [upK_ne e]; exact h.2.2 j hj
theorem Hp.get {i a : Nat} {c : Cl} (h : Hp n A C F) (hi : i < n) (ha : A i = a) (hc : C i = c) : F a = c := by
  rw [← ha, ← hc]
  exact h.2.1 i hi
theorem Hp.cg {C' : Nat → Cl} (h : Hp n A C F) (e : ∀ i, i < n → C' i = C i) : Hp n A C' F := ⟨h.1, fun i hi => (h.2.1 i hi).trans (e i hi).symm, fun i hi => by rw [e i hi]; exact h.2.2 i hi⟩
theorem hp_pf {i a ci k : Nat} {fs : List Value} {v : Value} (h : Hp n A C F) (hi : i < n) (ha : A i = a) (hc : C i = .inr (ci, fs)) (hk : k < fs.length) (hci : ci ≠ 99) : ∃ F', pf F a ci k v = some F' ∧ Hp n A (upK C i (.inr (ci, fs.set k v))) F' := ⟨_, pf_at (h.get hi ha hc) hk, h.put hi ha (nj_r hci)⟩
abbrev zI (t m : Nat) : Cl := .inl (t, m, .inl (fun _ => 0))
theorem hp_X4 {Post : Mem → Prop} {q : Nat} (h : Hp n A C F) (hq : F q = jk) (K : ∀ q1 F', Hp (n + 2) (upL (upL A n q) (n + 1) q1) (upK (upK C n (.inr (3, [.ref q1]))) (n + 1) (zI 0 8)) F' → Post F') : pX4_init Post (va_up F q (.inr (3, [.null]))) q := by
  have h1 := h.new (c := .inr (3, [.null])) hq (nj_r (by decide))
  intro q1 hq1
  have h2 := h1.new (c := zI 0 8) hq1 (nj_l _)
  obtain ⟨F', p, h3⟩ := hp_pf (i := n) (a := q) (ci := 3) (k := 0) (fs := [.null]) (v := .ref q1) h2 (by omega) (by rw [upL_ne (by omega), upL_at]) (by rw [upK_ne (by omega), upK_at]) (by decide) (by decide)
  refine ⟨F', p, K q1 F' (h3.cg (fun i hi => ?_))⟩
  simp only [upK]
  repeat' split
  all_goals first | rfl | omega
theorem hp_X6 {Post : Mem → Prop} {q : Nat} (h : Hp n A C F) (hq : F q = jk) (K : ∀ q1 F', Hp (n + 2) (upL (upL A n q) (n + 1) q1) (upK (upK C n (.inr (5, [.ref q1]))) (n + 1) (zI 0 25)) F' → Post F') : pX6_init Post (va_up F q (.inr (5, [.null]))) q := by
  have h1 := h.new (c := .inr (5, [.null])) hq (nj_r (by decide))
  intro q1 hq1
  have h2 := h1.new (c := zI 0 25) hq1 (nj_l _)
  obtain ⟨F', p, h3⟩ := hp_pf (i := n) (a := q) (ci := 5) (k := 0) (fs := [.null]) (v := .ref q1) h2 (by omega) (by rw [upL_ne (by omega), upL_at]) (by rw [upK_ne (by omega), upK_at]) (by decide) (by decide)
  refine ⟨F', p, K q1 F' (h3.cg (fun i hi => ?_))⟩
  simp only [upK]
  repeat' split
  all_goals first | rfl | omega
theorem hp_X8 {Post : Mem → Prop} {q : Nat} (h : Hp n A C F) (hq : F q = jk) (K : ∀ q1 F', Hp (n + 2) (upL (upL A n q) (n + 1) q1) (upK (upK C n (.inr (7, [.ref q1, .int 0]))) (n + 1) (zI 0 16)) F' → Post F') : pX8_init Post (va_up F q (.inr (7, [.null, .int 0]))) q := by
  have h1 := h.new (c := .inr (7, [.null, .int 0])) hq (nj_r (by decide))
  intro q1 hq1
  have h2 := h1.new (c := zI 0 16) hq1 (nj_l _)
  obtain ⟨F', p, h3⟩ := hp_pf (i := n) (a := q) (ci := 7) (k := 0) (fs := [.null, .int 0]) (v := .ref q1) h2 (by omega) (by rw [upL_ne (by omega), upL_at]) (by rw [upK_ne (by omega), upK_at]) (by simp) (by decide)
  obtain ⟨F'', p', h4⟩ := hp_pf (i := n) (a := q) (ci := 7) (k := 1) (fs := [.ref q1, .int 0]) (v := .int 0) h3 (by omega) (by rw [upL_ne (by omega), upL_at]) (by rw [upK_at]; rfl) (by simp) (by decide)
  refine ⟨F', p, F'', p', K q1 F'' (h4.cg (fun i hi => ?_))⟩
  simp only [upK]
  repeat' split
  all_goals first | rfl | omega
theorem hp_X7 {Post : Mem → Prop} {q : Nat} (h : Hp n A C F) (hq : F q = jk) (K : ∀ q1 q2 F', Hp (n + 3) (upL (upL (upL A n q) (n + 1) q1) (n + 2) q2) (upK (upK (upK C n (.inr (6, [.ref q1, .ref q2]))) (n + 1) (zI 0 16)) (n + 2) (zI 0 384)) F' → Post F') : pX7_init Post (va_up F q (.inr (6, [.null, .null]))) q := by
  have h1 := h.new (c := .inr (6, [.null, .null])) hq (nj_r (by decide))
  intro q1 hq1
  have h2 := h1.new (c := zI 0 16) hq1 (nj_l _)
  obtain ⟨F1, p1, h3⟩ := hp_pf (i := n) (a := q) (ci := 6) (k := 0) (fs := [.null, .null]) (v := .ref q1) h2 (by omega) (by rw [upL_ne (by omega), upL_at]) (by rw [upK_ne (by omega), upK_at]) (by simp) (by decide)
  refine ⟨F1, p1, fun q2 hq2 => ?_⟩
  have h4 := h3.new (c := zI 0 384) hq2 (nj_l _)
  obtain ⟨F2, p2, h5⟩ := hp_pf (i := n) (a := q) (ci := 6) (k := 1) (fs := [.ref q1, .null]) (v := .ref q2) h4 (by omega) (by rw [upL_ne (by omega), upL_ne (by omega), upL_at]) (by rw [upK_ne (by omega), upK_at]; rfl) (by simp) (by decide)
  refine ⟨F2, p2, K q1 q2 F2 (h5.cg (fun i hi => ?_))⟩
  simp only [upK]
  repeat' split
  all_goals first | rfl | omega
theorem hp_X1 {Post : Mem → Prop} {q : Nat} (h : Hp n A C F) (hq : F q = jk) (K : ∀ q1 q2 F', Hp (n + 3) (upL (upL (upL A n q) (n + 1) q1) (n + 2) q2) (upK (upK (upK C n (.inr (1, [.ref q1, .long 0, .int 0, .int 0]))) (n + 1) (.inr (3, [.ref q2]))) (n + 2) (zI 0 8)) F' → Post F') : pX1_init Post (va_up F q (.inr (1, [.null, .long 0, .int 0, .int 0]))) q := by
  have h1 := h.new (c := .inr (1, [.null, .long 0, .int 0, .int 0])) hq (nj_r (by decide))
  intro q1 hq1
  refine hp_X4 h1 hq1 (fun q2 F1 h2 => ?_)
  obtain ⟨F2, p2, h3⟩ := hp_pf (i := n) (a := q) (ci := 1) (k := 0) (fs := [.null, .long 0, .int 0, .int 0]) (v := .ref q1) h2 (by omega) (by rw [upL_ne (by omega), upL_ne (by omega), upL_at]) (by rw [upK_ne (by omega), upK_ne (by omega), upK_at]) (by simp) (by decide)
  obtain ⟨F3, p3, h4⟩ := hp_pf (i := n) (a := q) (ci := 1) (k := 1) (fs := [.ref q1, .long 0, .int 0, .int 0]) (v := .long 0) h3 (by omega) (by rw [upL_ne (by omega), upL_ne (by omega), upL_at]) (by rw [upK_at]; rfl) (by simp) (by decide)
  obtain ⟨F4, p4, h5⟩ := hp_pf (i := n) (a := q) (ci := 1) (k := 2) (fs := [.ref q1, .long 0, .int 0, .int 0]) (v := .int 0) h4 (by omega) (by rw [upL_ne (by omega), upL_ne (by omega), upL_at]) (by rw [upK_at]; rfl) (by simp) (by decide)
  obtain ⟨F5, p5, h6⟩ := hp_pf (i := n) (a := q) (ci := 1) (k := 3) (fs := [.ref q1, .long 0, .int 0, .int 0]) (v := .int 0) h5 (by omega) (by rw [upL_ne (by omega), upL_ne (by omega), upL_at]) (by rw [upK_at]; rfl) (by simp) (by decide)
  refine ⟨F2, p2, F3, p3, F4, p4, F5, p5, K q1 q2 F5 (h6.cg (fun i hi => ?_))⟩
  simp only [upK]
  repeat' split
  all_goals first | rfl | omega
theorem hp_X0 {Post : Mem → Prop} {q : Nat} (h : Hp n A C F) (hq : F q = jk) (K : ∀ q1 q2 q3 q4 q5 F', Hp (n + 6) (upL (upL (upL (upL (upL (upL A n q) (n + 1) q1) (n + 2) q2) (n + 3) q3) (n + 4) q4) (n + 5) q5) (upK (upK (upK (upK (upK (upK C n (.inr (0, [.ref q1, .ref q2, .ref q3, .ref q4]))) (n + 1) (.inl (1, 1448, .inr (.inl (fun _ => 0))))) (n + 2) (zI 0 153)) (n + 3) (zI 2 16)) (n + 4) (.inr (3, [.ref q5]))) (n + 5) (zI 0 8)) F' → Post F') : pX0_init Post (va_up F q (.inr (0, [.null, .null, .null, .null]))) q := by
  have h1 := h.new (c := .inr (0, [.null, .null, .null, .null])) hq (nj_r (by decide))
  intro q1 hq1
  have h2 := h1.new (c := .inl (1, 1448, .inr (.inl (fun _ => 0)))) hq1 (nj_l _)
  obtain ⟨F1, p1, h3⟩ := hp_pf (i := n) (a := q) (ci := 0) (k := 0) (fs := [.null, .null, .null, .null]) (v := .ref q1) h2 (by omega) (by rw [upL_ne (by omega), upL_at]) (by rw [upK_ne (by omega), upK_at]) (by simp) (by decide)
  refine ⟨F1, p1, fun q2 hq2 => ?_⟩
  have h4 := h3.new (c := zI 0 153) hq2 (nj_l _)
  obtain ⟨F2, p2, h5⟩ := hp_pf (i := n) (a := q) (ci := 0) (k := 1) (fs := [.ref q1, .null, .null, .null]) (v := .ref q2) h4 (by omega) (by rw [upL_ne (by omega), upL_ne (by omega), upL_at]) (by rw [upK_ne (by omega), upK_at]; rfl) (by simp) (by decide)
  refine ⟨F2, p2, fun q3 hq3 => ?_⟩
  have h6 := h5.new (c := zI 2 16) hq3 (nj_l _)
  obtain ⟨F3, p3, h7⟩ := hp_pf (i := n) (a := q) (ci := 0) (k := 2) (fs := [.ref q1, .ref q2, .null, .null]) (v := .ref q3) h6 (by omega) (by rw [upL_ne (by omega), upL_ne (by omega), upL_ne (by omega), upL_at]) (by rw [upK_ne (by omega), upK_at]; rfl) (by simp) (by decide)
  refine ⟨F3, p3, fun q4 hq4 => ?_⟩
  refine hp_X4 h7 hq4 (fun q5 F4 h8 => ?_)
  obtain ⟨F5, p5, h9⟩ := hp_pf (i := n) (a := q) (ci := 0) (k := 3) (fs := [.ref q1, .ref q2, .ref q3, .null]) (v := .ref q4) h8 (by omega) (by rw [upL_ne (by omega), upL_ne (by omega), upL_ne (by omega), upL_ne (by omega), upL_ne (by omega), upL_at]) (by rw [upK_ne (by omega), upK_ne (by omega), upK_at]; rfl) (by simp) (by decide)
  refine ⟨F5, p5, K q1 q2 q3 q4 q5 F5 (h9.cg (fun i hi => ?_))⟩
  rcases (show i < n ∨ i = n ∨ i = n + 1 ∨ i = n + 2 ∨ i = n + 3 ∨ i = n + 4 ∨ i = n + 5 by omega) with e | e | e | e | e | e | e
  all_goals simp (disch := omega) only [upK, if_pos, if_neg]
  all_goals rfl
theorem hp_X2 {Post : Mem → Prop} {q : Nat} (h : Hp n A C F) (hq : F q = jk) (K : ∀ q1 q2 q3 q4 q5 q6 F', Hp (n + 7) (upL (upL (upL (upL (upL (upL (upL A n q) (n + 1) q1) (n + 2) q2) (n + 3) q3) (n + 4) q4) (n + 5) q5) (n + 6) q6) (upK (upK (upK (upK (upK (upK (upK C n (.inr (2, [.ref q1, .ref q2, .ref q3, .ref q4, .ref q5, .int 0]))) (n + 1) (zI 0 24)) (n + 2) (zI 0 24)) (n + 3) (zI 0 24)) (n + 4) (zI 0 9)) (n + 5) (.inr (3, [.ref q6]))) (n + 6) (zI 0 8)) F' → Post F') : pX2_init Post (va_up F q (.inr (2, [.null, .null, .null, .null, .null, .int 0]))) q := by
  have h1 := h.new (c := .inr (2, [.null, .null, .null, .null, .null, .int 0])) hq (nj_r (by decide))
  intro q1 hq1
  have h2 := h1.new (c := zI 0 24) hq1 (nj_l _)
  obtain ⟨F1, p1, h3⟩ := hp_pf (i := n) (a := q) (ci := 2) (k := 0) (fs := [.null, .null, .null, .null, .null, .int 0]) (v := .ref q1) h2 (by omega) (by rw [upL_ne (by omega), upL_at]) (by rw [upK_ne (by omega), upK_at]) (by simp) (by decide)
  refine ⟨F1, p1, fun q2 hq2 => ?_⟩
  have h4 := h3.new (c := zI 0 24) hq2 (nj_l _)
  obtain ⟨F2, p2, h5⟩ := hp_pf (i := n) (a := q) (ci := 2) (k := 1) (fs := [.ref q1, .null, .null, .null, .null, .int 0]) (v := .ref q2) h4 (by omega) (by rw [upL_ne (by omega), upL_ne (by omega), upL_at]) (by rw [upK_ne (by omega), upK_at]; rfl) (by simp) (by decide)
  refine ⟨F2, p2, fun q3 hq3 => ?_⟩
  have h6 := h5.new (c := zI 0 24) hq3 (nj_l _)
  obtain ⟨F3, p3, h7⟩ := hp_pf (i := n) (a := q) (ci := 2) (k := 2) (fs := [.ref q1, .ref q2, .null, .null, .null, .int 0]) (v := .ref q3) h6 (by omega) (by rw [upL_ne (by omega), upL_ne (by omega), upL_ne (by omega), upL_at]) (by rw [upK_ne (by omega), upK_at]; rfl) (by simp) (by decide)
  refine ⟨F3, p3, fun q4 hq4 => ?_⟩
  have h8 := h7.new (c := zI 0 9) hq4 (nj_l _)
  obtain ⟨F4, p4, h9⟩ := hp_pf (i := n) (a := q) (ci := 2) (k := 3) (fs := [.ref q1, .ref q2, .ref q3, .null, .null, .int 0]) (v := .ref q4) h8 (by omega) (by rw [upL_ne (by omega), upL_ne (by omega), upL_ne (by omega), upL_ne (by omega), upL_at]) (by rw [upK_ne (by omega), upK_at]; rfl) (by simp) (by decide)
  refine ⟨F4, p4, fun q5 hq5 => ?_⟩
  refine hp_X4 h9 hq5 (fun q6 F5 h10 => ?_)
  obtain ⟨F6, p6, h11⟩ := hp_pf (i := n) (a := q) (ci := 2) (k := 4) (fs := [.ref q1, .ref q2, .ref q3, .ref q4, .null, .int 0]) (v := .ref q5) h10 (by omega) (by rw [upL_ne (by omega), upL_ne (by omega), upL_ne (by omega), upL_ne (by omega), upL_ne (by omega), upL_ne (by omega), upL_at]) (by rw [upK_ne (by omega), upK_ne (by omega), upK_at]; rfl) (by simp) (by decide)
  obtain ⟨F7, p7, h12⟩ := hp_pf (i := n) (a := q) (ci := 2) (k := 5) (fs := [.ref q1, .ref q2, .ref q3, .ref q4, .ref q5, .int 0]) (v := .int 0) h11 (by omega) (by rw [upL_ne (by omega), upL_ne (by omega), upL_ne (by omega), upL_ne (by omega), upL_ne (by omega), upL_ne (by omega), upL_at]) (by rw [upK_at]; rfl) (by simp) (by decide)
  refine ⟨F6, p6, F7, p7, K q1 q2 q3 q4 q5 q6 F7 (h12.cg (fun i hi => ?_))⟩
  rcases (show i < n ∨ i = n ∨ i = n + 1 ∨ i = n + 2 ∨ i = n + 3 ∨ i = n + 4 ∨ i = n + 5 ∨ i = n + 6 by omega) with e | e | e | e | e | e | e | e
  all_goals simp (disch := omega) only [upK, if_pos, if_neg]
  all_goals rfl
end HPS
