section HLS
/-- cells at different addresses -/
def HpL (L : List (Nat × Cl)) (F : Mem) : Prop := (L.map Prod.fst).Nodup ∧ ∀ x, x ∈ L → F x.1 = x.2 ∧ x.2 ≠ jk
variable {L L1 L2 : List (Nat × Cl)} {F : Mem} {Post : Mem → Prop}
theorem nj_l (x : Nat × vp_A) : (.inl x : Cl) ≠ jk := fun h => by
  unfold jk at h
  cases h
theorem nj_r {ci : Nat} {fs : List Value} (h : ci ≠ 99) : (.inr (ci, fs) : Cl) ≠ jk := fun e => by
  unfold jk at e
  injection e with e
  injection e with e1 _
  exact h e1
theorem HpL.nil : HpL [] F := ⟨List.nodup_nil, fun x hx => by cases hx⟩
theorem HpL.new {q : Nat} {c : Cl} (h : HpL L F) (hq : F q = jk) (hc : c ≠ jk) : HpL (L ++ [(q, c)]) (va_up F q c) := by
  have hn : ∀ x, x ∈ L → x.1 ≠ q := fun x hx e => (h.2 x hx).2 (by rw [← (h.2 x hx).1, e]; exact hq)
  refine ⟨?_, fun x hx => ?_⟩
  · rw [List.map_append, List.nodup_append]
    refine ⟨h.1, by simp, fun a ha b hb => ?_⟩
    obtain ⟨x, hx, rfl⟩ := List.mem_map.mp ha
    have e : b = q := by simpa using hb
    rw [e]
    exact hn x hx
  · rcases List.mem_append.mp hx with m | m
    · rw [up_ne (hn x m)]
      exact h.2 x m
    · rw [List.mem_singleton.mp m]
      exact ⟨up_eq _ _ _, hc⟩
theorem HpL.put {a : Nat} {c0 c : Cl} (h : HpL (L1 ++ (a, c0) :: L2) F) (hc : c ≠ jk) : HpL (L1 ++ (a, c) :: L2) (va_up F a c) := by
  obtain ⟨h1, h2⟩ := h
  have e : (L1 ++ (a, c) :: L2).map Prod.fst = (L1 ++ (a, c0) :: L2).map Prod.fst := by simp
  refine ⟨by rw [e]; exact h1, fun x hx => ?_⟩
  rw [List.map_append, List.map_cons, List.nodup_append, List.nodup_cons] at h1
  obtain ⟨_, ⟨n2, _⟩, n1⟩ := h1
  rcases List.mem_append.mp hx with m | m
  · rw [up_ne (n1 _ (List.mem_map_of_mem m) a List.mem_cons_self)]
    exact h2 x (List.mem_append_left _ m)
  · rcases List.mem_cons.mp m with rfl | m
    · exact ⟨up_eq _ _ _, hc⟩
    · have ne : x.1 ≠ a := fun e => n2 (by
        have w := List.mem_map_of_mem (f := Prod.fst) m
        rw [e] at w
        exact w)
      rw [up_ne ne]
      exact h2 x (List.mem_append_right _ (List.mem_cons_of_mem _ m))
theorem HpL.at {a : Nat} {c : Cl} (h : HpL (L1 ++ (a, c) :: L2) F) : F a = c := (h.2 (a, c) (by simp)).1
theorem HpL.get {i a : Nat} {c : Cl} (h : HpL L F) (e : L[i]? = some (a, c)) : F a = c := (h.2 (a, c) (List.mem_of_getElem? e)).1
theorem HpL.fld {a ci k : Nat} {fs : List Value} {v : Value} (h : HpL (L1 ++ (a, .inr (ci, fs)) :: L2) F) (hk : k < fs.length) (hci : ci ≠ 99) (K : ∀ F', HpL (L1 ++ (a, .inr (ci, fs.set k v)) :: L2) F' → Post F') : ∃ F', pf F a ci k v = some F' ∧ Post F' := ⟨_, pf_at h.at hk, K _ (h.put (nj_r hci))⟩
theorem HpL.fld0 {a ci k : Nat} {fs : List Value} {v : Value} (h : HpL ((a, .inr (ci, fs)) :: L2) F) (hk : k < fs.length) (hci : ci ≠ 99) (K : ∀ F', HpL ((a, .inr (ci, fs.set k v)) :: L2) F' → Post F') : ∃ F', pf F a ci k v = some F' ∧ Post F' := HpL.fld (L1 := []) h hk hci K
theorem HpL.new2 {q : Nat} {c : Cl} (h : HpL (L1 ++ L2) F) (hq : F q = jk) (hc : c ≠ jk) : HpL (L1 ++ (L2 ++ [(q, c)])) (va_up F q c) := by
  have := h.new hq hc
  rwa [List.append_assoc] at this
abbrev zI (t m : Nat) : Cl := .inl (t, m, .inl (fun _ => 0))
abbrev zJ (m : Nat) : Cl := .inl (1, m, .inr (.inl (fun _ => 0)))
theorem hl_X4 {q : Nat} (h : HpL L F) (hq : F q = jk) (K : ∀ q1 F', HpL (L ++ [(q, .inr (3, [.ref q1])), (q1, zI 0 8)]) F' → Post F') : pX4_init Post (va_up F q (.inr (3, [.null]))) q := by
  intro q1 hq1
  have h1 : HpL (L ++ [(q, .inr (3, [.null]))]) (va_up F q (.inr (3, [.null]))) := h.new hq (nj_r (by decide))
  have h2 : HpL (L ++ [(q, .inr (3, [.null])), (q1, zI 0 8)]) _ := h1.new2 hq1 (nj_l _)
  exact h2.fld (by simp) (by decide) (fun F' h => K q1 F' h)
theorem hl_X6 {q : Nat} (h : HpL L F) (hq : F q = jk) (K : ∀ q1 F', HpL (L ++ [(q, .inr (5, [.ref q1])), (q1, zI 0 25)]) F' → Post F') : pX6_init Post (va_up F q (.inr (5, [.null]))) q := by
  intro q1 hq1
  have h1 : HpL (L ++ [(q, .inr (5, [.null]))]) (va_up F q (.inr (5, [.null]))) := h.new hq (nj_r (by decide))
  have h2 : HpL (L ++ [(q, .inr (5, [.null])), (q1, zI 0 25)]) _ := h1.new2 hq1 (nj_l _)
  exact h2.fld (by simp) (by decide) (fun F' h => K q1 F' h)
theorem hl_X8 {q : Nat} (h : HpL L F) (hq : F q = jk) (K : ∀ q1 F', HpL (L ++ [(q, .inr (7, [.ref q1, .int 0])), (q1, zI 0 16)]) F' → Post F') : pX8_init Post (va_up F q (.inr (7, [.null, .int 0]))) q := by
  intro q1 hq1
  have h1 : HpL (L ++ [(q, .inr (7, [.null, .int 0]))]) (va_up F q (.inr (7, [.null, .int 0]))) := h.new hq (nj_r (by decide))
  have h2 : HpL (L ++ [(q, .inr (7, [.null, .int 0])), (q1, zI 0 16)]) _ := h1.new2 hq1 (nj_l _)
  exact h2.fld (by simp) (by decide) (fun F' h => h.fld (by simp) (by decide) (fun F' h => K q1 F' h))
theorem hl_X7 {q : Nat} (h : HpL L F) (hq : F q = jk) (K : ∀ q1 q2 F', HpL (L ++ [(q, .inr (6, [.ref q1, .ref q2])), (q1, zI 0 16), (q2, zI 0 384)]) F' → Post F') : pX7_init Post (va_up F q (.inr (6, [.null, .null]))) q := by
  intro q1 hq1
  have h1 : HpL (L ++ [(q, .inr (6, [.null, .null]))]) (va_up F q (.inr (6, [.null, .null]))) := h.new hq (nj_r (by decide))
  have h2 : HpL (L ++ [(q, .inr (6, [.null, .null])), (q1, zI 0 16)]) _ := h1.new2 hq1 (nj_l _)
  refine h2.fld (by simp) (by decide) (fun F1 h => fun q2 hq2 => ?_)
  have h3 : HpL (L ++ [(q, .inr (6, [.ref q1, .null])), (q1, zI 0 16), (q2, zI 0 384)]) _ := HpL.new2 (L2 := [(q, .inr (6, [.ref q1, .null])), (q1, zI 0 16)]) h hq2 (nj_l _)
  exact h3.fld (by simp) (by decide) (fun F' h => K q1 q2 F' h)
theorem hl_X1 {q : Nat} (h : HpL L F) (hq : F q = jk) (K : ∀ q1 q2 F', HpL (L ++ [(q, .inr (1, [.ref q1, .long 0, .int 0, .int 0])), (q1, .inr (3, [.ref q2])), (q2, zI 0 8)]) F' → Post F') : pX1_init Post (va_up F q (.inr (1, [.null, .long 0, .int 0, .int 0]))) q := by
  intro q1 hq1
  have h1 : HpL (L ++ [(q, .inr (1, [.null, .long 0, .int 0, .int 0]))]) (va_up F q (.inr (1, [.null, .long 0, .int 0, .int 0]))) := h.new hq (nj_r (by decide))
  refine hl_X4 h1 hq1 (fun q2 F1 h => ?_)
  rw [List.append_assoc] at h
  exact HpL.fld (L1 := L) h (by simp) (by decide) (fun F' h => h.fld (by simp) (by decide) (fun F' h => h.fld (by simp) (by decide) (fun F' h => h.fld (by simp) (by decide) (fun F' h => K q1 q2 F' h))))
theorem hl_X0 {q : Nat} (h : HpL L F) (hq : F q = jk) (K : ∀ q1 q2 q3 q4 q5 F', HpL (L ++ [(q, .inr (0, [.ref q1, .ref q2, .ref q3, .ref q4])), (q1, zJ 1448), (q2, zI 0 153), (q3, zI 2 16), (q4, .inr (3, [.ref q5])), (q5, zI 0 8)]) F' → Post F') : pX0_init Post (va_up F q (.inr (0, [.null, .null, .null, .null]))) q := by
  intro q1 hq1
  have h1 : HpL (L ++ [(q, .inr (0, [.null, .null, .null, .null]))]) (va_up F q (.inr (0, [.null, .null, .null, .null]))) := h.new hq (nj_r (by decide))
  have h2 : HpL (L ++ [(q, .inr (0, [.null, .null, .null, .null])), (q1, zJ 1448)]) _ := h1.new2 hq1 (nj_l _)
  refine h2.fld (by simp) (by decide) (fun F1 h => fun q2 hq2 => ?_)
  have h3 : HpL (L ++ [(q, .inr (0, [.ref q1, .null, .null, .null])), (q1, zJ 1448), (q2, zI 0 153)]) _ := HpL.new2 (L2 := [(q, .inr (0, [.ref q1, .null, .null, .null])), (q1, zJ 1448)]) h hq2 (nj_l _)
  refine h3.fld (by simp) (by decide) (fun F1 h => fun q3 hq3 => ?_)
  have h4 : HpL (L ++ [(q, .inr (0, [.ref q1, .ref q2, .null, .null])), (q1, zJ 1448), (q2, zI 0 153), (q3, zI 2 16)]) _ := HpL.new2 (L2 := [(q, .inr (0, [.ref q1, .ref q2, .null, .null])), (q1, zJ 1448), (q2, zI 0 153)]) h hq3 (nj_l _)
  refine h4.fld (by simp) (by decide) (fun F1 h => fun q4 hq4 => ?_)
  refine hl_X4 h hq4 (fun q5 F1 h => ?_)
  rw [List.append_assoc] at h
  exact HpL.fld (L1 := L) h (by simp) (by decide) (fun F' h => K q1 q2 q3 q4 q5 F' h)
theorem hl_X2 {q : Nat} (h : HpL L F) (hq : F q = jk) (K : ∀ q1 q2 q3 q4 q5 q6 F', HpL (L ++ [(q, .inr (2, [.ref q1, .ref q2, .ref q3, .ref q4, .ref q5, .int 0])), (q1, zI 0 24), (q2, zI 0 24), (q3, zI 0 24), (q4, zI 0 9), (q5, .inr (3, [.ref q6])), (q6, zI 0 8)]) F' → Post F') : pX2_init Post (va_up F q (.inr (2, [.null, .null, .null, .null, .null, .int 0]))) q := by
  intro q1 hq1
  have h1 : HpL (L ++ [(q, .inr (2, [.null, .null, .null, .null, .null, .int 0]))]) (va_up F q (.inr (2, [.null, .null, .null, .null, .null, .int 0]))) := h.new hq (nj_r (by decide))
  have h2 : HpL (L ++ [(q, .inr (2, [.null, .null, .null, .null, .null, .int 0])), (q1, zI 0 24)]) _ := h1.new2 hq1 (nj_l _)
  refine h2.fld (by simp) (by decide) (fun F1 h => fun q2 hq2 => ?_)
  have h3 : HpL (L ++ [(q, .inr (2, [.ref q1, .null, .null, .null, .null, .int 0])), (q1, zI 0 24), (q2, zI 0 24)]) _ := HpL.new2 (L2 := [(q, .inr (2, [.ref q1, .null, .null, .null, .null, .int 0])), (q1, zI 0 24)]) h hq2 (nj_l _)
  refine h3.fld (by simp) (by decide) (fun F1 h => fun q3 hq3 => ?_)
  have h4 : HpL (L ++ [(q, .inr (2, [.ref q1, .ref q2, .null, .null, .null, .int 0])), (q1, zI 0 24), (q2, zI 0 24), (q3, zI 0 24)]) _ := HpL.new2 (L2 := [(q, .inr (2, [.ref q1, .ref q2, .null, .null, .null, .int 0])), (q1, zI 0 24), (q2, zI 0 24)]) h hq3 (nj_l _)
  refine h4.fld (by simp) (by decide) (fun F1 h => fun q4 hq4 => ?_)
  have h5 : HpL (L ++ [(q, .inr (2, [.ref q1, .ref q2, .ref q3, .null, .null, .int 0])), (q1, zI 0 24), (q2, zI 0 24), (q3, zI 0 24), (q4, zI 0 9)]) _ := HpL.new2 (L2 := [(q, .inr (2, [.ref q1, .ref q2, .ref q3, .null, .null, .int 0])), (q1, zI 0 24), (q2, zI 0 24), (q3, zI 0 24)]) h hq4 (nj_l _)
  refine h5.fld (by simp) (by decide) (fun F1 h => fun q5 hq5 => ?_)
  refine hl_X4 h hq5 (fun q6 F1 h => ?_)
  rw [List.append_assoc] at h
  exact HpL.fld (L1 := L) h (by simp) (by decide) (fun F' h => h.fld (by simp) (by decide) (fun F' h => K q1 q2 q3 q4 q5 q6 F' h))
end HLS
