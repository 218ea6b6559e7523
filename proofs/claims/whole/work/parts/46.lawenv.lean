theorem kw24 : Cond.classLink "TableauBenchLaw" 8 "TableauBench" ∈ BIG := big_t 24 (by decide +kernel) (by decide +kernel)
theorem kw25 : Cond.instantiable "TableauBench" 13 ∈ BIG := big_t 25 (by decide +kernel) (by decide +kernel)
theorem kw26 : Cond.methodLink "TableauBenchLaw" 89 yX9_init ∈ BIG := big_t 26 (by decide +kernel) (by decide +kernel)
theorem kw27 : Cond.instanceMethod yX9_init ∈ BIG := big_t 27 (by decide +kernel) (by decide +kernel)
theorem kw28 : Cond.code yX9_init cX9_init 2 none ∈ BIG := big_t 28 (by decide +kernel) (by decide +kernel)
theorem kw806 : Cond.classLink "TableauBenchLaw" 90 "TableauBenchModel" ∈ BIG := big_t 806 (by decide +kernel) (by decide +kernel)
theorem kw807 : Cond.instantiable "TableauBenchModel" 20 ∈ BIG := big_t 807 (by decide +kernel) (by decide +kernel)
theorem kw808 : Cond.methodLink "TableauBenchLaw" 92 yX10_init ∈ BIG := big_t 808 (by decide +kernel) (by decide +kernel)
theorem kw809 : Cond.instanceMethod yX10_init ∈ BIG := big_t 809 (by decide +kernel) (by decide +kernel)
theorem kw810 : Cond.code yX10_init cX10_init 3 none ∈ BIG := big_t 810 (by decide +kernel) (by decide +kernel)
theorem big_in {w : Cond} (h : w ∈ BIG) : w ∈ lw_tbl := (List.mem_filter.mp h).1
theorem tbl_in {w : Cond} (i : Nat) (h : tables_1[i]? = some w) : w ∈ lw_tbl := List.mem_append_right _ (List.mem_of_getElem? h)
set_option maxRecDepth 100000 in
set_option maxHeartbeats 4000000 in
theorem env_TH {s : State} {b : Nat} (hts : ∀ w ∈ lw_tbl, w.before #[Value.ref b] s = true) (hgv : (Jvm.Cond.and given_1 narrow_1).before #[Value.ref b] s = true) : TH (fun q => s.heap.size ≤ q) s s.heap := by
  have hs := flat_of_before _ hgv
  have hA : ∀ a : Nat, a < s.heap.size → ¬ (fun q => s.heap.size ≤ q) a := fun a h => Nat.not_le.mpr h
  refine ⟨?_, ?_, ?_, ?_⟩
  · exact vx_Zqof (hts (.laysStatic "java/lang/Throwable" "UNASSIGNED_STACK" "[Ljava/lang/StackTraceElement;") (tbl_in 314 (by decide +kernel))) (hts (.initialized "java/lang/Throwable") (tbl_in 11 (by decide +kernel))) (hs (Cond.isRef (.static "java/lang/Throwable" "UNASSIGNED_STACK" "[Ljava/lang/StackTraceElement;")) (by decide +kernel)) hA
  · exact vx_Zqof (hts (.laysStatic "java/lang/Throwable" "SUPPRESSED_SENTINEL" "Ljava/util/List;") (tbl_in 316 (by decide +kernel))) (hts (.initialized "java/lang/Throwable") (tbl_in 11 (by decide +kernel))) (hs (Cond.isRef (.static "java/lang/Throwable" "SUPPRESSED_SENTINEL" "Ljava/util/List;")) (by decide +kernel)) hA
  · have one : ∀ (k : Nat) (tx : String), (Cond.stringRef RX9 k tx).before #[Value.ref b] s = true → (Cond.exactly (.string RX9 k) "java/lang/String").before #[Value.ref b] s = true → ∃ sa, vk_R RX9 k tx sa s := by
      intro k tx h1 h2
      obtain ⟨a, c, cA, kA, q1, -⟩ := Cond.exactly_spec (args := #[Value.ref b]) (first := s) (o := none) (s := s) (idx := []) (t := .string RX9 k) (cls := "java/lang/String") h2
      refine ⟨a, ?_, ?_⟩
      · exact (vk_R.of (a := a) h1 q1).1
      · exact (vk_R.of (a := a) h1 q1).2
    intro q hq
    simp only [stx, List.mem_cons, List.not_mem_nil, or_false] at hq
    rcases hq with rfl | rfl | rfl | rfl | rfl | rfl | rfl | rfl | rfl | rfl | rfl | rfl | rfl
    · exact one 289 "no such slot" (hts (.stringRef RX9 289 "no such slot") (tbl_in 330 (by decide +kernel))) (hs (Cond.exactly (.string RX9 289) "java/lang/String") (by decide +kernel))
    · exact one 115 "no shape here has so many boxes" (hts (.stringRef RX9 115 "no shape here has so many boxes") (tbl_in 433 (by decide +kernel))) (hs (Cond.exactly (.string RX9 115) "java/lang/String") (by decide +kernel))
    · exact one 126 "no shape has this rank" (hts (.stringRef RX9 126 "no shape has this rank") (tbl_in 450 (by decide +kernel))) (hs (Cond.exactly (.string RX9 126) "java/lang/String") (by decide +kernel))
    · exact one 135 "the shape has too many rows" (hts (.stringRef RX9 135 "the shape has too many rows") (tbl_in 473 (by decide +kernel))) (hs (Cond.exactly (.string RX9 135) "java/lang/String") (by decide +kernel))
    · exact one 292 "no such word" (hts (.stringRef RX9 292 "no such word") (tbl_in 491 (by decide +kernel))) (hs (Cond.exactly (.string RX9 292) "java/lang/String") (by decide +kernel))
    · exact one 174 "Q is away" (hts (.stringRef RX9 174 "Q is away") (tbl_in 557 (by decide +kernel))) (hs (Cond.exactly (.string RX9 174) "java/lang/String") (by decide +kernel))
    · exact one 200 "the reading of P is no word" (hts (.stringRef RX9 200 "the reading of P is no word") (tbl_in 600 (by decide +kernel))) (hs (Cond.exactly (.string RX9 200) "java/lang/String") (by decide +kernel))
    · exact one 215 "no such order, or no skew shape" (hts (.stringRef RX9 215 "no such order, or no skew shape") (tbl_in 612 (by decide +kernel))) (hs (Cond.exactly (.string RX9 215) "java/lang/String") (by decide +kernel))
    · exact one 218 "the word has not as many letters as the filling boxes" (hts (.stringRef RX9 218 "the word has not as many letters as the filling boxes") (tbl_in 614 (by decide +kernel))) (hs (Cond.exactly (.string RX9 218) "java/lang/String") (by decide +kernel))
    · exact one 227 "the filling is not column-strict" (hts (.stringRef RX9 227 "the filling is not column-strict") (tbl_in 627 (by decide +kernel))) (hs (Cond.exactly (.string RX9 227) "java/lang/String") (by decide +kernel))
    · exact one 235 "P is not standard" (hts (.stringRef RX9 235 "P is not standard") (tbl_in 661 (by decide +kernel))) (hs (Cond.exactly (.string RX9 235) "java/lang/String") (by decide +kernel))
    · exact one 277 "the shapes have not as many boxes" (hts (.stringRef RX9 277 "the shapes have not as many boxes") (tbl_in 788 (by decide +kernel))) (hs (Cond.exactly (.string RX9 277) "java/lang/String") (by decide +kernel))
    · exact one 279 "the shapes have too many boxes" (hts (.stringRef RX9 279 "the shapes have too many boxes") (tbl_in 789 (by decide +kernel))) (hs (Cond.exactly (.string RX9 279) "java/lang/String") (by decide +kernel))
  · intro w hw
    have hw2 : w ∈ lw_tbl := by
      simp only [ngw, List.mem_cons, List.not_mem_nil, or_false] at hw
      rcases hw with rfl | rfl | rfl | rfl | rfl | rfl | rfl | rfl
      · exact tbl_in 291 (by decide +kernel)
      · exact tbl_in 293 (by decide +kernel)
      · exact tbl_in 295 (by decide +kernel)
      · exact tbl_in 289 (by decide +kernel)
      · exact tbl_in 426 (by decide +kernel)
      · exact tbl_in 466 (by decide +kernel)
      · exact tbl_in 550 (by decide +kernel)
      · exact tbl_in 443 (by decide +kernel)
    exact va_any (ngw_f w hw).2 (hts w hw2)
set_option maxRecDepth 100000 in
set_option maxHeartbeats 4000000 in
theorem env_NC {s : State} {b : Nat} (hgv : (Jvm.Cond.and given_1 narrow_1).before #[Value.ref b] s = true) : NC s := by
  have hs := flat_of_before _ hgv
  intro q hq
  simp only [ncl, List.mem_cons, List.not_mem_nil, or_false] at hq
  rcases hq with rfl | rfl | rfl | rfl | rfl | rfl | rfl | rfl | rfl
  · exact va_Nc.of (hs (Cond.not (.castable "java/lang/IllegalArgumentException" "java/lang/IndexOutOfBoundsException")) (by decide +kernel))
  · exact va_Nc.of (hs (Cond.not (.castable "java/util/NoSuchElementException" "java/lang/IndexOutOfBoundsException")) (by decide +kernel))
  · exact va_Nc.of (hs (Cond.not (.castable "java/util/NoSuchElementException" "java/lang/IllegalArgumentException")) (by decide +kernel))
  · exact va_Nc.of (hs (Cond.not (.castable "java/lang/UnsupportedOperationException" "java/lang/IndexOutOfBoundsException")) (by decide +kernel))
  · exact va_Nc.of (hs (Cond.not (.castable "java/lang/UnsupportedOperationException" "java/lang/IllegalArgumentException")) (by decide +kernel))
  · exact va_Nc.of (hs (Cond.not (.castable "java/lang/UnsupportedOperationException" "java/util/NoSuchElementException")) (by decide +kernel))
  · exact va_Nc.of (hs (Cond.not (.castable "java/lang/IllegalStateException" "java/lang/IndexOutOfBoundsException")) (by decide +kernel))
  · exact va_Nc.of (hs (Cond.not (.castable "java/lang/IllegalStateException" "java/lang/IllegalArgumentException")) (by decide +kernel))
  · exact va_Nc.of (hs (Cond.not (.castable "java/lang/UnsupportedOperationException" "java/lang/IllegalStateException")) (by decide +kernel))
set_option maxRecDepth 100000 in
set_option maxHeartbeats 4000000 in
theorem env_NS {s : State} {b : Nat} (hts : ∀ w ∈ lw_tbl, w.before #[Value.ref b] s = true) : NS s := by
  refine ⟨va_AO.of (hts (.arrayOver (.object RX4)) (tbl_in 33 (by decide +kernel))), va_AO.of (hts (.arrayOver (.object RX8)) (tbl_in 35 (by decide +kernel))), ?_⟩
  intro q hq
  have one : ∀ w : Cond, w.onTables = true → w ∈ lw_tbl → va_Nw w s := fun w h1 h2 => va_Nw.of h1 (hts w h2)
  simp only [nst, List.mem_cons, List.not_mem_nil, or_false] at hq
  rcases hq with rfl | rfl | rfl | rfl | rfl | rfl | rfl | rfl | rfl | rfl
  · exact one _ rfl (tbl_in 38 (by decide +kernel))
  · exact one _ rfl (tbl_in 52 (by decide +kernel))
  · exact one _ rfl (tbl_in 70 (by decide +kernel))
  · exact one _ rfl (tbl_in 75 (by decide +kernel))
  · exact one _ rfl (tbl_in 104 (by decide +kernel))
  · exact one _ rfl (tbl_in 114 (by decide +kernel))
  · exact one _ rfl (tbl_in 119 (by decide +kernel))
  · exact one _ rfl (tbl_in 137 (by decide +kernel))
  · exact one _ rfl (tbl_in 142 (by decide +kernel))
  · exact one _ rfl (tbl_in 163 (by decide +kernel))
set_option maxRecDepth 100000 in
set_option maxHeartbeats 4000000 in
theorem env_K {s : State} {b : Nat} (hts : ∀ w ∈ lw_tbl, w.before #[Value.ref b] s = true) : ∃ (D : va_G) (cy : Nat → ClassId), va_K D vwCl (ty5 cy) s := by
  obtain ⟨c0, i0, k0⟩ := u_known (C := RX0) (T := TX0) (N := 4) hts (fun w h => big_in (inBX0 w h)) (hts (.instantiable RX0 4) (tbl_in 113 (by decide +kernel)))
  obtain ⟨c1, i1, k1⟩ := u_known (C := RX1) (T := TX1) (N := 4) hts (fun w h => big_in (inBX1 w h)) (hts (.instantiable RX1 4) (tbl_in 69 (by decide +kernel)))
  obtain ⟨c2, i2, k2⟩ := u_known (C := RX2) (T := TX2) (N := 6) hts (fun w h => big_in (inBX2 w h)) (hts (.instantiable RX2 6) (tbl_in 136 (by decide +kernel)))
  obtain ⟨c3, i3, k3⟩ := u_known (C := RX4) (T := TX4) (N := 1) hts (fun w h => big_in (inBX4 w h)) (hts (.instantiable RX4 1) (tbl_in 51 (by decide +kernel)))
  obtain ⟨c4, i4, k4⟩ := u_known (C := RX5) (T := TX5) (N := 1) hts (fun w h => big_in (inBX5 w h)) (hts (.instantiable RX5 1) (tbl_in 93 (by decide +kernel)))
  obtain ⟨c5, i5, k5⟩ := u_known (C := RX6) (T := TX6) (N := 1) hts (fun w h => big_in (inBX6 w h)) (hts (.instantiable RX6 1) (tbl_in 103 (by decide +kernel)))
  obtain ⟨c6, i6, k6⟩ := u_known (C := RX7) (T := TX7) (N := 2) hts (fun w h => big_in (inBX7 w h)) (hts (.instantiable RX7 2) (tbl_in 37 (by decide +kernel)))
  obtain ⟨c7, i7, k7⟩ := u_known (C := RX8) (T := TX8) (N := 2) hts (fun w h => big_in (inBX8 w h)) (hts (.instantiable RX8 2) (tbl_in 162 (by decide +kernel)))
  obtain ⟨c8, i8, k8⟩ := u_known (C := RX9) (T := TX9) (N := 13) hts (fun w h => big_in (inBX9 w h)) (hts (.instantiable RX9 13) (tbl_in 25 (by decide +kernel)))
  obtain ⟨c9, i9, k9⟩ := u_known (C := RX10) (T := TX10) (N := 20) hts (fun w h => big_in (inBX10 w h)) (hts (.instantiable RX10 20) (tbl_in 807 (by decide +kernel)))
  obtain ⟨a0, ka0, ca0, p0, q0, r0⟩ := Cond.arrayClass_spec (args := #[Value.ref b]) (first := s) (o := none) (s := s) (idx := []) (hts (.arrayClass .int) (tbl_in 50 (by decide +kernel)))
  obtain ⟨a1, ka1, ca1, p1, q1, r1⟩ := Cond.arrayClass_spec (args := #[Value.ref b]) (first := s) (o := none) (s := s) (idx := []) (hts (.arrayClass .long) (tbl_in 133 (by decide +kernel)))
  obtain ⟨a2, ka2, ca2, p2, q2, r2⟩ := Cond.arrayClass_spec (args := #[Value.ref b]) (first := s) (o := none) (s := s) (idx := []) (hts (.arrayClass .boolean) (tbl_in 134 (by decide +kernel)))
  obtain ⟨ca3, a3, ka3, t3, -, q3, r3, p3⟩ := Cond.arrayOver_spec (args := #[Value.ref b]) (first := s) (o := none) (s := s) (idx := []) (hts (.arrayOver (.object RX4)) (tbl_in 33 (by decide +kernel)))
  obtain ⟨ca4, a4, ka4, t4, -, q4, r4, p4⟩ := Cond.arrayOver_spec (args := #[Value.ref b]) (first := s) (o := none) (s := s) (idx := []) (hts (.arrayOver (.object RX8)) (tbl_in 35 (by decide +kernel)))
  refine ⟨(fun k => match k with | 0 => c0 | 1 => c1 | 2 => c2 | 3 => c3 | 4 => c4 | 5 => c5 | 6 => c6 | 7 => c7 | 8 => c8 | _ => c9, fun k => match k with | 0 => i0 | 1 => i1 | 2 => i2 | 3 => i3 | 4 => i4 | 5 => i5 | 6 => i6 | 7 => i7 | 8 => i8 | _ => i9), fun k => match k with | 0 => a0 | 1 => a1 | 2 => a2 | 3 => a3 | _ => a4, fun c q hq => ?_, fun k q hq => ?_⟩
  · match c, hq with
    | 0, hq => cases hq; exact k0
    | 1, hq => cases hq; exact k1
    | 2, hq => cases hq; exact k2
    | 3, hq => cases hq; exact k3
    | 4, hq => cases hq; exact k4
    | 5, hq => cases hq; exact k5
    | 6, hq => cases hq; exact k6
    | 7, hq => cases hq; exact k7
    | 8, hq => cases hq; exact k8
    | 9, hq => cases hq; exact k9
    | c + 10, hq => simp [vwCl] at hq
  · match k, hq with
    | 0, hq => cases hq; exact ⟨fun N z => ⟨(fun k h => by cases h), ka0, q0, ca0, r0⟩, p0⟩
    | 1, hq => cases hq; exact ⟨fun N z => ⟨(fun k h => by cases h), ka1, q1, ca1, r1⟩, p1⟩
    | 2, hq => cases hq; exact ⟨fun N z => ⟨(fun k h => by cases h), ka2, q2, ca2, r2⟩, p2⟩
    | 3, hq => cases hq; exact ⟨fun N z => ⟨(fun k h => by cases h), ka3, q3, ca3, r3⟩, ka3, ca3, q3, r3, t3, p3⟩
    | 4, hq => cases hq; exact ⟨fun N z => ⟨(fun k h => by cases h), ka4, q4, ca4, r4⟩, ka4, ca4, q4, r4, t4, p4⟩
    | k + 5, hq => simp [ty5] at hq
theorem dfX9 : ∀ j, j < 13 → defaultValue (tyX9 j) = vp_V [.null, .null, .null, .null, .int 0, .null, .null, .null, .null, .null, .null, .null, .null] j := by decide +kernel
theorem dfX10 : ∀ j, j < 20 → defaultValue (tyX10 j) = vp_V [.int 0, .null, .null, .null, .null, .null, .int 0, .null, .null, .null, .null, .null, .null, .int 0, .null, .null, .int 0, .null, .null, .null] j := by decide +kernel
/-- THE LAW, over the memory alone: the two objects are made, and no answer differs -/
def pL_law (xs : Nat → Int32) (Ls : Nat) : Prop := ∀ q0 : Nat, jk = jk → pX9_init (fun F1 => ∀ q1 : Nat, F1 q1 = jk → pX10_init (fun F2 => ∀ q2 : Nat, F2 q2 = jk → ∃ res, fL_law_23 xs Ls 66 q0 q1 q2 0 (va_up F2 q2 (.inl (1, (1, .inr (.inl (fun _ => 0)))))) = some res ∧ res.1 = 1) (va_up F1 q1 (.inr (9, [.int 0, .null, .null, .null, .null, .null, .int 0, .null, .null, .null, .null, .null, .null, .int 0, .null, .null, .int 0, .null, .null, .null]))) q1) (va_up (fun _ => jk) q0 (.inr (8, [.null, .null, .null, .null, .int 0, .null, .null, .null, .null, .null, .null, .null, .null]))) q0
set_option maxRecDepth 100000 in
set_option maxHeartbeats 4000000 in
theorem law_start {p : Program} {e : Env} {s : State} {m : MethodId} {below : List Frame} {meth : Method} {c : Code} (l : Launch) (hst0 : l.stackTraces = false) {b L : Nat} {xs : Nat → Int32} (hpure : pL_law xs L) (C0 : lw_At p s m meth c b L xs) : W p l e room_1 s m #[Value.ref b] below meth c s.heap [] 0 0 (lw_Z below #[Value.ref b] s) (entryFrame m ([Value.ref b] : List Value).toArray 8) := by
  obtain ⟨hx, hb, hr, hml, hown, hts, hX, hbl, hlocks, hgv⟩ := id C0
  obtain ⟨D, cy, hK⟩ := env_K hts
  have hTH := env_TH hts hgv
  have hNC := env_NC hgv
  have hNS := env_NS hts
  have hl := lv_entry ([.ref b]) (n := 8) (Nat.le_of_ble_eq_true rfl)
  rw [lg_entry_eq]
  have main : Wp (p, l, e, room_1, s, m, #[Value.ref b], below, meth, c, lw_Z below #[Value.ref b] s, D, cy, (fun q => s.heap.size ≤ q), 8) 0 0 0 [(0, .ref b)] [] (fun _ => jk) := by
    have X : Fx (p, l, e, room_1, s, m, #[Value.ref b], below, meth, c, lw_Z below #[Value.ref b] s, D, cy, (fun q => s.heap.size ≤ q), 8) cL_law RL (some .boolean) room_1 8 := ⟨hx, hb, hml, hown, fun w h => hts w (big_in h), hK, fun q h => h, hr, hlocks, rfl, rfl⟩
    have hcd : CD (p, l, e, room_1, s, m, #[Value.ref b], below, meth, c, lw_Z below #[Value.ref b] s, D, cy, (fun q => s.heap.size ≤ q), 8) l D cy := ⟨rfl, rfl, rfl⟩
    have Tl : LT (p, l, e, room_1, s, m, #[Value.ref b], below, meth, c, lw_Z below #[Value.ref b] s, D, cy, (fun q => s.heap.size ≤ q), 8) := ⟨hst0, hTH, hNC⟩
    have Lq : LQ (p, l, e, room_1, s, m, #[Value.ref b], below, meth, c, lw_Z below #[Value.ref b] s, D, cy, (fun q => s.heap.size ≤ q), 8) b L xs := ⟨rfl, rfl, rfl, rfl, hX, hbl, hr, hb⟩
    have Ns : NSL (p, l, e, room_1, s, m, #[Value.ref b], below, meth, c, lw_Z below #[Value.ref b] s, D, cy, (fun q => s.heap.size ≤ q), 8) := hNS
    have h := hpure
    unfold pL_law at h
    generalize (p, l, e, room_1, s, m, #[Value.ref b], below, meth, c, lw_Z below #[Value.ref b] s, D, cy, (fun q => s.heap.size ≤ q), 8) = C at X hcd Tl Lq Ns ⊢
    refine wq_new X (T := TX9) (N := 13) (ci := 8) (fs := [.null, .null, .null, .null, .int 0, .null, .null, .null, .null, .null, .null, .null, .null]) tyX9 rfl inBX9 tyX9_ok kw24 kw25 kw1 dfX9 (by decide) (by decide) (cs2 := 1) (sl2 := 13) rfl rfl dL_law_0 h (fun q0 hq0 h => ?_)
    refine wp_dup X dL_law_3 rfl ?_
    refine wq_init X Ns (rm := rmX9_init) (n := 0) [] hcd (cX9_init_ok h) kw26 kw27 kw1 kw28 rfl (by decide +kernel) (by decide) (by decide) (cs2 := 49) (sl2 := 4099) rfl rfl rfl rfl (Nat.le_of_ble_eq_true rfl) dL_law_4 (fun F1 h => ?_)
    refine wp_astore_n X (lv' := [(0, .ref b), (1, .ref q0)]) dL_law_7 (by decide) [1, 0] rfl ?_
    refine wq_new X (T := TX10) (N := 20) (ci := 9) (fs := [.int 0, .null, .null, .null, .null, .null, .int 0, .null, .null, .null, .null, .null, .null, .int 0, .null, .null, .int 0, .null, .null, .null]) tyX10 rfl inBX10 tyX10_ok kw806 kw807 kw10 dfX10 (by decide) (by decide) (cs2 := 50) (sl2 := 4119) rfl rfl dL_law_8 h (fun q1 hq1 h => ?_)
    refine wp_dup X dL_law_11 rfl ?_
    refine wq_init X Ns (rm := rmX10_init) (n := 0) [] hcd (cX10_init_ok h) kw808 kw809 kw10 kw810 rfl (by decide +kernel) (by decide) (by decide) (cs2 := 66) (sl2 := 14718) rfl rfl rfl rfl (Nat.le_of_ble_eq_true rfl) dL_law_12 (fun F2 h => ?_)
    refine wp_astore_n X (lv' := [(0, .ref b), (1, .ref q0), (2, .ref q1)]) dL_law_15 (by decide) [1, 2, 0] rfl ?_
    refine wp_iconst X (v := 1) dL_law_16 (by decide) ?_
    refine wq_newarr X (atype := .long) 1 (ty := .long) (n := 1) (N := 1) (1, .inr (.inl (fun _ => 0))) rfl (fun _ => rfl) (fun _ _ h9 => h9) (fun _ => rfl) kwA1 (by decide) (by decide) (by decide) (by decide) (by decide) (cs2 := 67) (sl2 := 14719) rfl rfl dL_law_17 h (fun q2 hq2 h => ?_)
    refine wp_astore_n X (lv' := [(0, .ref b), (1, .ref q0), (2, .ref q1), (3, .ref q2)]) dL_law_19 (by decide) [1, 2, 3, 0] rfl ?_
    refine wp_iconst X (v := 0) dL_law_20 (by decide) ?_
    refine wp_istore X (lv' := [(0, .ref b), (1, .ref q0), (2, .ref q1), (3, .ref q2), (4, .int 0)]) dL_law_21 (by decide) [1, 2, 3, 4, 0] rfl ?_
    obtain ⟨res, h, hres⟩ := h
    exact tL_law_23 hst0 X hcd Tl Lq hres 66 67 14719 (by decide) (by decide) _ _ _ _ _ h
  refine main [] s.heap [] _ ⟨fun a _ => rfl, ?_, ?_, va_S.rf⟩ hl
  · intro k q hk
    simp [va_pl] at hk
  · exact ⟨fun i j p q h => by simp [va_pl] at h, fun k q h => by simp [va_pl] at h⟩
