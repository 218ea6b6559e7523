section GO
variable {A : Nat → Nat} {F : Mem}
/-- the memory when both objects are made -/
abbrev LL (A : Nat → Nat) : List (Nat × Cl) := ([((A 0), .inr (8, [.ref (A 1), .ref (A 2), .ref (A 3), .ref (A 6), .int 1, .ref (A 9), .ref (A 12), .ref (A 15), .ref (A 17), .ref (A 20), .ref (A 22), .ref (A 24), .ref (A 30)])), ((A 1), .inl (3, 4, .inr (.inr (.inr (.inr (va_up (va_up (va_up (va_up (fun _ => none) 0 (some (A 37))) 1 (some (A 39))) 2 (some (A 41))) 3 (some (A 43)))))))), ((A 2), .inl (4, 2, .inr (.inr (.inr (.inr (va_up (va_up (fun _ => none) 0 (some (A 45))) 1 (some (A 47)))))))), ((A 3), .inr (6, [.ref (A 4), .ref (A 5)])), ((A 4), zI 0 16), ((A 5), zI 0 384), ((A 6), .inr (6, [.ref (A 7), .ref (A 8)])), ((A 7), zI 0 16), ((A 8), zI 0 384), ((A 9), .inr (6, [.ref (A 10), .ref (A 11)])), ((A 10), zI 0 16), ((A 11), zI 0 384), ((A 12), .inr (6, [.ref (A 13), .ref (A 14)])), ((A 13), zI 0 16), ((A 14), zI 0 384), ((A 15), .inr (3, [.ref (A 16)])), ((A 16), zI 0 8), ((A 17), .inr (1, [.ref (A 18), .long 0, .int 0, .int 0])), ((A 18), .inr (3, [.ref (A 19)])), ((A 19), zI 0 8), ((A 20), .inr (4, [.ref (A 21)])), ((A 21), cPn), ((A 22), .inr (5, [.ref (A 23)])), ((A 23), zI 0 25), ((A 24), .inr (0, [.ref (A 25), .ref (A 26), .ref (A 27), .ref (A 28)])), ((A 25), zJ 1448), ((A 26), zI 0 153), ((A 27), zI 2 16), ((A 28), .inr (3, [.ref (A 29)])), ((A 29), zI 0 8), ((A 30), .inr (2, [.ref (A 31), .ref (A 32), .ref (A 33), .ref (A 34), .ref (A 35), .int 0])), ((A 31), zI 0 24), ((A 32), zI 0 24), ((A 33), zI 0 24), ((A 34), zI 0 9), ((A 35), .inr (3, [.ref (A 36)])), ((A 36), zI 0 8), ((A 37), .inr (3, [.ref (A 38)])), ((A 38), zI 0 8), ((A 39), .inr (3, [.ref (A 40)])), ((A 40), zI 0 8), ((A 41), .inr (3, [.ref (A 42)])), ((A 42), zI 0 8), ((A 43), .inr (3, [.ref (A 44)])), ((A 44), zI 0 8), ((A 45), .inr (7, [.ref (A 46), .int 0])), ((A 46), zI 0 16), ((A 47), .inr (7, [.ref (A 48), .int 0])), ((A 48), zI 0 16)] ++ [((A 49), .inr (9, [.int 0, .ref (A 50), .ref (A 51), .ref (A 52), .ref (A 53), .ref (A 54), .int 1, .ref (A 55), .ref (A 56), .ref (A 57), .ref (A 58), .ref (A 59), .ref (A 60), .int 0, .ref (A 61), .ref (A 62), .int 0, .ref (A 63), .ref (A 64), .ref (A 65)])), ((A 50), zI 0 32), ((A 51), zI 0 32), ((A 52), zI 0 2), ((A 53), zI 0 1728), ((A 54), zI 0 72), ((A 55), zI 0 24), ((A 56), cPn), ((A 57), zI 0 9), ((A 58), zI 0 9), ((A 59), zI 0 9), ((A 60), zI 0 17), ((A 61), zJ 2000), ((A 62), zJ 2000), ((A 63), zJ 2000), ((A 64), zJ 2000), ((A 65), zI 0 40)]) ++ [(A 66, zJ 1)]
set_option maxRecDepth 100000 in
theorem LL_fst (A : Nat → Nat) : (LL A).map Prod.fst = (List.range 67).map A := rfl
theorem LL_inj (h : HpL (LL A) F) : Inj A := by
  have n := h.1
  rw [LL_fst] at n
  have p := List.pairwise_map.mp n
  rw [List.pairwise_iff_getElem] at p
  have lt : ∀ i j, i < j → j < 67 → A i ≠ A j := fun i j hij hj => by
    have := p i j (by rw [List.length_range]; omega) (by rw [List.length_range]; omega) hij
    rwa [List.getElem_range, List.getElem_range] at this
  intro i j hi hj e
  rcases Nat.lt_trichotomy i j with q | q | q
  · exact absurd e (lt i j q hj)
  · exact q
  · exact absurd e.symm (lt j i q hi)

theorem ar4 (A : Nat → Nat) : va_up (va_up (va_up (va_up (fun _ => none) 0 (some (A 37))) 1 (some (A 39))) 2 (some (A 41))) 3 (some (A 43)) = fun i => if i < 4 then some (A (37 + 2 * i)) else none := by
  funext i
  match i with
  | 0 => rfl
  | 1 => rfl
  | 2 => rfl
  | 3 => rfl
  | n + 4 => simp [va_up]
theorem ar2 (A : Nat → Nat) : va_up (va_up (fun _ => none) 0 (some (A 45))) 1 (some (A 47)) = fun i => if i < 2 then some (A (45 + 2 * i)) else none := by
  funext i
  match i with
  | 0 => rfl
  | 1 => rfl
  | n + 2 => simp [va_up]
abbrev z1 : Nat → Nat := fun _ => 0
abbrev z2 : Nat → Nat → Nat := fun _ _ => 0
set_option maxHeartbeats 4000000 in
set_option maxRecDepth 100000 in
theorem cc_mk (h : HpL (LL A) F) : CC A F z2 z2 z1 z2 z1 z2 z1 true := by
  refine ⟨⟨h.get (i := 0) rfl, ?_, ?_⟩, ⟨h.get (i := 3) rfl, h.get (i := 4) rfl, h.get (i := 5) rfl⟩, ⟨h.get (i := 6) rfl, h.get (i := 7) rfl, h.get (i := 8) rfl⟩, fun i hi => ?_, fun i hi => ?_, ⟨z2, z1, ⟨h.get (i := 9) rfl, h.get (i := 10) rfl, h.get (i := 11) rfl⟩, fun _ _ => rfl⟩, ⟨z2, z1, ⟨h.get (i := 12) rfl, h.get (i := 13) rfl, h.get (i := 14) rfl⟩, fun _ _ => rfl⟩, ⟨z1, ⟨h.get (i := 15) rfl, h.get (i := 16) rfl⟩, fun _ _ => rfl⟩, ⟨⟨0, 0, 0, h.get (i := 17) rfl⟩, ⟨z1, ⟨h.get (i := 18) rfl, h.get (i := 19) rfl⟩, fun _ _ => rfl⟩⟩, ⟨h.get (i := 20) rfl, h.get (i := 21) rfl⟩, ⟨h.get (i := 22) rfl, ⟨_, h.get (i := 23) rfl⟩⟩, ⟨h.get (i := 24) rfl, ⟨_, h.get (i := 25) rfl⟩, ⟨_, h.get (i := 26) rfl⟩, ⟨_, h.get (i := 27) rfl⟩, ⟨z1, ⟨h.get (i := 28) rfl, h.get (i := 29) rfl⟩, fun _ _ => rfl⟩⟩, ⟨⟨0, h.get (i := 30) rfl⟩, ⟨_, h.get (i := 31) rfl⟩, ⟨_, h.get (i := 32) rfl⟩, ⟨_, h.get (i := 33) rfl⟩, ⟨_, h.get (i := 34) rfl⟩, ⟨z1, ⟨h.get (i := 35) rfl, h.get (i := 36) rfl⟩, fun _ _ => rfl⟩⟩⟩
  · rw [← ar4 A]
    exact h.get (i := 1) rfl
  · rw [← ar2 A]
    exact h.get (i := 2) rfl
  · match i, hi with
    | 0, _ => exact ⟨h.get (i := 37) rfl, h.get (i := 38) rfl⟩
    | 1, _ => exact ⟨h.get (i := 39) rfl, h.get (i := 40) rfl⟩
    | 2, _ => exact ⟨h.get (i := 41) rfl, h.get (i := 42) rfl⟩
    | 3, _ => exact ⟨h.get (i := 43) rfl, h.get (i := 44) rfl⟩
    | n + 4, hi => omega
  · match i, hi with
    | 0, _ => exact ⟨h.get (i := 45) rfl, h.get (i := 46) rfl⟩
    | 1, _ => exact ⟨h.get (i := 47) rfl, h.get (i := 48) rfl⟩
    | n + 2, hi => omega
set_option maxHeartbeats 4000000 in
set_option maxRecDepth 100000 in
theorem rr_mk (h : HpL (LL A) F) : RR A F z2 z2 z1 z2 z1 z2 z1 true 0 := ⟨⟨0, 0, h.get (i := 49) rfl⟩, ⟨fun _ => 0, h.get (i := 50) rfl, fun _ _ _ _ => rfl⟩, ⟨⟨fun _ => 0, h.get (i := 51) rfl, fun _ _ _ _ => rfl⟩, fun _ => 0, h.get (i := 52) rfl, fun _ _ => rfl⟩, ⟨fun _ _ _ => 0, fun _ _ => 0, h.get (i := 53) rfl, h.get (i := 54) rfl, fun _ => rfl, fun _ _ _ => rfl, fun _ => rfl, fun _ _ _ => rfl⟩, ⟨⟨_, h.get (i := 55) rfl⟩, h.get (i := 56) rfl, ⟨_, h.get (i := 57) rfl⟩, ⟨_, h.get (i := 58) rfl⟩, ⟨_, h.get (i := 59) rfl⟩, ⟨_, h.get (i := 60) rfl⟩, ⟨_, h.get (i := 61) rfl⟩, ⟨_, h.get (i := 62) rfl⟩, ⟨_, h.get (i := 63) rfl⟩, ⟨_, h.get (i := 64) rfl⟩, ⟨_, h.get (i := 65) rfl⟩⟩⟩
theorem ok_mk : okA z2 z2 z1 z2 z1 z2 z1 true := ⟨fun _ _ => ⟨fun _ => Nat.le_refl _, fun _ _ => rfl, (show boxes z1 8 ≤ 24 by decide)⟩, fun _ _ => ⟨Nat.zero_le _, fun _ hk => absurd hk (Nat.not_lt_zero _)⟩, ⟨⟨fun _ => Nat.le_refl _, fun _ _ hc => absurd hc (Nat.not_lt_zero _), fun _ _ hc => absurd hc (Nat.not_lt_zero _)⟩, ⟨fun _ => Nat.zero_le _, fun _ _ => rfl⟩, by decide, fun _ _ hd => absurd hd (Nat.not_lt_zero _)⟩, ⟨fun _ => Nat.zero_le _, fun _ _ => rfl⟩, (fun q => by cases q)⟩
theorem st_mk (h : HpL (LL A) F) : ST A F := ⟨z2, z2, z1, z2, z1, z2, z1, true, 0, fun _ => 0, cc_mk h, rr_mk h, h.get (i := 66) rfl, ok_mk⟩
theorem law_go {xs : Nat → Int32} {Ls q0 q49 q66 : Nat} (hL : Ls ≤ 320) (h : HpL (LL A) F) (e0 : A 0 = q0) (e1 : A 49 = q49) (e2 : A 66 = q66) : ∃ res, fL_law_23 xs Ls 66 q0 q49 q66 0 F = some res ∧ res.1 = 1 := by
  subst e0 e1 e2
  exact law_loop (LL_inj h) hL 64 66 0 F (by omega) (by omega) (by omega) (st_mk h)
end GO
