section CHM
variable {A : Nat → Nat} {F : Mem} {S W : Nat → Nat → Nat} {N : Nat → Nat} {PT : Nat → Nat → Nat} {PO : Nat → Nat} {QT : Nat → Nat → Nat} {QO : Nat → Nat} {aw : Bool} {th : Int32}
theorem cmp_bit1 {B p : Nat} (hB : B < 2 ^ 63) (h : p < 63) : lg_cmp ((jN B >>> (Int32.toInt64 (iN p) &&& 63)) &&& 1) 1 = 0 ↔ B.testBit p = true := by
  rw [cmp0, j_bit hB h]
  cases B.testBit p
  · simp; decide
  · simp; decide
theorem cmp_bit0 {B p : Nat} (hB : B < 2 ^ 63) (h : p < 63) : lg_cmp ((jN B >>> (Int32.toInt64 (iN p) &&& 63)) &&& 1) 0 = 0 ↔ B.testBit p = false := by
  rw [cmp0, j_bit hB h]
  cases B.testBit p
  · simp; decide
  · simp; decide
theorem R_ch225 {L M : List (Int64 × Int64)} {e : Nat} (h : NT A F th aw L M) (he : e < M.length) (hM : M.length ≤ 2000) {B : Nat} {o : Int64} (hB : B < 2 ^ 40) (hMe : M[e] = (jN B, o)) {x2 x5 : Int32} {x3 : Int64} {k p : Nat} (hk : 0 < k) (hk2 : k ≤ 14) (hp : p < 22) (K : Nat → Int32 → Int64 → Int32 → Int32 → Int32 → Int32 → Int32 → Mem → Option (Int64 × Mem)) : ∀ (m n j : Nat), j + m = k - 1 → m < n → fX10_character_225 K n (A 49) x2 x3 x5 (iN k) (iN e) (iN p) (iN (psd B p j)) (iN (p + 1 + j)) F = K (A 49) x2 x3 x5 (iN k) (iN e) (iN p) (iN (psd B p (k - 1))) F := by
  obtain ⟨h1, _, ⟨C, O, h2, h3, h4⟩⟩ := id h
  intro m
  induction m with
  | zero =>
    intro n j e1 e2
    obtain ⟨n', rfl⟩ : ∃ n', n = n' + 1 := ⟨n - 1, by omega⟩
    have : j = k - 1 := by omega
    subst this
    rw [fX10_character_225.eq_2, iN_add, if_pos ((iN_le (by omega) (by omega)).mpr (by omega))]
  | succ m ih =>
    intro n j e1 e2
    obtain ⟨n', rfl⟩ : ∃ n', n = n' + 1 := ⟨n - 1, by omega⟩
    have q := ih n' (j + 1) (by omega) (by omega)
    rw [fX10_character_225.eq_2, iN_add, if_neg (fun w => by have := (iN_le (by omega) (by omega)).mp w; omega), R_g17 (NT_obj h), Option.bind_some, rdJ_at h2 (by omega) (by omega), Option.bind_some, (h4 e he).1, hMe]
    rw [j_bit (Nat.lt_trans hB (by decide)) (by omega), Int64.toInt32_ofNat', iN_add, iN_one]
    have e3 : psd B p (j + 1) = psd B p j + (if B.testBit (p + 1 + j) = true then 1 else 0) := by
      rw [show p + 1 + j = p + j + 1 by omega]
      rfl
    rw [e3, show p + 1 + (j + 1) = p + 1 + j + 1 by omega] at q
    exact q
theorem R_ch160 (hA : Inj A) {L0 M : List (Int64 × Int64)} {e n0 : Nat} (he : e < M.length) (hM : M.length ≤ 2000) {B : Nat} {o : Int64} (hB : VB n0 B) (hMe : M[e] = (jN B, o)) {x2 x5 : Int32} {x3 : Int64} {k : Nat} (hk : 0 < k) (hk2 : k ≤ 14) (hn : n0 + k < 17) (hL0 : VL (n0 + k) L0) (K : Nat → Int32 → Int64 → Int32 → Int32 → Int32 → Mem → Option (Int64 × Mem)) : ∀ (m n p : Nat) (F : Mem), p + m = 22 → m < n → NT A F th aw (stp B o k p L0) M → ∃ F', fX10_character_160 K n (A 49) x2 x3 x5 (iN k) (iN e) (iN p) F = K (A 49) x2 x3 x5 (iN k) (iN e) F' ∧ NT A F' th aw (stp B o k 22 L0) M ∧ Agr A [49, 61, 62] F F' := by
  have := FU_big
  intro m
  induction m with
  | zero =>
    intro n p F e1 e2 h
    obtain ⟨n', rfl⟩ : ∃ n', n = n' + 1 := ⟨n - 1, by omega⟩
    have : p = 22 := by omega
    subst this
    refine ⟨F, ?_, h, Agr.refl A _ F⟩
    rw [fX10_character_160.eq_2, if_pos (by decide)]
  | succ m ih =>
    intro n p F e1 e2 h
    obtain ⟨n', rfl⟩ : ∃ n', n = n' + 1 := ⟨n - 1, by omega⟩
    obtain ⟨h1, _, ⟨C, O, h2, h3, h4⟩⟩ := id h
    have hB63 : B < 2 ^ 63 := Nat.lt_trans hB.1 (by decide)
    have hv := VL_stp (o := o) hB hk hk2 hL0 p (by omega)
    have hlen := VL_len hn hv
    rw [fX10_character_160.eq_2, if_neg (fun w => by have := (iN_le (a := 22) (by omega) (by omega)).mp w; omega), R_g17 (NT_obj h), Option.bind_some, rdJ_at h2 (by omega) (by omega), Option.bind_some, (h4 e he).1, hMe, Option.bind_some, iN_add]
    dsimp only
    by_cases c1 : B.testBit p = true
    · rw [if_pos ((cmp_bit1 hB63 (by omega)).mpr c1), rdJ_at h2 (by omega) (by omega), Option.bind_some, (h4 e he).1, hMe]
      dsimp only
      by_cases c2 : B.testBit (p + k) = false
      · rw [if_pos ((cmp_bit0 hB63 (by omega)).mpr c2)]
        have es : stp B o k (p + 1) L0 = noteL (stp B o k p L0) (jN (B ^^^ 2 ^ p ^^^ 2 ^ (p + k))) (if psd B p (k - 1) % 2 = 0 then o else -o) := by
          simp only [stp]
          rw [if_pos ⟨c1, c2⟩]
        obtain ⟨F1, a1, a2, a3⟩ := R_note hA h hlen (jN (B ^^^ 2 ^ p ^^^ 2 ^ (p + k))) (if psd B p (k - 1) % 2 = 0 then o else -o)
        rw [← es] at a2
        obtain ⟨F2, b1, b2, b3⟩ := ih n' (p + 1) F1 (by omega) (by omega) a2
        refine ⟨F2, ?_, b2, a3.trans b3⟩
        unfold fX10_character_209
        rw [if_neg ne10]
        have pb : psd B p (k - 1) < 100 := by
          have : ∀ n, psd B p n ≤ n := by
            intro n
            induction n with
            | zero => exact Nat.le_refl _
            | succ n ih => simp only [psd]; split <;> omega
          have := this (k - 1)
          omega
        rw [iN_one]
        refine (R_ch225 h he hM hB.1 hMe (x2 := x2) (x5 := x5) (x3 := x3) hk hk2 (p := p) (by omega) _ (k - 1) FU 0 (by omega) (by omega)).trans ?_
        rw [R_g17 (NT_obj h), Option.bind_some, rdJ_at h2 (by omega) (by omega), Option.bind_some, (h4 e he).1, hMe, il2, irem_at (by omega) (by omega) (by omega), Option.bind_some, R_g18 (NT_obj h), Option.bind_some, rdJ_at h3 (by omega) (by omega), Option.bind_some, (h4 e he).2, hMe, Option.bind_some, iN_add, j_shl (by omega), j_shl (by omega)]
        dsimp only
        rw [jN_xor, jN_xor]
        obtain ⟨fs, hob⟩ := rObj_ob (NT_obj h)
        unfold fX10_character_305 fX10_character_308
        rw [hob, Option.bind_some]
        by_cases c3 : psd B p (k - 1) % 2 = 0
        · rw [if_pos c3] at a1
          rw [if_pos (show iN (psd B p (k - 1) % 2) = 0 by rw [c3]; rfl), a1, Option.bind_some, iN_one]
          exact b1
        · rw [if_neg c3] at a1
          rw [if_neg (show ¬ iN (psd B p (k - 1) % 2) = 0 by rw [show psd B p (k - 1) % 2 = 1 by omega]; decide), rdJ_at h3 (by omega) (by omega), Option.bind_some, Option.bind_some, (h4 e he).2, hMe]
          dsimp only
          rw [a1, Option.bind_some, iN_one]
          exact b1
      · rw [if_neg (fun w => c2 ((cmp_bit0 hB63 (by omega)).mp w))]
        have es : stp B o k (p + 1) L0 = stp B o k p L0 := by
          simp only [stp]
          rw [if_neg (fun w => c2 w.2)]
        obtain ⟨F2, b1, b2, b3⟩ := ih n' (p + 1) F (by omega) (by omega) (by rw [es]; exact h)
        refine ⟨F2, ?_, b2, b3⟩
        unfold fX10_character_209
        rw [if_pos rfl]
        unfold fX10_character_308
        rw [iN_one]
        exact b1
    · rw [if_neg (fun w => c1 ((cmp_bit1 hB63 (by omega)).mp w))]
      have es : stp B o k (p + 1) L0 = stp B o k p L0 := by
        simp only [stp]
        rw [if_neg (fun w => c1 w.1)]
      obtain ⟨F2, b1, b2, b3⟩ := ih n' (p + 1) F (by omega) (by omega) (by rw [es]; exact h)
      refine ⟨F2, ?_, b2, b3⟩
      unfold fX10_character_209
      rw [if_pos rfl]
      unfold fX10_character_308
      rw [iN_one]
      exact b1
theorem R_ch148 (hA : Inj A) {M : List (Int64 × Int64)} {n0 : Nat} {x2 x5 : Int32} {x3 : Int64} {k : Nat} (hk : 0 < k) (hk2 : k ≤ 14) (hn : n0 + k < 17) (hM : VL n0 M) (K : Nat → Int32 → Int64 → Int32 → Mem → Option (Int64 × Mem)) : ∀ (m n e : Nat) (F : Mem), e + m = M.length → m < n → NT A F th aw (stF k (M.take e) []) M → ∃ F', fX10_character_148 K n (A 49) x2 x3 x5 (iN k) (iN e) F = K (A 49) x2 x3 x5 F' ∧ NT A F' th aw (stF k M []) M ∧ Agr A [49, 61, 62] F F' := by
  have := FU_big
  have hlen := VL_len (show n0 < 17 by omega) hM
  intro m
  induction m with
  | zero =>
    intro n e F e1 e2 h
    obtain ⟨n', rfl⟩ : ∃ n', n = n' + 1 := ⟨n - 1, by omega⟩
    have : e = M.length := by omega
    subst this
    rw [List.take_length] at h
    refine ⟨F, ?_, h, Agr.refl A _ F⟩
    rw [fX10_character_148.eq_2, NT_od h, Option.bind_some, if_pos (Int32.le_refl _)]
  | succ m ih =>
    intro n e F e1 e2 h
    obtain ⟨n', rfl⟩ : ∃ n', n = n' + 1 := ⟨n - 1, by omega⟩
    have he : e < M.length := by omega
    obtain ⟨B, b1, b2⟩ := hM.2 (M[e]).1 (List.mem_map.mpr ⟨M[e], List.getElem_mem he, rfl⟩)
    have hMe : M[e] = (jN B, (M[e]).2) := by rw [← b1]
    have hB63 : B < 2 ^ 63 := Nat.lt_trans b2.1 (by decide)
    have hacc : VL (n0 + k) (stF k (M.take e) []) := VL_stF hk hk2 (M.take e) [] (fun c hc => by
      obtain ⟨q, q1, q2⟩ := List.mem_map.mp hc
      exact hM.2 c (List.mem_map.mpr ⟨q, List.mem_of_mem_take q1, q2⟩)) ⟨List.nodup_nil, fun c hc => by simp at hc⟩
    obtain ⟨F1, a1, a2, a3⟩ := R_ch160 hA (x2 := x2) (x5 := x5) (x3 := x3) he (by omega) b2 hMe hk hk2 hn hacc (fun (x0 : Nat) (x2 : Int32) (x3 : Int64) (x5 : Int32) (x6 : Int32) (x7 : Int32) (F : Mem) => (fX10_character_148  K n') x0 x2 x3 x5 x6 (x7 + 1) F) 22 FU 0 F (by omega) (by omega) h
    have es : stp B (M[e]).2 k 22 (stF k (M.take e) []) = stF k (M.take (e + 1)) [] := by
      rw [List.take_succ_eq_append_getElem he]
      unfold stF
      rw [List.foldl_append]
      show _ = stp (M[e]).1.toNatClampNeg (M[e]).2 k 22 _
      rw [b1, jN_nat hB63]
    rw [es] at a2
    obtain ⟨F2, c1, c2, c3⟩ := ih n' (e + 1) F1 (by omega) (by omega) a2
    refine ⟨F2, ?_, c2, a3.trans c3⟩
    rw [fX10_character_148.eq_2, NT_od h, Option.bind_some, if_neg (fun w => by have := (iN_le (by omega) (by omega)).mp w; omega)]
    refine a1.trans ?_
    rw [iN_one]
    exact c1
theorem NT_fr {F' : Mem} {T : List Nat} {L M : List (Int64 × Int64)} (k : Agr A T F F') (h : NT A F th aw L M) (d : 49 ∉ T ∧ 61 ∉ T ∧ 62 ∉ T ∧ 63 ∉ T ∧ 64 ∉ T) : NT A F' th aw L M := by
  obtain ⟨h1, ⟨C, O, h2, h3, h4⟩, ⟨C', O', h5, h6, h7⟩⟩ := h
  exact ⟨(k _ (by omega) d.1).trans h1, ⟨C, O, (k _ (by omega) d.2.1).trans h2, (k _ (by omega) d.2.2.1).trans h3, h4⟩, ⟨C', O', (k _ (by omega) d.2.2.2.1).trans h5, (k _ (by omega) d.2.2.2.2).trans h6, h7⟩⟩
/-- the tables begin -/
theorem iN_rep (v : Int32) : ∃ n, v = iN n := ⟨v.toBitVec.toNat, by
  apply Int32.toBitVec.inj
  show v.toBitVec = BitVec.ofNat 32 v.toBitVec.toNat
  rw [BitVec.ofNat_toNat, BitVec.setWidth_eq]⟩
theorem NT_start (hA : Inj A) (ho : rObj A F th aw) (hw : rWk A F) : ∃ F' M, pf F (A 49) 9 13 (.int 0) = some F' ∧ NT A F' th aw [] M ∧ Agr A [49] F F' := by
  obtain ⟨cd, od, h1⟩ := ho
  obtain ⟨w1, w2, w3, w4, w5, w6, ⟨C, w7⟩, ⟨O, w8⟩, ⟨C', w9⟩, ⟨O', w10⟩, w11⟩ := hw
  obtain ⟨m, hm⟩ := iN_rep od
  have k : Agr A [49] F (va_up F (A 49) (.inr (9, rfs A th (bI aw) (iN 0) od))) := (Agr.refl A _ F).up hA (by omega) (by simp)
  refine ⟨va_up F (A 49) (.inr (9, rfs A th (bI aw) (iN 0) od)), (List.range m).map (fun j => (C' j, O' j)), ?_, ⟨?_, ⟨C, O, (k 61 (by omega) (by simp)).trans w7, (k 62 (by omega) (by simp)).trans w8, fun j hj => by simp at hj⟩, ⟨C', O', (k 63 (by omega) (by simp)).trans w9, (k 64 (by omega) (by simp)).trans w10, fun j hj => ?_⟩⟩, k⟩
  · rw [pf_at h1 (by simp [rfs])]
    rfl
  · rw [up_eq, List.length_map, List.length_range, hm]
    rfl
  · simp
theorem NT_wk {F' : Mem} {T : List Nat} {L M : List (Int64 × Int64)} (k : Agr A T F F') (hw : rWk A F) (h : NT A F' th aw L M) (d : ∀ t, t ∈ T → t < 55 ∨ 61 ≤ t ∧ t ≤ 64 ∨ 66 ≤ t) : rWk A F' := by
  obtain ⟨h1, ⟨C, O, h2, h3, h4⟩, ⟨C', O', h5, h6, h7⟩⟩ := h
  obtain ⟨w1, w2, w3, w4, w5, w6, w7, w8, w9, w10, w11⟩ := hw
  have n : ∀ t, (55 ≤ t ∧ t < 61) ∨ t = 65 → t ∉ T := fun t a q => by have := d t q; omega
  exact ⟨ar0_fr k w1 (by omega) (n _ (by omega)), (k _ (by omega) (n _ (by omega))).trans w2, ar0_fr k w3 (by omega) (n _ (by omega)), ar0_fr k w4 (by omega) (n _ (by omega)), ar0_fr k w5 (by omega) (n _ (by omega)), ar0_fr k w6 (by omega) (n _ (by omega)), ⟨C, h2⟩, ⟨O, h3⟩, ⟨C', h5⟩, ⟨O', h6⟩, ar0_fr k w11 (by omega) (n _ (by omega))⟩
theorem R_ch115 (hA : Inj A) {j : Nat} (hj : j < 4) (hS : okS (S j)) {x3 : Int64} (K : Nat → Int64 → Mem → Option (Int64 × Mem)) : ∀ (m n i : Nat) (F : Mem) (L M : List (Int64 × Int64)) (ks : List Nat) (n0 : Nat), i + m = 8 → m < n → NT A F th aw L M → rShp A F S → VL n0 L → n0 + boxes (fun t => S j (i + t)) m < 17 → boxes (fun t => S j (i + t)) m ≤ 14 → (∀ Y, Y < 2 ^ 40 → lkL L (jN Y) = Int64.ofInt (phiN bs255 ks Y)) → ∃ F' L' M' n1, fX10_character_115 K n (A 49) (iN j) x3 (iN i) F = K (A 49) x3 F' ∧ NT A F' th aw L' M' ∧ VL n1 L' ∧ n1 < 17 ∧ Agr A [49, 61, 62, 63, 64] F F' ∧ (∀ Y, Y < 2 ^ 40 → lkL L' (jN Y) = Int64.ofInt (phiN bs255 ((hkl (S j) m i).reverse ++ ks) Y)) := by
  have := FU_big
  intro m
  induction m with
  | zero =>
    intro n i F L M ks n0 e1 e2 h hs hv hb hb2 hl
    obtain ⟨n', rfl⟩ : ∃ n', n = n' + 1 := ⟨n - 1, by omega⟩
    have : i = 8 := by omega
    subst this
    refine ⟨F, L, M, n0, ?_, h, hv, by simp only [boxes] at hb; omega, Agr.refl A _ F, ?_⟩
    · rw [fX10_character_115.eq_2, if_pos (by decide)]
    · simpa [hkl] using hl
  | succ m ih =>
    intro n i F L M ks n0 e1 e2 h hs hv hb hb2 hl
    obtain ⟨n', rfl⟩ : ∃ n', n = n' + 1 := ⟨n - 1, by omega⟩
    obtain ⟨fs, hob⟩ := rObj_ob (NT_obj h)
    have hlen := VL_len (show n0 < 17 by omega) hv
    have sh : S j i + boxes (fun t => S j (i + 1 + t)) m = boxes (fun t => S j (i + t)) (m + 1) := by
      have : ∀ n, S j i + boxes (fun t => S j (i + 1 + t)) n = boxes (fun t => S j (i + t)) (n + 1) := by
        intro n
        induction n with
        | zero => simp [boxes]
        | succ n ih =>
          have e1 : boxes (fun t => S j (i + 1 + t)) (n + 1) = boxes (fun t => S j (i + 1 + t)) n + S j (i + 1 + n) := rfl
          have e2 : boxes (fun t => S j (i + t)) (n + 1 + 1) = boxes (fun t => S j (i + t)) (n + 1) + S j (i + (n + 1)) := rfl
          rw [e1, e2, ← ih, show i + 1 + n = i + (n + 1) by omega]
          omega
      exact this m
    rw [fX10_character_115.eq_2, if_neg (fun w => by have := (iN_le (a := 8) (by omega) (by omega)).mp w; omega), hob, Option.bind_some, R_rowOf (NT_obj h) hs hj (by omega), Option.bind_some]
    simp only [hkl]
    by_cases c : S j i = 0
    · refine ⟨F, L, M, n0, ?_, h, hv, by omega, Agr.refl A _ F, ?_⟩
      · rw [c, if_pos (by decide)]
      · rw [if_pos c]
        simpa using hl
    · obtain ⟨F1, a1, a2, a3⟩ := R_turnOver hA h hlen
      obtain ⟨F2, b1, b2, b3⟩ := R_ch148 hA (x2 := iN j) (x5 := iN i) (x3 := x3) (k := S j i) (by omega) (by omega) (by omega) hv (fun (x0 : Nat) (x2 : Int32) (x3 : Int64) (x5 : Int32) (F : Mem) => (fX10_character_115  K n') x0 x2 x3 (x5 + 1) F) L.length FU 0 F1 (by omega) (by omega) a2
      have kk : Agr A [49, 61, 62, 63, 64] F F2 := (a3.mono (by simp)).trans (b3.mono (by simp))
      have hv2 : VL (n0 + S j i) (stF (S j i) L []) := VL_stF (by omega) (by omega) L [] hv.2 ⟨List.nodup_nil, fun c hc => by simp at hc⟩
      obtain ⟨F3, L', M', n1, c1, c2, c3, c4, c5, c6⟩ := ih n' (i + 1) F2 _ _ (S j i :: ks) (n0 + S j i) (by omega) (by omega) b2 (rShp_fr kk hs (by simp)) hv2 (by omega) (by omega) (lk_step (by omega) (by omega) hv hl)
      refine ⟨F3, L', M', n1, ?_, c2, c3, c4, kk.trans c5, ?_⟩
      · rw [if_neg (show ¬ iN (S j i) ≤ 0 from fun w => by have := (iN_le (b := 0) (by omega) (by omega)).mp w; omega), hob, Option.bind_some, R_rowOf (NT_obj h) hs hj (by omega), Option.bind_some, hob, Option.bind_some, a1, Option.bind_some]
        refine b1.trans ?_
        rw [iN_one]
        exact c1
      · rw [if_neg c, List.reverse_cons, List.append_assoc]
        exact c6
theorem lk_idx : ∀ (L : List (Int64 × Int64)) (x : Int64), (L.map Prod.fst).Nodup → (idxL L x = L.length → lkL L x = 0) ∧ (∀ h : idxL L x < L.length, lkL L x = L[idxL L x].2) := by
  intro L
  induction L with
  | nil => intro x _; exact ⟨fun _ => rfl, fun h => by simp [idxL] at h⟩
  | cons e L ih =>
    intro x hn
    simp only [List.map_cons, List.nodup_cons] at hn
    by_cases c : e.1 = x
    · have e0 : idxL (e :: L) x = 0 := by simp [idxL, c]
      refine ⟨fun q => by rw [e0] at q; simp at q, fun h => ?_⟩
      have z : ∀ (M : List (Int64 × Int64)), x ∉ M.map Prod.fst → lkL M x = 0 := by
        intro M
        induction M with
        | nil => intro _; rfl
        | cons f M ihM =>
          intro q
          simp only [List.map_cons, List.mem_cons, not_or] at q
          simp only [lkL]
          rw [if_neg (fun w => q.1 w.symm), ihM q.2]
          rfl
      simp only [lkL, if_pos c]
      rw [z L (by rw [← c]; exact hn.1), Int64.add_zero]
      simp [e0]
    · have e0 : idxL (e :: L) x = idxL L x + 1 := by simp [idxL, c]
      refine ⟨fun q => ?_, fun h => ?_⟩
      · rw [e0, List.length_cons] at q
        simp only [lkL, if_neg c]
        rw [(ih x hn.2).1 (by omega)]
        rfl
      · rw [e0, List.length_cons] at h
        simp only [lkL, if_neg c]
        rw [(ih x hn.2).2 (by omega), Int64.zero_add]
        simp [e0]
theorem R_ch329 {L M : List (Int64 × Int64)} {x : Int64} (h : NT A F th aw L M) (hl : L.length < 2000) (K : Nat → Int32 → Mem → Option (Int64 × Mem)) : ∀ (m n k : Nat), k + m = idxL L x → m < n → fX10_character_329 K n (A 49) x (iN k) F = if idxL L x < L.length then K (A 49) (iN (idxL L x)) F else some (0, F) := by
  obtain ⟨h1, ⟨C, O, h2, h3, h4⟩, h5⟩ := id h
  have hle := idx_le L x
  intro m
  induction m with
  | zero =>
    intro n k e1 e2
    obtain ⟨n', rfl⟩ : ∃ n', n = n' + 1 := ⟨n - 1, by omega⟩
    have : k = idxL L x := by omega
    subst this
    rw [fX10_character_329.eq_2, NT_cd h, Option.bind_some]
    by_cases c : L.length ≤ idxL L x
    · rw [if_pos ((iN_le (by omega) (by omega)).mpr c), if_neg (by omega)]
    · rw [if_neg (fun q => c ((iN_le (by omega) (by omega)).mp q)), R_g14 (NT_obj h), Option.bind_some, rdJ_at h2 (by omega) (by omega), Option.bind_some, (h4 _ (by omega)).1, (idx_at L x _ (by omega)).2 rfl, if_pos ((cmp0 x x).mpr rfl), if_pos (by omega)]
  | succ m ih =>
    intro n k e1 e2
    obtain ⟨n', rfl⟩ : ∃ n', n = n' + 1 := ⟨n - 1, by omega⟩
    rw [fX10_character_329.eq_2, NT_cd h, Option.bind_some, if_neg (fun q => by have := (iN_le (by omega) (by omega)).mp q; omega), R_g14 (NT_obj h), Option.bind_some, rdJ_at h2 (by omega) (by omega), Option.bind_some, (h4 k (by omega)).1, if_neg (fun q => (idx_at L x k (by omega)).1 (by omega) ((cmp0 _ _).mp q)), iN_one]
    exact ih n' (k + 1) (by omega) (by omega)
theorem R_ch326 {L M : List (Int64 × Int64)} {x : Int64} (h : NT A F th aw L M) (hl : L.length < 2000) (hn : (L.map Prod.fst).Nodup) : fX10_character_326 (A 49) x F = some (lkL L x, F) := by
  have := FU_big
  obtain ⟨h1, ⟨C, O, h2, h3, h4⟩, h5⟩ := id h
  have hle := idx_le L x
  unfold fX10_character_326
  rw [show (0 : Int32) = iN 0 from rfl, R_ch329 h hl _ (idxL L x) FU 0 (by omega) (by omega)]
  by_cases c : idxL L x < L.length
  · rw [if_pos c, R_g15 (NT_obj h), Option.bind_some, rdJ_at h3 (by omega) (by omega), Option.bind_some, (h4 _ c).2, (lk_idx L x hn).2 c]
  · rw [if_neg c, (lk_idx L x hn).1 (by omega)]
theorem R_ch68 (ho : rObj A F th aw) (hs : rShp A F S) {i : Nat} (hi : i < 4) (h14 : ∀ s, S i s ≤ 14) {x2 : Int32} (K : Nat → Int32 → Int64 → Mem → Option (Int64 × Mem)) : ∀ (m n k : Nat), k + m = 8 → m < n → fX10_character_68 K n (A 49) (iN i) x2 (jN (bdN (S i) k)) (iN k) F = K (A 49) x2 (jN (bdN (S i) 8)) F := by
  obtain ⟨fs, hob⟩ := rObj_ob ho
  intro m
  induction m with
  | zero =>
    intro n k e1 e2
    obtain ⟨n', rfl⟩ : ∃ n', n = n' + 1 := ⟨n - 1, by omega⟩
    have : k = 8 := by omega
    subst this
    rw [fX10_character_68.eq_2, if_pos (by decide)]
  | succ m ih =>
    intro n k e1 e2
    obtain ⟨n', rfl⟩ : ∃ n', n = n' + 1 := ⟨n - 1, by omega⟩
    have b := h14 k
    rw [fX10_character_68.eq_2, if_neg (fun w => by have := (iN_le (a := 8) (by omega) (by omega)).mp w; omega), hob, Option.bind_some, R_rowOf ho hs hi (by omega), Option.bind_some]
    dsimp only
    rw [il7, iN_add, iN_sub (by omega), j_shl (by omega), jN_or, iN_one]
    exact ih n' (k + 1) (by omega) (by omega)
theorem VB_255 : VB 0 255 := ⟨by decide, by decide, by decide⟩
theorem R_character (hA : Inj A) (h : RR A F S W N PT PO QT QO aw th) (hS : ∀ i, i < 4 → okS (S i)) {i j : Nat} (hi : i < 4) (hj : j < 4) : (boxes (S i) 8 = boxes (S j) 8 → boxes (S i) 8 ≤ 14 → ∃ F', mX10_character F (A 49) (iN i) (iN j) = some (Int64.ofInt (phiN (fun _ => 1) (hkl (S j) 8 0) (bdN (S i) 8)), F') ∧ RR A F' S W N PT PO QT QO aw 0 ∧ Agr A RTs F F') ∧ (boxes (S i) 8 = boxes (S j) 8 → ¬ boxes (S i) 8 ≤ 14 → ∃ F', mX10_character F (A 49) (iN i) (iN j) = some (0, F') ∧ RR A F' S W N PT PO QT QO aw 3 ∧ Agr A RTs F F') ∧ (boxes (S i) 8 ≠ boxes (S j) 8 → ∃ F', mX10_character F (A 49) (iN i) (iN j) = some (0, F') ∧ RR A F' S W N PT PO QT QO aw 2 ∧ Agr A RTs F F') := by
  have := FU_big
  have bi := (hS i hi).2.2
  have bj := (hS j hj).2.2
  obtain ⟨fs, hob⟩ := rObj_ob h.1
  have st : mX10_character F (A 49) (iN i) (iN j) = if boxes (S i) 8 = boxes (S j) 8 then (if boxes (S i) 8 ≤ 14 then fX10_character_51 (A 49) (iN i) (iN j) (A 49) 0 F else fX10_character_51 (A 49) (iN i) (iN j) (A 49) 3 F) else fX10_character_51 (A 49) (iN i) (iN j) (A 49) 2 F := by
    unfold mX10_character
    rw [R_slot hi, Option.bind_some, if_neg ne10, R_slot hj, Option.bind_some, if_neg ne10]
    simp (disch := omega) only [hob, Option.bind_some, R_boxesOf h.1 h.2.1 hi, R_boxesOf h.1 h.2.1 hj, iN_inj, il14, iN_le]
  have bad : ∀ t : Int32, ¬ t ≤ 0 → ∃ F', fX10_character_51 (A 49) (iN i) (iN j) (A 49) t F = some (0, F') ∧ RR A F' S W N PT PO QT QO aw t ∧ Agr A RTs F F' := by
    intro t ht
    obtain ⟨F', e, h', k⟩ := RR_th hA h t
    refine ⟨F', ?_, h', k.mono (RTs_of (fun t q => by simp at q; omega))⟩
    unfold fX10_character_51
    rw [e, Option.bind_some, rObj_th h'.1, Option.bind_some, if_neg ht]
  refine ⟨fun c1 c2 => ?_, fun c1 c2 => ?_, fun c1 => ?_⟩
  · rw [st, if_pos c1, if_pos c2]
    obtain ⟨F1, e, h', k⟩ := RR_th hA h 0
    obtain ⟨F2, M, a1, a2, a3⟩ := NT_start hA h'.1 h'.2.2.2.2
    obtain ⟨fs2, hob2⟩ := rObj_ob (NT_obj a2)
    obtain ⟨F3, b1, b2, b3⟩ := R_note hA a2 (by simp) (jN 255) 1
    have k3 : Agr A [49, 61, 62] F1 F3 := (a3.mono (by simp)).trans b3
    have hn3 : noteL [] (jN 255) 1 = [(jN 255, 1)] := rfl
    rw [hn3] at b2
    have hj0 : (fun t => S j (0 + t)) = S j := by funext t; rw [Nat.zero_add]
    obtain ⟨F4, L', M', n1, c1', c2', c3', c4', c5', c6'⟩ := R_ch115 hA hj (hS j hj) (x3 := jN (bdN (S i) 8)) (fun (x0 : Nat) (x3 : Int64) (F : Mem) => fX10_character_326   x0 x3 F) 8 FU 0 F3 [(jN 255, 1)] M [] 0 (by omega) (by omega) b2 (rShp_fr k3 h'.2.1 (by simp)) ⟨by simp, fun c hc => by simp at hc; exact ⟨255, hc, VB_255⟩⟩ (by rw [hj0]; omega) (by rw [hj0]; omega) (fun Y hY => by
      simp only [lkL, phiN]
      by_cases q : Y = 255
      · subst q; rfl
      · rw [if_neg (fun w => q ((jN_inj (by decide) (Nat.lt_trans hY (by decide))).mp w).symm)]
        show 0 + 0 = Int64.ofInt (if Y = 255 then 1 else 0)
        rw [if_neg q]
        rfl)
    have kk : Agr A [49, 61, 62, 63, 64] F1 F4 := (k3.mono (by simp)).trans c5'
    have hlen := VL_len c4' c3'
    have e5 := R_ch326 (x := jN (bdN (S i) 8)) c2' hlen c3'.1
    have hlt := bdN_lt (okS_le2 (hS i hi) c2) 8 (Nat.le_refl _)
    rw [c6' _ (Nat.lt_trans hlt (by decide)), List.append_nil, ← char_eq (hS i hi) (hS j hj) c1 c2] at e5
    refine ⟨F4, ?_, ⟨NT_obj c2', rShp_fr kk h'.2.1 (by simp), rWrd_fr kk h'.2.2.1 (by simp), rTab_fr kk h'.2.2.2.1 (by simp), NT_wk kk h'.2.2.2.2 c2' (fun t q => by simp at q; omega)⟩, (k.mono (RTs_of (fun t q => by simp at q; omega))).trans (kk.mono (RTs_of (fun t q => by simp at q; omega)))⟩
    unfold fX10_character_51
    rw [e, Option.bind_some, rObj_th h'.1, Option.bind_some, if_pos (by decide)]
    have e6 := R_ch68 h'.1 h'.2.1 hi (okS_le2 (hS i hi) c2) (x2 := iN j) (fun (x0 : Nat) (x2 : Int32) (x3 : Int64) (F : Mem) => (pf F x0 9 13 (.int 0)).bind fun F101 => (obj F101 x0 9).bind fun _ => (mX10_note F101 x0 255 1).bind fun v109 => fX10_character_115  (fun (x0 : Nat) (x3 : Int64) (F : Mem) => fX10_character_326   x0 x3 F) FU x0 x2 x3 0 v109) 8 FU 0 (by omega) (by omega)
    refine Eq.trans e6 ?_
    rw [a1, Option.bind_some, hob2, Option.bind_some, show (255 : Int64) = jN 255 from rfl, b1, Option.bind_some]
    exact c1'.trans e5
  · rw [st, if_pos c1, if_neg c2]
    exact bad 3 (by decide)
  · rw [st, if_neg c1]
    exact bad 2 (by decide)
theorem R_character_no (hA : Inj A) (h : RR A F S W N PT PO QT QO aw th) {x y : Int32} (hy : (x < 0 ∨ (¬ x < 0 ∧ iN 4 ≤ x)) ∨ ((∃ i, i < 4 ∧ x = iN i) ∧ (y < 0 ∨ (¬ y < 0 ∧ iN 4 ≤ y)))) : ∃ F', RR A F' S W N PT PO QT QO aw 1 ∧ Agr A RTs F F' ∧ mX10_character F (A 49) x y = some (0, F') := by
  obtain ⟨F', e, h', k⟩ := RR_th hA h 1
  refine ⟨F', h', k.mono (RTs_of (fun t q => by simp at q; omega)), ?_⟩
  have bad : fX10_character_51 (A 49) x y (A 49) 1 F = some (0, F') := by
    unfold fX10_character_51
    rw [e, Option.bind_some, rObj_th h'.1, Option.bind_some, if_neg (by decide)]
  unfold mX10_character
  rcases hy with q | ⟨⟨i, hi, rfl⟩, q⟩
  · rw [R_noslot q, Option.bind_some, if_pos rfl, bad]
  · rw [R_slot hi, Option.bind_some, if_neg ne10, R_noslot q, Option.bind_some, if_pos rfl, bad]
end CHM
