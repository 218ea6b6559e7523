section PNT
variable {L L1 L2 : List (Nat × Cl)} {F : Mem} {Post : Mem → Prop}
/-- the table of partition numbers, filled up to k -/
def tbq (k : Nat) : Nat → Int32 := fun i => iN (if i < k then pn (i / 25) (i % 25) else 0)
abbrev tbC (k : Nat) : Cl := .inl (0, 625, .inl (tbq k))
theorem tbq_at {k i : Nat} (h : i < k) : tbq k i = iN (pn (i / 25) (i % 25)) := by unfold tbq; rw [if_pos h]
theorem tbq_set (k : Nat) {v : Nat} (hv : pn (k / 25) (k % 25) = v) : upd (tbq k) k (iN v) = tbq (k + 1) := by
  funext i
  by_cases e : i = k
  · rw [e, tbq_at (by omega), hv]
    simp [upd]
  · have u : upd (tbq k) k (iN v) i = tbq k i := by simp [upd, e]
    rw [u]
    unfold tbq
    by_cases q : i < k
    · rw [if_pos q, if_pos (by omega)]
    · rw [if_neg q, if_neg (by omega)]
theorem tbq_skip {r : Nat} (h : 1 ≤ r) : tbq (25 * r) = tbq (25 * r + 1) := by
  funext i
  unfold tbq
  by_cases e : i = 25 * r
  · rw [if_neg (by omega), if_pos (by omega), e, show 25 * r / 25 = r by omega, show 25 * r % 25 = 0 by omega]
    obtain ⟨n, rfl⟩ : ∃ n, r = n + 1 := ⟨r - 1, by omega⟩
    rw [pn_s0]
  · by_cases q : i < 25 * r
    · rw [if_pos q, if_pos (by omega)]
    · rw [if_neg q, if_neg (by omega)]
theorem tbq_all : tbq 625 = fun i => iN (pn (i / 25) (i % 25)) := by
  funext i
  unfold tbq
  by_cases q : i < 625
  · rw [if_pos q]
  · rw [if_neg q]
    unfold pn
    rw [if_neg (by omega)]
theorem tbq_0 : tbq 0 = fun _ => 0 := by
  funext i
  unfold tbq
  rw [if_neg (by omega)]
  rfl
theorem pn_rc {r c : Nat} (hr : 1 ≤ r) (hr2 : r ≤ 24) (hc : 1 ≤ c) (hc2 : c ≤ 24) : pn r c = pn r (c - 1) + (if c ≤ r then pn (r - c) c else 0) := by
  obtain ⟨n, rfl⟩ : ∃ n, r = n + 1 := ⟨r - 1, by omega⟩
  obtain ⟨m, rfl⟩ : ∃ m, c = m + 1 := ⟨c - 1, by omega⟩
  rw [pn_ss (by omega) (by omega), Nat.add_sub_cancel, Nat.add_sub_add_right]
  by_cases q : m ≤ n
  · rw [if_pos q, if_pos (by omega)]
  · rw [if_neg q, if_neg (by omega)]
theorem tb_rd {q1 r c k : Nat} (h2 : F q1 = tbC k) (hk : 25 * r + c < k) (hk2 : k ≤ 625) (hc : c < 25) : rdI F 0 q1 (iN (25 * r + c)) = some (iN (pn r c)) := by
  rw [rdI_at h2 (by omega) (by omega), tbq_at hk, show (25 * r + c) / 25 = r by omega, show (25 * r + c) % 25 = c by omega]
theorem tb_wr {q1 r c v : Nat} (h2 : F q1 = tbC (25 * r + c)) (hr : r < 25) (hc : c < 25) (hv : pn r c = v) : wrI F q1 (iN (25 * r + c)) (iN v) = some (va_up F q1 (tbC (25 * r + (c + 1)))) := by
  rw [wrI_at h2 (by omega) (by omega), tbq_set (25 * r + c) (by rw [show (25 * r + c) / 25 = r by omega, show (25 * r + c) % 25 = c by omega]; exact hv)]
  rfl
theorem tb_nle {c : Nat} (h : c < 25) : ¬ (25 : Int32) ≤ iN c := fun w => by
  rw [il25, iN_le (by omega) (by omega)] at w
  omega
theorem tb_le : (25 : Int32) ≤ iN 25 := by decide
theorem tb_ix (r c : Nat) : iN r * 25 + iN c = iN (25 * r + c) := by rw [il25, iN_mul, iN_add, Nat.mul_comm]
theorem tb_ix2 (r c : Nat) : 25 * iN r + iN c = iN (25 * r + c) := by rw [il25, iN_mul, iN_add]
theorem tb_m1 {r c : Nat} (hc : 1 ≤ c) : iN (25 * r + c) - 1 = iN (25 * r + (c - 1)) := by rw [il1, iN_sub (by omega), show 25 * r + c - 1 = 25 * r + (c - 1) by omega]
theorem x5_15 {q q1 : Nat} {K : Nat → Mem → Prop} : ∀ (m n p : Nat) (F : Mem), p + m = 25 → m < n → F q = .inr (4, [.ref q1]) → F q1 = tbC p → K q (va_up F q1 (tbC 25)) → fX5_init_15 Post K n q (iN p) F := by
  intro m
  induction m with
  | zero =>
    intro n p F hp hn h1 h2 hK
    obtain ⟨n, rfl⟩ : ∃ m, n = m + 1 := ⟨n - 1, by omega⟩
    obtain rfl : p = 25 := by omega
    rw [up_self h2] at hK
    rw [fX5_init_15.eq_2]
    exact ⟨fun _ => hK, fun w => absurd tb_le w⟩
  | succ m ih =>
    intro n p F hp hn h1 h2 hK
    obtain ⟨n, rfl⟩ : ∃ m, n = m + 1 := ⟨n - 1, by omega⟩
    have ne : q ≠ q1 := fun e => by rw [e, h2] at h1; cases h1
    have wr : wrI F q1 (iN p) 1 = some (va_up F q1 (tbC (p + 1))) := by
      have := tb_wr (F := F) (q1 := q1) (r := 0) (c := p) (v := 1) (by rw [Nat.mul_zero, Nat.zero_add]; exact h2) (by omega) (by omega) (pn_z p)
      rwa [Nat.mul_zero, Nat.zero_add, Nat.zero_add] at this
    rw [fX5_init_15.eq_2]
    refine ⟨fun w => absurd w (tb_nle (by omega)), fun _ => ⟨q1, gfR_at h1 rfl, _, wr, ?_⟩⟩
    rw [iN_one]
    exact ih n (p + 1) _ (by omega) (by omega) (by rw [up_ne ne]; exact h1) (up_eq _ _ _) (by rw [up_up]; exact hK)
theorem x5_44 {q q1 r : Nat} (hr : 1 ≤ r) (hr2 : r ≤ 24) {K : Nat → Int32 → Mem → Prop} : ∀ (m n c : Nat) (F : Mem), c + m = 25 → 1 ≤ c → m < n → F q = .inr (4, [.ref q1]) → F q1 = tbC (25 * r + c) → K q (iN r) (va_up F q1 (tbC (25 * r + 25))) → fX5_init_44 Post K n q (iN r) (iN c) F := by
  intro m
  induction m with
  | zero =>
    intro n c F hp hc1 hn h1 h2 hK
    obtain ⟨n, rfl⟩ : ∃ m, n = m + 1 := ⟨n - 1, by omega⟩
    obtain rfl : c = 25 := by omega
    rw [up_self h2] at hK
    rw [fX5_init_44.eq_2]
    exact ⟨fun _ => hK, fun w => absurd tb_le w⟩
  | succ m ih =>
    intro n c F hp hc1 hn h1 h2 hK
    obtain ⟨n, rfl⟩ : ∃ m, n = m + 1 := ⟨n - 1, by omega⟩
    have ne : q ≠ q1 := fun e => by rw [e, h2] at h1; cases h1
    have hrc := pn_rc hr hr2 hc1 (by omega)
    have step : ∀ s : Nat, pn r c = pn r (c - 1) + s → fX5_init_72 Post (fX5_init_44 Post K n) K q (iN r) (iN c) (iN s) F := by
      intro s hs
      have rd : rdI F 0 q1 (iN r * 25 + iN c - 1) = some (iN (pn r (c - 1))) := by
        rw [tb_ix, tb_m1 hc1]
        exact tb_rd h2 (by omega) (by omega) (by omega)
      have wr : wrI F q1 (iN r * 25 + iN c) (iN (pn r (c - 1)) + iN s) = some (va_up F q1 (tbC (25 * r + (c + 1)))) := by
        rw [tb_ix, iN_add]
        exact tb_wr h2 (by omega) (by omega) hs
      unfold fX5_init_72
      refine ⟨q1, gfR_at h1 rfl, q1, gfR_at h1 rfl, _, rd, _, wr, ?_⟩
      rw [iN_one]
      exact ih n (c + 1) _ (by omega) (by omega) (by omega) (by rw [up_ne ne]; exact h1) (up_eq _ _ _) (by rw [up_up]; exact hK)
    rw [fX5_init_44.eq_2]
    refine ⟨fun w => absurd w (tb_nle (by omega)), fun _ => ⟨fun w => ?_, fun w => ?_⟩⟩
    · have hc : c ≤ r := (iN_le (by omega) (by omega)).mp w
      have rd : rdI F 0 q1 ((iN r - iN c) * 25 + iN c) = some (iN (pn (r - c) c)) := by
        rw [iN_sub hc, tb_ix]
        exact tb_rd h2 (by omega) (by omega) (by omega)
      exact ⟨q1, gfR_at h1 rfl, _, rd, step _ (by rw [if_pos hc] at hrc; exact hrc)⟩
    · have hc : ¬ c ≤ r := fun k => w ((iN_le (by omega) (by omega)).mpr k)
      exact step 0 (by rw [if_neg hc] at hrc; exact hrc)
theorem x5_36 {q q1 : Nat} : ∀ (m n r : Nat) (F : Mem), r + m = 25 → 1 ≤ r → m < n → F q = .inr (4, [.ref q1]) → F q1 = tbC (25 * r) → Post (va_up F q1 (tbC 625)) → fX5_init_36 Post n q (iN r) F := by
  intro m
  induction m with
  | zero =>
    intro n r F hp hr hn h1 h2 hK
    obtain ⟨n, rfl⟩ : ∃ m, n = m + 1 := ⟨n - 1, by omega⟩
    obtain rfl : r = 25 := by omega
    rw [up_self h2] at hK
    rw [fX5_init_36.eq_2]
    exact ⟨fun _ => hK, fun w => absurd tb_le w⟩
  | succ m ih =>
    intro n r F hp hr hn h1 h2 hK
    obtain ⟨n, rfl⟩ : ∃ m, n = m + 1 := ⟨n - 1, by omega⟩
    have ne : q ≠ q1 := fun e => by rw [e, h2] at h1; cases h1
    have h2' : F q1 = tbC (25 * r + 1) := by rw [h2]; unfold tbC; rw [tbq_skip hr]
    rw [fX5_init_36.eq_2]
    refine ⟨fun w => absurd w (tb_nle (by omega)), fun _ => ?_⟩
    refine x5_44 hr (by omega) 24 FU 1 F (by omega) (by omega) (by have := FU_big; omega) h1 h2' ?_
    show fX5_init_36 Post n q (iN r + 1) _
    rw [iN_one]
    exact ih n (r + 1) _ (by omega) (by omega) (by omega) (by rw [up_ne ne]; exact h1) (by rw [up_eq, Nat.mul_succ]) (by rw [up_up]; exact hK)
theorem hl_X5 {q : Nat} (h : HpL L F) (hq : F q = jk) (K : ∀ q1 F', HpL (L ++ [(q, .inr (4, [.ref q1])), (q1, cPn)]) F' → Post F') : pX5_init Post (va_up F q (.inr (4, [.null]))) q := by
  intro q1 hq1
  have h1 : HpL (L ++ [(q, .inr (4, [.null]))]) (va_up F q (.inr (4, [.null]))) := h.new hq (nj_r (by decide))
  have h2 : HpL (L ++ [(q, .inr (4, [.null])), (q1, zI 0 625)]) _ := h1.new2 hq1 (nj_l _)
  refine h2.fld (by simp) (by decide) (fun F1 h => ?_)
  have a1 : F1 q = .inr (4, [.ref q1]) := h.at
  have h' : HpL ((L ++ [(q, .inr (4, [.ref q1]))]) ++ (q1, zI 0 625) :: []) F1 := by rw [List.append_assoc]; exact h
  have a2 : F1 q1 = zI 0 625 := h'.at
  have ne : q ≠ q1 := fun e => by rw [e, a2] at a1; cases a1
  refine x5_15 25 FU 0 F1 (by omega) (by have := FU_big; omega) a1 (by rw [a2]; unfold tbC; rw [tbq_0]) ?_
  show fX5_init_36 Post FU q 1 _
  refine x5_36 24 FU 1 _ (by omega) (by omega) (by have := FU_big; omega) (by rw [up_ne ne]; exact a1) (up_eq _ _ _) ?_
  rw [up_up]
  have g := h'.put (c := tbC 625) (nj_l _)
  rw [List.append_assoc] at g
  unfold tbC at g
  rw [tbq_all] at g
  unfold tbC
  rw [tbq_all]
  exact K q1 _ g
theorem x10_144 {q q1 : Nat} {fs : List Value} (hf : fs[8]? = some (.ref q1)) {K : Nat → Mem → Prop} : ∀ (m n p : Nat) (F : Mem), p + m = 25 → m < n → F q = .inr (9, fs) → F q1 = tbC p → K q (va_up F q1 (tbC 25)) → fX10_init_144 Post K n q (iN p) F := by
  intro m
  induction m with
  | zero =>
    intro n p F hp hn h1 h2 hK
    obtain ⟨n, rfl⟩ : ∃ m, n = m + 1 := ⟨n - 1, by omega⟩
    obtain rfl : p = 25 := by omega
    rw [up_self h2] at hK
    rw [fX10_init_144.eq_2]
    exact ⟨fun _ => hK, fun w => absurd tb_le w⟩
  | succ m ih =>
    intro n p F hp hn h1 h2 hK
    obtain ⟨n, rfl⟩ : ∃ m, n = m + 1 := ⟨n - 1, by omega⟩
    have ne : q ≠ q1 := fun e => by rw [e, h2] at h1; cases h1
    have wr : wrI F q1 (iN p) 1 = some (va_up F q1 (tbC (p + 1))) := by
      have := tb_wr (F := F) (q1 := q1) (r := 0) (c := p) (v := 1) (by rw [Nat.mul_zero, Nat.zero_add]; exact h2) (by omega) (by omega) (pn_z p)
      rwa [Nat.mul_zero, Nat.zero_add, Nat.zero_add] at this
    rw [fX10_init_144.eq_2]
    refine ⟨fun w => absurd w (tb_nle (by omega)), fun _ => ⟨q1, gfR_at h1 hf, _, wr, ?_⟩⟩
    rw [iN_one]
    exact ih n (p + 1) _ (by omega) (by omega) (by rw [up_ne ne]; exact h1) (up_eq _ _ _) (by rw [up_up]; exact hK)
theorem x10_173 {q q1 r : Nat} {fs : List Value} (hf : fs[8]? = some (.ref q1)) (hr : 1 ≤ r) (hr2 : r ≤ 24) {K : Nat → Int32 → Mem → Prop} : ∀ (m n c : Nat) (F : Mem), c + m = 25 → 1 ≤ c → m < n → F q = .inr (9, fs) → F q1 = tbC (25 * r + c) → K q (iN r) (va_up F q1 (tbC (25 * r + 25))) → fX10_init_173 Post K n q (iN r) (iN c) F := by
  intro m
  induction m with
  | zero =>
    intro n c F hp hc1 hn h1 h2 hK
    obtain ⟨n, rfl⟩ : ∃ m, n = m + 1 := ⟨n - 1, by omega⟩
    obtain rfl : c = 25 := by omega
    rw [up_self h2] at hK
    rw [fX10_init_173.eq_2]
    exact ⟨fun _ => hK, fun w => absurd tb_le w⟩
  | succ m ih =>
    intro n c F hp hc1 hn h1 h2 hK
    obtain ⟨n, rfl⟩ : ∃ m, n = m + 1 := ⟨n - 1, by omega⟩
    have ne : q ≠ q1 := fun e => by rw [e, h2] at h1; cases h1
    have hrc := pn_rc hr hr2 hc1 (by omega)
    have step : ∀ s : Nat, pn r c = pn r (c - 1) + s → fX10_init_224 Post (fX10_init_173 Post K n) K q (iN r) (iN c) q1 (25 * iN r + iN c) (iN (pn r (c - 1))) (iN s) F := by
      intro s hs
      have wr : wrI F q1 (25 * iN r + iN c) (iN (pn r (c - 1)) + iN s) = some (va_up F q1 (tbC (25 * r + (c + 1)))) := by
        rw [tb_ix2, iN_add]
        exact tb_wr h2 (by omega) (by omega) hs
      unfold fX10_init_224
      refine ⟨_, wr, ?_⟩
      rw [iN_one]
      exact ih n (c + 1) _ (by omega) (by omega) (by omega) (by rw [up_ne ne]; exact h1) (up_eq _ _ _) (by rw [up_up]; exact hK)
    have rd1 : rdI F 0 q1 (25 * iN r + iN c - 1) = some (iN (pn r (c - 1))) := by
      rw [tb_ix2, tb_m1 hc1]
      exact tb_rd h2 (by omega) (by omega) (by omega)
    rw [fX10_init_173.eq_2]
    refine ⟨fun w => absurd w (tb_nle (by omega)), fun _ => ⟨q1, gfR_at h1 hf, q1, gfR_at h1 hf, _, rd1, fun w => ?_, fun w => ?_⟩⟩
    · have hc : ¬ c ≤ r := Nat.not_le.mpr ((iN_lt (by omega) (by omega)).mp w)
      exact step 0 (by rw [if_neg hc] at hrc; exact hrc)
    · have hc : c ≤ r := Nat.not_lt.mp (fun k => w ((iN_lt (by omega) (by omega)).mpr k))
      have rd : rdI F 0 q1 (25 * (iN r - iN c) + iN c) = some (iN (pn (r - c) c)) := by
        rw [iN_sub hc, tb_ix2]
        exact tb_rd h2 (by omega) (by omega) (by omega)
      exact ⟨q1, gfR_at h1 hf, _, rd, step _ (by rw [if_pos hc] at hrc; exact hrc)⟩
theorem x10_165 {q q1 : Nat} {fs : List Value} (hf : fs[8]? = some (.ref q1)) : ∀ (m n r : Nat) (F : Mem), r + m = 25 → 1 ≤ r → m < n → F q = .inr (9, fs) → F q1 = tbC (25 * r) → Post (va_up F q1 (tbC 625)) → fX10_init_165 Post n q (iN r) F := by
  intro m
  induction m with
  | zero =>
    intro n r F hp hr hn h1 h2 hK
    obtain ⟨n, rfl⟩ : ∃ m, n = m + 1 := ⟨n - 1, by omega⟩
    obtain rfl : r = 25 := by omega
    rw [up_self h2] at hK
    rw [fX10_init_165.eq_2]
    exact ⟨fun _ => hK, fun w => absurd tb_le w⟩
  | succ m ih =>
    intro n r F hp hr hn h1 h2 hK
    obtain ⟨n, rfl⟩ : ∃ m, n = m + 1 := ⟨n - 1, by omega⟩
    have ne : q ≠ q1 := fun e => by rw [e, h2] at h1; cases h1
    have h2' : F q1 = tbC (25 * r + 1) := by rw [h2]; unfold tbC; rw [tbq_skip hr]
    rw [fX10_init_165.eq_2]
    refine ⟨fun w => absurd w (tb_nle (by omega)), fun _ => ?_⟩
    refine x10_173 hf hr (by omega) 24 FU 1 F (by omega) (by omega) (by have := FU_big; omega) h1 h2' ?_
    show fX10_init_165 Post n q (iN r + 1) _
    rw [iN_one]
    exact ih n (r + 1) _ (by omega) (by omega) (by omega) (by rw [up_ne ne]; exact h1) (by rw [up_eq, Nat.mul_succ]) (by rw [up_up]; exact hK)
theorem x10_tab {q q1 : Nat} {fs : List Value} (hf : fs[8]? = some (.ref q1)) (a1 : F q = .inr (9, fs)) (h : HpL (L1 ++ (q1, zI 0 625) :: L2) F) (K : ∀ F', HpL (L1 ++ (q1, cPn) :: L2) F' → Post F') : fX10_init_144 Post (fun (x0 : Nat) (F : Mem) => fX10_init_165 Post FU x0 1 F) FU q 0 F := by
  have a2 : F q1 = zI 0 625 := h.at
  have ne : q ≠ q1 := fun e => by rw [e, a2] at a1; cases a1
  refine x10_144 hf 25 FU 0 F (by omega) (by have := FU_big; omega) a1 (by rw [a2]; unfold tbC; rw [tbq_0]) ?_
  show fX10_init_165 Post FU q 1 _
  refine x10_165 hf 24 FU 1 _ (by omega) (by omega) (by have := FU_big; omega) (by rw [up_ne ne]; exact a1) (up_eq _ _ _) ?_
  rw [up_up]
  have g := h.put (c := tbC 625) (nj_l _)
  unfold tbC at g
  rw [tbq_all] at g
  unfold tbC
  rw [tbq_all]
  exact K _ g
end PNT
