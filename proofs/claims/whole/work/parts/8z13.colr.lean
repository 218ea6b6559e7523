section COLR
variable {A : Nat → Nat} {F : Mem}
theorem X10_ic8 {b bx ln : Nat} {fs : List Value} {M : Nat → Nat → Nat → Nat} {L : Nat → Nat → Nat} (h : isR F b fs bx ln M L) {k c x : Nat} (hk : k < 3) (hO : ∀ s, L k s ≤ 24) (h15 : L k 15 = 0) (hl : ∀ s d, d < L k s → M k s d < 100) (hc : c < 24) (hx : x < 100) (K : Nat → Int32 → Int32 → Int32 → Int32 → Mem → Option (Int32 × Mem)) : ∀ (m n r : Nat), r + m = 15 → m < n → fX10_insertByColumns_8 K n b (iN k) (iN x) (iN c) (iN r) F = K b (iN k) (iN x) (iN c) (iN (fnF (M k) (L k) c x m r)) F := by
  intro m
  induction m with
  | zero =>
    intro n r h1 h2
    obtain ⟨n, rfl⟩ : ∃ m, n = m + 1 := ⟨n - 1, by omega⟩
    have : r = 15 := by omega
    subst this
    rw [fX10_insertByColumns_8.eq_2, if_neg (by decide), gfR_at h.1 h.2.2.1, Option.bind_some, X10_rdL h hk (by omega), Option.bind_some, h15, if_pos ((iN_le (by omega) (by omega)).mpr (by omega))]
    rfl
  | succ m ih =>
    intro n r h1 h2
    obtain ⟨n, rfl⟩ : ∃ m, n = m + 1 := ⟨n - 1, by omega⟩
    have hOr := hO r
    unfold fnF
    rw [fX10_insertByColumns_8.eq_2, if_neg (show ¬ (24 : Int32) ≤ iN r from fun w => by have := (iN_le (a := 24) (by omega) (by omega)).mp w; omega), gfR_at h.1 h.2.2.1, Option.bind_some, X10_rdL h hk (by omega), Option.bind_some]
    by_cases q : c < L k r
    · have tl := hl r c q
      rw [if_neg (fun w => by have := (iN_le (by omega) (by omega)).mp w; omega), gfR_at h.1 h.2.1, Option.bind_some, X10_box, Option.bind_some]
      simp only
      rw [X10_rd h hk (by omega) (by omega), Option.bind_some]
      by_cases w : M k r c < x
      · rw [if_neg (fun v => by have := (iN_le (by omega) (by omega)).mp v; omega), if_pos ⟨q, w⟩, iN_one]
        exact ih n (r + 1) (by omega) (by omega)
      · rw [if_pos ((iN_le (by omega) (by omega)).mpr (by omega)), if_neg (fun v => w v.2)]
    · rw [if_pos ((iN_le (by omega) (by omega)).mpr (by omega)), if_neg (fun v => q v.1)]
theorem X10_ic5 {b bx ln : Nat} {fs : List Value} {M : Nat → Nat → Nat → Nat} {L : Nat → Nat → Nat} {O : Nat → Nat} {k : Nat} (hk : k < 3) (h15 : O 15 = 0) (h0 : O 0 < 23) (K : Nat → Int32 → Int32 → Mem → Option (Int32 × Mem)) : ∀ (m n : Nat) (T : Nat → Nat → Nat) (c x r0 : Nat) (F : Mem), okT T O → O 0 < c + m → m < n → c ≤ O 0 → inC T O c x r0 → x < 100 → (∀ s d, d < O s → T s d < 100) → isR F b fs bx ln (upK M k T) (upK L k O) → fX10_insertByColumns_5 K n b (iN k) (iN x) (iN c) F = K b (iN k) (iN (adC m T O c x).2.2) (va_up F bx (cM (upK M k (adC m T O c x).1))) := by
  intro m
  induction m with
  | zero => intro n T c x r0 F _ h1 _ h2; omega
  | succ m ih =>
    intro n T c x r0 F hT h1 h2 h3 hin hx hl h
    obtain ⟨n, rfl⟩ : ∃ m, n = m + 1 := ⟨n - 1, by omega⟩
    have FB := FU_big
    have hO : ∀ s, O s ≤ 24 := fun s => by have := par_le hT.1 (Nat.zero_le s); omega
    obtain ⟨i1, i2, i3, i4⟩ := fnF_ok (T := T) (c := c) (x := x) 15 0 h15
    have lf := inC_left (c := c) (x := x) hT h15 hin
    have e8 := X10_ic8 h hk (c := c) (x := x) (by rw [upK_at]; exact hO) (by rw [upK_at]; exact h15) (by rw [upK_at, upK_at]; exact hl) (by omega) hx (fun (x0 : Nat) (x1 : Int32) (x3 : Int32) (x4 : Int32) (x5 : Int32) (F : Mem) => fX10_insertByColumns_55 (fX10_insertByColumns_5 K n) K x0 x1 x3 x4 x5 F) 15 FU 0 (by omega) (by omega)
    rw [upK_at, upK_at] at e8
    unfold adC
    rw [fX10_insertByColumns_5.eq_2, il0]
    refine Eq.trans e8 ?_
    generalize fnF T O c x 15 0 = q at *
    have pl := par_le hT.1 (Nat.zero_le q)
    have hOq := hO q
    have rdl := X10_rdL h hk (show q < 24 by omega)
    have rdb := X10_rd h hk (show q < 24 by omega) (show c < 24 by omega)
    have wrb := X10_wr h hk (show q < 24 by omega) (show c < 24 by omega) x
    rw [upK_at] at rdl rdb wrb
    rw [upK_up] at wrb
    unfold fX10_insertByColumns_55 fX10_insertByColumns_77
    rw [gfR_at h.1 h.2.2.1, Option.bind_some, rdl, Option.bind_some]
    by_cases e : c < O q
    · have hT' : okT (upT T q c x) O := okT_put hT e (fun i hi => (i3 i (Nat.zero_le _) hi).2) (i4 e) (fun w => (lf w).2)
      have tl := hl q c e
      rw [if_pos ((iN_lt (by omega) (by omega)).mpr e), if_pos e, gfR_at h.1 h.2.1, Option.bind_some, X10_box, Option.bind_some]
      simp only
      rw [rdb, Option.bind_some, gfR_at h.1 h.2.1, Option.bind_some, X10_box, Option.bind_some]
      simp only
      rw [wrb, Option.bind_some, if_pos trivial, iN_one]
      refine Eq.trans (ih n (upT T q c x) (c + 1) (T q c) q _ hT' (by omega) (by omega) (by omega) (.inr ⟨e, ?_, fun w => ?_⟩) tl (fun s d hd => ?_) (isR_putM h)) ?_
      · show upT T q c x q c ≤ T q c
        rw [upT_at]; exact i4 e
      · rw [upT_ne (by omega)]; exact hT.2.1 q c w
      · by_cases e2 : s = q ∧ d = c
        · rw [e2.1, e2.2, upT_at]; exact hx
        · rw [upT_ne e2]; exact hl s d hd
      · rw [up_up]
    · have oc : O q = c := by
        by_cases w : c = 0
        · omega
        · have := (lf w).1
          omega
      rw [if_neg (fun w => e ((iN_lt (by omega) (by omega)).mp w)), if_neg e, gfR_at h.1 h.2.1, Option.bind_some, X10_box, Option.bind_some]
      simp only
      rw [rdb, Option.bind_some, gfR_at h.1 h.2.1, Option.bind_some, X10_box, Option.bind_some]
      simp only
      rw [wrb, Option.bind_some, if_neg ne10, oc]
theorem X10_insertByColumns {b bx ln : Nat} {fs : List Value} {M : Nat → Nat → Nat → Nat} {L : Nat → Nat → Nat} (h : isR F b fs bx ln M L) {k x : Nat} (hk : k < 3) (hT : okT (M k) (L k)) (h15 : L k 15 = 0) (h0 : L k 0 < 23) (hx : x < 100) (hl : ∀ s d, d < L k s → M k s d < 100) : mX10_insertByColumns F b (iN k) (iN x) = some (iN (adC 24 (M k) (L k) 0 x).2.2, va_up (va_up F bx (cM (upK M k (adC 24 (M k) (L k) 0 x).1))) ln (cL (upK L k (adC 24 (M k) (L k) 0 x).2.1))) := by
  have FB := FU_big
  have eM : upK M k (M k) = M := by
    funext j
    by_cases q : j = k
    · subst q; rw [upK_at]
    · rw [upK_ne q]
  have eL : upK L k (L k) = L := upK_same L k
  have hO : ∀ s, L k s < 24 := fun s => by have := par_le hT.1 (Nat.zero_le s); omega
  have ok := adC_ok (lo := 0) (hi := 99) 24 (M k) (L k) 0 x 0 hT h15 (by omega) (by omega) (.inl rfl) (by omega) (by omega) (fun s d hd => by have := hl s d hd; omega)
  unfold mX10_insertByColumns
  rw [il0]
  refine Eq.trans (X10_ic5 (M := M) (L := L) (O := L k) hk h15 h0 _ 24 FU (M k) 0 x 0 F hT (by omega) (by omega) (by omega) (.inl rfl) hx hl (by rw [eM, eL]; exact h)) ?_
  have h' := isR_putM (M' := upK M k (adC 24 (M k) (L k) 0 x).1) h
  have q15 := ok.2.2.1
  have hq := hO (adC 24 (M k) (L k) 0 x).2.2
  rw [ok.2.1]
  generalize (adC 24 (M k) (L k) 0 x).2.2 = q at *
  have rdl := X10_rdL h' hk (show q < 24 by omega)
  have wrl := X10_wrL h' hk (show q < 24 by omega) (L k q + 1)
  rw [gfR_at h'.1 h'.2.2.1, Option.bind_some, rdl, Option.bind_some, iN_one, wrl, Option.bind_some]
end COLR
