section FILR3
variable {A : Nat → Nat} {F : Mem} {S W : Nat → Nat → Nat} {N : Nat → Nat} {PT : Nat → Nat → Nat} {PO : Nat → Nat} {QT : Nat → Nat → Nat} {QO : Nat → Nat} {aw : Bool} {th : Int32}
/-- one letter's strips off all shapes -/
def stS (c : Nat) (M acc : List (Int64 × Int64)) : List (Int64 × Int64) := M.foldl (fun acc e => odL (decS e.1) c e.2 8 (fun _ => 0) acc) acc
theorem VLs_stS {n0 c : Nat} (hnc : n0 + c ≤ 16) : ∀ (M acc : List (Int64 × Int64)), (∀ x, x ∈ M.map Prod.fst → ∃ V, x = jN (cdF V 8 0) ∧ VSh (n0 + c) V) → VLs n0 acc → VLs n0 (stS c M acc) := by
  intro M
  induction M with
  | nil => intro acc _ h; exact h
  | cons e M ih =>
    intro acc h1 h2
    obtain ⟨V, e1, e2⟩ := h1 e.1 (by simp)
    have vle := VSh_le hnc e2
    show VLs n0 (stS c M (odL (decS e.1) c e.2 8 (fun _ => 0) acc))
    apply ih
    · intro x hx; exact h1 x (by simp only [List.map_cons, List.mem_cons]; exact Or.inr hx)
    · rw [e1, decS_cd (fun k => by have := vle k; omega) e2.2.1]
      exact VLs_odL e2 8 _ _ (Nat.le_refl _) (fun j _ _ => Nat.zero_le _) (fun j _ => rfl) h2
theorem val_stS {n0 c : Nat} (hnc : n0 + c ≤ 16) {cs : List Nat} : ∀ (M acc : List (Int64 × Int64)), (∀ x, x ∈ M.map Prod.fst → ∃ V, x = jN (cdF V 8 0) ∧ VSh (n0 + c) V) → valL cs (stS c M acc) = valL cs acc + valL (c :: cs) M := by
  intro M
  induction M with
  | nil => intro acc _; show valL cs acc = valL cs acc + 0; rw [Int64.add_zero]
  | cons e M ih =>
    intro acc h1
    obtain ⟨V, e1, e2⟩ := h1 e.1 (by simp)
    have vle := VSh_le hnc e2
    have h32 : ∀ k, V k < 32 := fun k => by have := vle k; omega
    have ed : decS e.1 = V := by rw [e1, decS_cd h32 e2.2.1]
    show valL cs (stS c M (odL (decS e.1) c e.2 8 (fun _ => 0) acc)) = _
    rw [ih _ (fun x hx => h1 x (by simp only [List.map_cons, List.mem_cons]; exact Or.inr hx)), ed, od_val h32 e2.2.1, dsm_bsum (fun k => by have := vle k; unfold KM; omega) 8 _ (Nat.le_refl _) (fun j _ _ => Nat.zero_le _)]
    simp only [valL]
    rw [ed]
    show valL cs acc + e.2 * jN (kos (c :: cs) V) + valL (c :: cs) M = _
    rw [Int64.add_assoc]
theorem R_fl173 (hA : Inj A) {M : List (Int64 × Int64)} {n0 c v : Nat} (hn : n0 < 17) (hc : c ≤ 16) (hnc : n0 + c ≤ 16) (hM : VLs (n0 + c) M) (hv : v < 17) (K : Nat → Int32 → Mem → Option (Int64 × Mem)) : ∀ (m n e : Nat) (F : Mem), e + m = M.length → m < n → NT A F th aw (stS c (M.take e) []) M → ar0 F (A 57) 9 → (∃ g, F (A 60) = .inl (0, 17, .inl g) ∧ g v = iN c) → ∃ F', fX10_fillings_173 K n (A 49) (iN v) (iN e) F = K (A 49) (iN v) F' ∧ NT A F' th aw (stS c M []) M ∧ ar0 F' (A 57) 9 ∧ Agr A [49, 57, 61, 62] F F' := by
  have hlen := VLs_len (show n0 + c < 17 by omega) hM
  intro m
  induction m with
  | zero =>
    intro n e F e1 e2 h h57 h60
    obtain ⟨n', rfl⟩ : ∃ n', n = n' + 1 := ⟨n - 1, by omega⟩
    have : e = M.length := by omega
    subst this
    rw [List.take_length] at h
    refine ⟨F, ?_, h, h57, Agr.refl A _ F⟩
    rw [fX10_fillings_173.eq_2, NT_od h, Option.bind_some, if_pos (Int32.le_refl _)]
  | succ m ih =>
    intro n e F e1 e2 h h57 h60
    obtain ⟨n', rfl⟩ : ∃ n', n = n' + 1 := ⟨n - 1, by omega⟩
    have he : e < M.length := by omega
    obtain ⟨V, b1, b2⟩ := hM.2 (M[e]).1 (List.mem_map.mpr ⟨M[e], List.getElem_mem he, rfl⟩)
    have vle := VSh_le hnc b2
    have hacc : VLs n0 (stS c (M.take e) []) := VLs_stS hnc (M.take e) [] (fun c hc => by
      obtain ⟨q, q1, q2⟩ := List.mem_map.mp hc
      exact hM.2 c (List.mem_map.mpr ⟨q, List.mem_of_mem_take q1, q2⟩)) ⟨List.nodup_nil, fun c hc => by simp at hc⟩
    obtain ⟨F1, a1, a2, a3, a4⟩ := R_strip hA (t := (M[e]).2) hn hc hnc b2 hacc h h57
    have es : odL V c (M[e]).2 8 (fun _ => 0) (stS c (M.take e) []) = stS c (M.take (e + 1)) [] := by
      rw [List.take_succ_eq_append_getElem he]
      unfold stS
      rw [List.foldl_append]
      show _ = odL (decS (M[e]).1) c (M[e]).2 8 _ _
      rw [b1, decS_cd (fun k => by have := vle k; omega) b2.2.1]
    rw [es] at a2
    obtain ⟨g, g1, g2⟩ := h60
    obtain ⟨F2, c1, c2, c3, c4⟩ := ih n' (e + 1) F1 (by omega) (by omega) a2 a3 ⟨g, (a4 60 (by omega) (by simp)).trans g1, g2⟩
    refine ⟨F2, ?_, c2, c3, a4.trans c4⟩
    obtain ⟨_, _, ⟨C, O, o1, o2, o3⟩⟩ := id h
    obtain ⟨fs, hob⟩ := rObj_ob (NT_obj h)
    rw [fX10_fillings_173.eq_2, NT_od h, Option.bind_some, if_neg (fun w => by have := (iN_le (by omega) (by omega)).mp w; omega), R_g17 (NT_obj h), Option.bind_some, rdJ_at o1 (by omega) (by omega), Option.bind_some, R_g12 (NT_obj h), Option.bind_some, rdI_at g1 (by omega) (by omega), Option.bind_some, R_g18 (NT_obj h), Option.bind_some, rdJ_at o2 (by omega) (by omega), Option.bind_some, hob, Option.bind_some, (o3 e he).1, (o3 e he).2, g2, b1, a1, Option.bind_some, iN_one]
    exact c1
/-- the counts that are there, the first letter's first -/
def csa (c : Nat → Nat) : Nat → Nat → List Nat
  | 0, _ => []
  | m + 1, v => if c v = 0 then csa c m (v + 1) else c v :: csa c m (v + 1)
theorem csa_perm (c : Nat → Nat) : ∀ m v, List.Perm (csa c m (v + 1) ++ csx c v) (csx c (v + m)) := by
  intro m
  induction m with
  | zero => intro v; exact List.Perm.refl _
  | succ m ih =>
    intro v
    have q := ih (v + 1)
    simp only [csa]
    simp only [csx] at q
    rw [show v + (m + 1) = v + 1 + m by omega]
    by_cases k : c (v + 1) = 0
    · rw [if_pos k]
      rw [if_pos k] at q
      exact q
    · rw [if_neg k]
      rw [if_neg k] at q
      exact List.Perm.trans (List.perm_middle.symm) q
theorem csa_sum (c : Nat → Nat) : ∀ m v, (csa c m v).sum = sumN (fun t => c (v + t)) m := by
  intro m
  induction m with
  | zero => intro v; rfl
  | succ m ih =>
    intro v
    simp only [csa]
    rw [sumN_shift]
    have : sumN (fun t => c (v + (t + 1))) m = sumN (fun t => c (v + 1 + t)) m := sumN_congr (fun t _ => by rw [show v + (t + 1) = v + 1 + t by omega])
    have e0 : c (v + 0) = c v := rfl
    rw [this, e0]
    by_cases k : c v = 0
    · rw [if_pos k, ih, k, Nat.zero_add]
    · rw [if_neg k, List.sum_cons, ih]
theorem R_fl149 (hA : Inj A) {c : Nat → Nat} (K : Nat → Mem → Option (Int64 × Mem)) : ∀ (m n v : Nat) (F : Mem) (L M : List (Int64 × Int64)), v + m = 17 → m < n → NT A F th aw L M → ar0 F (A 57) 9 → (∃ g, F (A 60) = .inl (0, 17, .inl g) ∧ ∀ v, v < 17 → g v = iN (c v)) → (csa c m v).sum ≤ 16 → VLs (csa c m v).sum L → ∃ F' L' M', fX10_fillings_149 K n (A 49) (iN v) F = K (A 49) F' ∧ NT A F' th aw L' M' ∧ VLs 0 L' ∧ valL [] L' = valL (csa c m v) L ∧ ar0 F' (A 57) 9 ∧ Agr A [49, 57, 61, 62, 63, 64] F F' := by
  have := FU_big
  intro m
  induction m with
  | zero =>
    intro n v F L M e1 e2 h h57 h60 hs hv
    obtain ⟨n', rfl⟩ : ∃ n', n = n' + 1 := ⟨n - 1, by omega⟩
    have : v = 17 := by omega
    subst this
    refine ⟨F, L, M, ?_, h, hv, rfl, h57, Agr.refl A _ F⟩
    rw [fX10_fillings_149.eq_2, if_pos (by decide)]
  | succ m ih =>
    intro n v F L M e1 e2 h h57 h60 hs hv
    obtain ⟨n', rfl⟩ : ∃ n', n = n' + 1 := ⟨n - 1, by omega⟩
    obtain ⟨g, g1, g2⟩ := id h60
    obtain ⟨fs, hob⟩ := rObj_ob (NT_obj h)
    simp only [csa] at hs hv ⊢
    rw [fX10_fillings_149.eq_2, if_neg (fun q => by have := (iN_le (a := 17) (by omega) (by omega)).mp q; omega), R_g12 (NT_obj h), Option.bind_some, rdI_at g1 (by omega) (by omega), Option.bind_some, g2 v (by omega)]
    by_cases k : c v = 0
    · rw [if_pos k] at hs hv ⊢
      obtain ⟨F', L', M', a1, a2⟩ := ih n' (v + 1) F L M (by omega) (by omega) h h57 h60 hs hv
      refine ⟨F', L', M', ?_, a2⟩
      rw [k, if_pos (by decide)]
      unfold fX10_fillings_213
      rw [iN_one]
      exact a1
    · rw [if_neg k] at hs hv ⊢
      rw [List.sum_cons, Nat.add_comm] at hs hv
      have hlen := VLs_len (by omega) hv
      obtain ⟨F1, a1, a2, a3⟩ := R_turnOver hA h hlen
      have k60 := (a3 60 (by omega) (by simp)).trans g1
      obtain ⟨F2, b1, b2, b3, b4⟩ := R_fl173 hA (n0 := (csa c m (v + 1)).sum) (c := c v) (v := v) (by omega) (by omega) hs hv (by omega) (fun (x0 : Nat) (x5 : Int32) (F : Mem) => fX10_fillings_213  (fX10_fillings_149  K n') K x0 x5 F) L.length FU 0 F1 (by omega) (by omega) a2 (ar0_fr a3 h57 (by omega) (by simp)) ⟨g, k60, g2 v (by omega)⟩
      have hv2 : VLs (csa c m (v + 1)).sum (stS (c v) L []) := VLs_stS hs L [] hv.2 ⟨List.nodup_nil, fun c hc => by simp at hc⟩
      obtain ⟨F3, L', M', c1, c2, c3, c4, c5, c6⟩ := ih n' (v + 1) F2 _ _ (by omega) (by omega) b2 b3 ⟨g, (b4 60 (by omega) (by simp)).trans k60, g2⟩ (by omega) hv2
      refine ⟨F3, L', M', ?_, c2, c3, ?_, c5, ((a3.mono (by simp)).trans (b4.mono (by simp))).trans c6⟩
      · have cv : c v ≤ 16 := by omega
        rw [if_neg (show ¬ iN (c v) ≤ 0 from fun q => by have := (iN_le (b := 0) (by omega) (by omega)).mp q; omega), hob, Option.bind_some, a1, Option.bind_some]
        refine Eq.trans b1 ?_
        unfold fX10_fillings_213
        rw [iN_one]
        exact c1
      · rw [c4, val_stS hs L [] hv.2]
        show 0 + _ = _
        rw [Int64.zero_add]
theorem R_fl48 (hA : Inj A) {x1 x2 : Int32} (K : Nat → Int32 → Int32 → Mem → Option (Int64 × Mem)) {f : Nat → Int32} : ∀ (m n i : Nat) (F : Mem), i + m = 17 → m < n → rObj A F th aw → F (A 60) = .inl (0, 17, .inl (fillF 0 i (fun _ => 0) f)) → fX10_fillings_48 K n (A 49) x1 x2 (iN i) F = K (A 49) x1 x2 (va_up F (A 60) (.inl (0, 17, .inl (fillF 0 17 (fun _ => 0) f)))) := by
  intro m
  induction m with
  | zero =>
    intro n i F h1 h2 ho h
    obtain ⟨n', rfl⟩ : ∃ n', n = n' + 1 := ⟨n - 1, by omega⟩
    have : i = 17 := by omega
    subst this
    rw [fX10_fillings_48.eq_2, if_pos (by decide), up_self h]
  | succ m ih =>
    intro n i F h1 h2 ho h
    obtain ⟨n', rfl⟩ : ∃ n', n = n' + 1 := ⟨n - 1, by omega⟩
    have k1 : Agr A [60] F (va_up F (A 60) (.inl (0, 17, .inl (fillF 0 (i + 1) (fun _ => 0) f)))) := (Agr.refl A _ F).up hA (by omega) (by simp)
    have e := ih n' (i + 1) _ (by omega) (by omega) (rObj_fr k1 ho (by simp)) (up_eq _ _ _)
    have e2 : wrI F (A 60) (iN i) 0 = some (va_up F (A 60) (.inl (0, 17, .inl (fillF 0 (i + 1) (fun _ => 0) f)))) := by
      have := fillF_s 0 i (fun _ => 0) f
      rw [Nat.zero_add] at this
      rw [wrI_at h (by omega) (by omega), this]
    rw [fX10_fillings_48.eq_2, if_neg (fun q => by have := (iN_le (a := 17) (b := i) (by omega) (by omega)).mp q; omega), R_g12 ho, Option.bind_some, e2, Option.bind_some, iN_one, e, up_up]
theorem R_fl69 (hA : Inj A) {x1 : Int32} {j n : Nat} {X : Nat → Nat} {fw fs : Nat → Int32} (hj : j < 2) (hn : n ≤ 16) (hX : ∀ i, i < n → 1 ≤ X i ∧ X i ≤ 16) (hfw : ∀ k, k < n → fw (16 * j + k) = iN (X k)) (hfs : fs j = iN n) (K : Nat → Int32 → Mem → Option (Int64 × Mem)) : ∀ (m fu i : Nat) (F : Mem) (f : Nat → Int32), i + m = n → m < fu → rObj A F th aw → F (A 51) = .inl (0, 32, .inl fw) → F (A 52) = .inl (0, 2, .inl fs) → F (A 60) = .inl (0, 17, .inl f) → (∀ v, v < 17 → f v = iN (cntL X v i)) → ∃ F', fX10_fillings_69 K fu (A 49) x1 (iN j) (iN i) F = K (A 49) x1 F' ∧ (∃ g, F' (A 60) = .inl (0, 17, .inl g) ∧ ∀ v, v < 17 → g v = iN (cntL X v n)) ∧ Agr A [60] F F' := by
  intro m
  induction m with
  | zero =>
    intro fu i F f h1 h2 ho h51 h52 h60 hf
    obtain ⟨f', rfl⟩ : ∃ f', fu = f' + 1 := ⟨fu - 1, by omega⟩
    have : i = n := by omega
    subst this
    refine ⟨F, ?_, ⟨f, h60, hf⟩, Agr.refl A _ F⟩
    rw [fX10_fillings_69.eq_2, R_g3 ho, Option.bind_some, rdI_at h52 (by omega) (by omega), hfs, Option.bind_some, if_pos (Int32.le_refl _)]
  | succ m ih =>
    intro fu i F f h1 h2 ho h51 h52 h60 hf
    obtain ⟨f', rfl⟩ : ∃ f', fu = f' + 1 := ⟨fu - 1, by omega⟩
    have hx := hX i (by omega)
    generalize hF1 : va_up F (A 60) (.inl (0, 17, .inl (upd f (X i) (iN (cntL X (X i) i + 1))))) = F1
    have k1 : Agr A [60] F F1 := by rw [← hF1]; exact (Agr.refl A _ F).up hA (by omega) (by simp)
    obtain ⟨F', a1, a2, a3⟩ := ih f' (i + 1) F1 (upd f (X i) (iN (cntL X (X i) i + 1))) (by omega) (by omega) (rObj_fr k1 ho (by simp)) ((k1 51 (by omega) (by simp)).trans h51) ((k1 52 (by omega) (by simp)).trans h52) (by rw [← hF1, up_eq]) (fun v hv => by
      simp only [cntL]
      by_cases c : v = X i
      · subst c; simp [upd]
      · rw [if_neg (fun e => c e.symm)]
        simp [upd, c, hf v hv])
    refine ⟨F', ?_, a2, k1.trans a3⟩
    rw [fX10_fillings_69.eq_2, R_g3 ho, Option.bind_some, rdI_at h52 (by omega) (by omega), hfs, Option.bind_some, if_neg (fun q => by have := (iN_le (by omega) (by omega)).mp q; omega), R_g12 ho, Option.bind_some, R_g2 ho, Option.bind_some, il16, iN_mul, iN_add, rdI_at h51 (by omega) (by omega), hfw i (by omega), Option.bind_some, rdI_at h60 (by omega) (by omega), hf _ (by omega), Option.bind_some, iN_one, wrI_at h60 (by omega) (by omega), hF1, Option.bind_some, iN_one]
    exact a1
theorem R_fl111 (ho : rObj A F th aw) (hs : rShp A F S) {i : Nat} (hi : i < 4) (hV : ∀ s, S i s ≤ 24) (K : Nat → Int64 → Mem → Option (Int64 × Mem)) : ∀ (k n m : Nat), k + m = 8 → k < n → fX10_fillings_111 K n (A 49) (iN i) (jN (cdF (S i) m k)) (iN k + (-1)) F = K (A 49) (jN (cdF (S i) 8 0)) F := by
  obtain ⟨fs, hob⟩ := rObj_ob ho
  have slt : ∀ k, S i k < 32 := fun k => by have := hV k; omega
  intro k
  induction k with
  | zero =>
    intro n m e1 e2
    obtain ⟨n', rfl⟩ : ∃ n', n = n' + 1 := ⟨n - 1, by omega⟩
    have : m = 8 := by omega
    subst this
    rw [fX10_fillings_111.eq_2, if_pos (by decide)]
  | succ k ih =>
    intro n m e1 e2
    obtain ⟨n', rfl⟩ : ∃ n', n = n' + 1 := ⟨n - 1, by omega⟩
    have q := ih n' (m + 1) (by omega) (by omega)
    have clt : cdF (S i) m (k + 1) < 2 ^ 50 := by
      have := cdF_lt slt m (k + 1)
      have : 32 ^ m ≤ 32 ^ 8 := Nat.pow_le_pow_right (by omega) (by omega)
      have : (32 : Nat) ^ 8 < 2 ^ 50 := by decide
      omega
    rw [fX10_fillings_111.eq_2, iN_pred, if_neg (iN_neg (by omega)), hob, Option.bind_some, R_rowOf ho hs hi (by omega), Option.bind_some]
    dsimp only
    rw [j_shl5 clt (slt k)]
    exact q
theorem R_fillings (hA : Inj A) (h : RR A F S W N PT PO QT QO aw th) (hS : ∀ i, i < 4 → okS (S i)) (hN : ∀ i, i < 2 → N i ≤ 16) (hW : ∀ i, i < 2 → ∀ k, k < N i → 1 ≤ W i k ∧ W i k ≤ 16) {i j : Nat} (hi : i < 4) (hj : j < 2) : (N j = boxes (S i) 8 → ∃ F', mX10_fillings F (A 49) (iN i) (iN j) = some (jN (kos (csx (fun y => cntL (W j) y (N j)) 16) (S i)), F') ∧ RR A F' S W N PT PO QT QO aw 0 ∧ Agr A RTs F F') ∧ (N j ≠ boxes (S i) 8 → ∃ F', mX10_fillings F (A 49) (iN i) (iN j) = some (0, F') ∧ RR A F' S W N PT PO QT QO aw 0 ∧ Agr A RTs F F') := by
  have := FU_big
  obtain ⟨F1, e, h', k⟩ := RR_th hA h 0
  obtain ⟨fs, hob⟩ := rObj_ob h'.1
  have bi := (hS i hi).2.2
  have nj := hN j hj
  obtain ⟨⟨fw, w1, w2⟩, sz, z1, z2⟩ := h'.2.2.1
  have k' := k.mono (U := RTs) (RTs_of (fun t q => by simp at q; omega))
  have st : mX10_fillings F (A 49) (iN i) (iN j) = if N j = boxes (S i) 8 then (fX10_fillings_48  (fun (x0 : Nat) (x1 : Int32) (x2 : Int32) (F : Mem) => fX10_fillings_69  (fun (x0 : Nat) (x1 : Int32) (F : Mem) => fX10_fillings_111  (fun (x0 : Nat) (x3 : Int64) (F : Mem) => (pf F x0 9 13 (.int 0)).bind fun F137 => (obj F137 x0 9).bind fun _ => (mX10_note F137 x0 x3 1).bind fun v143 => fX10_fillings_149  (fun (x0 : Nat) (F : Mem) => (gfI F x0 9 13).bind fun v220 => if v220 = 0 then (some (0, F)) else ((gfR F x0 9 15).bind fun v231 => (rdJ F v231 0).bind fun v235 => some (v235, F))) FU x0 1 v143) FU x0 x1 0 7 F) FU x0 x1 x2 0 F) FU (A 49) (iN i) (iN j) (iN 0) F1) else some (0, F1) := by
    unfold mX10_fillings
    rw [R_slot hi, Option.bind_some, if_neg ne10, R_word hj, Option.bind_some, if_neg ne10]
    unfold fX10_fillings_20
    rw [e, Option.bind_some, rObj_th h'.1, Option.bind_some, if_neg (by decide), R_g3 h'.1, Option.bind_some, rdI_at z1 hj (by omega), z2 j hj, Option.bind_some, hob, Option.bind_some, R_boxesOf h'.1 h'.2.1 hi, Option.bind_some]
    by_cases c : N j = boxes (S i) 8
    · rw [if_pos c, if_pos (by rw [c])]
      rfl
    · rw [if_neg c, if_neg (fun q => c ((iN_inj (by omega) (by omega)).mp q))]
  refine ⟨fun c => ?_, fun c => ⟨F1, by rw [st, if_neg c], h', k'⟩⟩
  rw [st, if_pos c]
  obtain ⟨wk1, wk2, wk3, wk4, wk5, ⟨f60, wk6⟩, wk7, wk8, wk9, wk10, wk11⟩ := id h'.2.2.2.2
  generalize hF2 : va_up F1 (A 60) (.inl (0, 17, .inl (fillF 0 17 (fun _ => 0) f60))) = F2
  have k2 : Agr A [60] F1 F2 := by rw [← hF2]; exact (Agr.refl A _ F1).up hA (by omega) (by simp)
  have o2 := rObj_fr k2 h'.1 (by simp)
  obtain ⟨F3, a1, ⟨g, g1, g2⟩, a3⟩ := R_fl69 hA (x1 := iN i) (X := W j) (fw := fw) (fs := sz) hj nj (hW j hj) (fun k hk => w2 j k hj hk) (z2 j hj) (fun (x0 : Nat) (x1 : Int32) (F : Mem) => fX10_fillings_111  (fun (x0 : Nat) (x3 : Int64) (F : Mem) => (pf F x0 9 13 (.int 0)).bind fun F137 => (obj F137 x0 9).bind fun _ => (mX10_note F137 x0 x3 1).bind fun v143 => fX10_fillings_149  (fun (x0 : Nat) (F : Mem) => (gfI F x0 9 13).bind fun v220 => if v220 = 0 then (some (0, F)) else ((gfR F x0 9 15).bind fun v231 => (rdJ F v231 0).bind fun v235 => some (v235, F))) FU x0 1 v143) FU x0 x1 0 7 F) (N j) FU 0 F2 (fillF 0 17 (fun _ => 0) f60) (by omega) (by omega) o2 ((k2 51 (by omega) (by simp)).trans w1) ((k2 52 (by omega) (by simp)).trans z1) (by rw [← hF2, up_eq]) (fun v hv => by rw [fillF_in (by omega)]; rfl)
  have k3 : Agr A [60] F1 F3 := k2.trans a3
  have o3 := rObj_fr k3 h'.1 (by simp)
  have hw3 : rWk A F3 := ⟨ar0_fr k3 wk1 (by omega) (by simp), (k3 _ (by omega) (by simp)).trans wk2, ar0_fr k3 wk3 (by omega) (by simp), ar0_fr k3 wk4 (by omega) (by simp), ar0_fr k3 wk5 (by omega) (by simp), ⟨g, g1⟩, ar1_fr k3 wk7 (by omega) (by simp), ar1_fr k3 wk8 (by omega) (by simp), ar1_fr k3 wk9 (by omega) (by simp), ar1_fr k3 wk10 (by omega) (by simp), ar0_fr k3 wk11 (by omega) (by simp)⟩
  obtain ⟨F4, M, b1, b2, b3⟩ := NT_start hA o3 hw3
  obtain ⟨fs4, hob4⟩ := rObj_ob (NT_obj b2)
  obtain ⟨F5, c1, c2, c3⟩ := R_note hA b2 (by simp) (jN (cdF (S i) 8 0)) 1
  have hn5 : noteL [] (jN (cdF (S i) 8 0)) 1 = [(jN (cdF (S i) 8 0), 1)] := rfl
  rw [hn5] at c2
  have k5 : Agr A [49, 60, 61, 62] F1 F5 := ((k3.mono (by simp)).trans (b3.mono (by simp))).trans (c3.mono (by simp))
  have csum : (csa (fun y => cntL (W j) y (N j)) 16 1).sum = N j := by
    rw [csa_sum]
    exact Eq.trans (sumN_congr (fun y _ => by rw [Nat.add_comm])) (cntL_all (hW j hj))
  have vsh : VSh (N j) (S i) := ⟨(hS i hi).1, (hS i hi).2.1, c.symm⟩
  have s32 : ∀ k, S i k < 32 := fun k => by have := okS_le (hS i hi) k; omega
  obtain ⟨F6, L', M', d1, d2, d3, d4, d5, d6⟩ := R_fl149 hA (c := fun y => cntL (W j) y (N j)) (fun (x0 : Nat) (F : Mem) => (gfI F x0 9 13).bind fun v220 => if v220 = 0 then (some (0, F)) else ((gfR F x0 9 15).bind fun v231 => (rdJ F v231 0).bind fun v235 => some (v235, F))) 16 FU 1 F5 _ _ (by omega) (by omega) c2 (ar0_fr k5 wk3 (by omega) (by simp)) ⟨g, ((c3 60 (by omega) (by simp)).trans (b3 60 (by omega) (by simp))).trans g1, g2⟩ (by rw [csum]; exact nj) (by rw [csum]; exact ⟨by simp, fun c hc => by simp at hc; exact ⟨S i, hc, vsh⟩⟩)
  have kk : Agr A [49, 57, 60, 61, 62, 63, 64] F1 F6 := (k5.mono (by simp)).trans (d6.mono (by simp))
  have vfin : valL [] L' = jN (kos (csx (fun y => cntL (W j) y (N j)) 16) (S i)) := by
    rw [d4]
    simp only [valL]
    rw [decS_cd s32 (hS i hi).2.1, Int64.add_zero, Int64.one_mul]
    have p := csa_perm (fun y => cntL (W j) y (N j)) 16 0
    simp only [csx, List.append_nil, Nat.zero_add] at p
    rw [kos_perm p (hS i hi).1 (hS i hi).2.1 (fun k => by have := okS_le (hS i hi) k; unfold KM; omega)]
    rfl
  have hw6 : rWk A F6 := by
    obtain ⟨n1, ⟨C, O, n2, n3, n4⟩, ⟨C', O', n5, n6, n7⟩⟩ := id d2
    exact ⟨ar0_fr kk wk1 (by omega) (by simp), (kk _ (by omega) (by simp)).trans wk2, d5, ar0_fr kk wk4 (by omega) (by simp), ar0_fr kk wk5 (by omega) (by simp), ⟨g, ((d6 60 (by omega) (by simp)).trans ((c3 60 (by omega) (by simp)).trans (b3 60 (by omega) (by simp)))).trans g1⟩, ⟨C, n2⟩, ⟨O, n3⟩, ⟨C', n5⟩, ⟨O', n6⟩, ar0_fr kk wk11 (by omega) (by simp)⟩
  refine ⟨F6, ?_, ⟨NT_obj d2, rShp_fr kk h'.2.1 (by simp), rWrd_fr kk h'.2.2.1 (by simp), rTab_fr kk h'.2.2.2.1 (by simp), hw6⟩, k'.trans (kk.mono (RTs_of (fun t q => by simp at q; omega)))⟩
  refine Eq.trans (R_fl48 hA (x1 := iN i) (x2 := iN j) _ (f := f60) 17 FU 0 F1 (by omega) (by omega) h'.1 (by rw [fillF_z]; exact wk6)) ?_
  rw [hF2]
  refine Eq.trans a1 ?_
  have e7 := R_fl111 o3 (rShp_fr k3 h'.2.1 (by simp)) hi (okS_le (hS i hi)) (fun (x0 : Nat) (x3 : Int64) (F : Mem) => (pf F x0 9 13 (.int 0)).bind fun F137 => (obj F137 x0 9).bind fun _ => (mX10_note F137 x0 x3 1).bind fun v143 => fX10_fillings_149  (fun (x0 : Nat) (F : Mem) => (gfI F x0 9 13).bind fun v220 => if v220 = 0 then (some (0, F)) else ((gfR F x0 9 15).bind fun v231 => (rdJ F v231 0).bind fun v235 => some (v235, F))) FU x0 1 v143) 8 FU 0 (by omega) (by omega)
  refine Eq.trans e7 ?_
  rw [b1, Option.bind_some, hob4, Option.bind_some, c1, Option.bind_some]
  refine Eq.trans d1 ?_
  rw [NT_cd d2, Option.bind_some]
  have zc : ∀ V, VSh 0 V → cdF V 8 0 = 0 := by
    intro V hV
    have z : ∀ k, V k = 0 := fun k => by have := VSh_le (by omega) hV k; omega
    rw [cdF_cong (U := fun _ => 0) 8 0 (fun k _ _ => z k)]
    rfl
  match L', d2, d3, vfin with
  | [], d2, d3, vfin =>
    show (if iN 0 = 0 then _ else _) = _
    rw [if_pos (show iN 0 = 0 from rfl), ← vfin]
    rfl
  | [e1], d2, d3, vfin =>
    obtain ⟨n1, ⟨C, O, n2, n3, n4⟩, n5⟩ := id d2
    rw [if_neg (show ¬ iN [e1].length = 0 from (by decide : ¬ iN 1 = 0)), R_g15 (NT_obj d2), Option.bind_some, il0, rdJ_at n3 (by omega) (by omega), Option.bind_some, (n4 0 (by simp)).2, ← vfin]
    obtain ⟨V, v1, v2⟩ := d3.2 e1.1 (by simp)
    have vz : decS e1.1 = V := by rw [v1, decS_cd (fun k => by have := VSh_le (by omega) v2 k; omega) v2.2.1]
    simp only [valL]
    rw [vz]
    show some (e1.2, F6) = some (e1.2 * jN (if boxes V 8 = 0 then 1 else 0) + 0, F6)
    rw [if_pos v2.2.2, Int64.add_zero]
    show _ = some (e1.2 * 1, F6)
    rw [Int64.mul_one]
  | e1 :: e2 :: L2, d2, d3, vfin =>
    exfalso
    obtain ⟨V, v1, v2⟩ := d3.2 e1.1 (by simp)
    obtain ⟨U, u1, u2⟩ := d3.2 e2.1 (by simp)
    have := d3.1
    simp only [List.map_cons, List.nodup_cons, List.mem_cons, not_or] at this
    exact this.1.1 (by rw [v1, u1, zc V v2, zc U u2])
theorem R_fillings_no (hA : Inj A) (h : RR A F S W N PT PO QT QO aw th) {x y : Int32} (hy : (x < 0 ∨ (¬ x < 0 ∧ iN 4 ≤ x)) ∨ ((∃ i, i < 4 ∧ x = iN i) ∧ (y < 0 ∨ (¬ y < 0 ∧ iN 2 ≤ y)))) : ∃ F', RR A F' S W N PT PO QT QO aw 1 ∧ Agr A RTs F F' ∧ mX10_fillings F (A 49) x y = some (0, F') := by
  obtain ⟨F', e, h', k⟩ := RR_th hA h 1
  refine ⟨F', h', k.mono (RTs_of (fun t q => by simp at q; omega)), ?_⟩
  have bad : fX10_fillings_20 (A 49) x y (A 49) 1 F = some (0, F') := by
    unfold fX10_fillings_20
    rw [e, Option.bind_some, rObj_th h'.1, Option.bind_some, if_pos (by decide)]
  unfold mX10_fillings
  rcases hy with q | ⟨⟨i, hi, rfl⟩, q⟩
  · rw [R_noslot q, Option.bind_some, if_pos rfl, bad]
  · rw [R_slot hi, Option.bind_some, if_neg ne10, R_noword q, Option.bind_some, if_pos rfl, bad]
end FILR3
