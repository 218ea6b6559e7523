section TURNM
theorem iN_pred (k : Nat) : iN (k + 1) + (-1) = iN k := by
  rw [← iN_add, Int32.add_assoc, show iN 1 + (-1) = (0 : Int32) from by decide, Int32.add_zero]
theorem cpI_at {F : Mem} {a b n1 n2 sp dp n : Nat} {f g : Nat → Int32} (ha : F a = .inl (0, n1, .inl f)) (hb : F b = .inl (0, n2, .inl g)) (h1 : sp + n ≤ n1) (h2 : dp + n ≤ n2) (h3 : n1 < 2 ^ 31) (h4 : n2 < 2 ^ 31) : cpI F a (iN sp) b (iN dp) (iN n) = some (va_up F b (.inl (0, n2, .inl (va_cpy f g sp dp n)))) := by
  simp only [cpI, arI_of ha, arI_of hb, Option.bind_some, iN_neg (show sp < 2 ^ 31 by omega), iN_neg (show dp < 2 ^ 31 by omega), iN_neg (show n < 2 ^ 31 by omega), iN_nat (show sp < 2 ^ 31 by omega), iN_nat (show dp < 2 ^ 31 by omega), iN_nat (show n < 2 ^ 31 by omega), h1, h2, not_false_eq_true, decide_true, Bool.and_self, if_true]
def mixT (T T' : Nat → Nat → Nat) : Nat → Nat → Nat := fun s d => if s < 16 then T s d else T' s d
theorem cpyO {O O' : Nat → Nat} (hN : ∀ s, 16 ≤ s → O s = 0) (hN' : ∀ s, 16 ≤ s → O' s = 0) : va_cpy (fun r => iN (O r)) (fun r => iN (O' r)) 0 0 16 = fun r => iN (O r) := by
  funext j
  by_cases k : j < 16
  · rw [pk_cpy_in (Nat.zero_le _) (by omega)]
    simp
  · rw [pk_cpy_out (Or.inr (by omega)), hN' j (by omega), hN j (by omega)]
theorem cpyT (T T' : Nat → Nat → Nat) : va_cpy (fun i => iN (T (i / 24) (i % 24))) (fun i => iN (T' (i / 24) (i % 24))) 0 0 384 = fun i => iN (mixT T T' (i / 24) (i % 24)) := by
  funext j
  by_cases k : j < 384
  · rw [pk_cpy_in (Nat.zero_le _) (by omega)]
    simp only [mixT, if_pos (show j / 24 < 16 by omega), Nat.zero_add, Nat.sub_zero]
  · rw [pk_cpy_out (Or.inr (by omega))]
    simp only [mixT, if_neg (show ¬ j / 24 < 16 by omega)]
theorem X7_copyFrom {F : Mem} {a la ta b lb tb : Nat} {T T' : Nat → Nat → Nat} {O O' : Nat → Nat} (h : isT F a la ta T O) (h' : isT F b lb tb T' O') (hN : ∀ s, 16 ≤ s → O s = 0) (hN' : ∀ s, 16 ≤ s → O' s = 0) (hl : la ≠ lb) : mX7_copyFrom F b a = some (va_up (va_up F lb (cO O)) tb (cT (mixT T T'))) := by
  have e1 := cpI_at (sp := 0) (dp := 0) (n := 16) h.2.1 h'.2.1 (by omega) (by omega) (by omega) (by omega)
  rw [cpyO hN hN'] at e1
  simp only [mX7_copyFrom]
  rw [gfR_at (v := la) h.1 rfl]
  simp only [Option.bind_some]
  rw [gfR_at (v := lb) h'.1 rfl]
  simp only [Option.bind_some]
  rw [show (0 : Int32) = iN 0 from rfl, show (16 : Int32) = iN 16 from rfl, show (384 : Int32) = iN 384 from rfl, e1]
  simp only [Option.bind_some]
  have h2 := isT_putO (O' := O) h'
  have na : a ≠ lb := fun q => by have := h.1; rw [q, h'.2.1] at this; cases this
  have nt : ta ≠ lb := fun q => by have := h.2.2; rw [q, h'.2.1] at this; cases this
  have a1 : va_up F lb (cO O) a = .inr (6, [.ref la, .ref ta]) := by rw [up_ne na]; exact h.1
  have a3 : va_up F lb (cO O) ta = cT T := by rw [up_ne nt]; exact h.2.2
  rw [gfR_at (v := ta) a1 rfl]
  simp only [Option.bind_some]
  rw [gfR_at (v := tb) h2.1 rfl]
  simp only [Option.bind_some]
  have e2 := cpI_at (sp := 0) (dp := 0) (n := 384) a3 h2.2.2 (by omega) (by omega) (by omega) (by omega)
  rw [cpyT] at e2
  rw [e2]
  rfl
theorem fil_lets {T : Nat → Nat → Nat} {O : Nat → Nat} {n : Nat} {w : List Nat} (hN : ∀ s, 16 ≤ s → O s = 0) (hw : ∀ a ∈ w, 1 ≤ a ∧ a ≤ n) (hn : n < 100) (hK : ∀ x, x ∈ rdF (tabS T I0 O) 0 16 → x ∈ w) (s d : Nat) (hd : d < O s) : 1 ≤ T s d ∧ T s d < 100 := by
  have seg_in : ∀ (f : Nat → Nat) (n a i : Nat), a ≤ i → i < a + n → f i ∈ seg f a n := by
    intro f n
    induction n with
    | zero => intro a i h1 h2; omega
    | succ n ih =>
      intro a i h1 h2
      by_cases k : i = a
      · subst k; exact List.mem_cons_self
      · exact List.mem_cons_of_mem _ (ih (a + 1) i (by omega) (by omega))
  have rd_in : ∀ (T : Tab) (x : Nat) (N k s : Nat), k ≤ s → s < k + N → x ∈ T s → x ∈ rdF T k N := by
    intro T x N
    induction N with
    | zero => intro k s h1 h2; omega
    | succ N ih =>
      intro k s h1 h2 h3
      by_cases k' : s = k
      · subst k'; exact List.mem_append_right _ h3
      · exact List.mem_append_left _ (ih (k + 1) s (by omega) (by omega) h3)
  have hs : s < 16 := by
    by_cases q : s < 16
    · exact q
    · have := hN s (by omega); omega
  have := hw _ (hK _ (rd_in (tabS T I0 O) (T s d) 16 0 s (Nat.zero_le _) (by omega) (seg_in _ _ _ d (Nat.zero_le _) (by simpa using hd))))
  omega
/-- the class's turn: its loop -/
theorem X9_turn39 {K : Nat → Mem → Option ((String ⊕ Unit) × Mem)} {b p lp tp w' lw tw n : Nat} {fs : List Value} {O0 : Nat → Nat} {w : List Nat} (hf2 : fs[2]? = some (.ref p)) (hf5 : fs[5]? = some (.ref w')) (hn : n < 100) (hw : ∀ a ∈ w, 1 ≤ a ∧ a ≤ n) (hall : ∀ a, 1 ≤ a → a ≤ n → a ∈ w) (hnd : w.Nodup) (htt : tw ≠ tp) (hlt : lw ≠ lp) : ∀ (k m i : Nat) (F : Mem) (T : Nat → Nat → Nat) (O : Nat → Nat) (E : Nat → Nat → Nat), i + k = n → k < m → F b = .inr (8, fs) → isT F w' lw tw T O → isT F p lp tp E O0 → (∀ s, O s ≤ 24) → (∀ s, 16 ≤ s → O s = 0) → fil T I0 O → KQ (gtf i w) (rdF (tabS T I0 O) 0 16) → fX9_turn_39 K m b (iN k) F = K b (va_up (va_up (va_up F tw (cT (evF k T O E).1)) lw (cO (evF k T O E).2.1)) tp (cT (evF k T O E).2.2)) := by
  intro k
  induction k with
  | zero =>
    intro m i F T O E hik hm hb hW hP hC hN hf hK
    obtain ⟨m', rfl⟩ : ∃ m', m = m' + 1 := ⟨m - 1, by omega⟩
    rw [fX9_turn_39.eq_2, if_pos (by decide)]
    show K b F = K b (va_up (va_up (va_up F tw (cT T)) lw (cO O)) tp (cT E))
    rw [up_self hW.2.2, up_self hW.2.1, up_self hP.2.2]
  | succ k ih =>
    intro m i F T O E hik hm hb hW hP hC hN hf hK
    obtain ⟨m', rfl⟩ : ∃ m', m = m' + 1 := ⟨m - 1, by omega⟩
    obtain ⟨T', r', c', e1, e2, e3, e4⟩ := evac_one (n := 40) (C := 24) hC hN (by omega) hf hK hnd (hall (i + 1) (by omega) (by omega))
    have hN' : ∀ s, 16 ≤ s → upL O r' c' s = 0 := fun s hs => by
      have q : s ≠ r' := fun q => by subst q; have := hN s hs; omega
      rw [upL_ne q]; exact hN s hs
    have hC' : ∀ s, upL O r' c' s ≤ 24 := fun s => by
      by_cases q : s = r'
      · subst q; rw [upL_at]; have := hC s; omega
      · rw [upL_ne q]; exact hC s
    have hr16 : r' < 16 := by
      by_cases q : r' < 16
      · exact q
      · have := hN r' (by omega); omega
    have hO0 : 0 < O 0 := by have := hf.2.1 0 r' (Nat.zero_le _); omega
    have sk : skw T I0 O 0 0 := ⟨hf.1, hf.2.1, hf.2.2.1, Nat.zero_le _, hO0, fun s d e a1 a2 a3 _ _ => hf.2.2.2.1 s d e a1 a2 a3, fun s t d a1 a2 a3 _ _ => hf.2.2.2.2 s t d a1 a2 a3⟩
    have ll : lets T I0 O 0 0 := fun s d _ hd _ => fil_lets hN hw hn (fun x hx => (List.mem_filter.mp ((KQ_mem hK x).mpr hx)).1) s d hd
    obtain ⟨T2, r2, c2, g1, -, -, -, -, g6⟩ := X7_slideInto hC hN hW sk ll
    rw [e1] at g1
    cases g1
    rw [fX9_turn_39.eq_2, if_neg (fun q => by have := (iN_lt (a := k + 1) (b := 1) (by omega) (by omega)).mp q; omega), gfR_at (v := w') hb hf5]
    simp only [Option.bind_some]
    rw [obj_of hW.1]
    simp only [Option.bind_some]
    rw [show (0 : Int32) = iN 0 from rfl, g6]
    simp only [Option.bind_some]
    generalize hF1 : va_up (va_up F tw (cT T')) lw (cO (upL O r' c')) = F1
    have bt : b ≠ tw := fun q => by rw [q, hW.2.2] at hb; cases hb
    have bl : b ≠ lw := fun q => by rw [q, hW.2.1] at hb; cases hb
    have btp : b ≠ tp := fun q => by rw [q, hP.2.2] at hb; cases hb
    have pt : p ≠ tw := fun q => by have := hP.1; rw [q, hW.2.2] at this; cases this
    have pl : p ≠ lw := fun q => by have := hP.1; rw [q, hW.2.1] at this; cases this
    have lt : lp ≠ tw := fun q => by have := hP.2.1; rw [q, hW.2.2] at this; cases this
    have tl : tp ≠ lw := fun q => by have := hP.2.2; rw [q, hW.2.1] at this; cases this
    have wtp : w' ≠ tp := fun q => by have := hW.1; rw [q, hP.2.2] at this; cases this
    have hb1 : F1 b = .inr (8, fs) := by rw [← hF1, up_ne bl, up_ne bt]; exact hb
    have hW1 : isT F1 w' lw tw T' (upL O r' c') := by rw [← hF1]; exact isT_putO (isT_putT hW)
    have hP1 : isT F1 p lp tp E O0 := by
      rw [← hF1]
      exact ⟨by rw [up_ne pl, up_ne pt]; exact hP.1, by rw [up_ne (Ne.symm hlt), up_ne lt]; exact hP.2.1, by rw [up_ne tl, up_ne (Ne.symm htt)]; exact hP.2.2⟩
    rw [gfR_at (v := p) hb1 hf2]
    simp only [Option.bind_some]
    rw [gfR_at (v := w') hb1 hf5]
    simp only [Option.bind_some]
    rw [gfR_at (v := lw) hW1.1 rfl]
    simp only [Option.bind_some]
    rw [rdI_at hW1.2.1 hr16 (by omega)]
    simp only [Option.bind_some]
    rw [obj_of hP1.1]
    simp only [Option.bind_some]
    have hcr := hC r'
    rw [upL_at, X7_put hP1 hr16 (by omega)]
    simp only [Option.bind_some]
    rw [iN_pred]
    have hb2 : va_up F1 tp (cT (upT E r' c' (k + 1))) b = .inr (8, fs) := by rw [up_ne btp]; exact hb1
    have hW2 : isT (va_up F1 tp (cT (upT E r' c' (k + 1)))) w' lw tw T' (upL O r' c') := ⟨by rw [up_ne wtp]; exact hW1.1, by rw [up_ne (Ne.symm tl)]; exact hW1.2.1, by rw [up_ne htt]; exact hW1.2.2⟩
    rw [ih m' (i + 1) _ T' (upL O r' c') (upT E r' c' (k + 1)) (by omega) (by omega) hb2 hW2 (isT_putT hP1) hC' hN' e3 e4]
    simp only [evF, e1]
    congr 1
    rw [← hF1]
    funext x
    by_cases x1 : x = tp
    · subst x1; rw [up_eq, up_eq]
    · rw [up_ne x1, up_ne x1]
      by_cases x2 : x = lw
      · subst x2; rw [up_eq, up_eq]
      · rw [up_ne x2, up_ne x2]
        by_cases x3 : x = tw
        · subst x3; rw [up_eq, up_eq]
        · rw [up_ne x3, up_ne x3, up_ne x1, up_ne x2, up_ne x3]
end TURNM
