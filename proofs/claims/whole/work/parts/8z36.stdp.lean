section STDP
theorem nd_len : ∀ (n : Nat) (w : List Nat), w.Nodup → (∀ x, x ∈ w → 1 ≤ x ∧ x ≤ n) → w.length ≤ n := by
  intro n
  induction n with
  | zero =>
    intro w _ h
    cases w with
    | nil => exact Nat.le_refl _
    | cons a l => have := h a List.mem_cons_self; omega
  | succ n ih =>
    intro w hn h
    by_cases q : n + 1 ∈ w
    · have a := ih (w.erase (n + 1)) (hn.erase _) (fun x hx => by
        obtain ⟨x1, x2⟩ := (List.Nodup.mem_erase_iff hn).mp hx
        have := h x x2
        omega)
      rw [List.length_erase_of_mem q] at a
      omega
    · have a := ih w hn (fun x hx => by
        have := h x hx
        have : x ≠ n + 1 := fun e => q (e ▸ hx)
        omega)
      omega
theorem cover_std : ∀ (n : Nat) (w : List Nat), w.length = n → (∀ x, 1 ≤ x → x ≤ n → x ∈ w) → w.Nodup ∧ ∀ x, x ∈ w → 1 ≤ x ∧ x ≤ n := by
  intro n
  induction n with
  | zero =>
    intro w h _
    have : w = [] := List.eq_nil_of_length_eq_zero h
    subst this
    exact ⟨List.nodup_nil, fun x hx => by cases hx⟩
  | succ n ih =>
    intro w h hc
    have q := hc (n + 1) (by omega) (Nat.le_refl _)
    have l := List.length_erase_of_mem q
    obtain ⟨a1, a2⟩ := ih (w.erase (n + 1)) (by omega) (fun x x1 x2 => (List.mem_erase_of_ne (by omega)).mpr (hc x x1 (by omega)))
    have p := List.perm_cons_erase q
    have nd : ((n + 1) :: w.erase (n + 1)).Nodup := List.nodup_cons.mpr ⟨fun m => by have := a2 _ m; omega, a1⟩
    refine ⟨p.nodup_iff.mpr nd, fun x hx => ?_⟩
    have hx' := p.mem_iff.mp hx
    rcases List.mem_cons.mp hx' with e | e
    · omega
    · have := a2 x e
      omega
/-- the numbers from 1 on, each once -/
def stdL (w : List Nat) : Prop := w.Nodup ∧ ∀ x, x ∈ w → 1 ≤ x ∧ x ≤ w.length
theorem stdL_iff (w : List Nat) : stdL w ↔ ∀ x, x ∈ w ↔ 1 ≤ x ∧ x ≤ w.length := by
  constructor
  · intro ⟨h1, h2⟩ x
    refine ⟨h2 x, fun hx => ?_⟩
    by_cases q : x ∈ w
    · exact q
    · have a := nd_len w.length (x :: w) (List.nodup_cons.mpr ⟨q, h1⟩) (fun y hy => by
        rcases List.mem_cons.mp hy with e | e
        · rw [e]; exact hx
        · exact h2 y e)
      rw [List.length_cons] at a
      omega
  · intro h
    exact cover_std w.length w rfl (fun x h1 h2 => (h x).mpr ⟨h1, h2⟩)
theorem stdL_perm {w w' : List Nat} (p : List.Perm w w') : stdL w ↔ stdL w' := by
  unfold stdL
  rw [p.nodup_iff, p.length_eq]
  exact ⟨fun h => ⟨h.1, fun x hx => h.2 x (p.mem_iff.mpr hx)⟩, fun h => ⟨h.1, fun x hx => h.2 x (p.mem_iff.mp hx)⟩⟩
/-- the letters, row by row from the top -/
def ltF (T : Nat → Nat → Nat) (O : Nat → Nat) : Nat → Nat → List Nat
  | _, 0 => []
  | r, m + 1 => seg (T r) 0 (O r) ++ ltF T O (r + 1) m
theorem ltF_perm (T : Nat → Nat → Nat) (O : Nat → Nat) : ∀ m r, List.Perm (ltF T O r m) (rdF (tabS T I0 O) r m) := by
  intro m
  induction m with
  | zero => intro r; exact List.Perm.refl _
  | succ m ih =>
    intro r
    show List.Perm (seg (T r) 0 (O r) ++ ltF T O (r + 1) m) (rdF (tabS T I0 O) (r + 1) m ++ seg (T r) 0 (O r))
    exact List.perm_append_comm.trans ((ih (r + 1)).append_right _)
/-- bits of letters -/
def msk (B : Nat) : List Nat → Nat
  | [] => B
  | x :: l => msk (B ||| 2 ^ x) l
theorem msk_app (l' : List Nat) : ∀ (l : List Nat) (B : Nat), msk B (l ++ l') = msk (msk B l) l' := by
  intro l
  induction l with
  | nil => intro B; rfl
  | cons x l ih => intro B; exact ih _
theorem or_bit (B x i : Nat) : (B ||| 2 ^ x).testBit i = true ↔ B.testBit i = true ∨ i = x := by
  rw [Nat.testBit_or, Bool.or_eq_true, Nat.testBit_two_pow, decide_eq_true_iff]
  exact ⟨fun h => h.imp id Eq.symm, fun h => h.imp id Eq.symm⟩
theorem msk_bit (i : Nat) : ∀ (l : List Nat) (B : Nat), (msk B l).testBit i = true ↔ B.testBit i = true ∨ i ∈ l := by
  intro l
  induction l with
  | nil => intro B; exact ⟨Or.inl, fun h => h.elim id (fun q => by cases q)⟩
  | cons x l ih =>
    intro B
    show (msk (B ||| 2 ^ x) l).testBit i = true ↔ _
    rw [ih, or_bit, List.mem_cons, or_assoc]
theorem msk_lt : ∀ (l : List Nat) (B : Nat), B < 2 ^ 25 → (∀ x, x ∈ l → x ≤ 24) → msk B l < 2 ^ 25 := by
  intro l
  induction l with
  | nil => intro B h _; exact h
  | cons x l ih =>
    intro B h hl
    refine ih _ (Nat.or_lt_two_pow h (Nat.pow_lt_pow_right (by omega) ?_)) (fun y hy => hl y (List.mem_cons_of_mem _ hy))
    have := hl x List.mem_cons_self
    omega
theorem msk_std {l : List Nat} : msk 0 l = 2 ^ (l.length + 1) - 2 ↔ stdL l := by
  rw [stdL_iff]
  have mb : ∀ i, (2 ^ (l.length + 1) - 2).testBit i = decide (1 ≤ i ∧ i < 1 + l.length) := fun i => by
    have := mask_bit 1 l.length i
    rw [Nat.pow_one] at this
    rw [show l.length + 1 = 1 + l.length from Nat.add_comm _ _]
    exact this
  have m0 : ∀ i, (msk 0 l).testBit i = true ↔ i ∈ l := fun i => by
    rw [msk_bit, Nat.zero_testBit]
    exact ⟨fun h => h.elim (fun q => by cases q) id, Or.inr⟩
  constructor
  · intro h x
    rw [← m0 x, h, mb x, decide_eq_true_iff]
    omega
  · intro h
    apply Nat.eq_of_testBit_eq
    intro i
    rw [mb i]
    by_cases q : i ∈ l
    · have := (h i).mp q
      rw [(m0 i).mpr q, decide_eq_true (by omega)]
    · have e : (msk 0 l).testBit i = false := by
        cases w : (msk 0 l).testBit i with
        | false => rfl
        | true => exact absurd ((m0 i).mp w) q
      rw [e, decide_eq_false (fun w => q ((h i).mpr (by omega)))]
/-- the reference's questions, letter by letter -/
def cdS (n : Nat) : Nat → List Nat → Prop
  | _, [] => True
  | B, x :: l => x ≤ n ∧ B.testBit x = false ∧ cdS n (B ||| 2 ^ x) l
theorem cdS_app {n : Nat} (l' : List Nat) : ∀ (l : List Nat) (B : Nat), cdS n B (l ++ l') ↔ cdS n B l ∧ cdS n (msk B l) l' := by
  intro l
  induction l with
  | nil => intro B; exact ⟨fun h => ⟨trivial, h⟩, fun h => h.2⟩
  | cons x l ih =>
    intro B
    show (x ≤ n ∧ B.testBit x = false ∧ cdS n (B ||| 2 ^ x) (l ++ l')) ↔ (x ≤ n ∧ B.testBit x = false ∧ cdS n (B ||| 2 ^ x) l) ∧ cdS n (msk (B ||| 2 ^ x) l) l'
    rw [ih]
    exact ⟨fun ⟨a, b, c, d⟩ => ⟨⟨a, b, c⟩, d⟩, fun ⟨⟨a, b, c⟩, d⟩ => ⟨a, b, c, d⟩⟩
theorem cdS_iff {n : Nat} : ∀ (l : List Nat) (B : Nat), cdS n B l ↔ (∀ x, x ∈ l → x ≤ n ∧ B.testBit x = false) ∧ l.Nodup := by
  intro l
  induction l with
  | nil => intro B; exact ⟨fun _ => ⟨(fun x hx => by cases hx), List.nodup_nil⟩, fun _ => trivial⟩
  | cons x l ih =>
    intro B
    show (x ≤ n ∧ B.testBit x = false ∧ cdS n (B ||| 2 ^ x) l) ↔ _
    rw [ih, List.nodup_cons]
    have fb : ∀ y, (B ||| 2 ^ x).testBit y = false ↔ B.testBit y = false ∧ y ≠ x := fun y => by
      have o := or_bit B x y
      constructor
      · intro h
        rw [h] at o
        refine ⟨?_, fun e => ?_⟩
        · cases w : B.testBit y with
          | false => rfl
          | true => exact absurd (o.mpr (Or.inl w)) (by decide)
        · exact absurd (o.mpr (Or.inr e)) (by decide)
      · intro ⟨h1, h2⟩
        cases w : (B ||| 2 ^ x).testBit y with
        | false => rfl
        | true =>
          rcases o.mp w with e | e
          · rw [h1] at e; cases e
          · exact absurd e h2
    constructor
    · intro ⟨a, b, c, d⟩
      refine ⟨fun y hy => ?_, fun hx => ((fb x).mp (c x hx).2).2 rfl, d⟩
      rcases List.mem_cons.mp hy with e | e
      · rw [e]; exact ⟨a, b⟩
      · exact ⟨(c y e).1, ((fb y).mp (c y e).2).1⟩
    · intro ⟨a, b, c⟩
      obtain ⟨a1, a2⟩ := a x List.mem_cons_self
      exact ⟨a1, a2, fun y hy => ⟨(a y (List.mem_cons_of_mem _ hy)).1, (fb y).mpr ⟨(a y (List.mem_cons_of_mem _ hy)).2, fun e => b (e ▸ hy)⟩⟩, c⟩
theorem cdS_std {l : List Nat} (h1 : ∀ x, x ∈ l → 1 ≤ x) : cdS l.length 0 l ↔ stdL l := by
  rw [cdS_iff]
  exact ⟨fun h => ⟨h.2, fun x hx => ⟨h1 x hx, (h.1 x hx).1⟩⟩, fun h => ⟨fun x hx => ⟨(h.2 x hx).2, Nat.zero_testBit x⟩, h.1⟩⟩
theorem i_amt {p : Nat} (h : p < 31) : (iN p &&& 31).toBitVec.smod 32 = BitVec.ofNat 32 p := by
  have key : ∀ p : Fin 31, (iN p.val &&& 31).toBitVec.smod 32 = BitVec.ofNat 32 p.val := by decide +kernel
  exact key ⟨p, h⟩
theorem i_bit {B p : Nat} (hB : B < 2 ^ 31) (h : p < 31) : (iN B >>> (iN p &&& 31)) &&& 1 = iN (if B.testBit p = true then 1 else 0) := by
  apply Int32.toBitVec.inj
  show BitVec.sshiftRight' (BitVec.ofNat 32 B) ((iN p &&& 31).toBitVec.smod 32) &&& 1#32 = BitVec.ofNat 32 _
  rw [i_amt h]
  show (BitVec.ofNat 32 B).sshiftRight (BitVec.ofNat 32 p).toNat &&& 1#32 = _
  rw [BitVec.toNat_ofNat, Nat.mod_eq_of_lt (by omega)]
  apply BitVec.eq_of_getLsbD_eq
  intro i hi
  rw [BitVec.getLsbD_and, BitVec.getLsbD_sshiftRight]
  by_cases i0 : i = 0
  · subst i0
    have h1 : p + 0 < 32 := by omega
    simp only [show ¬ (32 ≤ 0) by omega, decide_false, Bool.not_false, Bool.true_and, h1, if_true]
    have e1 : (BitVec.ofNat 32 B).getLsbD (p + 0) = B.testBit p := by
      rw [BitVec.getLsbD_ofNat]
      simp [h1, show p < 32 by omega]
    rw [e1]
    cases B.testBit p <;> rfl
  · have e0 : (1#32).getLsbD i = false := by
      rw [BitVec.getLsbD_ofNat]
      have : Nat.testBit 1 i = false := Nat.testBit_lt_two_pow (Nat.lt_of_lt_of_le (by decide) (Nat.pow_le_pow_right (n := 2) (by omega) (show 1 ≤ i by omega)))
      rw [this, Bool.and_false]
    rw [e0, Bool.and_false]
    symm
    rw [BitVec.getLsbD_ofNat]
    cases B.testBit p
    · simp
    · have : Nat.testBit 1 i = false := Nat.testBit_lt_two_pow (Nat.lt_of_lt_of_le (by decide) (Nat.pow_le_pow_right (n := 2) (by omega) (show 1 ≤ i by omega)))
      simp [this]
end STDP
