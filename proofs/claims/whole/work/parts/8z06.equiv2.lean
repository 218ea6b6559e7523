section EQUIV2
variable {A : Nat → Nat} {F : Mem} {S W : Nat → Nat → Nat} {N : Nat → Nat} {PT : Nat → Nat → Nat} {PO : Nat → Nat} {QT : Nat → Nat → Nat} {QO : Nat → Nat} {aw : Bool} {th : Int32}
theorem any_iN (v : Int32) : v = iN v.toBitVec.toNat := iN_of_bv v.toBitVec _ rfl
theorem ar_cW {a : Nat} (h : ar0 F a 24) : ∃ V, F a = cW V := by
  obtain ⟨f, e⟩ := h
  refine ⟨fun i => (f i).toBitVec.toNat, ?_⟩
  rw [e]
  have : f = fun i => iN (f i).toBitVec.toNat := funext fun i => any_iN (f i)
  exact congrArg (fun g => (.inl (0, 24, .inl g) : Cl)) this
theorem R_tk2 (hA : Inj A) {i : Nat} (hi : i < 2) (hn : N i ≤ 16) {V : Nat → Nat} : ∀ (m n k : Nat) (F : Mem), k + m = N i → m < n → rObj A F th aw → rWrd A F W N → F (A 55) = cW (mixL k (W i) V) → fX10_take_2 n (A 49) (iN i) (iN k) F = some (va_up F (A 55) (cW (mixL (N i) (W i) V))) := by
  intro m
  induction m with
  | zero =>
    intro n k F h1 h2 ho hw h55
    obtain ⟨n, rfl⟩ : ∃ m, n = m + 1 := ⟨n - 1, by omega⟩
    obtain ⟨_, g, g1, g2⟩ := hw
    rw [show k = N i by omega] at h55 ⊢
    rw [fX10_take_2.eq_2, R_g3 ho, Option.bind_some, rdI_at g1 hi (by omega), Option.bind_some, g2 i hi, if_pos ((iN_le (by omega) (by omega)).mpr (Nat.le_refl _)), up_self h55]
  | succ m ih =>
    intro n k F h1 h2 ho hw h55
    obtain ⟨n, rfl⟩ : ∃ m, n = m + 1 := ⟨n - 1, by omega⟩
    have hw' := hw
    obtain ⟨⟨f, f1, f2⟩, g, g1, g2⟩ := hw
    have k1 : ∀ x, Agr A [55] F (va_up F (A 55) x) := fun x => (Agr.refl A _ F).up hA (by omega) (by simp)
    rw [fX10_take_2.eq_2, R_g3 ho, Option.bind_some, rdI_at g1 hi (by omega), Option.bind_some, g2 i hi, if_neg (fun w => by have := (iN_le (by omega) (by omega)).mp w; omega), R_g7 ho, Option.bind_some, R_g2 ho, Option.bind_some, il16, iN_mul, iN_add, rdI_at f1 (by omega) (by omega), Option.bind_some, f2 i k hi (by omega), wrI_at h55 (by omega) (by omega), Option.bind_some, updO, mixL_s, iN_one]
    rw [ih n (k + 1) _ (by omega) (by omega) (rObj_fr (k1 _) ho (by simp)) (rWrd_fr (k1 _) hw' (by simp)) (up_eq _ _ _), up_up]
theorem R_take (hA : Inj A) {i : Nat} (hi : i < 2) (hn : N i ≤ 16) (ho : rObj A F th aw) (hw : rWrd A F W N) (h55 : ar0 F (A 55) 24) : ∃ V, mX10_take F (A 49) (iN i) = some (va_up F (A 55) (cW V)) ∧ ∀ k, k < N i → V k = W i k := by
  obtain ⟨V, e⟩ := ar_cW h55
  have FB := FU_big
  refine ⟨mixL (N i) (W i) V, ?_, fun k hk => by unfold mixL; rw [if_pos hk]⟩
  unfold mX10_take
  rw [il0]
  exact R_tk2 hA hi hn (N i) FU 0 F (by omega) (by omega) ho hw (by rw [mixL_z]; exact e)
theorem seg_ext {f g : Nat → Nat} : ∀ (n a : Nat), (∀ i, a ≤ i → i < a + n → f i = g i) → seg f a n = seg g a n := by
  intro n
  induction n with
  | zero => intro a _; rfl
  | succ n ih =>
    intro a h
    show f a :: seg f (a + 1) n = g a :: seg g (a + 1) n
    rw [h a (by omega) (by omega), ih (a + 1) (fun i q1 q2 => h i (by omega) (by omega))]
/-- the codes of m rows from r on -/
def cdL (P : Tab) (r : Nat) : Nat → List Nat
  | 0 => []
  | m + 1 => (P r).map (fun x => 100 * r + x) ++ cdL P (r + 1) m
theorem cdL_ge {P : Tab} : ∀ (m r x : Nat), x ∈ cdL P r m → 100 * r ≤ x := by
  intro m
  induction m with
  | zero => intro r x h; cases h
  | succ m ih =>
    intro r x h
    rcases List.mem_append.mp h with q | q
    · obtain ⟨y, _, e⟩ := List.mem_map.mp q
      omega
    · have := ih (r + 1) x q
      omega
theorem cdL_inj {P P' : Tab} (hP : ∀ s x, x ∈ P s → x < 100) (hP' : ∀ s x, x ∈ P' s → x < 100) : ∀ (m r : Nat), cdL P r m = cdL P' r m → ∀ s, r ≤ s → s < r + m → P s = P' s := by
  have fil1 : ∀ {P : Tab} (_ : ∀ s x, x ∈ P s → x < 100) (m r : Nat), (cdL P r (m + 1)).filter (fun x => decide (x < 100 * r + 100)) = (P r).map (fun x => 100 * r + x) := by
    intro P hP m r
    show ((P r).map (fun x => 100 * r + x) ++ cdL P (r + 1) m).filter _ = _
    rw [List.filter_append, List.filter_eq_self.mpr, List.filter_eq_nil_iff.mpr, List.append_nil]
    · intro x q w
      have a := cdL_ge m (r + 1) x q
      have b := of_decide_eq_true w
      omega
    · intro x q
      obtain ⟨y, hy, e⟩ := List.mem_map.mp q
      have := hP r y hy
      exact decide_eq_true (by omega)
  intro m
  induction m with
  | zero => intro r _ s h1 h2; omega
  | succ m ih =>
    intro r h s h1 h2
    have e1 := congrArg (List.filter (fun x => decide (x < 100 * r + 100))) h
    rw [fil1 hP, fil1 hP'] at e1
    have e2 : cdL P (r + 1) m = cdL P' (r + 1) m := by
      have h' : (P r).map (fun x => 100 * r + x) ++ cdL P (r + 1) m = (P' r).map (fun x => 100 * r + x) ++ cdL P' (r + 1) m := h
      rw [e1] at h'
      exact List.append_cancel_left h'
    by_cases q : s = r
    · subst q
      exact (List.map_inj_right (f := fun x => 100 * s + x) (fun x y (w : 100 * s + x = 100 * s + y) => by omega)).mp e1
    · exact ih (r + 1) e2 s (by omega) (by omega)
theorem cdL_len (P : Tab) : ∀ (m r : Nat), (cdL P r m).length = (rdF P r m).length := by
  intro m
  induction m with
  | zero => intro r; rfl
  | succ m ih =>
    intro r
    show ((P r).map _ ++ cdL P (r + 1) m).length = (rdF P (r + 1) m ++ P r).length
    rw [List.length_append, List.length_append, List.length_map, ih]
    omega
theorem rdF_more {P : Tab} : ∀ (d m r : Nat), (∀ s, r + m ≤ s → P s = []) → (rdF P r (m + d)).length = (rdF P r m).length := by
  intro d m
  induction m with
  | zero =>
    intro r h
    have : ∀ d r, (∀ s, r ≤ s → P s = []) → (rdF P r d).length = 0 := by
      intro d
      induction d with
      | zero => intro r _; rfl
      | succ d ih =>
        intro r h
        show (rdF P (r + 1) d ++ P r).length = 0
        rw [List.length_append, ih (r + 1) (fun s q => h s (by omega)), h r (by omega)]
        rfl
    rw [Nat.zero_add]
    exact this d r (fun s q => h s (by omega))
  | succ m ih =>
    intro r h
    rw [show m + 1 + d = (m + d) + 1 by omega]
    show (rdF P (r + 1) (m + d) ++ P r).length = (rdF P (r + 1) m ++ P r).length
    rw [List.length_append, List.length_append, ih (r + 1) (fun s q => h s (by omega))]
/-- as many codes as letters -/
theorem cdL_word (w : List Nat) (h : w.length ≤ 24) : (cdL (insF T0 w) 0 24).length = w.length := by
  have p := (KQ_perm (KQ_rdF w)).length_eq
  have hg := insF_hgt T0_hgt w
  have e := rdF_more (P := insF T0 w) (24 - w.length) w.length 0 (fun s q => hg s (by omega))
  rw [show w.length + (24 - w.length) = 24 by omega] at e
  rw [cdL_len, e]
  exact p.symm
end EQUIV2
