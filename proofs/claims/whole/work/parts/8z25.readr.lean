section READR
variable {A : Nat → Nat} {F : Mem} {S W : Nat → Nat → Nat} {N : Nat → Nat} {PT : Nat → Nat → Nat} {PO : Nat → Nat} {QT : Nat → Nat → Nat} {QO : Nat → Nat} {aw : Bool} {th : Int32}
theorem seg_inv {f g : Nat → Nat} : ∀ (n a : Nat), seg f a n = seg g a n → ∀ i, a ≤ i → i < a + n → f i = g i := by
  intro n
  induction n with
  | zero => intro a _ i h1 h2; omega
  | succ n ih =>
    intro a h i h1 h2
    have h' : f a :: seg f (a + 1) n = g a :: seg g (a + 1) n := h
    by_cases q : i = a
    · rw [q]; exact (List.cons.inj h').1
    · exact ih (a + 1) (List.cons.inj h').2 i (by omega) (by omega)
theorem putL_two (l : List Nat) (V V' : Nat → Nat) {k : Nat} (hk : k < l.length) : putL V 0 l k = putL V' 0 l k := seg_inv l.length 0 ((putL_seg l V 0).trans (putL_seg l V' 0).symm) k (Nat.zero_le _) (by omega)
theorem rdF_24 {T : Nat → Nat → Nat} {O : Nat → Nat} (h : ∀ s, 16 ≤ s → O s = 0) : rdF (tabS T I0 O) 0 24 = rdF (tabS T I0 O) 0 16 := by
  have : ∀ d, rdF (tabS T I0 O) 0 (16 + d) = rdF (tabS T I0 O) 0 16 := by
    intro d
    induction d with
    | zero => rfl
    | succ d ih =>
      show rdF (tabS T I0 O) 0 (16 + d + 1) = _
      rw [rdF_last, Nat.zero_add, ih]
      have e : tabS T I0 O (16 + d) = [] := by
        show seg _ 0 (O (16 + d) - 0) = []
        rw [h (16 + d) (by omega)]
        rfl
      rw [e]
      rfl
  exact this 8
theorem R_rd44 {V : Nat → Nat} {c : Nat} (hc : c ≤ 24) (hV : ∀ k, k < c → V k < 100) (ho : rObj A F th aw) (h55 : F (A 55) = cW V) {x1 : Int32} (K : Nat → Int32 → Int32 → Int32 → Mem → Option Mem) : ∀ (m n i : Nat) (z : Bool), i + m = c → m < n → ∃ z' : Bool, fX10_read_44 K n (A 49) x1 (iN c) (bI z) (iN i) F = K (A 49) x1 (iN c) (bI z') F ∧ (z' = true ↔ z = true ∧ ∀ k, i ≤ k → k < c → V k ≤ 16) := by
  intro m
  induction m with
  | zero =>
    intro n i z h1 h2
    obtain ⟨n, rfl⟩ : ∃ m, n = m + 1 := ⟨n - 1, by omega⟩
    refine ⟨z, ?_, fun q => ⟨q, fun k a b => by omega⟩, fun q => q.1⟩
    rw [fX10_read_44.eq_2, if_pos ((iN_le (by omega) (by omega)).mpr (by omega))]
  | succ m ih =>
    intro n i z h1 h2
    obtain ⟨n, rfl⟩ : ∃ m, n = m + 1 := ⟨n - 1, by omega⟩
    have hv := hV i (by omega)
    have step : ∀ (z2 : Bool), (z2 = true ↔ z = true ∧ V i ≤ 16) → (∃ z' : Bool, fX10_read_44 K n (A 49) x1 (iN c) (bI z2) (iN (i + 1)) F = K (A 49) x1 (iN c) (bI z') F ∧ (z' = true ↔ z = true ∧ ∀ k, i ≤ k → k < c → V k ≤ 16)) := by
      intro z2 hz
      obtain ⟨z', e1, e2⟩ := ih n (i + 1) z2 (by omega) (by omega)
      refine ⟨z', e1, ?_⟩
      rw [e2, hz]
      constructor
      · intro ⟨⟨a, b⟩, d⟩
        refine ⟨a, fun k k1 k2 => ?_⟩
        by_cases e : k = i
        · rw [e]; exact b
        · exact d k (by omega) k2
      · intro ⟨a, d⟩
        exact ⟨⟨a, d i (by omega) (by omega)⟩, fun k k1 k2 => d k (by omega) k2⟩
    rw [fX10_read_44.eq_2, if_neg (fun w => by have := (iN_le (by omega) (by omega)).mp w; omega)]
    unfold fX10_read_71
    rw [iN_one]
    cases z with
    | false =>
      rw [if_pos (show bI false = 0 from rfl)]
      exact step false ⟨(fun q => by cases q), (fun q => by cases q.1)⟩
    | true =>
      rw [if_neg (show ¬ bI true = 0 from ne10), R_g7 ho, Option.bind_some, rdI_at h55 (by omega) (by omega), Option.bind_some]
      by_cases q : 16 < V i
      · rw [if_pos (show (16 : Int32) < iN (V i) from (iN_lt (a := 16) (by omega) (by omega)).mpr q)]
        exact step false ⟨fun w => (by cases w), fun w => (by have := w.2; omega)⟩
      · rw [if_neg (show ¬ (16 : Int32) < iN (V i) from fun w => q ((iN_lt (a := 16) (by omega) (by omega)).mp w))]
        exact step true ⟨fun _ => ⟨rfl, by omega⟩, fun _ => rfl⟩
end READR
