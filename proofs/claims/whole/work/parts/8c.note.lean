section NOTE
variable {A : Nat → Nat} {F : Mem} {aw : Bool} {th : Int32}
theorem rdJ_at {F : Mem} {a n i : Nat} {f : Nat → Int64} (h : F a = .inl (1, n, .inr (.inl f))) (hi : i < n) (hn : n ≤ 2 ^ 31) : rdJ F a (iN i) = some (f i) := by
  simp only [rdJ, arJ_of h, Option.bind_some, iN_inb (show i < 2 ^ 31 by omega), hi, decide_true, if_true, iN_nat (show i < 2 ^ 31 by omega)]
theorem wrJ_at {F : Mem} {a n i : Nat} {f : Nat → Int64} (h : F a = .inl (1, n, .inr (.inl f))) (hi : i < n) (hn : n ≤ 2 ^ 31) (x : Int64) : wrJ F a (iN i) x = some (va_up F a (.inl (1, n, .inr (.inl (vp_updL f i x))))) := by
  simp only [wrJ, arJ_of h, Option.bind_some, iN_inb (show i < 2 ^ 31 by omega), hi, decide_true, if_true, iN_nat (show i < 2 ^ 31 by omega)]
theorem cmp0 (x y : Int64) : lg_cmp x y = 0 ↔ x = y := by
  unfold lg_cmp
  by_cases h : x > y
  · rw [if_pos h]
    constructor
    · intro q; exact absurd q (by decide)
    · intro q; subst q; exact absurd h (Int64.lt_irrefl)
  · rw [if_neg h]
    by_cases h2 : x = y
    · rw [if_pos h2]; simp [h2]
    · rw [if_neg h2]
      constructor
      · intro q; exact absurd q (by decide)
      · intro q; exact absurd q h2
/-- a shape noted once more -/
def noteL : List (Int64 × Int64) → Int64 → Int64 → List (Int64 × Int64)
  | [], x, t => [(x, 0 + t)]
  | e :: L, x, t => if e.1 = x then (e.1, e.2 + t) :: L else e :: noteL L x t
/-- how often -/
def lkL : List (Int64 × Int64) → Int64 → Int64
  | [], _ => 0
  | e :: L, y => (if e.1 = y then e.2 else 0) + lkL L y
theorem lk_note : ∀ (L : List (Int64 × Int64)) (x t y : Int64), lkL (noteL L x t) y = lkL L y + (if x = y then t else 0) := by
  intro L
  induction L with
  | nil =>
    intro x t y
    simp only [noteL, lkL, Int64.zero_add, Int64.add_zero]
  | cons e L ih =>
    intro x t y
    simp only [noteL]
    by_cases c : e.1 = x
    · rw [if_pos c]
      simp only [lkL]
      rw [c]
      by_cases d : x = y
      · rw [if_pos d, if_pos d, if_pos d]
        rw [Int64.add_assoc, Int64.add_assoc, Int64.add_comm t]
      · rw [if_neg d, if_neg d, if_neg d, Int64.add_zero]
    · rw [if_neg c]
      simp only [lkL]
      rw [ih, Int64.add_assoc]
theorem mem_note : ∀ (L : List (Int64 × Int64)) (x t c : Int64), c ∈ (noteL L x t).map Prod.fst ↔ c ∈ L.map Prod.fst ∨ c = x := by
  intro L
  induction L with
  | nil => intro x t c; simp [noteL]
  | cons e L ih =>
    intro x t c
    simp only [noteL]
    by_cases k : e.1 = x
    · rw [if_pos k]
      simp only [List.map_cons, List.mem_cons]
      rw [k]
      constructor
      · rintro (h | h)
        · exact Or.inr h
        · exact Or.inl (Or.inr h)
      · rintro ((h | h) | h)
        · exact Or.inl h
        · exact Or.inr h
        · exact Or.inl h
    · rw [if_neg k]
      simp only [List.map_cons, List.mem_cons, ih]
      constructor
      · rintro (h | h | h)
        · exact Or.inl (Or.inl h)
        · exact Or.inl (Or.inr h)
        · exact Or.inr h
      · rintro ((h | h) | h)
        · exact Or.inl h
        · exact Or.inr (Or.inl h)
        · exact Or.inr (Or.inr h)
theorem nodup_note : ∀ (L : List (Int64 × Int64)) (x t : Int64), (L.map Prod.fst).Nodup → ((noteL L x t).map Prod.fst).Nodup := by
  intro L
  induction L with
  | nil => intro x t _; simp [noteL]
  | cons e L ih =>
    intro x t h
    simp only [List.map_cons, List.nodup_cons] at h
    simp only [noteL]
    by_cases k : e.1 = x
    · rw [if_pos k]
      simp only [List.map_cons, List.nodup_cons]
      exact h
    · rw [if_neg k]
      simp only [List.map_cons, List.nodup_cons]
      refine ⟨fun q => ?_, ih x t h.2⟩
      rw [mem_note] at q
      rcases q with q | q
      · exact h.1 q
      · exact k q
theorem len_note : ∀ (L : List (Int64 × Int64)) (x t : Int64), (noteL L x t).length ≤ L.length + 1 := by
  intro L
  induction L with
  | nil => intro x t; simp [noteL]
  | cons e L ih =>
    intro x t
    simp only [noteL]
    split
    · simp
    · simp only [List.length_cons]; have := ih x t; omega
/-- a list of distinct ones among others is no longer -/
theorem nodup_le : ∀ (L U : List Int64), L.Nodup → (∀ x, x ∈ L → x ∈ U) → L.length ≤ U.length := by
  intro L
  induction L with
  | nil => intro U _ _; exact Nat.zero_le _
  | cons a L ih =>
    intro U h1 h2
    rw [List.nodup_cons] at h1
    have ha : a ∈ U := h2 a (List.mem_cons_self ..)
    have := ih (U.erase a) h1.2 (fun x hx => (List.mem_erase_of_ne (show x ≠ a from fun e => h1.1 (by rw [← e]; exact hx))).mpr (h2 x (List.mem_cons_of_mem _ hx)))
    rw [List.length_erase_of_mem ha] at this
    have : 0 < U.length := List.length_pos_of_mem ha
    simp only [List.length_cons]
    omega
/-- arrays that hold a list -/
def TB (L : List (Int64 × Int64)) (C O : Nat → Int64) : Prop := ∀ k (h : k < L.length), C k = L[k].1 ∧ O k = L[k].2
theorem TB_cons {e : Int64 × Int64} {L : List (Int64 × Int64)} {C O : Nat → Int64} (h : TB (e :: L) C O) : C 0 = e.1 ∧ O 0 = e.2 ∧ TB L (fun k => C (k + 1)) (fun k => O (k + 1)) := by
  refine ⟨(h 0 (by simp)).1, (h 0 (by simp)).2, fun k hk => ?_⟩
  have := h (k + 1) (by simp; omega)
  simpa using this
/-- the reference's tables: codes, old codes -/
def NT (A : Nat → Nat) (F : Mem) (th : Int32) (aw : Bool) (L M : List (Int64 × Int64)) : Prop := F (A 49) = .inr (9, rfs A th (bI aw) (iN L.length) (iN M.length)) ∧ (∃ C O, F (A 61) = .inl (1, 2000, .inr (.inl C)) ∧ F (A 62) = .inl (1, 2000, .inr (.inl O)) ∧ TB L C O) ∧ (∃ C O, F (A 63) = .inl (1, 2000, .inr (.inl C)) ∧ F (A 64) = .inl (1, 2000, .inr (.inl O)) ∧ TB M C O)
theorem NT_obj {L M : List (Int64 × Int64)} (h : NT A F th aw L M) : rObj A F th aw := ⟨_, _, h.1⟩
theorem NT_cd {L M : List (Int64 × Int64)} (h : NT A F th aw L M) : gfI F (A 49) 9 13 = some (iN L.length) := gfI_at h.1 rfl
theorem NT_od {L M : List (Int64 × Int64)} (h : NT A F th aw L M) : gfI F (A 49) 9 16 = some (iN M.length) := gfI_at h.1 rfl
/-- the first place of x, or the end -/
def idxL : List (Int64 × Int64) → Int64 → Nat
  | [], _ => 0
  | e :: L, x => if e.1 = x then 0 else idxL L x + 1
theorem idx_le : ∀ (L : List (Int64 × Int64)) (x : Int64), idxL L x ≤ L.length := by
  intro L
  induction L with
  | nil => intro x; exact Nat.le_refl _
  | cons e L ih =>
    intro x
    simp only [idxL, List.length_cons]
    split
    · omega
    · have := ih x; omega
theorem idx_at : ∀ (L : List (Int64 × Int64)) (x : Int64) (k : Nat) (hk : k < L.length), (k < idxL L x → L[k].1 ≠ x) ∧ (k = idxL L x → L[k].1 = x) := by
  intro L
  induction L with
  | nil => intro x k hk; simp at hk
  | cons e L ih =>
    intro x k hk
    simp only [idxL]
    by_cases c : e.1 = x
    · rw [if_pos c]
      refine ⟨fun q => by omega, fun q => ?_⟩
      subst q
      simpa using c
    · rw [if_neg c]
      cases k with
      | zero =>
        refine ⟨fun _ => by simpa using c, fun q => by omega⟩
      | succ k =>
        have := ih x k (by simpa using hk)
        refine ⟨fun q => by simpa using this.1 (by omega), fun q => by simpa using this.2 (by omega)⟩
theorem note_at : ∀ (L : List (Int64 × Int64)) (x t : Int64), (idxL L x = L.length → noteL L x t = L ++ [(x, 0 + t)]) ∧ (∀ (h : idxL L x < L.length), noteL L x t = L.set (idxL L x) (x, L[idxL L x].2 + t)) := by
  intro L
  induction L with
  | nil => intro x t; exact ⟨fun _ => rfl, fun h => by simp [idxL] at h⟩
  | cons e L ih =>
    intro x t
    by_cases c : e.1 = x
    · have e0 : idxL (e :: L) x = 0 := by simp [idxL, c]
      refine ⟨fun q => by rw [e0] at q; simp at q, fun h => ?_⟩
      simp only [noteL, if_pos c]
      simp [e0, c]
    · have e0 : idxL (e :: L) x = idxL L x + 1 := by simp [idxL, c]
      refine ⟨fun q => ?_, fun h => ?_⟩
      · rw [e0, List.length_cons] at q
        simp only [noteL, if_neg c]
        rw [(ih x t).1 (by omega)]
        rfl
      · rw [e0, List.length_cons] at h
        simp only [noteL, if_neg c]
        rw [(ih x t).2 (by omega)]
        simp [e0]
theorem R_nt3 {L M : List (Int64 × Int64)} {x t : Int64} (h : NT A F th aw L M) (hl : L.length < 2000) (K : Nat → Int64 → Int64 → Int32 → Mem → Option Mem) : ∀ (m n k : Nat), k + m = idxL L x → m < n → fX10_note_3 K n (A 49) x t (iN k) F = K (A 49) x t (iN (idxL L x)) F := by
  obtain ⟨h1, ⟨C, O, h2, h3, h4⟩, h5⟩ := id h
  have hle := idx_le L x
  intro m
  induction m with
  | zero =>
    intro n k e1 e2
    obtain ⟨n', rfl⟩ : ∃ n', n = n' + 1 := ⟨n - 1, by omega⟩
    rw [fX10_note_3.eq_2, NT_cd h, Option.bind_some]
    have : k = idxL L x := by omega
    subst this
    by_cases c : L.length ≤ idxL L x
    · rw [if_pos ((iN_le (by omega) (by omega)).mpr c)]
    · rw [if_neg (fun q => c ((iN_le (by omega) (by omega)).mp q)), R_g14 (NT_obj h), Option.bind_some, rdJ_at h2 (by omega) (by omega), Option.bind_some, (h4 _ (by omega)).1, (idx_at L x _ (by omega)).2 rfl, if_pos ((cmp0 x x).mpr rfl)]
  | succ m ih =>
    intro n k e1 e2
    obtain ⟨n', rfl⟩ : ∃ n', n = n' + 1 := ⟨n - 1, by omega⟩
    rw [fX10_note_3.eq_2, NT_cd h, Option.bind_some, if_neg (fun q => by have := (iN_le (by omega) (by omega)).mp q; omega), R_g14 (NT_obj h), Option.bind_some, rdJ_at h2 (by omega) (by omega), Option.bind_some, (h4 k (by omega)).1, if_neg (fun q => (idx_at L x k (by omega)).1 (by omega) ((cmp0 _ _).mp q)), iN_one]
    exact ih n' (k + 1) (by omega) (by omega)
theorem vp_at (f : Nat → Int64) (k : Nat) (x : Int64) : vp_updL f k x k = x := by simp [vp_updL]
theorem vp_ne {f : Nat → Int64} {k j : Nat} {x : Int64} (h : j ≠ k) : vp_updL f k x j = f j := by simp [vp_updL, h]
abbrev cJ (f : Nat → Int64) : Cl := .inl (1, 2000, .inr (.inl f))
theorem R_note (hA : Inj A) {L M : List (Int64 × Int64)} (h : NT A F th aw L M) (hl : L.length < 2000) (x t : Int64) : ∃ F', mX10_note F (A 49) x t = some F' ∧ NT A F' th aw (noteL L x t) M ∧ Agr A [49, 61, 62] F F' := by
  have := FU_big
  obtain ⟨h1, ⟨C, O, h2, h3, h4⟩, ⟨C', O', h5, h6, h7⟩⟩ := id h
  have hle := idx_le L x
  have e1 := R_nt3 (x := x) (t := t) h hl (fun (x0 : Nat) (x1 : Int64) (x3 : Int64) (x5 : Int32) (F : Mem) => fX10_note_30   x0 x1 x3 x5 F) (idxL L x) FU 0 (by omega) (by omega)
  have st : mX10_note F (A 49) x t = fX10_note_30 (A 49) x t (iN (idxL L x)) F := e1
  rw [st]
  unfold fX10_note_30
  rw [NT_cd h, Option.bind_some]
  by_cases c : idxL L x = L.length
  · -- a new one
    generalize hF1 : va_up F (A 61) (cJ (vp_updL C L.length x)) = F1
    have k1 : Agr A [61] F F1 := by rw [← hF1]; exact (Agr.refl A _ F).up hA (by omega) (by simp)
    generalize hF2 : va_up F1 (A 62) (cJ (vp_updL O L.length 0)) = F2
    have k2 : Agr A [62] F1 F2 := by rw [← hF2]; exact (Agr.refl A _ F1).up hA (by omega) (by simp)
    have b1 : F1 (A 49) = .inr (9, rfs A th (bI aw) (iN L.length) (iN M.length)) := (k1 49 (by omega) (by simp)).trans h1
    have b2 : F2 (A 49) = .inr (9, rfs A th (bI aw) (iN L.length) (iN M.length)) := (k2 49 (by omega) (by simp)).trans b1
    generalize hF3 : va_up F2 (A 49) (.inr (9, rfs A th (bI aw) (iN (L.length + 1)) (iN M.length))) = F3
    have k3 : Agr A [49] F2 F3 := by rw [← hF3]; exact (Agr.refl A _ F2).up hA (by omega) (by simp)
    have b3 : F3 (A 49) = .inr (9, rfs A th (bI aw) (iN (L.length + 1)) (iN M.length)) := by rw [← hF3, up_eq]
    have o3 : rObj A F3 th aw := ⟨_, _, b3⟩
    have d62 : F3 (A 62) = cJ (vp_updL O L.length 0) := (k3 62 (by omega) (by simp)).trans (by rw [← hF2, up_eq])
    generalize hF4 : va_up F3 (A 62) (cJ (vp_updL (vp_updL O L.length 0) L.length (0 + t))) = F4
    have k4 : Agr A [62] F3 F4 := by rw [← hF4]; exact (Agr.refl A _ F3).up hA (by omega) (by simp)
    have kk : Agr A [49, 61, 62] F F4 := (((k1.mono (by simp)).trans (k2.mono (by simp))).trans (k3.mono (by simp))).trans (k4.mono (by simp))
    have e62 : F4 (A 62) = cJ (vp_updL (vp_updL O L.length 0) L.length (0 + t)) := by rw [← hF4, up_eq]
    have e61 : F4 (A 61) = cJ (vp_updL C L.length x) := ((k4 61 (by omega) (by simp)).trans (k3 61 (by omega) (by simp))).trans ((k2 61 (by omega) (by simp)).trans (by rw [← hF1, up_eq]))
    have e49 : F4 (A 49) = .inr (9, rfs A th (bI aw) (iN (L.length + 1)) (iN M.length)) := (k4 49 (by omega) (by simp)).trans b3
    have g1 : F1 (A 62) = .inl (1, 2000, .inr (.inl O)) := (k1 62 (by omega) (by simp)).trans h3
    refine ⟨F4, ?_, ?_, kk⟩
    · rw [c, if_pos rfl, R_g14 (NT_obj h), Option.bind_some, wrJ_at h2 hl (by omega), hF1, Option.bind_some, R_g15 ⟨_, _, b1⟩, Option.bind_some, wrJ_at g1 hl (by omega), hF2, Option.bind_some, gfI_at (k := 13) (v := iN L.length) b2 rfl, Option.bind_some, iN_one, pf_at b2 (by simp [rfs])]
      rw [show va_up F2 (A 49) (Sum.inr (9, (rfs A th (bI aw) (iN L.length) (iN M.length)).set 13 (.int (iN (L.length + 1))))) = F3 from hF3, Option.bind_some]
      unfold fX10_note_65
      rw [R_g15 o3, Option.bind_some, Option.bind_some, rdJ_at d62 hl (by omega), Option.bind_some, vp_at, wrJ_at d62 hl (by omega), hF4, Option.bind_some]
    · rw [(note_at L x t).1 c]
      refine ⟨by rw [List.length_append]; exact e49, ⟨_, _, e61, e62, fun k hk => ?_⟩, ⟨C', O', (kk 63 (by omega) (by simp)).trans h5, (kk 64 (by omega) (by simp)).trans h6, h7⟩⟩
      rw [List.length_append] at hk
      simp only [List.length_cons, List.length_nil] at hk
      by_cases w : k = L.length
      · subst w
        rw [vp_at, vp_at]
        simp
      · rw [vp_ne w, vp_ne w, vp_ne w, List.getElem_append_left (by omega)]
        exact h4 k (by omega)
  · -- one that is there
    have hlt : idxL L x < L.length := by omega
    generalize hF4 : va_up F (A 62) (cJ (vp_updL O (idxL L x) (L[idxL L x].2 + t))) = F4
    have k4 : Agr A [62] F F4 := by rw [← hF4]; exact (Agr.refl A _ F).up hA (by omega) (by simp)
    refine ⟨F4, ?_, ?_, k4.mono (by simp)⟩
    · rw [if_neg (fun q => c ((iN_inj (by omega) (by omega)).mp q))]
      unfold fX10_note_65
      rw [R_g15 (NT_obj h), Option.bind_some, Option.bind_some, rdJ_at h3 (by omega) (by omega), Option.bind_some, (h4 _ hlt).2, wrJ_at h3 (by omega) (by omega), hF4, Option.bind_some]
    · rw [(note_at L x t).2 hlt]
      refine ⟨by rw [List.length_set]; exact (k4 49 (by omega) (by simp)).trans h1, ⟨C, _, (k4 61 (by omega) (by simp)).trans h2, by rw [← hF4, up_eq], fun k hk => ?_⟩, ⟨C', O', (k4 63 (by omega) (by simp)).trans h5, (k4 64 (by omega) (by simp)).trans h6, h7⟩⟩
      rw [List.length_set] at hk
      by_cases w : k = idxL L x
      · subst w
        rw [vp_at, List.getElem_set_self, (h4 _ hlt).1]
        exact ⟨(idx_at L x _ hlt).2 rfl, rfl⟩
      · rw [vp_ne w, List.getElem_set_ne (fun e => w e.symm)]
        exact h4 k hk
/-- the old codes -/
theorem R_to10 (hA : Inj A) {L : List (Int64 × Int64)} (hl : L.length < 2000) {C O C0 O0 : Nat → Int64} (hT : TB L C O) (K : Nat → Mem → Option Mem) (od : Int32) : ∀ (m n k : Nat) (F : Mem) (C' O' : Nat → Int64), k + m = L.length → m < n → F (A 49) = .inr (9, rfs A th (bI aw) (iN L.length) od) → F (A 61) = cJ C → F (A 62) = cJ O → F (A 63) = cJ C' → F (A 64) = cJ O' → (∀ j, j < k → C' j = C j ∧ O' j = O j) → ∃ F' C' O', fX10_turnOver_10 K n (A 49) (iN k) F = K (A 49) F' ∧ Agr A [63, 64] F F' ∧ F' (A 63) = cJ C' ∧ F' (A 64) = cJ O' ∧ (∀ j, j < L.length → C' j = C j ∧ O' j = O j) := by
  intro m
  induction m with
  | zero =>
    intro n k F C' O' e1 e2 h1 h2 h3 h4 h5 h6
    obtain ⟨n', rfl⟩ : ∃ n', n = n' + 1 := ⟨n - 1, by omega⟩
    refine ⟨F, C', O', ?_, Agr.refl A _ F, h4, h5, fun j hj => h6 j (by omega)⟩
    rw [fX10_turnOver_10.eq_2, gfI_at (k := 13) (v := iN L.length) h1 rfl, Option.bind_some, if_pos ((iN_le (by omega) (by omega)).mpr (by omega))]
  | succ m ih =>
    intro n k F C' O' e1 e2 h1 h2 h3 h4 h5 h6
    obtain ⟨n', rfl⟩ : ∃ n', n = n' + 1 := ⟨n - 1, by omega⟩
    generalize hF1 : va_up F (A 63) (cJ (vp_updL C' k (C k))) = F1
    have k1 : Agr A [63] F F1 := by rw [← hF1]; exact (Agr.refl A _ F).up hA (by omega) (by simp)
    generalize hF2 : va_up F1 (A 64) (cJ (vp_updL O' k (O k))) = F2
    have k2 : Agr A [64] F1 F2 := by rw [← hF2]; exact (Agr.refl A _ F1).up hA (by omega) (by simp)
    have kk : Agr A [63, 64] F F2 := (k1.mono (by simp)).trans (k2.mono (by simp))
    have o0 : rObj A F th aw := ⟨_, _, h1⟩
    have o1 := rObj_fr k1 o0 (by simp)
    have c62 : F1 (A 62) = cJ O := (k1 62 (by omega) (by simp)).trans h3
    have c64 : F1 (A 64) = cJ O' := (k1 64 (by omega) (by simp)).trans h5
    obtain ⟨F', C2, O2, a1, a2, a3, a4, a5⟩ := ih n' (k + 1) F2 (vp_updL C' k (C k)) (vp_updL O' k (O k)) (by omega) (by omega) ((kk 49 (by omega) (by simp)).trans h1) ((kk 61 (by omega) (by simp)).trans h2) ((kk 62 (by omega) (by simp)).trans h3) ((k2 63 (by omega) (by simp)).trans (by rw [← hF1, up_eq])) (by rw [← hF2, up_eq]) (fun j hj => by
      by_cases w : j = k
      · subst w; rw [vp_at, vp_at]; exact ⟨rfl, rfl⟩
      · rw [vp_ne w, vp_ne w]; exact h6 j (by omega))
    refine ⟨F', C2, O2, ?_, kk.trans a2, a3, a4, a5⟩
    rw [fX10_turnOver_10.eq_2, gfI_at (k := 13) (v := iN L.length) h1 rfl, Option.bind_some, if_neg (fun q => by have := (iN_le (by omega) (by omega)).mp q; omega), R_g17 o0, Option.bind_some, R_g14 o0, Option.bind_some, rdJ_at h2 (by omega) (by omega), Option.bind_some, wrJ_at h4 (by omega) (by omega), hF1, Option.bind_some, R_g18 o1, Option.bind_some, R_g15 o1, Option.bind_some, rdJ_at c62 (by omega) (by omega), Option.bind_some, wrJ_at c64 (by omega) (by omega), hF2, Option.bind_some, iN_one]
    exact a1
theorem R_turnOver (hA : Inj A) {L M : List (Int64 × Int64)} (h : NT A F th aw L M) (hl : L.length < 2000) : ∃ F', mX10_turnOver F (A 49) = some F' ∧ NT A F' th aw [] L ∧ Agr A [49, 63, 64] F F' := by
  have := FU_big
  obtain ⟨h1, ⟨C, O, h2, h3, h4⟩, ⟨C', O', h5, h6, h7⟩⟩ := id h
  generalize hF1 : va_up F (A 49) (.inr (9, rfs A th (bI aw) (iN L.length) (iN L.length))) = F1
  have k1 : Agr A [49] F F1 := by rw [← hF1]; exact (Agr.refl A _ F).up hA (by omega) (by simp)
  have b1 : F1 (A 49) = .inr (9, rfs A th (bI aw) (iN L.length) (iN L.length)) := by rw [← hF1, up_eq]
  obtain ⟨F2, C2, O2, a1, a2, a3, a4, a5⟩ := R_to10 hA hl (C0 := C) (O0 := O) h4 (fun (x0 : Nat) (F : Mem) => (pf F x0 9 13 (.int 0)).bind fun F50 => some F50) (iN L.length) L.length FU 0 F1 C' O' (by omega) (by omega) b1 ((k1 61 (by omega) (by simp)).trans h2) ((k1 62 (by omega) (by simp)).trans h3) ((k1 63 (by omega) (by simp)).trans h5) ((k1 64 (by omega) (by simp)).trans h6) (fun j hj => by omega)
  have b2 : F2 (A 49) = .inr (9, rfs A th (bI aw) (iN L.length) (iN L.length)) := (a2 49 (by omega) (by simp)).trans b1
  generalize hF3 : va_up F2 (A 49) (.inr (9, rfs A th (bI aw) (iN 0) (iN L.length))) = F3
  have k3 : Agr A [49] F2 F3 := by rw [← hF3]; exact (Agr.refl A _ F2).up hA (by omega) (by simp)
  have kk : Agr A [49, 63, 64] F F3 := ((k1.mono (by simp)).trans (a2.mono (by simp))).trans (k3.mono (by simp))
  refine ⟨F3, ?_, ⟨by rw [← hF3, up_eq]; rfl, ⟨C, O, (kk 61 (by omega) (by simp)).trans h2, (kk 62 (by omega) (by simp)).trans h3, fun k hk => by simp at hk⟩, ⟨C2, O2, (k3 63 (by omega) (by simp)).trans a3, (k3 64 (by omega) (by simp)).trans a4, fun k hk => ?_⟩⟩, kk⟩
  · unfold mX10_turnOver
    rw [NT_cd h, Option.bind_some, pf_at h1 (by simp [rfs]), show va_up F (A 49) (Sum.inr (9, (rfs A th (bI aw) (iN L.length) (iN M.length)).set 16 (.int (iN L.length)))) = F1 from hF1, Option.bind_some]
    refine a1.trans ?_
    rw [pf_at b2 (by simp [rfs]), show va_up F2 (A 49) (Sum.inr (9, (rfs A th (bI aw) (iN L.length) (iN L.length)).set 13 (.int 0))) = F3 from hF3, Option.bind_some]
  · rw [(a5 k hk).1, (a5 k hk).2]
    exact h4 k hk
end NOTE
