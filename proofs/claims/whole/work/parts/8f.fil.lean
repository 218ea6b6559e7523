section FIL
def dcb (g : Nat → Nat) (j : Nat) : Nat → Nat := upL g j (g j - 1)
/-- strips row by row -/
noncomputable def rowT (f : (Nat → Nat) → Nat) : Nat → Nat → Nat → (Nat → Nat) → Nat
  | 0, _, t, g => ivN (t = 0) (f g)
  | m + 1, i, t, g => sumN (fun v => ivN (v ≤ t ∧ v ≤ dif g i) (rowT f m (i + 1) (t - v) (upL g i (g i - v)))) KM
/-- strips box by box -/
noncomputable def bxT (f : (Nat → Nat) → Nat) : Nat → Nat → (Nat → Nat) → Nat
  | 0, _, g => f g
  | t + 1, i, g => sumN (fun j => ivN (i ≤ j ∧ g (j + 1) < g j) (bxT f t j (dcb g j))) 8
theorem par_dcb {g : Nat → Nat} (h : par g) {j : Nat} (hj : g (j + 1) < g j) : par (dcb g j) := by
  intro k
  unfold dcb
  by_cases a : k = j
  · subst a
    rw [upL_at, upL_ne (by omega)]
    omega
  · rw [upL_ne a]
    by_cases b : k + 1 = j
    · rw [← b, upL_at]
      have := h k
      omega
    · rw [upL_ne b]
      exact h k
theorem rowT_zero {f : (Nat → Nat) → Nat} : ∀ (m i : Nat) (g : Nat → Nat), rowT f m i 0 g = f g := by
  intro m
  induction m with
  | zero => intro i g; exact ivN_pos rfl
  | succ m ih =>
    intro i g
    simp only [rowT]
    rw [sumN_single (i0 := 0) (by unfold KM; omega) (fun v _ hne => ivN_neg (fun q => hne (by omega)))]
    rw [ivN_pos ⟨Nat.le_refl _, Nat.zero_le _⟩, Nat.sub_zero, upL_self (M := g) (p := i) (v := g i - 0) rfl]
    exact ih _ _
theorem rowT_step {f : (Nat → Nat) → Nat} {m i t : Nat} {g : Nat → Nat} (hg : ∀ k, g k < KM) : rowT f (m + 1) i (t + 1) g = rowT f m (i + 1) (t + 1) g + ivN (g (i + 1) < g i) (rowT f (m + 1) i t (dcb g i)) := by
  simp only [rowT]
  obtain ⟨K, hK⟩ : ∃ K, KM = K + 1 := ⟨24, rfl⟩
  have hgi := hg i
  rw [hK] at hgi ⊢
  rw [sumN_shift, ivN_pos (P := 0 ≤ t + 1 ∧ 0 ≤ dif g i) ⟨Nat.zero_le _, Nat.zero_le _⟩, Nat.sub_zero, Nat.sub_zero, upL_self rfl]
  congr 1
  by_cases c : g (i + 1) < g i
  · rw [ivN_pos c]
    have ed : dif (dcb g i) i = dif g i - 1 := by
      unfold dif dcb
      rw [upL_at, upL_ne (by omega)]
      omega
    rw [sumN_ext (m := K) (n := K + 1) (by omega) (fun v a b => ivN_neg (fun q => by
      have := q.2
      rw [ed] at this
      unfold dif at this
      omega))]
    apply sumN_congr
    intro v hv
    have ec : (v + 1 ≤ t + 1 ∧ v + 1 ≤ dif g i) ↔ (v ≤ t ∧ v ≤ dif (dcb g i) i) := by
      rw [ed]
      unfold dif
      omega
    by_cases w : v + 1 ≤ t + 1 ∧ v + 1 ≤ dif g i
    · rw [ivN_pos w, ivN_pos (ec.mp w)]
      unfold dcb
      rw [upL_at, upL_up, show t + 1 - (v + 1) = t - v by omega, show g i - (v + 1) = g i - 1 - v by omega]
    · rw [ivN_neg w, ivN_neg (fun u => w (ec.mpr u))]
  · rw [ivN_neg c]
    apply sumN_zero
    intro v hv
    apply ivN_neg
    intro q
    have := q.2
    unfold dif at this
    omega
theorem bxT_split {f : (Nat → Nat) → Nat} {t i : Nat} {g : Nat → Nat} (hi : i < 8) : bxT f (t + 1) i g = bxT f (t + 1) (i + 1) g + ivN (g (i + 1) < g i) (bxT f t i (dcb g i)) := by
  simp only [bxT]
  have e : ∀ j, j < 8 → ivN (i ≤ j ∧ g (j + 1) < g j) (bxT f t j (dcb g j)) = ivN (i + 1 ≤ j ∧ g (j + 1) < g j) (bxT f t j (dcb g j)) + (if j = i then ivN (g (i + 1) < g i) (bxT f t i (dcb g i)) else 0) := by
    intro j hj
    by_cases a : j = i
    · subst a
      rw [if_pos rfl, ivN_neg (P := j + 1 ≤ j ∧ g (j + 1) < g j) (fun q => by omega), Nat.zero_add]
      by_cases c : g (j + 1) < g j
      · rw [ivN_pos c, ivN_pos ⟨Nat.le_refl _, c⟩]
      · rw [ivN_neg c, ivN_neg (fun q => c q.2)]
    · rw [if_neg a]
      by_cases c : i ≤ j ∧ g (j + 1) < g j
      · rw [ivN_pos c, ivN_pos ⟨by omega, c.2⟩]; rfl
      · rw [ivN_neg c, ivN_neg (fun q => c ⟨by omega, q.2⟩)]
  rw [sumN_congr e, sumN_add, sumN_single (g := fun j => if j = i then ivN (g (i + 1) < g i) (bxT f t i (dcb g i)) else 0) (i0 := i) hi (fun j _ hne => if_neg hne), if_pos rfl]
theorem bxT_row {f : (Nat → Nat) → Nat} : ∀ (t m i : Nat) (g : Nat → Nat), i + m = 8 → (∀ k, g k < KM) → bxT f t i g = rowT f m i t g := by
  intro t
  induction t with
  | zero => intro m i g _ _; rw [rowT_zero]; rfl
  | succ t ih =>
    intro m
    induction m with
    | zero =>
      intro i g hi hg
      have : i = 8 := by omega
      subst this
      show sumN _ 8 = ivN (t + 1 = 0) (f g)
      rw [ivN_neg (by omega)]
      exact sumN_zero (fun j hj => ivN_neg (fun q => by omega))
    | succ m ihm =>
      intro i g hi hg
      rw [bxT_split (by omega), rowT_step hg, ihm (i + 1) g (by omega) hg]
      by_cases c : g (i + 1) < g i
      · rw [ivN_pos c, ivN_pos c, ih (m + 1) i (dcb g i) hi (fun k => by
          unfold dcb
          by_cases a : k = i
          · subst a; rw [upL_at]; have := hg k; omega
          · rw [upL_ne a]; exact hg k)]
      · rw [ivN_neg c, ivN_neg c]
def asc : Nat → Nat → List Nat
  | 0, _ => []
  | m + 1, i => i :: asc m (i + 1)
theorem asc_mem : ∀ {m i k : Nat}, k ∈ asc m i ↔ i ≤ k ∧ k < i + m := by
  intro m
  induction m with
  | zero => intro i k; simp [asc]
  | succ m ih => intro i k; simp only [asc, List.mem_cons, ih]; omega
theorem boxes_split (a : Nat → Nat) : ∀ m i, boxes a (i + m) = boxes a i + boxes (fun t => a (i + t)) m := by
  intro m
  induction m with
  | zero => intro i; rfl
  | succ m ih => intro i; rw [← Nat.add_assoc]; simp only [boxes]; rw [ih]; omega
theorem boxes_front (a : Nat → Nat) : ∀ m i, boxes (fun t => a (i + t)) (m + 1) = a i + boxes (fun t => a (i + 1 + t)) m := by
  intro m
  induction m with
  | zero => intro i; simp [boxes]
  | succ m ih =>
    intro i
    have e1 : boxes (fun t => a (i + t)) (m + 1 + 1) = boxes (fun t => a (i + t)) (m + 1) + a (i + (m + 1)) := rfl
    have e2 : boxes (fun t => a (i + 1 + t)) (m + 1) = boxes (fun t => a (i + 1 + t)) m + a (i + 1 + m) := rfl
    rw [e1, e2, ih, show i + 1 + m = i + (m + 1) by omega]
    omega
/-- rows by places -/
theorem rowT_csum {f : (Nat → Nat) → Nat} {S : Nat → Nat} : ∀ (m i t : Nat) (a : Nat → Nat), i + m = 8 → (∀ k, k < i → a k ≤ S k) → (∀ k, i ≤ k → a k = 0) → rowT f m i t (sbt S a) = csum KM (fun b => ivN ((∀ j, i ≤ j → j < 8 → b j ≤ dif S j) ∧ boxes (fun s => b (i + s)) m = t) (f (sbt S b))) (asc m i) a := by
  intro m
  induction m with
  | zero =>
    intro i t a hi ha hz
    show ivN (t = 0) (f (sbt S a)) = ivN _ (f (sbt S a))
    by_cases c : t = 0
    · rw [ivN_pos c, ivN_pos ⟨fun j a b => by omega, c.symm⟩]
    · rw [ivN_neg c, ivN_neg (fun q => c q.2.symm)]
  | succ m ih =>
    intro i t a hi ha hz
    simp only [rowT, asc, csum]
    apply sumN_congr
    intro v _
    have ed : dif (sbt S a) i = dif S i := by
      unfold dif sbt
      rw [hz i (Nat.le_refl _), hz (i + 1) (by omega)]
      rfl
    have es : upL (sbt S a) i (sbt S a i - v) = sbt S (upL a i v) := by
      funext k
      by_cases c : k = i
      · subst c; rw [upL_at]; unfold sbt; rw [upL_at, hz k (Nat.le_refl _)]; rfl
      · rw [upL_ne c]; unfold sbt; rw [upL_ne c]
    rw [ed, es]
    by_cases c : v ≤ t ∧ v ≤ dif S i
    · rw [ivN_pos c, ih (i + 1) (t - v) (upL a i v) (by omega) (fun k hk => by
        by_cases e : k = i
        · subst e; rw [upL_at]; have := c.2; unfold dif at this; omega
        · rw [upL_ne e]; exact ha k (by omega)) (fun k hk => by rw [upL_ne (by omega)]; exact hz k (by omega))]
      apply csum_cong
      intro b hb
      have hbi : b i = v := by rw [hb i (fun q => by rw [asc_mem] at q; omega), upL_at]
      have ec : ((∀ j, i + 1 ≤ j → j < 8 → b j ≤ dif S j) ∧ boxes (fun s => b (i + 1 + s)) m = t - v) ↔ ((∀ j, i ≤ j → j < 8 → b j ≤ dif S j) ∧ boxes (fun s => b (i + s)) (m + 1) = t) := by
        rw [boxes_front, hbi]
        constructor
        · rintro ⟨q1, q2⟩
          refine ⟨fun j a b' => ?_, by omega⟩
          by_cases e : j = i
          · subst e; rw [hbi]; exact c.2
          · exact q1 j (by omega) b'
        · rintro ⟨q1, q2⟩
          exact ⟨fun j a b' => q1 j (by omega) b', by omega⟩
      by_cases w : (∀ j, i + 1 ≤ j → j < 8 → b j ≤ dif S j) ∧ boxes (fun s => b (i + 1 + s)) m = t - v
      · rw [ivN_pos w, ivN_pos (ec.mp w)]
      · rw [ivN_neg w, ivN_neg (fun u => w (ec.mpr u))]
    · rw [ivN_neg c]
      symm
      apply csum_zero
      intro b hb
      have hbi : b i = v := by rw [hb i (fun q => by rw [asc_mem] at q; omega), upL_at]
      apply ivN_neg
      rintro ⟨q1, q2⟩
      rw [boxes_front, hbi] at q2
      exact c ⟨by omega, by have := q1 i (Nat.le_refl _) (by omega); rw [hbi] at this; exact this⟩
def dsc : Nat → List Nat
  | 0 => []
  | m + 1 => m :: dsc m
theorem bsum_csum {M : Nat} (g : (Nat → Nat) → Nat) : ∀ k a, bsum M g k a = csum M g (dsc k) a := by
  intro k
  induction k with
  | zero => intro a; rfl
  | succ k ih => intro a; simp only [bsum, dsc, csum]; exact sumN_congr (fun v _ => ih _)
theorem sbt_zero (S : Nat → Nat) : sbt S (fun _ => 0) = S := by funext k; simp [sbt]
/-- strips box by box, the first ones from above -/
theorem kos_bxT {c : Nat} {cs : List Nat} {S : Nat → Nat} (hB : ∀ k, S k < KM) : kos (c :: cs) S = bxT (kos cs) c 0 S := by
  rw [bxT_row c 8 0 S (by omega) hB]
  have e := rowT_csum (f := kos cs) (S := S) 8 0 c (fun _ => 0) (by omega) (fun k hk => by omega) (fun _ _ => rfl)
  rw [sbt_zero] at e
  rw [e]
  simp only [kos]
  rw [bsum_csum, csum_perm _ (show List.Perm (dsc 8) (asc 8 0) by decide)]
  apply csum_cong
  intro b _
  have hb0 : (fun s => b (0 + s)) = b := by funext s; rw [Nat.zero_add]
  rw [hb0]
  by_cases w : (∀ j, j < 8 → b j ≤ dif S j) ∧ boxes b 8 = c
  · rw [ivN_pos w, ivN_pos ⟨fun j _ hj => w.1 j hj, w.2⟩]
  · rw [ivN_neg w, ivN_neg (fun u => w ⟨fun j hj => u.1 j (Nat.zero_le _) hj, u.2⟩)]
/-- the class's ways: nl says at which places a new letter begins -/
noncomputable def Wf (nl : Nat → Bool) : Nat → (Nat → Nat) → Nat → Nat
  | 0, _, _ => 1
  | n + 1, g, i => sumN (fun j => ivN (i ≤ j ∧ g (j + 1) < g j) (Wf nl n (dcb g j) (if nl n = true then 0 else j))) 8
theorem boxes_dcb {g : Nat → Nat} {j : Nat} : ∀ m, j < m → 0 < g j → boxes (dcb g j) m + 1 = boxes g m := by
  intro m
  induction m with
  | zero => intro h; omega
  | succ m ih =>
    intro hj hg
    simp only [boxes]
    by_cases c : j = m
    · subst c
      have : boxes (dcb g j) j = boxes g j := boxes_congr (fun k hk => by unfold dcb; rw [upL_ne (by omega)])
      rw [this]
      unfold dcb
      rw [upL_at]
      omega
    · have := ih (by omega) hg
      have e : dcb g j m = g m := by unfold dcb; rw [upL_ne (by omega)]
      rw [e]
      omega
theorem Wf_bxT {nl : Nat → Bool} {rest : Nat} {f : (Nat → Nat) → Nat} (hf : ∀ g, par g → (∀ k, 8 ≤ k → g k = 0) → (∀ k, g k < KM) → boxes g 8 = rest → Wf nl rest g 0 = f g) (h0 : nl rest = true) : ∀ (t : Nat) (i : Nat) (g : Nat → Nat), (∀ s, s < t → nl (rest + 1 + s) = false) → par g → (∀ k, 8 ≤ k → g k = 0) → (∀ k, g k < KM) → boxes g 8 = rest + (t + 1) → Wf nl (rest + (t + 1)) g i = bxT f (t + 1) i g := by
  intro t
  have dk : ∀ (g : Nat → Nat) (j : Nat), (∀ k, g k < KM) → ∀ k, dcb g j k < KM := by
    intro g j hg k
    unfold dcb
    by_cases a : k = j
    · subst a; rw [upL_at]; have := hg k; omega
    · rw [upL_ne a]; exact hg k
  have d8 : ∀ (g : Nat → Nat) (j : Nat), j < 8 → (∀ k, 8 ≤ k → g k = 0) → ∀ k, 8 ≤ k → dcb g j k = 0 := by
    intro g j hj hg k hk
    unfold dcb
    rw [upL_ne (by omega)]
    exact hg k hk
  induction t with
  | zero =>
    intro i g _ hp h8 hB hb
    show sumN _ 8 = sumN _ 8
    apply sumN_congr
    intro j hj
    by_cases c : i ≤ j ∧ g (j + 1) < g j
    · rw [ivN_pos c, ivN_pos c, if_pos h0]
      have := boxes_dcb (g := g) (j := j) 8 hj (by omega)
      exact hf (dcb g j) (par_dcb hp c.2) (d8 g j hj h8) (dk g j hB) (by omega)
    · rw [ivN_neg c, ivN_neg c]
  | succ t ih =>
    intro i g hn hp h8 hB hb
    show sumN _ 8 = sumN _ 8
    apply sumN_congr
    intro j hj
    by_cases c : i ≤ j ∧ g (j + 1) < g j
    · have e : nl (rest + (t + 1)) = false := by
        have := hn t (by omega)
        rw [show rest + 1 + t = rest + (t + 1) by omega] at this
        exact this
      rw [ivN_pos c, ivN_pos c]
      show Wf nl (rest + (t + 1)) (dcb g j) (if nl (rest + (t + 1)) = true then 0 else j) = _
      rw [if_neg (show ¬ nl (rest + (t + 1)) = true by rw [e]; decide)]
      have := boxes_dcb (g := g) (j := j) 8 hj (by omega)
      exact ih j (dcb g j) (fun s hs => hn s (by omega)) (par_dcb hp c.2) (d8 g j hj h8) (dk g j hB) (by omega)
    · rw [ivN_neg c, ivN_neg c]
/-- new letters begin where the counts say: the last letter's count first -/
def nlOk (nl : Nat → Bool) : List Nat → Prop
  | [] => True
  | c :: cs => 0 < c ∧ nl cs.sum = true ∧ (∀ s, s + 1 < c → nl (cs.sum + 1 + s) = false) ∧ nlOk nl cs
theorem Wf_kos {nl : Nat → Bool} : ∀ (cs : List Nat), nlOk nl cs → ∀ g, par g → (∀ k, 8 ≤ k → g k = 0) → (∀ k, g k < KM) → boxes g 8 = cs.sum → Wf nl cs.sum g 0 = kos cs g := by
  intro cs
  induction cs with
  | nil =>
    intro _ g _ _ _ hb
    show 1 = (if boxes g 8 = 0 then 1 else 0)
    rw [if_pos (show boxes g 8 = 0 from hb)]
  | cons c cs ih =>
    intro hn g hp h8 hB hb
    obtain ⟨h1, h2, h3, h4⟩ := hn
    rw [kos_bxT hB, List.sum_cons]
    rw [List.sum_cons] at hb
    obtain ⟨t, rfl⟩ : ∃ t, c = t + 1 := ⟨c - 1, by omega⟩
    rw [show t + 1 + cs.sum = cs.sum + (t + 1) by omega]
    exact Wf_bxT (fun g a b c d => ih h4 g a b c d) h2 t 0 g (fun s hs => h3 s (by omega)) hp h8 hB (by omega)
end FIL
