section CHI2
def Bits (B : Nat) (x : Nat → Int) : Prop := ∀ p : Nat, B.testBit p = true ↔ ∃ i, i < 8 ∧ x i = (p : Int)
def dcr (x : Nat → Int) : Prop := ∀ i, i + 1 < 8 → x (i + 1) < x i
theorem dcr_lt {x : Nat → Int} (h : dcr x) : ∀ (m i : Nat), i + m + 1 < 8 → x (i + m + 1) < x i := by
  intro m
  induction m with
  | zero => intro i hi; exact h i hi
  | succ m ih =>
    intro i hi
    have h1 := ih i (by omega)
    have h2 := h (i + m + 1) (by omega)
    rw [show i + (m + 1) + 1 = i + m + 1 + 1 by omega]
    omega
theorem dcr_lt' {x : Nat → Int} (h : dcr x) {i j : Nat} (hij : i < j) (hj : j < 8) : x j < x i := by
  have := dcr_lt h (j - i - 1) i (by omega)
  rwa [show i + (j - i - 1) + 1 = j by omega] at this
theorem dcr_inj {x : Nat → Int} (h : dcr x) {i j : Nat} (hi : i < 8) (hj : j < 8) (e : x i = x j) : i = j := by
  rcases Nat.lt_trichotomy i j with q | q | q
  · have := dcr_lt' h q hj; omega
  · exact q
  · have := dcr_lt' h q hi; omega
theorem sumZ_single {g : Nat → Int} {i0 : Nat} : ∀ {n : Nat}, i0 < n → (∀ i, i < n → i ≠ i0 → g i = 0) → sumZ g n = g i0 := by
  intro n
  induction n with
  | zero => intro h; omega
  | succ n ih =>
    intro h e
    simp only [sumZ]
    by_cases k : i0 = n
    · subst k
      rw [sumZ_zero (fun i hi => e i (by omega) (by omega))]
      omega
    · rw [ih (by omega) (fun i hi hne => e i (by omega) hne), e n (by omega) (by omega)]
      omega
theorem one_bead {B : Nat} {x : Nat → Int} (hb : Bits B x) (hd : dcr x) (q : Nat) (g : Int) : (if B.testBit q = true then g else 0) = sumZ (fun i => if x i = (q : Int) then g else 0) 8 := by
  by_cases k : B.testBit q = true
  · rw [if_pos k]
    obtain ⟨i0, h1, h2⟩ := (hb q).mp k
    rw [sumZ_single h1 (fun i hi hne => by
      rw [if_neg (fun e => hne (dcr_inj hd hi h1 (by omega)))])]
    rw [if_pos h2]
  · rw [if_neg k]
    exact (sumZ_zero (fun i hi => by
      rw [if_neg (fun e => k ((hb q).mpr ⟨i, hi, e⟩))])).symm
/-- how many beads lie at p + 1 to p + n -/
def psd (B p : Nat) : Nat → Nat
  | 0 => 0
  | n + 1 => psd B p n + (if B.testBit (p + n + 1) = true then 1 else 0)
theorem psd_sum (B p : Nat) : ∀ n, (psd B p n : Int) = sumZ (fun j => if B.testBit (p + j + 1) = true then 1 else 0) n := by
  intro n
  induction n with
  | zero => rfl
  | succ n ih =>
    simp only [psd, sumZ]
    rw [← ih]
    split <;> simp
def phiN (bs : Nat → Int) : List Nat → Nat → Int
  | [], B => bs B
  | k :: ks, B => sumZ (fun p => if B.testBit (p + k) = true ∧ B.testBit p = false then sgn (psd B p (k - 1)) * phiN bs ks (B ^^^ 2 ^ p ^^^ 2 ^ (p + k)) else 0) 22
theorem swp_mem {x : Nat → Int} {j : Nat} (hj : j + 1 < 8) (v : Int) : (∃ t, t < 8 ∧ swp j x t = v) ↔ ∃ t, t < 8 ∧ x t = v := by
  constructor
  · rintro ⟨t, h1, h2⟩
    exact ⟨tau j t, tau_lt hj h1, h2⟩
  · rintro ⟨t, h1, h2⟩
    refine ⟨tau j t, tau_lt hj h1, ?_⟩
    unfold swp
    rw [tau_tau]
    exact h2
theorem rtt_zero (x : Nat → Int) (i : Nat) : rtt x i 0 = x := by
  funext t
  unfold rtt
  by_cases h1 : t < i
  · rw [if_pos h1]
  · rw [if_neg h1, if_neg (by omega)]
    by_cases h2 : t = i + 0
    · rw [if_pos h2, h2]; rfl
    · rw [if_neg h2]
theorem rtt_mem {x : Nat → Int} {i : Nat} (v : Int) : ∀ m, i + m < 8 → ((∃ t, t < 8 ∧ rtt x i m t = v) ↔ ∃ t, t < 8 ∧ x t = v) := by
  intro m
  induction m with
  | zero => intro _; rw [rtt_zero]
  | succ m ih =>
    intro h
    rw [rtt_succ, swp_mem (by omega)]
    exact ih (by omega)
theorem rtt_sum {x : Nat → Int} {i : Nat} : ∀ m, i + m < 8 → sumZ (rtt x i m) 8 = sumZ x 8 := by
  intro m
  induction m with
  | zero => intro _; rw [rtt_zero]
  | succ m ih =>
    intro h
    rw [rtt_succ, ← ih (by omega)]
    exact sumZ_tau (j := i + m) (rtt x i m) 8 (by omega)
theorem shf_sum {x : Nat → Int} {i : Nat} {k : Int} (hi : i < 8) : sumZ (shf x i k) 8 = sumZ x 8 - k := by
  have e : shf x i k = fun t => x t + (if t = i then -k else 0) := by
    funext t
    unfold shf
    split <;> omega
  rw [e, sumZ_add, sumZ_single (g := fun t => if t = i then -k else 0) hi (fun t _ hne => if_neg hne)]
  simp only [if_true]
  omega
/-- where a bead that has gone down comes to lie among the others -/
theorem place_of {x : Nat → Int} {i : Nat} (y : Int) : ∀ n, i + n = 7 → ∃ m, i + m < 8 ∧ (∀ t, i < t → t ≤ i + m → y < x t) ∧ (i + m + 1 < 8 → x (i + m + 1) ≤ y) := by
  have gen : ∀ n j, j + n = 7 → i ≤ j → (∀ t, i < t → t ≤ j → y < x t) → ∃ m, i + m < 8 ∧ (∀ t, i < t → t ≤ i + m → y < x t) ∧ (i + m + 1 < 8 → x (i + m + 1) ≤ y) := by
    intro n
    induction n with
    | zero =>
      intro j h1 h2 h3
      refine ⟨j - i, by omega, fun t a b => h3 t a (by omega), fun q => by omega⟩
    | succ n ih =>
      intro j h1 h2 h3
      by_cases k : y < x (j + 1)
      · refine ih (j + 1) (by omega) (by omega) (fun t a b => ?_)
        by_cases e : t = j + 1
        · subst e; exact k
        · exact h3 t a (by omega)
      · refine ⟨j - i, by omega, fun t a b => h3 t a (by omega), fun q => ?_⟩
        rw [show i + (j - i) + 1 = j + 1 by omega]
        omega
  intro n h
  exact gen n i h (Nat.le_refl _) (fun t a b => by omega)
theorem count_seg (i m : Nat) : ∀ n, i + m < n → sumZ (fun t => if i < t ∧ t ≤ i + m then 1 else 0) n = m := by
  have base : ∀ n, n ≤ i + 1 → sumZ (fun t => if i < t ∧ t ≤ i + m then 1 else 0) n = 0 := by
    intro n h
    exact sumZ_zero (fun t ht => by rw [if_neg (by omega)])
  have mid : ∀ d, d ≤ m → sumZ (fun t => if i < t ∧ t ≤ i + m then 1 else 0) (i + 1 + d) = d := by
    intro d
    induction d with
    | zero => intro _; exact base _ (Nat.le_refl _)
    | succ d ih =>
      intro hd
      rw [show i + 1 + (d + 1) = (i + 1 + d) + 1 by omega]
      simp only [sumZ]
      rw [ih (by omega), if_pos (by omega)]
      omega
  intro n
  induction n with
  | zero => intro h; omega
  | succ n ih =>
    intro h
    by_cases k : n = i + m
    · subst k
      rw [show i + m + 1 = i + 1 + m by omega]
      exact mid m (Nat.le_refl _)
    · simp only [sumZ]
      rw [ih (by omega), if_neg (by omega)]
      omega
set_option maxHeartbeats 1000000 in
theorem phi_chi {bs : Nat → Int} (hbs : bs 255 = 1) : ∀ (ks : List Nat) (B : Nat) (x : Nat → Int), (∀ k, k ∈ ks → 0 < k) → Bits B x → dcr x → (∀ i, i < 8 → 0 ≤ x i ∧ x i < 22) → sumZ x 8 = 28 + (ks.sum : Int) → phiN bs ks B = chi ks x := by
  intro ks
  induction ks with
  | nil =>
    intro B x _ hb hd hx hs
    have l0 := hx 7 (by omega)
    have d0 := hd 0 (by omega)
    have d1 := hd 1 (by omega)
    have d2 := hd 2 (by omega)
    have d3 := hd 3 (by omega)
    have d4 := hd 4 (by omega)
    have d5 := hd 5 (by omega)
    have d6 := hd 6 (by omega)
    simp only [sumZ, List.sum_nil] at hs
    simp only [Nat.reduceAdd] at d0 d1 d2 d3 d4 d5 d6
    have e0 : x 0 = 7 := by omega
    have e1 : x 1 = 6 := by omega
    have e2 : x 2 = 5 := by omega
    have e3 : x 3 = 4 := by omega
    have e4 : x 4 = 3 := by omega
    have e5 : x 5 = 2 := by omega
    have e6 : x 6 = 1 := by omega
    have e7 : x 7 = 0 := by omega
    have eB : B = 255 := by
      apply Nat.eq_of_testBit_eq
      intro p
      have key : (∃ i, i < 8 ∧ x i = (p : Int)) ↔ p < 8 := by
        constructor
        · rintro ⟨i, h1, h2⟩
          have : i = 0 ∨ i = 1 ∨ i = 2 ∨ i = 3 ∨ i = 4 ∨ i = 5 ∨ i = 6 ∨ i = 7 := by omega
          rcases this with rfl | rfl | rfl | rfl | rfl | rfl | rfl | rfl <;> omega
        · intro h
          refine ⟨7 - p, by omega, ?_⟩
          have : p = 0 ∨ p = 1 ∨ p = 2 ∨ p = 3 ∨ p = 4 ∨ p = 5 ∨ p = 6 ∨ p = 7 := by omega
          rcases this with rfl | rfl | rfl | rfl | rfl | rfl | rfl | rfl <;> simp [e0, e1, e2, e3, e4, e5, e6, e7]
      have h255 : Nat.testBit 255 p = true ↔ p < 8 := by
        rw [show (255 : Nat) = 2 ^ 8 - 1 by rfl, Nat.testBit_two_pow_sub_one]
        simp
      have := hb p
      rw [key, ← h255] at this
      exact Bool.eq_iff_iff.mpr this
    show bs B = chi0 x
    rw [eB, hbs]
    simp [chi0, vdm, vdr, prodZ, sgz, e0, e1, e2, e3, e4, e5, e6, e7]
  | cons k ks ih =>
    intro B x hk hb hd hx hs
    have hk0 : 0 < k := hk k (List.mem_cons_self ..)
    rw [List.sum_cons] at hs
    show sumZ _ 22 = sumZ (fun i => chi ks (shf x i k)) 8
    -- from places to beads
    have st1 : sumZ (fun p => if B.testBit (p + k) = true ∧ B.testBit p = false then sgn (psd B p (k - 1)) * phiN bs ks (B ^^^ 2 ^ p ^^^ 2 ^ (p + k)) else 0) 22 = sumZ (fun p => sumZ (fun i => if x i = ((p + k : Nat) : Int) then (if B.testBit p = false then sgn (psd B p (k - 1)) * phiN bs ks (B ^^^ 2 ^ p ^^^ 2 ^ (p + k)) else 0) else 0) 8) 22 := by
      apply sumZ_congr
      intro p _
      rw [← one_bead hb hd]
      by_cases q : B.testBit (p + k) = true
      · simp only [q, true_and, if_true]
      · rw [if_neg (fun w => q w.1), if_neg q]
    rw [st1, sumZ_swap]
    apply sumZ_congr
    intro i hi
    have hxi := hx i hi
    by_cases hy : x i - k < 0
    · rw [chi_neg ks (shf x i k) i hi (by unfold shf; rw [if_pos rfl]; exact hy)]
      apply sumZ_zero
      intro p _
      rw [if_neg (by omega)]
    · have hp : ∃ p : Nat, x i = ((p + k : Nat) : Int) := ⟨(x i - k).toNat, by omega⟩
      obtain ⟨p, hp⟩ := hp
      rw [sumZ_single (i0 := p) (by omega) (fun q _ hne => by rw [if_neg (by omega)])]
      rw [if_pos hp]
      obtain ⟨m, m1, m2, m3⟩ := place_of (x := x) (i := i) (p : Int) (7 - i) (by omega)
      have z0 : ∀ t, t ≠ i → shf x i k t = x t := fun t ht => by unfold shf; rw [if_neg ht]
      have zi : shf x i k i = p := by unfold shf; rw [if_pos rfl]; omega
      rw [alt_rtt (chi_alt ks) (shf x i k) i m m1]
      by_cases hbp : B.testBit p = false
      · rw [if_pos hbp]
        have nb : ∀ t, t < 8 → x t ≠ (p : Int) := fun t ht e => by
          have := (hb p).mpr ⟨t, ht, e⟩
          rw [hbp] at this
          cases this
        have m4 : i + m + 1 < 8 → x (i + m + 1) < (p : Int) := fun q => by
          have := m3 q
          have := nb (i + m + 1) q
          omega
        -- the number of beads passed
        have hm : psd B p (k - 1) = m := by
          have : (psd B p (k - 1) : Int) = m := by
            rw [psd_sum]
            rw [sumZ_congr (h := fun j => sumZ (fun t => if x t = ((p + j + 1 : Nat) : Int) then 1 else 0) 8) (fun j _ => one_bead hb hd (p + j + 1) 1)]
            rw [sumZ_swap, ← count_seg i m 8 (by omega)]
            apply sumZ_congr
            intro t ht
            by_cases q : i < t ∧ t ≤ i + m
            · rw [if_pos q]
              have a1 := m2 t q.1 q.2
              have a2 := dcr_lt' hd q.1 ht
              rw [sumZ_single (i0 := (x t - p - 1).toNat) (by omega) (fun j _ hne => by rw [if_neg (by omega)])]
              rw [if_pos (by omega)]
            · rw [if_neg q]
              apply sumZ_zero
              intro j hj
              rw [if_neg]
              intro e
              by_cases q1 : t < i
              · have := dcr_lt' hd q1 hi; omega
              · by_cases q2 : t = i
                · subst q2; omega
                · have q3 : i + m + 1 ≤ t := by omega
                  have a3 := m4 (by omega)
                  by_cases q4 : t = i + m + 1
                  · subst q4; omega
                  · have := dcr_lt' hd (show i + m + 1 < t by omega) ht; omega
          omega
        rw [hm]
        congr 1
        apply ih
        · exact fun a ha => hk a (List.mem_cons_of_mem _ ha)
        · -- the bits
          intro q
          rw [rtt_mem _ m m1]
          have mem : (∃ t, t < 8 ∧ shf x i k t = (q : Int)) ↔ (q = p ∨ (∃ t, t < 8 ∧ t ≠ i ∧ x t = (q : Int))) := by
            constructor
            · rintro ⟨t, h1, h2⟩
              by_cases e : t = i
              · subst e; rw [zi] at h2; left; omega
              · rw [z0 t e] at h2; right; exact ⟨t, h1, e, h2⟩
            · rintro (h | ⟨t, h1, h2, h3⟩)
              · exact ⟨i, hi, by rw [zi, h]⟩
              · exact ⟨t, h1, by rw [z0 t h2]; exact h3⟩
          rw [mem, Nat.testBit_xor, Nat.testBit_xor, Nat.testBit_two_pow, Nat.testBit_two_pow]
          by_cases e1 : q = p
          · subst e1
            rw [hbp]
            have : ¬ (k = 0) := by omega
            simp [this]
          · have e1' : ¬ p = q := fun h => e1 h.symm
            by_cases e2 : q = p + k
            · have hbt : B.testBit q = true := (hb q).mpr ⟨i, hi, by omega⟩
              have no : ¬ ∃ t, t < 8 ∧ t ≠ i ∧ x t = (q : Int) := by
                rintro ⟨t, h1, h2, h3⟩
                exact h2 (dcr_inj hd h1 hi (by omega))
              rw [hbt]
              have e2' : p + k = q := e2.symm
              simp [e1, e1', e2', no]
            · have e2' : ¬ p + k = q := fun h => e2 h.symm
              simp only [e1', e2', decide_false, Bool.xor_false, e1, false_or]
              rw [hb q]
              constructor
              · rintro ⟨t, h1, h2⟩
                refine ⟨t, h1, ?_, h2⟩
                intro e
                subst e
                omega
              · rintro ⟨t, h1, _, h2⟩
                exact ⟨t, h1, h2⟩
        · -- still falling
          intro t ht
          unfold rtt
          by_cases c1 : t + 1 < i
          · rw [if_pos c1, if_pos (by omega), z0 _ (by omega), z0 _ (by omega)]
            exact hd t ht
          · rw [if_neg c1]
            by_cases c2 : t < i
            · rw [if_pos c2, z0 t (by omega)]
              have a1 := dcr_lt' hd c2 hi
              by_cases c3 : t + 1 < i + m
              · rw [if_pos c3, z0 _ (by omega)]
                exact dcr_lt' hd (show t < t + 1 + 1 by omega) (by omega)
              · rw [if_neg c3]
                by_cases c4 : t + 1 = i + m
                · rw [if_pos c4, zi]; omega
                · omega
            · rw [if_neg c2]
              by_cases c3 : t + 1 < i + m
              · rw [if_pos c3, if_pos (by omega), z0 _ (by omega), z0 _ (by omega)]
                exact hd (t + 1) (by omega)
              · rw [if_neg c3]
                by_cases c4 : t + 1 = i + m
                · rw [if_pos c4, if_pos (by omega), zi, z0 _ (by omega)]
                  exact m2 (t + 1) (by omega) (by omega)
                · rw [if_neg c4, if_neg (by omega), z0 (t + 1) (by omega)]
                  by_cases c5 : t = i + m
                  · rw [if_pos c5, zi, c5]; exact m4 (by omega)
                  · rw [if_neg c5, z0 t (by omega)]
                    exact hd t ht
        · -- within bounds
          intro t ht
          have : ∃ s, s < 8 ∧ shf x i k s = rtt (shf x i k) i m t := (rtt_mem _ m m1).mp ⟨t, ht, rfl⟩
          obtain ⟨s, s1, s2⟩ := this
          rw [← s2]
          by_cases e : s = i
          · subst e; rw [zi]; omega
          · rw [z0 s e]; exact hx s s1
        · rw [rtt_sum m m1, shf_sum hi, hs]
          omega
      · rw [if_neg hbp]
        have hbt : B.testBit p = true := by
          cases h : B.testBit p
          · exact absurd h hbp
          · rfl
        obtain ⟨s, s1, s2⟩ := (hb p).mp hbt
        have ss : i < s := by
          rcases Nat.lt_trichotomy i s with q | q | q
          · exact q
          · subst q; omega
          · have := dcr_lt' hd q hi; omega
        have s3 : i + m < s := by
          apply Nat.lt_of_not_le
          intro q
          have := m2 s ss q
          omega
        have s4 : s = i + m + 1 := by
          apply Nat.le_antisymm
          · apply Nat.le_of_not_lt
            intro q
            have a1 := m3 (by omega)
            have a2 := dcr_lt' hd q s1
            omega
          · omega
        have : chi ks (rtt (shf x i k) i m) = 0 := by
          apply alt_eq (chi_alt ks) (j := i + m) (by omega)
          unfold rtt
          rw [if_neg (by omega), if_neg (by omega), if_pos rfl, if_neg (by omega), if_neg (by omega), if_neg (by omega), zi, z0 _ (by omega), ← s4, s2]
        rw [this, Int.mul_zero]
/-- the order in which hooks are taken off does not count -/
theorem phi_perm {bs bt : Nat → Int} (hbs : bs 255 = 1) (hbt : bt 255 = 1) {ks ls : List Nat} {B : Nat} {x : Nat → Int} (hp : List.Perm ks ls) (hk : ∀ k, k ∈ ks → 0 < k) (hb : Bits B x) (hd : dcr x) (hx : ∀ i, i < 8 → 0 ≤ x i ∧ x i < 22) (hs : sumZ x 8 = 28 + (ks.sum : Int)) : phiN bs ks B = phiN bt ls B := by
  rw [phi_chi hbs ks B x hk hb hd hx hs, phi_chi hbt ls B x (fun k h => hk k (hp.mem_iff.mpr h)) hb hd hx (by rw [hs, hp.sum_nat]), chi_perm hp]
end CHI2
