section CHI
/-- the sum of the first n values -/
def sumZ (g : Nat → Int) : Nat → Int
  | 0 => 0
  | n + 1 => sumZ g n + g n
theorem sumZ_congr {g h : Nat → Int} : ∀ {n : Nat}, (∀ i, i < n → g i = h i) → sumZ g n = sumZ h n := by
  intro n
  induction n with
  | zero => intro _; rfl
  | succ n ih =>
    intro e
    simp only [sumZ]
    rw [ih (fun i hi => e i (by omega)), e n (by omega)]
theorem sumZ_zero {g : Nat → Int} : ∀ {n : Nat}, (∀ i, i < n → g i = 0) → sumZ g n = 0 := by
  intro n
  induction n with
  | zero => intro _; rfl
  | succ n ih =>
    intro e
    simp only [sumZ]
    rw [ih (fun i hi => e i (by omega)), e n (by omega)]
    rfl
theorem sumZ_neg (g : Nat → Int) : ∀ n, sumZ (fun i => - g i) n = - sumZ g n := by
  intro n
  induction n with
  | zero => rfl
  | succ n ih =>
    simp only [sumZ]
    rw [ih]
    omega
theorem sumZ_add (g h : Nat → Int) : ∀ n, sumZ (fun i => g i + h i) n = sumZ g n + sumZ h n := by
  intro n
  induction n with
  | zero => rfl
  | succ n ih =>
    simp only [sumZ]
    rw [ih]
    omega
theorem sumZ_mul (c : Int) (g : Nat → Int) : ∀ n, sumZ (fun i => c * g i) n = c * sumZ g n := by
  intro n
  induction n with
  | zero => simp [sumZ]
  | succ n ih =>
    simp only [sumZ]
    rw [ih, Int.mul_add]
theorem sumZ_swap (g : Nat → Nat → Int) (m : Nat) : ∀ n, sumZ (fun i => sumZ (fun j => g i j) m) n = sumZ (fun j => sumZ (fun i => g i j) n) m := by
  intro n
  induction n with
  | zero =>
    simp only [sumZ]
    exact (sumZ_zero (fun i _ => rfl)).symm
  | succ n ih =>
    simp only [sumZ]
    rw [ih, ← sumZ_add]
def tau (j i : Nat) : Nat := if i = j then j + 1 else if i = j + 1 then j else i
theorem tau_tau (j i : Nat) : tau j (tau j i) = i := by
  by_cases h1 : i = j
  · subst h1; simp [tau]
  · by_cases h2 : i = j + 1
    · subst h2; simp [tau]
    · simp [tau, h1, h2]
theorem tau_inj {j a b : Nat} (h : tau j a = tau j b) : a = b := by
  have := congrArg (tau j) h
  rwa [tau_tau, tau_tau] at this
theorem tau_lt {j i n : Nat} (hj : j + 1 < n) (hi : i < n) : tau j i < n := by
  unfold tau
  (repeat' split) <;> omega
theorem sumZ_tau {j : Nat} (g : Nat → Int) : ∀ n, j + 1 < n → sumZ (fun i => g (tau j i)) n = sumZ g n := by
  intro n
  induction n with
  | zero => intro h; omega
  | succ n ih =>
    intro h
    by_cases k : j + 1 < n
    · simp only [sumZ]
      rw [ih k, show tau j n = n by unfold tau; rw [if_neg (by omega), if_neg (by omega)]]
    · have e : n = j + 1 := by omega
      subst e
      simp only [sumZ]
      rw [show tau j j = j + 1 by simp [tau], show tau j (j + 1) = j by simp [tau], sumZ_congr (n := j) (h := g) (fun i hi => by rw [show tau j i = i by unfold tau; rw [if_neg (by omega), if_neg (by omega)]])]
      omega
/-- the product of the first n values -/
def prodZ (g : Nat → Int) : Nat → Int
  | 0 => 1
  | n + 1 => prodZ g n * g n
theorem prodZ_congr {g h : Nat → Int} : ∀ {n : Nat}, (∀ i, i < n → g i = h i) → prodZ g n = prodZ h n := by
  intro n
  induction n with
  | zero => intro _; rfl
  | succ n ih =>
    intro e
    simp only [prodZ]
    rw [ih (fun i hi => e i (by omega)), e n (by omega)]
theorem prodZ_tau {j : Nat} (g : Nat → Int) : ∀ n, j + 1 < n → prodZ (fun i => g (tau j i)) n = prodZ g n := by
  intro n
  induction n with
  | zero => intro h; omega
  | succ n ih =>
    intro h
    by_cases k : j + 1 < n
    · simp only [prodZ]
      rw [ih k, show tau j n = n by unfold tau; rw [if_neg (by omega), if_neg (by omega)]]
    · have e : n = j + 1 := by omega
      subst e
      simp only [prodZ]
      rw [show tau j j = j + 1 by simp [tau], show tau j (j + 1) = j by simp [tau], prodZ_congr (n := j) (h := g) (fun i hi => by rw [show tau j i = i by unfold tau; rw [if_neg (by omega), if_neg (by omega)]])]
      rw [Int.mul_assoc, Int.mul_assoc, Int.mul_comm (g (j + 1))]
theorem prodZ_z {g : Nat → Int} : ∀ {n : Nat} {i : Nat}, i < n → g i = 0 → prodZ g n = 0 := by
  intro n
  induction n with
  | zero => intro i h; omega
  | succ n ih =>
    intro i h e
    simp only [prodZ]
    by_cases k : i = n
    · subst k; rw [e, Int.mul_zero]
    · rw [ih (by omega) e, Int.zero_mul]
def sgz (a b : Int) : Int := if b < a then 1 else if a < b then -1 else 0
theorem sgz_anti (a b : Int) : sgz b a = - sgz a b := by
  unfold sgz
  (repeat' split) <;> omega
def vdr (x : Nat → Int) (j : Nat) : Int := prodZ (fun i => sgz (x i) (x j)) j
def vdm (x : Nat → Int) (n : Nat) : Int := prodZ (vdr x) n
def swp (j : Nat) (x : Nat → Int) : Nat → Int := fun t => x (tau j t)
theorem vdm_swp {j : Nat} (x : Nat → Int) : ∀ n, j + 1 < n → vdm (swp j x) n = - vdm x n := by
  intro n
  induction n with
  | zero => intro h; omega
  | succ n ih =>
    intro h
    by_cases k : j + 1 < n
    · have e : vdr (swp j x) n = vdr x n := by
        unfold vdr
        have e1 : swp j x n = x n := by
          unfold swp
          rw [show tau j n = n by unfold tau; rw [if_neg (by omega), if_neg (by omega)]]
        rw [e1]
        exact prodZ_tau (fun i => sgz (x i) (x n)) n k
      show vdm (swp j x) n * vdr (swp j x) n = -(vdm x n * vdr x n)
      rw [ih k, e, Int.neg_mul]
    · have e : n = j + 1 := by omega
      subst e
      show prodZ (vdr (swp j x)) j * vdr (swp j x) j * vdr (swp j x) (j + 1) = -(prodZ (vdr x) j * vdr x j * vdr x (j + 1))
      have e0 : ∀ i, i < j → swp j x i = x i := fun i hi => by
        unfold swp
        rw [show tau j i = i by unfold tau; rw [if_neg (by omega), if_neg (by omega)]]
      have ej : swp j x j = x (j + 1) := by simp [swp, tau]
      have ej1 : swp j x (j + 1) = x j := by simp [swp, tau]
      have a0 : prodZ (vdr (swp j x)) j = prodZ (vdr x) j := prodZ_congr (fun i hi => by
        unfold vdr
        rw [e0 i hi]
        exact prodZ_congr (fun t ht => by rw [e0 t (by omega)]))
      have a1 : vdr (swp j x) j = prodZ (fun i => sgz (x i) (x (j + 1))) j := by
        unfold vdr
        rw [ej]
        exact prodZ_congr (fun t ht => by rw [e0 t ht])
      have a2 : vdr (swp j x) (j + 1) = prodZ (fun i => sgz (x i) (x j)) j * sgz (x (j + 1)) (x j) := by
        show prodZ _ j * sgz (swp j x j) (swp j x (j + 1)) = _
        rw [ej, ej1]
        congr 1
        exact prodZ_congr (fun t ht => by rw [e0 t ht])
      have a3 : vdr x (j + 1) = prodZ (fun i => sgz (x i) (x (j + 1))) j * sgz (x j) (x (j + 1)) := rfl
      have a4 : vdr x j = prodZ (fun i => sgz (x i) (x j)) j := rfl
      rw [a0, a1, a2, a3, a4, sgz_anti (x j) (x (j + 1))]
      generalize prodZ (vdr x) j = A
      generalize prodZ (fun i => sgz (x i) (x (j + 1))) j = B
      generalize prodZ (fun i => sgz (x i) (x j)) j = C
      generalize sgz (x j) (x (j + 1)) = D
      rw [Int.mul_neg, Int.mul_neg, Int.mul_assoc, Int.mul_assoc A C, ← Int.mul_assoc B C D, ← Int.mul_assoc C B D, Int.mul_comm B C]
/-- the alternating function at the end -/
def chi0 (x : Nat → Int) : Int := prodZ (fun i => if 0 ≤ x i then 1 else 0) 8 * vdm x 8
def Altr (f : (Nat → Int) → Int) : Prop := ∀ (j : Nat) (x : Nat → Int), j + 1 < 8 → f (swp j x) = - f x
theorem chi0_alt : Altr chi0 := by
  intro j x h
  unfold chi0
  rw [vdm_swp x 8 h, Int.mul_neg, show prodZ (fun i => if 0 ≤ swp j x i then (1 : Int) else 0) 8 = prodZ (fun i => if 0 ≤ x i then (1 : Int) else 0) 8 from prodZ_tau (fun i => if 0 ≤ x i then (1 : Int) else 0) 8 h]
def shf (x : Nat → Int) (i : Nat) (k : Int) : Nat → Int := fun t => if t = i then x t - k else x t
theorem shf_comm (x : Nat → Int) (i j : Nat) (k l : Int) : shf (shf x i k) j l = shf (shf x j l) i k := by
  funext t
  unfold shf
  (repeat' split) <;> omega
theorem shf_swp (x : Nat → Int) (j i : Nat) (k : Int) : shf (swp j x) i k = swp j (shf x (tau j i) k) := by
  funext t
  show (if t = i then x (tau j t) - k else x (tau j t)) = (if tau j t = tau j i then x (tau j t) - k else x (tau j t))
  by_cases h : t = i
  · subst h; rw [if_pos rfl, if_pos rfl]
  · rw [if_neg h, if_neg (fun q => h (tau_inj q))]
def mvF (f : (Nat → Int) → Int) (k : Int) (x : Nat → Int) : Int := sumZ (fun i => f (shf x i k)) 8
theorem mvF_alt {f : (Nat → Int) → Int} (h : Altr f) (k : Int) : Altr (mvF f k) := by
  intro j x hj
  unfold mvF
  rw [← sumZ_neg, ← sumZ_tau (j := j) (fun i => - f (shf x i k)) 8 hj]
  exact sumZ_congr (fun i _ => by rw [shf_swp, h j _ hj])
theorem mvF_comm (f : (Nat → Int) → Int) (k l : Int) (x : Nat → Int) : mvF (mvF f k) l x = mvF (mvF f l) k x := by
  unfold mvF
  rw [sumZ_swap]
  exact sumZ_congr (fun i _ => sumZ_congr (fun j _ => by rw [shf_comm]))
def chi : List Nat → (Nat → Int) → Int
  | [] => chi0
  | k :: ks => mvF (chi ks) k
theorem chi_alt : ∀ ks, Altr (chi ks) := by
  intro ks
  induction ks with
  | nil => exact chi0_alt
  | cons k ks ih => exact mvF_alt ih k
theorem chi_perm {ks ls : List Nat} (h : List.Perm ks ls) : chi ks = chi ls := by
  induction h with
  | nil => rfl
  | cons a _ ih => simp only [chi]; rw [ih]
  | swap a b l =>
    funext x
    exact mvF_comm (chi l) a b x
  | trans _ _ h1 h2 => rw [h1, h2]
theorem chi_neg : ∀ (ks : List Nat) (x : Nat → Int) (i : Nat), i < 8 → x i < 0 → chi ks x = 0 := by
  intro ks
  induction ks with
  | nil =>
    intro x i hi hx
    show chi0 x = 0
    unfold chi0
    rw [prodZ_z hi (if_neg (by omega)), Int.zero_mul]
  | cons k ks ih =>
    intro x i hi hx
    show mvF (chi ks) k x = 0
    unfold mvF
    apply sumZ_zero
    intro t ht
    apply ih _ i hi
    unfold shf
    split <;> omega
theorem alt_eq {f : (Nat → Int) → Int} (h : Altr f) {x : Nat → Int} {j : Nat} (hj : j + 1 < 8) (e : x j = x (j + 1)) : f x = 0 := by
  have q := h j x hj
  have : swp j x = x := by
    funext t
    unfold swp tau
    by_cases h1 : t = j
    · subst h1; rw [if_pos rfl, e]
    · rw [if_neg h1]
      by_cases h2 : t = j + 1
      · subst h2; rw [if_pos rfl, e]
      · rw [if_neg h2]
  rw [this] at q
  omega
/-- entry i goes m places on -/
def rtt (x : Nat → Int) (i m : Nat) : Nat → Int := fun t => if t < i then x t else if t < i + m then x (t + 1) else if t = i + m then x i else x t
theorem rtt_succ (x : Nat → Int) (i m : Nat) : rtt x i (m + 1) = swp (i + m) (rtt x i m) := by
  funext t
  unfold swp tau
  by_cases h1 : t = i + m
  · subst h1
    rw [if_pos rfl]
    unfold rtt
    rw [if_neg (by omega), if_pos (by omega), if_neg (by omega), if_neg (by omega), if_neg (by omega)]
  · rw [if_neg h1]
    by_cases h2 : t = i + m + 1
    · subst h2
      rw [if_pos rfl]
      unfold rtt
      rw [if_neg (by omega), if_neg (by omega), if_pos (by omega), if_neg (by omega), if_neg (by omega), if_pos rfl]
    · rw [if_neg h2]
      unfold rtt
      by_cases h3 : t < i
      · rw [if_pos h3, if_pos h3]
      · rw [if_neg h3, if_neg h3]
        by_cases h4 : t < i + m
        · rw [if_pos (by omega), if_pos h4]
        · rw [if_neg (by omega), if_neg h4, if_neg (by omega), if_neg (by omega)]
def sgn (m : Nat) : Int := if m % 2 = 0 then 1 else -1
theorem sgn_succ (m : Nat) : sgn (m + 1) = - sgn m := by
  unfold sgn
  (repeat' split) <;> omega
theorem alt_rtt {f : (Nat → Int) → Int} (h : Altr f) (x : Nat → Int) (i : Nat) : ∀ m, i + m < 8 → f x = sgn m * f (rtt x i m) := by
  intro m
  induction m with
  | zero =>
    intro _
    have : rtt x i 0 = x := by
      funext t
      unfold rtt
      by_cases h1 : t < i
      · rw [if_pos h1]
      · rw [if_neg h1, if_neg (by omega)]
        by_cases h2 : t = i + 0
        · rw [if_pos h2, h2]; rfl
        · rw [if_neg h2]
    rw [this]
    simp [sgn]
  | succ m ih =>
    intro hm
    rw [ih (by omega), rtt_succ, h (i + m) _ (by omega), sgn_succ, Int.neg_mul_neg]
end CHI
