section INVD
def Inj (A : Nat → Nat) : Prop := ∀ i j, i < 67 → j < 67 → A i = A j → i = j
theorem Inj.ne {A : Nat → Nat} (h : Inj A) {i j : Nat} (hi : i < 67) (hj : j < 67) (hne : i ≠ j) : A i ≠ A j := fun e => hne (h i j hi hj e)
/-- only cells of T have changed -/
def Agr (A : Nat → Nat) (T : List Nat) (F F' : Mem) : Prop := ∀ i, i < 67 → i ∉ T → F' (A i) = F (A i)
theorem Agr.refl (A : Nat → Nat) (T : List Nat) (F : Mem) : Agr A T F F := fun _ _ _ => rfl
theorem Agr.up {A : Nat → Nat} (hA : Inj A) {T : List Nat} {F F' : Mem} {k : Nat} {c : Cl} (h : Agr A T F F') (hk : k < 67) (hm : k ∈ T) : Agr A T F (va_up F' (A k) c) := fun i hi hn => by
  rw [up_ne (hA.ne hi hk (fun e => hn (e ▸ hm)))]
  exact h i hi hn
theorem Agr.trans {A : Nat → Nat} {T : List Nat} {F F' F'' : Mem} (h : Agr A T F F') (h' : Agr A T F' F'') : Agr A T F F'' := fun i hi hn => (h' i hi hn).trans (h i hi hn)
theorem Agr.mono {A : Nat → Nat} {T U : List Nat} {F F' : Mem} (h : Agr A T F F') (hs : ∀ i, i ∈ T → i ∈ U) : Agr A U F F' := fun i hi hn => h i hi (fun q => hn (hs i q))
theorem isT_fr {F F' : Mem} {a la ta : Nat} {T : Nat → Nat → Nat} {O : Nat → Nat} (h : isT F a la ta T O) (e1 : F' a = F a) (e2 : F' la = F la) (e3 : F' ta = F ta) : isT F' a la ta T O := ⟨e1.trans h.1, e2.trans h.2.1, e3.trans h.2.2⟩
theorem isS_fr {F F' : Mem} {a la : Nat} {S : Nat → Nat} (h : isS F a la S) (e1 : F' a = F a) (e2 : F' la = F la) : isS F' a la S := ⟨e1.trans h.1, e2.trans h.2⟩
theorem isW_fr {F F' : Mem} {a la n : Nat} {W : Nat → Nat} (h : isW F a la W n) (e1 : F' a = F a) (e2 : F' la = F la) : isW F' a la W n := ⟨e1.trans h.1, e2.trans h.2⟩
/-- partitions' numbers: n boxes, no row longer than m -/
def pnt : Nat → Nat → Nat → Nat
  | 0, _, _ => 0
  | _ + 1, 0, _ => 1
  | _ + 1, _ + 1, 0 => 0
  | f + 1, n + 1, m + 1 => pnt f (n + 1) m + (if m ≤ n then pnt f (n - m) (m + 1) else 0)
def pn (n m : Nat) : Nat := if n < 25 then pnt 60 n m else 0
abbrev cPn : Cl := .inl (0, 625, .inl (fun i => iN (pn (i / 25) (i % 25))))
def gB (A : Nat → Nat) (F : Mem) (aw : Bool) : Prop := F (A 0) = .inr (8, [.ref (A 1), .ref (A 2), .ref (A 3), .ref (A 6), .int (bI aw), .ref (A 9), .ref (A 12), .ref (A 15), .ref (A 17), .ref (A 20), .ref (A 22), .ref (A 24), .ref (A 30)]) ∧ F (A 1) = .inl (3, 4, .inr (.inr (.inr (.inr (fun i => if i < 4 then some (A (37 + 2 * i)) else none))))) ∧ F (A 2) = .inl (4, 2, .inr (.inr (.inr (.inr (fun i => if i < 2 then some (A (45 + 2 * i)) else none)))))
def gT (A : Nat → Nat) (F : Mem) (k : Nat) : Prop := ∃ T O, isT F (A k) (A (k + 1)) (A (k + 2)) T O ∧ ∀ s, 16 ≤ s → O s = 0
def gU (A : Nat → Nat) (F : Mem) (k : Nat) : Prop := ∃ U, isS F (A k) (A (k + 1)) U ∧ ∀ s, 8 ≤ s → U s = 0
def gH (A : Nat → Nat) (F : Mem) : Prop := (∃ sd r c, F (A 17) = .inr (1, [.ref (A 18), .long sd, .int r, .int c])) ∧ gU A F 18
def gO (A : Nat → Nat) (F : Mem) : Prop := F (A 20) = .inr (4, [.ref (A 21)]) ∧ F (A 21) = cPn
def gC (A : Nat → Nat) (F : Mem) : Prop := F (A 22) = .inr (5, [.ref (A 23)]) ∧ ∃ f, F (A 23) = .inl (0, 25, .inl f)
def gF (A : Nat → Nat) (F : Mem) : Prop := F (A 24) = .inr (0, [.ref (A 25), .ref (A 26), .ref (A 27), .ref (A 28)]) ∧ (∃ f, F (A 25) = .inl (1, 1448, .inr (.inl f))) ∧ (∃ f, F (A 26) = .inl (0, 153, .inl f)) ∧ (∃ f, F (A 27) = .inl (2, 16, .inl f)) ∧ gU A F 28
def gP (A : Nat → Nat) (F : Mem) : Prop := (∃ n, F (A 30) = .inr (2, [.ref (A 31), .ref (A 32), .ref (A 33), .ref (A 34), .ref (A 35), .int n])) ∧ (∃ f, F (A 31) = .inl (0, 24, .inl f)) ∧ (∃ f, F (A 32) = .inl (0, 24, .inl f)) ∧ (∃ f, F (A 33) = .inl (0, 24, .inl f)) ∧ (∃ f, F (A 34) = .inl (0, 9, .inl f)) ∧ gU A F 35
def gS (A : Nat → Nat) (F : Mem) (S : Nat → Nat → Nat) : Prop := ∀ i, i < 4 → isS F (A (37 + 2 * i)) (A (38 + 2 * i)) (S i)
def gW (A : Nat → Nat) (F : Mem) (W : Nat → Nat → Nat) (N : Nat → Nat) : Prop := ∀ i, i < 2 → isW F (A (45 + 2 * i)) (A (46 + 2 * i)) (W i) (N i)
theorem gB_fr {A : Nat → Nat} {T : List Nat} {F F' : Mem} {aw : Bool} (k : Agr A T F F') (h : gB A F aw) (d : 0 ∉ T ∧ 1 ∉ T ∧ 2 ∉ T) : gB A F' aw := ⟨(k 0 (by omega) d.1).trans h.1, (k 1 (by omega) d.2.1).trans h.2.1, (k 2 (by omega) d.2.2).trans h.2.2⟩
theorem gT_fr {A : Nat → Nat} {T : List Nat} {F F' : Mem} {j : Nat} (k : Agr A T F F') (h : gT A F j) (hj : j + 2 < 67) (d : j ∉ T ∧ j + 1 ∉ T ∧ j + 2 ∉ T) : gT A F' j := by
  obtain ⟨T, O, h1, h2⟩ := h
  exact ⟨T, O, isT_fr h1 (k _ (by omega) d.1) (k _ (by omega) d.2.1) (k _ (by omega) d.2.2), h2⟩
theorem gU_fr {A : Nat → Nat} {T : List Nat} {F F' : Mem} {j : Nat} (k : Agr A T F F') (h : gU A F j) (hj : j + 1 < 67) (d : j ∉ T ∧ j + 1 ∉ T) : gU A F' j := by
  obtain ⟨U, h1, h2⟩ := h
  exact ⟨U, isS_fr h1 (k _ (by omega) d.1) (k _ (by omega) d.2), h2⟩
theorem gH_fr {A : Nat → Nat} {T : List Nat} {F F' : Mem} (k : Agr A T F F') (h : gH A F) (d : 17 ∉ T ∧ 18 ∉ T ∧ 19 ∉ T) : gH A F' := by
  obtain ⟨⟨sd, r, c, h1⟩, h2⟩ := h
  exact ⟨⟨sd, r, c, (k _ (by omega) d.1).trans h1⟩, gU_fr k h2 (by omega) d.2⟩
theorem gO_fr {A : Nat → Nat} {T : List Nat} {F F' : Mem} (k : Agr A T F F') (h : gO A F) (d : 20 ∉ T ∧ 21 ∉ T) : gO A F' := ⟨(k _ (by omega) d.1).trans h.1, (k _ (by omega) d.2).trans h.2⟩
theorem gC_fr {A : Nat → Nat} {T : List Nat} {F F' : Mem} (k : Agr A T F F') (h : gC A F) (d : 22 ∉ T ∧ 23 ∉ T) : gC A F' := by
  obtain ⟨h1, f, h2⟩ := h
  exact ⟨(k _ (by omega) d.1).trans h1, f, (k _ (by omega) d.2).trans h2⟩
theorem gF_fr {A : Nat → Nat} {T : List Nat} {F F' : Mem} (k : Agr A T F F') (h : gF A F) (d : 24 ∉ T ∧ 25 ∉ T ∧ 26 ∉ T ∧ 27 ∉ T ∧ 28 ∉ T ∧ 29 ∉ T) : gF A F' := by
  obtain ⟨h1, ⟨f, h2⟩, ⟨g, h3⟩, ⟨b, h4⟩, h5⟩ := h
  exact ⟨(k _ (by omega) d.1).trans h1, ⟨f, (k _ (by omega) d.2.1).trans h2⟩, ⟨g, (k _ (by omega) d.2.2.1).trans h3⟩, ⟨b, (k _ (by omega) d.2.2.2.1).trans h4⟩, gU_fr k h5 (by omega) d.2.2.2.2⟩
theorem gP_fr {A : Nat → Nat} {T : List Nat} {F F' : Mem} (k : Agr A T F F') (h : gP A F) (d : 30 ∉ T ∧ 31 ∉ T ∧ 32 ∉ T ∧ 33 ∉ T ∧ 34 ∉ T ∧ 35 ∉ T ∧ 36 ∉ T) : gP A F' := by
  obtain ⟨⟨n, h1⟩, ⟨f, h2⟩, ⟨g, h3⟩, ⟨b, h4⟩, ⟨c, h5⟩, h6⟩ := h
  exact ⟨⟨n, (k _ (by omega) d.1).trans h1⟩, ⟨f, (k _ (by omega) d.2.1).trans h2⟩, ⟨g, (k _ (by omega) d.2.2.1).trans h3⟩, ⟨b, (k _ (by omega) d.2.2.2.1).trans h4⟩, ⟨c, (k _ (by omega) d.2.2.2.2.1).trans h5⟩, gU_fr k h6 (by omega) d.2.2.2.2.2⟩
theorem gS_fr {A : Nat → Nat} {T : List Nat} {F F' : Mem} {S : Nat → Nat → Nat} (k : Agr A T F F') (h : gS A F S) (d : ∀ t, t ∈ T → t < 37 ∨ 45 ≤ t) : gS A F' S := fun i hi => isS_fr (h i hi) (k _ (by omega) (fun q => by have := d _ q; omega)) (k _ (by omega) (fun q => by have := d _ q; omega))
theorem gW_fr {A : Nat → Nat} {T : List Nat} {F F' : Mem} {W : Nat → Nat → Nat} {N : Nat → Nat} (k : Agr A T F F') (h : gW A F W N) (d : ∀ t, t ∈ T → t < 45 ∨ 49 ≤ t) : gW A F' W N := fun i hi => isW_fr (h i hi) (k _ (by omega) (fun q => by have := d _ q; omega)) (k _ (by omega) (fun q => by have := d _ q; omega))
/-- the class's cells: shapes S, words W of N letters, P, Q, whether Q is away -/
def CC (A : Nat → Nat) (F : Mem) (S W : Nat → Nat → Nat) (N : Nat → Nat) (PT : Nat → Nat → Nat) (PO : Nat → Nat) (QT : Nat → Nat → Nat) (QO : Nat → Nat) (aw : Bool) : Prop := gB A F aw ∧ isT F (A 3) (A 4) (A 5) PT PO ∧ isT F (A 6) (A 7) (A 8) QT QO ∧ gS A F S ∧ gW A F W N ∧ gT A F 9 ∧ gT A F 12 ∧ gU A F 15 ∧ gH A F ∧ gO A F ∧ gC A F ∧ gF A F ∧ gP A F
theorem CC_fr {A : Nat → Nat} {T : List Nat} {F F' : Mem} {S W : Nat → Nat → Nat} {N : Nat → Nat} {PT : Nat → Nat → Nat} {PO : Nat → Nat} {QT : Nat → Nat → Nat} {QO : Nat → Nat} {aw : Bool} (k : Agr A T F F') (h : CC A F S W N PT PO QT QO aw) (d : ∀ t, t ∈ T → 49 ≤ t) : CC A F' S W N PT PO QT QO aw := by
  obtain ⟨h1, h2, h3, h4, h5, h6, h7, h8, h9, h10, h11, h12, h13⟩ := h
  have n : ∀ t, t < 49 → t ∉ T := fun t ht q => by have := d t q; omega
  exact ⟨gB_fr k h1 ⟨n _ (by omega), n _ (by omega), n _ (by omega)⟩, isT_fr h2 (k _ (by omega) (n _ (by omega))) (k _ (by omega) (n _ (by omega))) (k _ (by omega) (n _ (by omega))), isT_fr h3 (k _ (by omega) (n _ (by omega))) (k _ (by omega) (n _ (by omega))) (k _ (by omega) (n _ (by omega))), gS_fr k h4 (fun t q => by have := d t q; omega), gW_fr k h5 (fun t q => by have := d t q; omega), gT_fr k h6 (by omega) ⟨n _ (by omega), n _ (by omega), n _ (by omega)⟩, gT_fr k h7 (by omega) ⟨n _ (by omega), n _ (by omega), n _ (by omega)⟩, gU_fr k h8 (by omega) ⟨n _ (by omega), n _ (by omega)⟩, gH_fr k h9 ⟨n _ (by omega), n _ (by omega), n _ (by omega)⟩, gO_fr k h10 ⟨n _ (by omega), n _ (by omega)⟩, gC_fr k h11 ⟨n _ (by omega), n _ (by omega)⟩, gF_fr k h12 ⟨n _ (by omega), n _ (by omega), n _ (by omega), n _ (by omega), n _ (by omega), n _ (by omega)⟩, gP_fr k h13 ⟨n _ (by omega), n _ (by omega), n _ (by omega), n _ (by omega), n _ (by omega), n _ (by omega), n _ (by omega)⟩⟩
/-- the reference's object -/
abbrev rfs (A : Nat → Nat) (th aw cd od : Int32) : List Value := [.int th, .ref (A 50), .ref (A 51), .ref (A 52), .ref (A 53), .ref (A 54), .int aw, .ref (A 55), .ref (A 56), .ref (A 57), .ref (A 58), .ref (A 59), .ref (A 60), .int cd, .ref (A 61), .ref (A 62), .int od, .ref (A 63), .ref (A 64), .ref (A 65)]
def rObj (A : Nat → Nat) (F : Mem) (th : Int32) (aw : Bool) : Prop := ∃ cd od, F (A 49) = .inr (9, rfs A th (bI aw) cd od)
def ar0 (F : Mem) (a n : Nat) : Prop := ∃ f, F a = .inl (0, n, .inl f)
def ar1 (F : Mem) (a n : Nat) : Prop := ∃ f, F a = .inl (1, n, .inr (.inl f))
/-- the reference's working rooms -/
def rWk (A : Nat → Nat) (F : Mem) : Prop := ar0 F (A 55) 24 ∧ F (A 56) = cPn ∧ ar0 F (A 57) 9 ∧ ar0 F (A 58) 9 ∧ ar0 F (A 59) 9 ∧ ar0 F (A 60) 17 ∧ ar1 F (A 61) 2000 ∧ ar1 F (A 62) 2000 ∧ ar1 F (A 63) 2000 ∧ ar1 F (A 64) 2000 ∧ ar0 F (A 65) 40
def rShp (A : Nat → Nat) (F : Mem) (S : Nat → Nat → Nat) : Prop := ∃ f, F (A 50) = .inl (0, 32, .inl f) ∧ ∀ i k, i < 4 → k < 8 → f (8 * i + k) = iN (S i k)
def rWrd (A : Nat → Nat) (F : Mem) (W : Nat → Nat → Nat) (N : Nat → Nat) : Prop := (∃ f, F (A 51) = .inl (0, 32, .inl f) ∧ ∀ i k, i < 2 → k < N i → f (16 * i + k) = iN (W i k)) ∧ ∃ f, F (A 52) = .inl (0, 2, .inl f) ∧ ∀ i, i < 2 → f i = iN (N i)
def rTab (A : Nat → Nat) (F : Mem) (PT : Nat → Nat → Nat) (PO : Nat → Nat) (QT : Nat → Nat → Nat) (QO : Nat → Nat) : Prop := ∃ M L, F (A 53) = cM M ∧ F (A 54) = cL L ∧ (∀ r, L 0 r = PO r) ∧ (∀ r c, c < PO r → M 0 r c = PT r c) ∧ (∀ r, L 2 r = QO r) ∧ (∀ r c, c < QO r → M 2 r c = QT r c)
def RR (A : Nat → Nat) (F : Mem) (S W : Nat → Nat → Nat) (N : Nat → Nat) (PT : Nat → Nat → Nat) (PO : Nat → Nat) (QT : Nat → Nat → Nat) (QO : Nat → Nat) (aw : Bool) (th : Int32) : Prop := rObj A F th aw ∧ rShp A F S ∧ rWrd A F W N ∧ rTab A F PT PO QT QO ∧ rWk A F
theorem rObj_fr {A : Nat → Nat} {T : List Nat} {F F' : Mem} {aw : Bool} {th : Int32} (k : Agr A T F F') (h : rObj A F th aw) (d : 49 ∉ T) : rObj A F' th aw := by
  obtain ⟨cd, od, h1⟩ := h
  exact ⟨cd, od, (k 49 (by omega) d).trans h1⟩
theorem ar0_fr {A : Nat → Nat} {T : List Nat} {F F' : Mem} {j n : Nat} (k : Agr A T F F') (h : ar0 F (A j) n) (hj : j < 67) (d : j ∉ T) : ar0 F' (A j) n := by
  obtain ⟨f, h1⟩ := h
  exact ⟨f, (k j hj d).trans h1⟩
theorem ar1_fr {A : Nat → Nat} {T : List Nat} {F F' : Mem} {j n : Nat} (k : Agr A T F F') (h : ar1 F (A j) n) (hj : j < 67) (d : j ∉ T) : ar1 F' (A j) n := by
  obtain ⟨f, h1⟩ := h
  exact ⟨f, (k j hj d).trans h1⟩
theorem rShp_fr {A : Nat → Nat} {T : List Nat} {F F' : Mem} {S : Nat → Nat → Nat} (k : Agr A T F F') (h : rShp A F S) (d : 50 ∉ T) : rShp A F' S := by
  obtain ⟨f, h1, h2⟩ := h
  exact ⟨f, (k _ (by omega) d).trans h1, h2⟩
theorem rWrd_fr {A : Nat → Nat} {T : List Nat} {F F' : Mem} {W : Nat → Nat → Nat} {N : Nat → Nat} (k : Agr A T F F') (h : rWrd A F W N) (d : 51 ∉ T ∧ 52 ∉ T) : rWrd A F' W N := by
  obtain ⟨⟨f, h1, h2⟩, g, h3, h4⟩ := h
  exact ⟨⟨f, (k _ (by omega) d.1).trans h1, h2⟩, g, (k _ (by omega) d.2).trans h3, h4⟩
theorem rTab_fr {A : Nat → Nat} {T : List Nat} {F F' : Mem} {PT : Nat → Nat → Nat} {PO : Nat → Nat} {QT : Nat → Nat → Nat} {QO : Nat → Nat} (k : Agr A T F F') (h : rTab A F PT PO QT QO) (d : 53 ∉ T ∧ 54 ∉ T) : rTab A F' PT PO QT QO := by
  obtain ⟨M, L, h1, h2, h3⟩ := h
  exact ⟨M, L, (k _ (by omega) d.1).trans h1, (k _ (by omega) d.2).trans h2, h3⟩
theorem rWk_fr {A : Nat → Nat} {T : List Nat} {F F' : Mem} (k : Agr A T F F') (h : rWk A F) (d : ∀ t, t ∈ T → t < 55 ∨ 66 ≤ t) : rWk A F' := by
  obtain ⟨h1, h2, h3, h4, h5, h6, h7, h8, h9, h10, h11⟩ := h
  have n : ∀ t, 55 ≤ t → t < 66 → t ∉ T := fun t a b q => by have := d t q; omega
  exact ⟨ar0_fr k h1 (by omega) (n _ (by omega) (by omega)), (k _ (by omega) (n _ (by omega) (by omega))).trans h2, ar0_fr k h3 (by omega) (n _ (by omega) (by omega)), ar0_fr k h4 (by omega) (n _ (by omega) (by omega)), ar0_fr k h5 (by omega) (n _ (by omega) (by omega)), ar0_fr k h6 (by omega) (n _ (by omega) (by omega)), ar1_fr k h7 (by omega) (n _ (by omega) (by omega)), ar1_fr k h8 (by omega) (n _ (by omega) (by omega)), ar1_fr k h9 (by omega) (n _ (by omega) (by omega)), ar1_fr k h10 (by omega) (n _ (by omega) (by omega)), ar0_fr k h11 (by omega) (n _ (by omega) (by omega))⟩
theorem RR_fr {A : Nat → Nat} {T : List Nat} {F F' : Mem} {S W : Nat → Nat → Nat} {N : Nat → Nat} {PT : Nat → Nat → Nat} {PO : Nat → Nat} {QT : Nat → Nat → Nat} {QO : Nat → Nat} {aw : Bool} {th : Int32} (k : Agr A T F F') (h : RR A F S W N PT PO QT QO aw th) (d : ∀ t, t ∈ T → t < 49 ∨ 66 ≤ t) : RR A F' S W N PT PO QT QO aw th := by
  obtain ⟨h1, h2, h3, h4, h5⟩ := h
  have n : ∀ t, 49 ≤ t → t < 66 → t ∉ T := fun t a b q => by have := d t q; omega
  exact ⟨rObj_fr k h1 (n _ (by omega) (by omega)), rShp_fr k h2 (n _ (by omega) (by omega)), rWrd_fr k h3 ⟨n _ (by omega) (by omega), n _ (by omega) (by omega)⟩, rTab_fr k h4 ⟨n _ (by omega) (by omega), n _ (by omega) (by omega)⟩, rWk_fr k h5 (fun t q => by have := d t q; omega)⟩
/-- thrown is set -/
theorem pf_at {F : Mem} {a ci k : Nat} {v : Value} {fs : List Value} (h : F a = .inr (ci, fs)) (hk : k < fs.length) : pf F a ci k v = some (va_up F a (.inr (ci, fs.set k v))) := by
  simp only [pf, obj_of h, Option.bind_some, hk, if_true]
theorem RR_th {A : Nat → Nat} (hA : Inj A) {F : Mem} {S W : Nat → Nat → Nat} {N : Nat → Nat} {PT : Nat → Nat → Nat} {PO : Nat → Nat} {QT : Nat → Nat → Nat} {QO : Nat → Nat} {aw : Bool} {th : Int32} (h : RR A F S W N PT PO QT QO aw th) (t : Int32) : ∃ F', pf F (A 49) 9 0 (.int t) = some F' ∧ RR A F' S W N PT PO QT QO aw t ∧ Agr A [49] F F' := by
  obtain ⟨⟨cd, od, h1⟩, h2, h3, h4, h5⟩ := h
  have k : Agr A [49] F (va_up F (A 49) (.inr (9, rfs A t (bI aw) cd od))) := (Agr.refl A [49] F).up hA (by omega) (by simp)
  refine ⟨va_up F (A 49) (.inr (9, rfs A t (bI aw) cd od)), pf_at h1 (by simp [rfs]), ⟨⟨cd, od, up_eq _ _ _⟩, rShp_fr k h2 (by simp), rWrd_fr k h3 (by simp), rTab_fr k h4 (by simp), rWk_fr k h5 (fun t q => by simp at q; omega)⟩, k⟩
theorem rObj_th {A : Nat → Nat} {F : Mem} {aw : Bool} {th : Int32} (h : rObj A F th aw) : gfI F (A 49) 9 0 = some th := by
  obtain ⟨cd, od, h1⟩ := h
  exact gfI_at h1 rfl
theorem rObj_ob {A : Nat → Nat} {F : Mem} {aw : Bool} {th : Int32} (h : rObj A F th aw) : ∃ fs, obj F (A 49) 9 = some fs := by
  obtain ⟨cd, od, h1⟩ := h
  exact ⟨_, obj_of h1⟩
/-- what always holds of shapes, words, P and Q -/
def okS (S : Nat → Nat) : Prop := par S ∧ (∀ k, 8 ≤ k → S k = 0) ∧ boxes S 8 ≤ 24
end INVD
