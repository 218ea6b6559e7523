section STATE
variable {A : Nat → Nat} {F : Mem} {S W : Nat → Nat → Nat} {N : Nat → Nat} {PT : Nat → Nat → Nat} {PO : Nat → Nat} {QT : Nat → Nat → Nat} {QO : Nat → Nat} {aw : Bool} {th : Int32}
/-- what always holds of the values -/
def okA (S W : Nat → Nat → Nat) (N : Nat → Nat) (PT : Nat → Nat → Nat) (PO : Nat → Nat) (QT : Nat → Nat → Nat) (QO : Nat → Nat) (aw : Bool) : Prop := (∀ i, i < 4 → okS (S i)) ∧ okW W N ∧ okP PT PO ∧ okO QO ∧ okQ PT PO QT QO aw
abbrev cJ1 (g : Nat → Int64) : Cl := .inl (1, 1, .inr (.inl g))
/-- class and reference stand alike -/
def ST (A : Nat → Nat) (F : Mem) : Prop := ∃ S W N PT PO QT QO aw th g, CC A F S W N PT PO QT QO aw ∧ RR A F S W N PT PO QT QO aw th ∧ F (A 66) = cJ1 g ∧ okA S W N PT PO QT QO aw
theorem RTs_ge {t : Nat} (h : t ∈ RTs) : 49 ≤ t ∧ t < 66 := by
  rw [List.mem_range'_1] at h
  omega
theorem CTs_lt {t : Nat} (h : t ∈ CTs) : t < 49 := List.mem_range.mp h
theorem st_end {F2 F3 : Mem} {g : Nat → Int64} {t : Int32} (hC : CC A F2 S W N PT PO QT QO aw) (hg : F2 (A 66) = cJ1 g) (ok : okA S W N PT PO QT QO aw) (hR : RR A F3 S W N PT PO QT QO aw t) (k : Agr A RTs F2 F3) : (∃ fs, obj F3 (A 49) 9 = some fs) ∧ mX10_thrown F3 (A 49) = some (t, F3) ∧ rdJ F3 (A 66) 0 = some (g 0) ∧ ST A F3 := by
  have g3 : F3 (A 66) = cJ1 g := (k 66 (by omega) (fun q => by have := RTs_ge q; omega)).trans hg
  refine ⟨rObj_ob hR.1, ?_, ?_, ⟨S, W, N, PT, PO, QT, QO, aw, t, g, CC_fr k hC (fun t q => (RTs_ge q).1), hR, g3, ok⟩⟩
  · unfold mX10_thrown
    rw [rObj_th hR.1, Option.bind_some]
  · exact rdJ_at g3 (i := 0) (by omega) (by omega)
theorem st_mid0 {F1 : Mem} {g : Nat → Int64} (hR : RR A F S W N PT PO QT QO aw th) (hg : F (A 66) = cJ1 g) (k : Agr A CTs F F1) : RR A F1 S W N PT PO QT QO aw th ∧ (∃ fs, obj F1 (A 49) 9 = some fs) ∧ F1 (A 66) = cJ1 g := by
  have h := RR_fr k hR (fun t q => Or.inl (CTs_lt q))
  exact ⟨h, rObj_ob h.1, (k 66 (by omega) (fun q => by have := CTs_lt q; omega)).trans hg⟩
theorem st_mid (hA : Inj A) {S' W' : Nat → Nat → Nat} {N' : Nat → Nat} {PT' : Nat → Nat → Nat} {PO' : Nat → Nat} {QT' : Nat → Nat → Nat} {QO' : Nat → Nat} {aw' : Bool} {F1 : Mem} {g : Nat → Int64} (hC : CC A F1 S' W' N' PT' PO' QT' QO' aw') (hR : RR A F S W N PT PO QT QO aw th) (hg : F (A 66) = cJ1 g) (k : Agr A CTs F F1) (j : Int64) : ∃ F2 g2, wrJ F1 (A 66) 0 j = some F2 ∧ CC A F2 S' W' N' PT' PO' QT' QO' aw' ∧ RR A F2 S W N PT PO QT QO aw th ∧ (∃ fs, obj F2 (A 49) 9 = some fs) ∧ F2 (A 66) = cJ1 g2 ∧ g2 0 = j := by
  obtain ⟨a1, a2, a3⟩ := st_mid0 hR hg k
  have k2 : Agr A [66] F1 (va_up F1 (A 66) (cJ1 (vp_updL g 0 j))) := (Agr.refl A _ F1).up hA (by omega) (by simp)
  have h2 := RR_fr k2 a1 (fun t q => by simp at q; omega)
  refine ⟨_, vp_updL g 0 j, wrJ_at a3 (i := 0) (by omega) (by omega) j, CC_fr k2 hC (fun t q => by simp at q; omega), h2, rObj_ob h2.1, up_eq _ _ _, ?_⟩
  simp [vp_updL]
/-- a call that answers -/
def Res1 {β : Type} (A : Nat → Nat) (ml : Option (Int32 × Mem)) (mr : Mem → Option (β × Mem)) (cv : β → Int64) : Prop := ∃ k F1 r F2, ml = some (k, F1) ∧ (∃ fs, obj F1 (A 49) 9 = some fs) ∧ mr F1 = some (r, F2) ∧ (∃ fs, obj F2 (A 49) 9 = some fs) ∧ mX10_thrown F2 (A 49) = some (k, F2) ∧ (k = 0 → rdJ F2 (A 66) 0 = some (cv r)) ∧ ST A F2
/-- a call that does not -/
def Res2 (A : Nat → Nat) (ml : Option (Int32 × Mem)) (mr : Mem → Option Mem) : Prop := ∃ k F1 F2, ml = some (k, F1) ∧ (∃ fs, obj F1 (A 49) 9 = some fs) ∧ mr F1 = some F2 ∧ (∃ fs, obj F2 (A 49) 9 = some fs) ∧ mX10_thrown F2 (A 49) = some (k, F2) ∧ ST A F2
theorem res1_ok (hA : Inj A) {β : Type} {ml : Option (Int32 × Mem)} {mr : Mem → Option (β × Mem)} {cv : β → Int64} {S' W' : Nat → Nat → Nat} {N' : Nat → Nat} {PT' : Nat → Nat → Nat} {PO' : Nat → Nat} {QT' : Nat → Nat → Nat} {QO' : Nat → Nat} {aw' : Bool} {F1 : Mem} {g : Nat → Int64} (hR : RR A F S W N PT PO QT QO aw th) (hg : F (A 66) = cJ1 g) (hC : CC A F1 S' W' N' PT' PO' QT' QO' aw') (k : Agr A CTs F F1) (ok : okA S' W' N' PT' PO' QT' QO' aw') (j : Int64) (ref : ∀ F2, RR A F2 S W N PT PO QT QO aw th → ∃ r F3, mr F2 = some (r, F3) ∧ RR A F3 S' W' N' PT' PO' QT' QO' aw' 0 ∧ Agr A RTs F2 F3 ∧ cv r = j) (hml : ∀ F2, wrJ F1 (A 66) 0 j = some F2 → ml = some (0, F2)) : Res1 A ml mr cv := by
  obtain ⟨F2, g2, a1, a2, a3, a4, a5, a6⟩ := st_mid hA hC hR hg k j
  obtain ⟨r, F3, b1, b2, b3, b4⟩ := ref F2 a3
  obtain ⟨c1, c2, c3, c4⟩ := st_end a2 a5 ok b2 b3
  exact ⟨0, F2, r, F3, hml F2 a1, a4, b1, c1, c2, fun _ => by rw [c3, a6, b4], c4⟩
theorem res1_bad {β : Type} {ml : Option (Int32 × Mem)} {mr : Mem → Option (β × Mem)} {cv : β → Int64} {F1 : Mem} {g : Nat → Int64} {t : Int32} (hR : RR A F S W N PT PO QT QO aw th) (hg : F (A 66) = cJ1 g) (hC : CC A F1 S W N PT PO QT QO aw) (k : Agr A CTs F F1) (ok : okA S W N PT PO QT QO aw) (ref : ∀ F2, RR A F2 S W N PT PO QT QO aw th → ∃ r F3, mr F2 = some (r, F3) ∧ RR A F3 S W N PT PO QT QO aw t ∧ Agr A RTs F2 F3) (ht : t ≠ 0) (hml : ml = some (t, F1)) : Res1 A ml mr cv := by
  obtain ⟨a1, a2, a3⟩ := st_mid0 hR hg k
  obtain ⟨r, F3, b1, b2, b3⟩ := ref F1 a1
  obtain ⟨c1, c2, c3, c4⟩ := st_end hC a3 ok b2 b3
  exact ⟨t, F1, r, F3, hml, a2, b1, c1, c2, fun q => absurd q ht, c4⟩
theorem res2_mk {ml : Option (Int32 × Mem)} {mr : Mem → Option Mem} {S' W' : Nat → Nat → Nat} {N' : Nat → Nat} {PT' : Nat → Nat → Nat} {PO' : Nat → Nat} {QT' : Nat → Nat → Nat} {QO' : Nat → Nat} {aw' : Bool} {F1 : Mem} {g : Nat → Int64} {t : Int32} (hR : RR A F S W N PT PO QT QO aw th) (hg : F (A 66) = cJ1 g) (hC : CC A F1 S' W' N' PT' PO' QT' QO' aw') (k : Agr A CTs F F1) (ok : okA S' W' N' PT' PO' QT' QO' aw') (ref : ∀ F2, RR A F2 S W N PT PO QT QO aw th → ∃ F3, mr F2 = some F3 ∧ RR A F3 S' W' N' PT' PO' QT' QO' aw' t ∧ Agr A RTs F2 F3) (hml : ml = some (t, F1)) : Res2 A ml mr := by
  obtain ⟨a1, a2, a3⟩ := st_mid0 hR hg k
  obtain ⟨F3, b1, b2, b3⟩ := ref F1 a1
  obtain ⟨c1, c2, c3, c4⟩ := st_end hC a3 ok b2 b3
  exact ⟨t, F1, F3, hml, a2, b1, c1, c2, c4⟩
/-- boolean answers -/
def cvB (r : Int32) : Int64 := if r = 0 then 0 else 1
theorem okA_S {S' : Nat → Nat → Nat} (ok : okA S W N PT PO QT QO aw) (h : ∀ i, i < 4 → okS (S' i)) : okA S' W N PT PO QT QO aw := ⟨h, ok.2.1, ok.2.2.1, ok.2.2.2.1, ok.2.2.2.2⟩
theorem okA_W {W' : Nat → Nat → Nat} {N' : Nat → Nat} (ok : okA S W N PT PO QT QO aw) (h : okW W' N') : okA S W' N' PT PO QT QO aw := ⟨ok.1, h, ok.2.2.1, ok.2.2.2.1, ok.2.2.2.2⟩
theorem okA_P {PT' : Nat → Nat → Nat} {PO' : Nat → Nat} (ok : okA S W N PT PO QT QO aw) (h : okP PT' PO') : okA S W N PT' PO' QT QO true := ⟨ok.1, ok.2.1, h, ok.2.2.2.1, (fun q => by cases q)⟩
theorem okS_up {i : Nat} {V : Nat → Nat} (h : ∀ i, i < 4 → okS (S i)) (hV : okS V) : ∀ j, j < 4 → okS (upK S i V j) := fun j hj => by
  by_cases q : j = i
  · subst q; rw [upK_at]; exact hV
  · rw [upK_ne q]; exact h j hj
theorem okW_up {j n : Nat} {V : Nat → Nat} (h : okW W N) (hn : n ≤ 16) (hV : ∀ k, k < n → 1 ≤ V k ∧ V k ≤ 16) : okW (upK W j V) (upL N j n) := fun i hi => by
  by_cases q : i = j
  · subst q; rw [upK_at, upL_at]; exact ⟨hn, hV⟩
  · rw [upK_ne q, upL_ne q]; exact h i hi
theorem okS_sh {w : Int64} (h1 : fal (shV w) 1) (h2 : boxes (shV w) 8 ≤ 24) : okS (shV w) := by
  refine ⟨fun k => ?_, fun k hk => shV_out w hk, h2⟩
  by_cases q : k + 1 < 8
  · have := h1 (k + 1) (by omega) q
    rwa [Nat.add_sub_cancel] at this
  · rw [shV_out w (by omega)]; exact Nat.zero_le _
theorem cj_boxes {V : Nat → Nat} : ∀ m n, boxes (fun c => clen V c m) n ≤ boxes V m := by
  have one : ∀ n (f : Nat → Nat) v, boxes (fun c => f c + (if c < v then 1 else 0)) n ≤ boxes f n + min v n := by
    intro n f v
    induction n with
    | zero => exact Nat.zero_le _
    | succ n ih =>
      show boxes (fun c => f c + (if c < v then 1 else 0)) n + (f n + (if n < v then 1 else 0)) ≤ boxes f n + f n + min v (n + 1)
      by_cases q : n < v
      · rw [if_pos q]; omega
      · rw [if_neg q]; omega
  intro m
  induction m with
  | zero =>
    intro n
    have : boxes (fun c => clen V c 0) n = 0 := boxes_0 n
    omega
  | succ m ih =>
    intro n
    have a := one n (fun c => clen V c m) (V m)
    have b := ih n
    show boxes (fun c => clen V c m + (if c < V m then 1 else 0)) n ≤ boxes V m + V m
    omega
theorem okS_cj {V : Nat → Nat} (h : okS V) : okS (cjV V) := by
  have e : ∀ s, s < 8 → cjV V s = clen V s 8 := fun s hs => by show mixL 8 _ _ s = _; unfold mixL; rw [if_pos hs]
  have z : ∀ s, 8 ≤ s → cjV V s = 0 := fun s hs => by show mixL 8 _ _ s = _; unfold mixL; rw [if_neg (by omega)]
  refine ⟨fun k => ?_, z, ?_⟩
  · by_cases q : k + 1 < 8
    · rw [e (k + 1) q, e k (by omega)]
      exact clen_mono (by omega) 8
    · rw [z (k + 1) (by omega)]; exact Nat.zero_le _
  · rw [boxes_congr (b := fun c => clen V c 8) (fun s hs => e s hs)]
    exact Nat.le_trans (cj_boxes 8 8) h.2.2
theorem okS_ur {n b : Nat} (hn : n ≤ 24) (h0 : (urS n b 8).1 = 0) : okS (mixL 8 (urV n b) (fun _ => 0)) := by
  have e : ∀ s, s < 8 → mixL 8 (urV n b) (fun _ => 0) s = urV n b s := fun s hs => by unfold mixL; rw [if_pos hs]
  have z : ∀ s, 8 ≤ s → mixL 8 (urV n b) (fun _ => 0) s = 0 := fun s hs => by unfold mixL; rw [if_neg (by omega)]
  refine ⟨fun k => ?_, z, ?_⟩
  · by_cases q : k + 1 < 8
    · rw [e (k + 1) q, e k (by omega)]
      exact (urV_le n b (k + 1)).2
    · rw [z (k + 1) (by omega)]; exact Nat.zero_le _
  · rw [boxes_congr (b := urV n b) (fun s hs => e s hs)]
    have := urV_boxes n b 8
    omega
theorem okP_draw {V : Nat → Nat} (h : okS V) (sd : Int64) : okP (drw (boxes V 8) V sd PT).2 V := by
  obtain ⟨_, _, d3, d4, d5, _⟩ := drw_ok (boxes V 8) V sd PT h rfl
  have b : boxes V 16 = boxes V 8 := by
    have z : ∀ m, boxes V (8 + m) = boxes V 8 := by
      intro m
      induction m with
      | zero => rfl
      | succ m ih =>
        show boxes V (8 + m) + V (8 + m) = _
        rw [ih, h.2.1 _ (by omega)]
        rfl
    exact z 8
  have h24 := h.2.2
  refine ⟨⟨h.1, fun r c hc => Nat.le_of_lt (d4 r c hc), d5⟩, ⟨okS_le h, fun s hs => h.2.1 s (by omega)⟩, by omega, fun s d hd => ?_⟩
  have := d3 s d hd
  omega
end STATE
