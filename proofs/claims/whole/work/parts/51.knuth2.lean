section KNUTH2
theorem rinW_app (u v R : List Nat) : rinW (u ++ v) R = ((rinW v (rinW u R).1).1, (rinW u R).2 ++ (rinW v (rinW u R).1).2) := by
  induction u generalizing R with
  | nil => rfl
  | cons x u ih => simp only [List.cons_append, rinW, ih, List.append_assoc]
theorem rinW_srt {w R : List Nat} (h : srt R) : srt (rinW w R).1 := by
  induction w generalizing R with
  | nil => exact h
  | cons x w ih => exact ih (rin_srt h)
/-- tableaux as their rows -/
abbrev Tab : Type := Nat → List Nat
/-- the word that comes to row r -/
def wd (P : Tab) (w : List Nat) : Nat → List Nat
  | 0 => w
  | r + 1 => (rinW (wd P w r) (P r)).2
/-- a word inserted by rows -/
def insF (P : Tab) (w : List Nat) : Tab := fun r => (rinW (wd P w r) (P r)).1
def rsrt (P : Tab) : Prop := ∀ r, srt (P r)
theorem insF_srt {P : Tab} {w : List Nat} (h : rsrt P) : rsrt (insF P w) := fun r => rinW_srt (h r)
theorem wd_app (P : Tab) (u v : List Nat) (r : Nat) : wd P (u ++ v) r = wd P u r ++ wd (insF P u) v r := by
  induction r with
  | zero => rfl
  | succ r ih =>
    show (rinW (wd P (u ++ v) r) (P r)).2 = _
    rw [ih, rinW_app]
    rfl
theorem insF_app (P : Tab) (u v : List Nat) : insF P (u ++ v) = insF (insF P u) v := by
  funext r
  show (rinW (wd P (u ++ v) r) (P r)).1 = _
  rw [wd_app, rinW_app]
  rfl
theorem insF_nil (P : Tab) : insF P [] = P := by
  have h : ∀ r, wd P [] r = [] := by
    intro r
    induction r with
    | zero => rfl
    | succ r ih => show (rinW (wd P [] r) (P r)).2 = []; rw [ih]; rfl
  funext r
  show (rinW (wd P [] r) (P r)).1 = _
  rw [h]
  rfl
theorem wd_K3 {P : Tab} (hP : rsrt P) {a b : List Nat} (h : K3e a b) (r : Nat) : K3e (wd P a r) (wd P b r) := by
  induction r with
  | zero => exact h
  | succ r ih =>
    show K3e (rinW (wd P a r) (P r)).2 (rinW (wd P b r) (P r)).2
    rcases ih with e | e | e
    · rw [e]; exact Or.inl rfl
    · exact (K3_row (hP r) e).2
    · rcases (K3_row (hP r) e).2 with q | q | q
      · exact Or.inl q.symm
      · exact Or.inr (Or.inr q)
      · exact Or.inr (Or.inl q)
theorem insF_K3 {P : Tab} (hP : rsrt P) {a b : List Nat} (h : K3e a b) : insF P a = insF P b := by
  funext r
  show (rinW (wd P a r) (P r)).1 = (rinW (wd P b r) (P r)).1
  rcases wd_K3 hP h r with e | e | e
  · rw [e]
  · exact (K3_row (hP r) e).1
  · exact (K3_row (hP r) e).1.symm
/-- what no elementary move changes -/
def KI (g : List Nat → Prop) : Prop := ∀ u v a b, K3 a b → (g (u ++ a ++ v) ↔ g (u ++ b ++ v))
/-- Knuth's equivalence -/
def KQ (w w' : List Nat) : Prop := ∀ g : List Nat → Prop, KI g → (g w ↔ g w')
theorem KQ.rf (w : List Nat) : KQ w w := fun _ _ => Iff.rfl
theorem KQ.sm {w w' : List Nat} (h : KQ w w') : KQ w' w := fun g hg => (h g hg).symm
theorem KQ.tr {w w' w'' : List Nat} (h : KQ w w') (h' : KQ w' w'') : KQ w w'' := fun g hg => (h g hg).trans (h' g hg)
theorem KQ.ctx {w w' : List Nat} (u v : List Nat) (h : KQ w w') : KQ (u ++ w ++ v) (u ++ w' ++ v) := by
  intro g hg
  refine h (fun z => g (u ++ z ++ v)) (fun u' v' a b hab => ?_)
  have := hg (u ++ u') (v' ++ v) a b hab
  simpa only [List.append_assoc] using this
theorem KQ.l {w w' : List Nat} (u : List Nat) (h : KQ w w') : KQ (u ++ w) (u ++ w') := by
  have := h.ctx u []
  simpa only [List.append_nil] using this
theorem KQ.r {w w' : List Nat} (v : List Nat) (h : KQ w w') : KQ (w ++ v) (w' ++ v) := by
  have := h.ctx [] v
  simpa only [List.nil_append] using this
theorem KQ.k3 {a b : List Nat} (h : K3 a b) : KQ a b := fun g hg => by
  have := hg [] [] a b h
  simpa only [List.nil_append, List.append_nil] using this
theorem KQ.ins {w w' : List Nat} (h : KQ w w') {P : Tab} (hP : rsrt P) : insF P w = insF P w' := by
  refine ((h (fun z => insF P w = insF P z) (fun u v a b hab => ?_)).mp rfl)
  have : insF P (u ++ a ++ v) = insF P (u ++ b ++ v) := by
    rw [insF_app, insF_app, insF_app, insF_app, insF_K3 (insF_srt hP) (Or.inr (Or.inl hab))]
  show insF P w = insF P (u ++ a ++ v) ↔ insF P w = insF P (u ++ b ++ v)
  rw [this]
/-- a letter left of a row's greater letters goes in front of them -/
theorem KQ_past {x y : Nat} {B : List Nat} (hB : srt (y :: B)) (hx : x < y) : KQ (y :: B ++ [x]) (y :: x :: B) := by
  induction B generalizing y with
  | nil => exact KQ.rf _
  | cons b B ih =>
    have h1 := List.pairwise_cons.mp hB
    have hyb := h1.1 b List.mem_cons_self
    have i := (ih h1.2 (by omega : x < b)).l [y]
    refine i.tr ?_
    have k : KQ [y, b, x] [y, x, b] := KQ.k3 ⟨x, y, b, Or.inl ⟨hx, hyb, rfl, rfl⟩⟩
    exact k.r B
/-- a letter bumps: row and letter are equivalent to the bumped letter and the new row -/
theorem KQ_bump {x : Nat} {R : List Nat} (hR : srt R) : KQ (R ++ [x]) ((rin x R).2 ++ (rin x R).1) := by
  induction R with
  | nil => exact KQ.rf _
  | cons r R ih =>
    have h1 := List.pairwise_cons.mp hR
    by_cases c : r ≤ x
    · rw [rin_le c]
      refine ((ih h1.2).l [r]).tr ?_
      rcases rin_bump x R with h | ⟨b, hb1, hb2, hb3⟩
      · rw [h]; exact KQ.rf _
      · rw [hb2]
        -- r b (row) ~ b r (row); the row's first letter is at least r and less than b
        have hhead : ∃ f F, (rin x R).1 = f :: F ∧ r ≤ f ∧ f < b := by
          cases R with
          | nil => simp [rin] at hb2
          | cons s S =>
            by_cases cs : s ≤ x
            · rw [rin_le cs]
              exact ⟨s, _, rfl, h1.1 s List.mem_cons_self, by omega⟩
            · rw [rin_gt (by omega)] at hb2 ⊢
              exact ⟨x, S, rfl, c, hb3⟩
        obtain ⟨f, F, e, e1, e2⟩ := hhead
        rw [e]
        have k : KQ [r, b, f] [b, r, f] := KQ.k3 ⟨r, f, b, Or.inr ⟨e1, e2, rfl, rfl⟩⟩
        exact k.r F
    · rw [rin_gt (by omega)]
      exact KQ_past hR (by omega)
/-- the first letter of a row is bumped by a lesser one -/
theorem KQ_first {x y : Nat} {B : List Nat} (hB : srt (y :: B)) (hx : x < y) : KQ (y :: B ++ [x]) (y :: x :: B) := KQ_past hB hx
end KNUTH2
