/-! cells alike but for the scratch: facts of a cost, truths, both camps and their sums -/
def Qs (b h : HT) : Prop := ∀ k j, ¬ (k = 29 ∨ k = 98 ∨ (k = 93 ∧ 15 ≤ j ∧ j ≤ 18)) → h k j = b k j
theorem Qs.rfl' {b : HT} : Qs b b := fun _ _ _ => rfl
theorem Qs.tr {a b c : HT} (q : Qs a b) (r : Qs b c) : Qs a c := fun k j n => (r k j n).trans (q k j n)
theorem Qs.row {b h : HT} {k : Nat} (q : Qs b h) (hk : k ≠ 29 ∧ k ≠ 98 ∧ k ≠ 93) : h k = b k := funext fun j => q k j (by omega)
theorem Qs.c93 {b h : HT} {j : Nat} (q : Qs b h) (hj : ¬ (15 ≤ j ∧ j ≤ 18)) : h 93 j = b 93 j := q 93 j (by omega)
theorem Qs.pu {b h : HT} {k j : Nat} {v : Int32} (q : Qs b h) (hk : k = 29 ∨ k = 98 ∨ (k = 93 ∧ 15 ≤ j ∧ j ≤ 18)) : Qs b (hu h k j v) := by
  intro k' j' n
  show (if k' = k ∧ j' = j then v else h k' j') = b k' j'
  rw [if_neg (by rintro ⟨rfl, rfl⟩; exact n hk)]
  exact q k' j' n
theorem hu_eq {h : HT} {k j : Nat} {v : Int32} : hu h k j v k j = v := if_pos ⟨rfl, rfl⟩
theorem hu_ne {h : HT} {k j k' j' : Nat} {v : Int32} (e : ¬ (k' = k ∧ j' = j)) : hu h k j v k' j' = h k' j' := if_neg e
theorem hu_r {h : HT} {k j k' : Nat} {v : Int32} (e : k' ≠ k) : hu h k j v k' = h k' := hu_off e
/-! a world: costs, each with its steps (what, sign, number) -/
abbrev Sq : Type := Nat × Nat × Nat
abbrev Wld : Type := List (Nat × List Sq)
def cl (L : Wld) (c : Nat) : Nat × List Sq := L.getD c (0, [])
def sp (l : List Sq) (i : Nat) : Sq := l.getD i (0, 0, 0)
def ln (L : Wld) : Nat → Nat
  | 0 => 0
  | c + 1 => ln L c + (cl L c).2.length
def pk (x : Sq) : Int32 := if x.1 = 4 then -1 else if x.1 = 5 then -2 else if x.1 = 6 then -3 else nI (x.1 + 4 * x.2.1 + 16 * x.2.2)
def tst (f : Nat → Int32) (x : Sq) : Bool := if x.2.1 = 0 then decide (f x.1 < nI x.2.2) else if x.2.1 = 1 then decide (f x.1 = nI x.2.2) else decide (nI x.2.2 < f x.1)
def stp (f : Nat → Int32) (x : Sq) (st : List Bool) : List Bool :=
  if x.1 = 4 then (!st.getD 0 false) :: st.drop 1
  else if x.1 = 5 then (st.getD 1 false && st.getD 0 false) :: st.drop 2
  else if x.1 = 6 then (st.getD 1 false || st.getD 0 false) :: st.drop 2
  else tst f x :: st
def ev (f : Nat → Int32) (l : List Sq) : Nat → List Bool
  | 0 => []
  | i + 1 => stp f (sp l i) (ev f l i)
def dpt (l : List Sq) : Nat → Nat
  | 0 => 0
  | i + 1 => if (sp l i).1 = 4 then dpt l i else if (sp l i).1 = 5 ∨ (sp l i).1 = 6 then dpt l i - 1 else dpt l i + 1
def okst (x : Sq) (d : Nat) : Prop := (x.1 = 4 ∧ 1 ≤ d) ∨ ((x.1 = 5 ∨ x.1 = 6) ∧ 2 ≤ d) ∨ (x.1 < 4 ∧ x.2.1 < 3 ∧ x.2.2 ≤ 999 ∧ d ≤ 20)
def WFl (l : List Sq) : Prop := dpt l l.length = 1 ∧ ∀ i, i < l.length → okst (sp l i) (dpt l i)
def WFL (L : Wld) : Prop := L.length ≤ 10 ∧ ln L L.length ≤ 120 ∧ ∀ c, c < L.length → (cl L c).1 ≤ 999 ∧ WFl (cl L c).2
def tru (f : Nat → Int32) (l : List Sq) : Bool := (ev f l l.length).getD 0 false
def sumW (p : Nat → Bool) (f : Nat → Int32) : Nat → Int32
  | 0 => 0
  | n + 1 => if p n then sumW p f n + f n else sumW p f n
theorem ln_mono (L : Wld) (c : Nat) : ∀ d, ln L c ≤ ln L (c + d)
  | 0 => Nat.le_refl _
  | d + 1 => Nat.le_trans (ln_mono L c d) (Nat.le_add_right _ _)
theorem ln_le (L : Wld) {c d : Nat} (h : c ≤ d) : ln L c ≤ ln L d := by
  obtain ⟨e, rfl⟩ : ∃ e, d = c + e := ⟨d - c, by omega⟩
  exact ln_mono L c e
theorem dpt_le {l : List Sq} (w : ∀ i, i < l.length → okst (sp l i) (dpt l i)) : ∀ i, i ≤ l.length → dpt l i ≤ 21
  | 0, _ => by rw [dpt]; omega
  | i + 1, h => by
    have ih := dpt_le w i (by omega)
    have o := w i (by omega)
    rw [dpt]
    unfold okst at o
    split
    · exact ih
    · split
      · omega
      · omega
theorem ev_len {f : Nat → Int32} {l : List Sq} (w : ∀ i, i < l.length → okst (sp l i) (dpt l i)) : ∀ i, i ≤ l.length → (ev f l i).length = dpt l i
  | 0, _ => rfl
  | i + 1, h => by
    have ih := ev_len (f := f) w i (by omega)
    have o := w i (by omega)
    rw [ev, dpt]
    unfold stp
    unfold okst at o
    by_cases h4 : (sp l i).1 = 4
    · rw [if_pos h4, if_pos h4, List.length_cons, List.length_drop, ih]; omega
    · rw [if_neg h4, if_neg h4]
      by_cases h5 : (sp l i).1 = 5
      · rw [if_pos h5, if_pos (Or.inl h5), List.length_cons, List.length_drop, ih]; omega
      · rw [if_neg h5]
        by_cases h6 : (sp l i).1 = 6
        · rw [if_pos h6, if_pos (Or.inr h6), List.length_cons, List.length_drop, ih]; omega
        · rw [if_neg h6, if_neg (by omega), List.length_cons, ih]
/-! the row of numbers -/
abbrev RT : Type := Nat → Int32
def lv (s : RT) (k : Nat) : Bool := decide (s (290 + k) = 0)
def absd (x : Int32) : Int32 := if 0 ≤ x then x else 0 - x
def frcX (s : RT) (k : Nat) (p : Int32) : Int32 := s (270 + k) * 1000 - s 7 * absd (s (280 + k) - p)
def frc (s : RT) (k : Nat) (p : Int32) : Int32 := if 0 < frcX s k p then frcX s k p else 0
def fct (s : RT) (k o : Nat) (w : Nat) : Int32 := if w = 0 then absd (s (280 + k) - s (280 + o)) else if w = 1 then s (270 + k) else if w = 2 then s (270 + o) else nI k
def costS (s : RT) (L : Wld) (k o : Nat) : Int32 := sumW (fun c => tru (fct s k o) (cl L c).2) (fun c => nI (cl L c).1) L.length
def bd (x : Int32) (n : Int) : Prop := 0 ≤ x.toInt ∧ x.toInt ≤ n
/-- the row is one -/
def OKs (K : Nat) (s : RT) (L : Wld) : Prop :=
  K ≤ 7 ∧ s 0 = nI K ∧ WFL L ∧ bd (s 6) 999 ∧ bd (s 7) 999 ∧ bd (s 8) 999 ∧
  (∀ k, k < 7 → bd (s (270 + k)) 99 ∧ bd (s (280 + k)) 40 ∧ (s (290 + k) = 0 ∨ s (290 + k) = 1) ∧ (s (290 + k) ≠ 0 → s (270 + k) = 0)) ∧
  (∀ k o, k < K → o < K → bd (s (310 + 7 * k + o)) 99 ∧ bd (s (360 + 7 * k + o)) 3) ∧
  (s 5 = nI (ln L L.length + L.length) ∧ ∀ c, c < L.length → s (130 + (ln L (c + 1) + c)) = (-10 : Int32) - nI (cl L c).1 ∧ ∀ i, i < (cl L c).2.length → s (130 + (ln L c + c + i)) = pk (sp (cl L c).2 i))
/-- a world's cells, from o on -/
def WRow (L : Wld) (o r : Nat) (h : HT) : Prop := h o 3 = nI L.length ∧ h o 4 = nI (ln L L.length) ∧ ∀ c, c < L.length → h r c = nI (cl L c).1 ∧ h (r + 1) c = nI (ln L (c + 1)) ∧ ∀ i, i < (cl L c).2.length → h (r + 2) (ln L c + i) = nI (sp (cl L c).2 i).1 ∧ h (r + 3) (ln L c + i) = nI (sp (cl L c).2 i).2.1 ∧ h (r + 4) (ln L c + i) = nI (sp (cl L c).2 i).2.2
/-- a Realm's cells, from o on, say what the row says -/
def RC (o K : Nat) (s : RT) (L : Wld) (h : HT) : Prop :=
  K ≤ 7 ∧ h (o + 1) 0 = nI K ∧ h (o + 1) 1 = mk (lv s) K ∧ (∀ k, k < K → h (o + 2) k = s (270 + k) ∧ h (o + 3) k = s (280 + k) ∧ h (o + 4) k = s (300 + k)) ∧
  (∀ k j, k < K → j < K → h (o + 6 + k) j = s (310 + 7 * k + j) ∧ h (o + 14 + k) j = s (360 + 7 * k + j)) ∧
  h (o + 23) 0 = s 6 ∧ h (o + 23) 1 = s 7 ∧ h (o + 23) 2 = s 8 ∧ WRow L (o + 23) (o + 24) h
theorem RC.q {K : Nat} {s : RT} {L : Wld} {b h : HT} (rc : RC 0 K s L b) (q : Qs b h) : RC 0 K s L h := by
  unfold RC WRow at rc ⊢
  have e : ∀ k, k ≠ 29 ∧ k ≠ 98 ∧ k ≠ 93 → h k = b k := fun k hk => q.row hk
  obtain ⟨a0, a1, a2, a3, a4, a5, a6, a7, a8, a9, a10⟩ := rc
  have hL : ∀ k : Nat, k < 7 → h (0 + 6 + k) = b (0 + 6 + k) ∧ h (0 + 14 + k) = b (0 + 14 + k) := fun k hk => ⟨e _ (by omega), e _ (by omega)⟩
  rw [e (0 + 1) (by omega), e (0 + 2) (by omega), e (0 + 3) (by omega), e (0 + 4) (by omega), e (0 + 23) (by omega), e (0 + 24) (by omega), e (0 + 24 + 1) (by omega), e (0 + 24 + 2) (by omega), e (0 + 24 + 3) (by omega), e (0 + 24 + 4) (by omega)]
  refine ⟨a0, a1, a2, a3, ?_, a5, a6, a7, a8, a9, a10⟩
  intro k j hk hj
  rw [(hL k (by omega)).1, (hL k (by omega)).2]
  exact a4 k j hk hj
