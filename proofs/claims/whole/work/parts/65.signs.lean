/-! the texts of the worlds: single signs -/
def ST (si : Nat) (cs : List Int32) : Prop := (∀ h, fJ0_length_8abf5 si h = some (nI cs.length, h)) ∧ ∀ (i : Nat) (h : HT), i < cs.length → fJ0_charAt_5068e si (nI i) h = some (cs.getD i 0, h)
theorem st_0 : ST 0 [99, 119, 108, 116] := ⟨fun h => congrArg (fun x => some (x, h)) (by decide +kernel : nI 4 >>> ((0 : Int32) &&& 31) = nI 4), fun i h hi => by
  have hi : i < 4 := hi
  have : i = 0 ∨ i = 1 ∨ i = 2 ∨ i = 3 := by omega
  rcases this with rfl | rfl | rfl | rfl <;> rfl⟩
theorem st_1 : ST 1 [111, 115, 116, 32] := ⟨fun h => congrArg (fun x => some (x, h)) (by decide +kernel : nI 4 >>> ((0 : Int32) &&& 31) = nI 4), fun i h hi => by
  have hi : i < 4 := hi
  have : i = 0 ∨ i = 1 ∨ i = 2 ∨ i = 3 := by omega
  rcases this with rfl | rfl | rfl | rfl <;> rfl⟩
theorem st_2 : ST 2 [48, 49, 50, 51, 52, 53, 54, 55, 56, 57] := ⟨fun h => congrArg (fun x => some (x, h)) (by decide +kernel : nI 10 >>> ((0 : Int32) &&& 31) = nI 10), fun i h hi => by
  have hi : i < 10 := hi
  have : i = 0 ∨ i = 1 ∨ i = 2 ∨ i = 3 ∨ i = 4 ∨ i = 5 ∨ i = 6 ∨ i = 7 ∨ i = 8 ∨ i = 9 := by omega
  rcases this with rfl | rfl | rfl | rfl | rfl | rfl | rfl | rfl | rfl | rfl <;> rfl⟩
theorem st_3 : ST 3 [32] := ⟨fun h => congrArg (fun x => some (x, h)) (by decide +kernel : nI 1 >>> ((0 : Int32) &&& 31) = nI 1), fun i h hi => by
  have hi : i < 1 := hi
  have : i = 0 := by omega
  subst this; rfl⟩
theorem st_4 : ST 4 [33, 40] := ⟨fun h => congrArg (fun x => some (x, h)) (by decide +kernel : nI 2 >>> ((0 : Int32) &&& 31) = nI 2), fun i h hi => by
  have hi : i < 2 := hi
  have : i = 0 ∨ i = 1 := by omega
  rcases this with rfl | rfl <;> rfl⟩
theorem st_5 : ST 5 [109, 115, 111, 107] := ⟨fun h => congrArg (fun x => some (x, h)) (by decide +kernel : nI 4 >>> ((0 : Int32) &&& 31) = nI 4), fun i h hi => by
  have hi : i < 4 := hi
  have : i = 0 ∨ i = 1 ∨ i = 2 ∨ i = 3 := by omega
  rcases this with rfl | rfl | rfl | rfl <;> rfl⟩
theorem st_6 : ST 6 [60, 61, 62] := ⟨fun h => congrArg (fun x => some (x, h)) (by decide +kernel : nI 3 >>> ((0 : Int32) &&& 31) = nI 3), fun i h hi => by
  have hi : i < 3 := hi
  have : i = 0 ∨ i = 1 ∨ i = 2 := by omega
  rcases this with rfl | rfl | rfl <;> rfl⟩
theorem st_7 : ST 7 [41] := ⟨fun h => congrArg (fun x => some (x, h)) (by decide +kernel : nI 1 >>> ((0 : Int32) &&& 31) = nI 1), fun i h hi => by
  have hi : i < 1 := hi
  have : i = 0 := by omega
  subst this; rfl⟩
theorem st_8 : ST 8 [38] := ⟨fun h => congrArg (fun x => some (x, h)) (by decide +kernel : nI 1 >>> ((0 : Int32) &&& 31) = nI 1), fun i h hi => by
  have hi : i < 1 := hi
  have : i = 0 := by omega
  subst this; rfl⟩
theorem st_9 : ST 9 [124] := ⟨fun h => congrArg (fun x => some (x, h)) (by decide +kernel : nI 1 >>> ((0 : Int32) &&& 31) = nI 1), fun i h hi => by
  have hi : i < 1 := hi
  have : i = 0 := by omega
  subst this; rfl⟩
theorem st_10 : ST 10 [111, 114, 100, 32] := ⟨fun h => congrArg (fun x => some (x, h)) (by decide +kernel : nI 4 >>> ((0 : Int32) &&& 31) = nI 4), fun i h hi => by
  have hi : i < 4 := hi
  have : i = 0 ∨ i = 1 ∨ i = 2 ∨ i = 3 := by omega
  rcases this with rfl | rfl | rfl | rfl <;> rfl⟩
theorem st_11 : ST 11 [101, 115, 115, 32] := ⟨fun h => congrArg (fun x => some (x, h)) (by decide +kernel : nI 4 >>> ((0 : Int32) &&& 31) = nI 4), fun i h hi => by
  have hi : i < 4 := hi
  have : i = 0 ∨ i = 1 ∨ i = 2 ∨ i = 3 := by omega
  rcases this with rfl | rfl | rfl | rfl <;> rfl⟩
theorem st_12 : ST 12 [97, 107, 101, 32] := ⟨fun h => congrArg (fun x => some (x, h)) (by decide +kernel : nI 4 >>> ((0 : Int32) &&& 31) = nI 4), fun i h hi => by
  have hi : i < 4 := hi
  have : i = 0 ∨ i = 1 ∨ i = 2 ∨ i = 3 := by omega
  rcases this with rfl | rfl | rfl | rfl <;> rfl⟩
theorem st_13 : ST 13 [59] := ⟨fun h => congrArg (fun x => some (x, h)) (by decide +kernel : nI 1 >>> ((0 : Int32) &&& 31) = nI 1), fun i h hi => by
  have hi : i < 1 := hi
  have : i = 0 := by omega
  subst this; rfl⟩
theorem st_14 : ST 14 [99, 111, 115, 116, 32] := ⟨fun h => congrArg (fun x => some (x, h)) (by decide +kernel : nI 5 >>> ((0 : Int32) &&& 31) = nI 5), fun i h hi => by
  have hi : i < 5 := hi
  have : i = 0 ∨ i = 1 ∨ i = 2 ∨ i = 3 ∨ i = 4 := by omega
  rcases this with rfl | rfl | rfl | rfl | rfl <;> rfl⟩
theorem st_15 : ST 15 [119, 111, 114, 100, 32] := ⟨fun h => congrArg (fun x => some (x, h)) (by decide +kernel : nI 5 >>> ((0 : Int32) &&& 31) = nI 5), fun i h hi => by
  have hi : i < 5 := hi
  have : i = 0 ∨ i = 1 ∨ i = 2 ∨ i = 3 ∨ i = 4 := by omega
  rcases this with rfl | rfl | rfl | rfl | rfl <;> rfl⟩
theorem st_16 : ST 16 [108, 101, 115, 115, 32] := ⟨fun h => congrArg (fun x => some (x, h)) (by decide +kernel : nI 5 >>> ((0 : Int32) &&& 31) = nI 5), fun i h hi => by
  have hi : i < 5 := hi
  have : i = 0 ∨ i = 1 ∨ i = 2 ∨ i = 3 ∨ i = 4 := by omega
  rcases this with rfl | rfl | rfl | rfl | rfl <;> rfl⟩
theorem st_17 : ST 17 [116, 97, 107, 101, 32] := ⟨fun h => congrArg (fun x => some (x, h)) (by decide +kernel : nI 5 >>> ((0 : Int32) &&& 31) = nI 5), fun i h hi => by
  have hi : i < 5 := hi
  have : i = 0 ∨ i = 1 ∨ i = 2 ∨ i = 3 ∨ i = 4 := by omega
  rcases this with rfl | rfl | rfl | rfl | rfl <;> rfl⟩
section tx
variable {Z : Nat → Int32} {T p : Nat} {h m : HT}
/-- the tape under reading -/
def TP (Z : Nat → Int32) (T p : Nat) (h : HT) : Prop := T ≤ 120 ∧ p ≤ T ∧ h 21 1 = nI T ∧ h 21 2 = nI p ∧ ∀ i, i < T → h 22 i = Z i
def pkS (Z : Nat → Int32) (T : Nat) (cs : List Int32) (p : Nat) : Option Nat := if p < T then fw2 (fun i => decide (cs.getD i 0 = Z p)) cs.length 0 else none
theorem pickE {si : Nat} {cs : List Int32} (st : ST si cs) (hl : cs.length ≤ 20) (t : TP Z T p h) : fX6_pick si h = match pkS Z T cs p with
    | none => some (-1, h)
    | some k => some (nI k, hu h 21 2 (nI (p + 1))) := by
  obtain ⟨t1, t2, t3, t4, t5⟩ := t
  unfold fX6_pick pkS
  rw [t3, t4]
  by_cases z : p < T
  · rw [if_neg (nI_ge z (by omega)), if_pos (show nI p < 120 from nI_lt (b := 120) (by omega) (by omega)), if_pos z]
    have c : ck 120 (nI p) = some p := ckI rfl (by omega)
    have go : ∀ (k : Nat) {f i : Nat}, i + k = cs.length → k < f → fX6_pick_24 si f (nI i) h = match fw2 (fun i => decide (cs.getD i 0 = Z p)) k i with
        | none => some (-1, h)
        | some k => some (nI k, hu h 21 2 (nI (p + 1))) := by
      intro k
      induction k with
      | zero =>
        intro f i hi hf
        obtain ⟨f, rfl⟩ : ∃ n', f = n' + 1 := ⟨f - 1, by omega⟩
        obtain rfl : i = cs.length := by omega
        simp only [fX6_pick_24, st.1, ob_s, if_pos (Int32.le_refl _), fw2]
      | succ k ih =>
        intro f i hi hf
        obtain ⟨f, rfl⟩ : ∃ n', f = n' + 1 := ⟨f - 1, by omega⟩
        have n1 : ¬ nI cs.length ≤ nI i := nI_ge (by omega) (by omega)
        have n2 : ¬ p ≤ T → False := fun q => q t2
        simp only [fX6_pick_24, st.1, ob_s, if_neg n1, st.2 i h (by omega), t4, c, t5 p z, nI_1, fw2]
        by_cases y : cs.getD i 0 = Z p
        · rw [if_pos y, if_pos (decide_eq_true y)]
        · rw [if_neg y, if_neg (fun q => y (of_decide_eq_true q))]
          exact ih (by omega) (by omega)
    exact go cs.length (f := 1000) (i := 0) (by omega) (by omega)
  · rw [if_pos (nI_le (by omega) (by omega)), if_neg z]
    rfl
/-- the reference's place -/
def RP (Z : Nat → Int32) (T p : Nat) (h : HT) : Prop := T ≤ 120 ∧ p ≤ T ∧ h 93 5 = nI T ∧ h 93 4 = nI p ∧ ∀ i, i < T → h 94 (10 + i) = Z i
def hrS (Z : Nat → Int32) (T p : Nat) : Int32 := if p < T then Z p else -1
theorem hereE (t : RP Z T p h) : fX12_here h = some (hrS Z T p, h) := by
  obtain ⟨t1, t2, t3, t4, t5⟩ := t
  unfold hrS
  simp only [fX12_here, t3, t4, fX12_here_27]
  by_cases z : p < T
  · have c : ck 490 ((10 : Int32) + nI p) = some (10 + p) := ckO 10 (by omega)
    rw [if_neg (nI_ge z (by omega)), if_pos z, c]
    simp only [ob_s, t5 p z]
  · rw [if_pos (nI_le (by omega) (by omega)), if_neg z]
theorem hr_eq {k : Nat} (hk : k < 200) : (hrS Z T p = nI k) ↔ (p < T ∧ Z p = nI k) := by
  unfold hrS
  by_cases z : p < T
  · rw [if_pos z]; exact ⟨fun e => ⟨z, e⟩, fun e => e.2⟩
  · rw [if_neg z]
    refine ⟨fun e => ?_, fun e => absurd e.1 z⟩
    have := nI_pos' (n := k) (by omega)
    rw [← e] at this
    exact absurd this (by decide)
/-- a word, sign by sign -/
def goS (Z : Nat → Int32) (T : Nat) : List Int32 → Nat → Bool × Nat
  | [], p => (true, p)
  | c :: cs, p => if p < T ∧ Z p = c then goS Z T cs (p + 1) else (false, p)
theorem goS_le : ∀ (cs : List Int32) (p : Nat), p ≤ T → p ≤ (goS Z T cs p).2 ∧ (goS Z T cs p).2 ≤ T
  | [], p, hp => ⟨Nat.le_refl _, hp⟩
  | c :: cs, p, hp => by
    rw [goS]
    by_cases z : p < T ∧ Z p = c
    · rw [if_pos z]
      have := goS_le cs (p + 1) (by omega)
      omega
    · rw [if_neg z]; exact ⟨Nat.le_refl _, hp⟩
theorem goesE {si : Nat} {cs : List Int32} (st : ST si cs) (hl : cs.length ≤ 20) (t : TP Z T p h) : ∃ h', (∀ k j, ¬ (k = 21 ∧ j = 2) → h' k j = h k j) ∧ h' 21 2 = nI (goS Z T cs p).2 ∧ fX6_goesOn si h = some (bI (goS Z T cs p).1, h') := by
  unfold fX6_goesOn
  have go : ∀ (suf pre : List Int32) {f p : Nat} {h : HT}, cs = pre ++ suf → suf.length < f → TP Z T p h → ∃ h', (∀ k j, ¬ (k = 21 ∧ j = 2) → h' k j = h k j) ∧ h' 21 2 = nI (goS Z T suf p).2 ∧ fX6_goesOn_2 si f (nI pre.length) h = some (bI (goS Z T suf p).1, h') := by
    intro suf
    induction suf with
    | nil =>
      intro pre f p h he hf t
      obtain ⟨f, rfl⟩ : ∃ n', f = n' + 1 := ⟨f - 1, by omega⟩
      have e : cs.length = pre.length := by rw [he, List.append_nil]
      refine ⟨h, fun _ _ _ => rfl, t.2.2.2.1, ?_⟩
      simp only [fX6_goesOn_2, st.1, e, ob_s, if_pos (Int32.le_refl _)]
      rfl
    | cons c suf ih =>
      intro pre f p h he hf t
      obtain ⟨f, rfl⟩ : ∃ n', f = n' + 1 := ⟨f - 1, by omega⟩
      have e : cs.length = pre.length + (suf.length + 1) := by rw [he, List.length_append, List.length_cons]
      have n1 : ¬ nI cs.length ≤ nI pre.length := nI_ge (by omega) (by omega)
      have gd : cs.getD pre.length 0 = c := by
        rw [he, List.getD_eq_getElem?_getD, List.getElem?_append_right (Nat.le_refl _), Nat.sub_self]; rfl
      have ch := st.2 pre.length h (by omega)
      rw [gd] at ch
      obtain ⟨t1, t2, t3, t4, t5⟩ := t
      rw [goS]
      simp only [fX6_goesOn_2, st.1, ob_s, if_neg n1, t3, t4, fX6_goesOn_47, nI_1]
      by_cases z : p < T
      · have c1 : ck 120 (nI p) = some p := ckI rfl (by omega)
        have n2 : ¬ (120 : Int32) ≤ nI p := nI_ge (b := 120) (by omega) (by omega)
        rw [if_neg (nI_ge z (by omega)), if_neg n2, c1, ch]
        simp only [ob_s, t5 p z, t4, nI_1]
        by_cases y : Z p = c
        · rw [if_pos y, if_pos ⟨z, y⟩]
          have t' : TP Z T (p + 1) (hu h 21 2 (nI (p + 1))) := ⟨t1, by omega, by rw [hu_ne (by omega)]; exact t3, hu_eq, fun i hi => by rw [hu_ne (by omega)]; exact t5 i hi⟩
          obtain ⟨h', r1, r2, r3⟩ := ih (pre ++ [c]) (f := f) (by rw [he, List.append_assoc]; rfl) (by rw [List.length_cons] at hf; omega) t'
          refine ⟨h', fun k j n => by rw [r1 k j n, hu_ne n], r2, ?_⟩
          rw [List.length_append, List.length_singleton] at r3
          exact r3
        · rw [if_neg y, if_neg (fun q => y q.2)]
          exact ⟨h, fun _ _ _ => rfl, t4, rfl⟩
      · rw [if_pos (nI_le (by omega) (by omega)), if_neg (fun q => z q.1)]
        exact ⟨h, fun _ _ _ => rfl, t4, rfl⟩
  exact go cs [] (f := 1000) rfl (by omega) t
/-- the reference's state but for what it has emitted: place, whether at fault -/
def RF (m : HT) (p : Nat) (er : Bool) (h : HT) : Prop := (∀ k j, ¬ (k = 93 ∧ (j = 4 ∨ j = 6)) → h k j = m k j) ∧ h 93 4 = nI p ∧ h 93 6 = bI er
def rb (Z : Nat → Int32) (T : Nat) (m : HT) : Prop := T ≤ 120 ∧ m 93 5 = nI T ∧ ∀ i, i < T → m 94 (10 + i) = Z i
theorem RF.rp {er : Bool} (r : RF m p er h) (b : rb Z T m) (hp : p ≤ T) : RP Z T p h := ⟨b.1, hp, by rw [r.1 93 5 (by omega)]; exact b.2.1, r.2.1, fun i hi => by rw [r.1 94 (10 + i) (by omega)]; exact b.2.2 i hi⟩
theorem mustE (b : rb Z T m) (hp : p ≤ T) (r : RF m p false h) {c : Nat} (hc : c < 200) : Rs (RF m (if p < T ∧ Z p = nI c then p + 1 else p) (!decide (p < T ∧ Z p = nI c))) (fX12_must (nI c) h) 0 := by
  have e := hereE (r.rp b hp)
  have q := hr_eq (Z := Z) (T := T) (p := p) hc
  simp only [fX12_must, r.2.2, e, ob_s, q, fX12_must_16, fX12_must_21, cb_0, cb_1, hu_eq, fX12_must_41, if_pos bI_f, if_true, if10]
  have f4 : ∀ w : Int32, hu h 93 6 w 93 4 = nI p := fun w => by rw [hu_ne (by omega)]; exact r.2.1
  by_cases z : p < T ∧ Z p = nI c
  · rw [if_pos z, if_pos z, decide_eq_true z, f4, nI_1]
    refine Rs.ok ⟨fun k j n => by rw [hu_ne (by omega), hu_ne (by omega)]; exact r.1 k j n, hu_eq, ?_⟩
    rw [hu_ne (by omega), hu_eq]; rfl
  · rw [if_neg z, if_neg z, decide_eq_false z, f4, Int32.add_zero]
    refine Rs.ok ⟨fun k j n => by rw [hu_ne (by omega), hu_ne (by omega)]; exact r.1 k j n, hu_eq, ?_⟩
    rw [hu_ne (by omega), hu_eq]; rfl
theorem mustX (r : RF m p true h) (c : Int32) : Rs (RF m p true) (fX12_must c h) 0 := by
  simp only [fX12_must, r.2.2, fX12_must_16, fX12_must_21, cb_1, ob_s, hu_eq, fX12_must_41, if_neg (show ¬ bI true = 0 by decide), if10]
  have f4 : ∀ w : Int32, hu h 93 6 w 93 4 = nI p := fun w => by rw [hu_ne (by omega)]; exact r.2.1
  rw [f4, Int32.add_zero]
  refine Rs.ok ⟨fun k j n => by rw [hu_ne (by omega), hu_ne (by omega)]; exact r.1 k j n, hu_eq, ?_⟩
  rw [hu_ne (by omega), hu_eq]; rfl
end tx
