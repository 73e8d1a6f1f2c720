/-! acts and what they leave -/
def nt (p : Nat × (Nat → Int32)) (x : Int32) : Nat × (Nat → Int32) := (p.1 + 1, fun i => if i = p.1 then x else p.2 i)
def cmV (N t : Nat) (x : Int32) : Int32 := if N = 5 then (x + nI t) ^^^ nI t else if N = 2 ∨ N = 4 then -(x + nI t) else x + nI t
def cmP (N : Nat) (p : Nat × (Nat → Int32)) : Nat × (Nat → Int32) := if N = 5 then nt (nt p 51) 1 else if N = 2 ∨ N = 4 then nt (nt p 21) 1 else nt p 1
def pdV (N t : Nat) (v x : Int32) : Int32 := cmV N t x - v
def pdP (N : Nat) (p : Nat × (Nat → Int32)) : Nat × (Nat → Int32) := cmP N (nt p 2)
def drV (N t : Nat) (v x : Int32) : Int32 := if N = 1 then pdV N t v (x * 3) else if N = 6 then pdV N t v x + v else pdV N t v x
def drP (N : Nat) (p : Nat × (Nat → Int32)) : Nat × (Nat → Int32) := if N = 1 then pdP N (nt p 11) else if N = 6 then pdP N (nt p 61) else pdP N p
def phV (N t : Nat) (v x : Int32) : Int32 := drV N t v x * 2
def phP (N : Nat) (p : Nat × (Nat → Int32)) : Nat × (Nat → Int32) := drP N (nt p 3)
def hoV (N t : Nat) (v x : Int32) : Int32 := if N = 4 then phV N t v (x - 1) + cmV N t 2 else if 3 ≤ N then phV N t v x ^^^ 7 else phV N t v x
def hoP (N : Nat) (p : Nat × (Nat → Int32)) : Nat × (Nat → Int32) := if N = 4 then cmP N (phP N (nt p 41)) else if 3 ≤ N then phP N (nt p 31) else phP N p
theorem cmP_le (N : Nat) (p : Nat × (Nat → Int32)) : (cmP N p).1 ≤ p.1 + 2 := by
  unfold cmP
  by_cases a : N = 5
  · rw [if_pos a]; exact Nat.le_refl _
  · rw [if_neg a]
    by_cases c : N = 2 ∨ N = 4
    · rw [if_pos c]; exact Nat.le_refl _
    · rw [if_neg c]; show p.1 + 1 ≤ _; omega
theorem drP_le (N : Nat) (p : Nat × (Nat → Int32)) : (drP N p).1 ≤ p.1 + 4 := by
  have h := fun q => cmP_le N (nt q 2)
  have e : ∀ (q : Nat × (Nat → Int32)) x, (nt q x).1 = q.1 + 1 := fun _ _ => rfl
  unfold drP pdP
  by_cases a : N = 1
  · rw [if_pos a]; have := h (nt p 11); rw [e, e] at this; omega
  · rw [if_neg a]
    by_cases c : N = 6
    · rw [if_pos c]; have := h (nt p 61); rw [e, e] at this; omega
    · rw [if_neg c]; have := h p; rw [e] at this; omega
def NC (b : HT) (p : Nat × (Nat → Int32)) (g : HT) : Prop := (∀ k, k ≠ 91 → g k = b k) ∧ g 91 0 = nI p.1 ∧ ∀ i, i < p.1 → i < 20 → g 91 (i + 1) = p.2 i
def NR (b : HT) (p : Nat × (Nat → Int32)) (g : HT) : Prop := (∀ k j, ¬ (k = 101 ∨ (k = 93 ∧ j = 28)) → g k j = b k j) ∧ g 93 28 = nI p.1 ∧ ∀ i, i < p.1 → i < 20 → g 101 i = p.2 i
section ac
variable {P : PT} {n : Nat} {K : Nat} {s s' : RT} {L : Wld} {b g h : HT} {p : Nat × (Nat → Int32)} {N t : Nat} {v x : Int32}
theorem noteE (q : NC b p g) (hp : p.1 ≤ 90) (y : Int32) : Rs (NC b (nt p y)) (fX5_note y g) 0 := by
  obtain ⟨q1, q2, q3⟩ := q
  have e : hu g 91 0 (nI (p.1 + 1)) 91 0 = nI (p.1 + 1) := hu_eq
  simp only [fX5_note, q2, nI_1, e, fX5_note_21]
  by_cases z : p.1 < 20
  · have n1 : ¬ (21 : Int32) ≤ nI (p.1 + 1) := nI_ge (b := 21) (by omega) (by omega)
    have c1 : ck 21 (nI (p.1 + 1)) = some (p.1 + 1) := ckI rfl (by omega)
    rw [if_neg n1, c1]
    simp only [ob_s]
    refine Rs.ok ⟨fun k hk => by rw [hu_r hk, hu_r hk]; exact q1 k hk, by rw [hu_ne (by omega), hu_eq]; rfl, fun i hi h20 => ?_⟩
    show _ = if i = p.1 then y else p.2 i
    by_cases w : i = p.1
    · subst w; rw [hu_eq, if_pos rfl]
    · have hi : i < p.1 + 1 := hi
      rw [hu_ne (by omega), hu_ne (by omega), if_neg w]; exact q3 i (by omega) h20
  · have n1 : (21 : Int32) ≤ nI (p.1 + 1) := nI_le (a := 21) (by omega) (by omega)
    rw [if_pos n1]
    refine Rs.ok ⟨fun k hk => by rw [hu_r hk]; exact q1 k hk, by rw [hu_eq]; rfl, fun i hi h20 => ?_⟩
    show _ = if i = p.1 then y else p.2 i
    rw [hu_ne (by omega), if_neg (by omega)]; exact q3 i (by omega) h20
theorem runsE (q : NR b p g) (hp : p.1 ≤ 90) (y : Int32) : Rs (NR b (nt p y)) (fX12_runs y g) 0 := by
  obtain ⟨q1, q2, q3⟩ := q
  simp only [fX12_runs, q2, fX12_runs_19]
  by_cases z : p.1 < 20
  · have n1 : ¬ (20 : Int32) ≤ nI p.1 := nI_ge (b := 20) (by omega) (by omega)
    have c1 : ck 20 (nI p.1) = some p.1 := ckI rfl (by omega)
    have e : hu g 101 p.1 y 93 28 = nI p.1 := by rw [hu_ne (by omega)]; exact q2
    rw [if_neg n1, c1]
    simp only [ob_s, e, nI_1]
    refine Rs.ok ⟨fun k j hk => by rw [hu_ne (by omega), hu_ne (by omega)]; exact q1 k j hk, by rw [hu_eq]; rfl, fun i hi h20 => ?_⟩
    show _ = if i = p.1 then y else p.2 i
    rw [hu_ne (by omega)]
    by_cases w : i = p.1
    · subst w; rw [hu_eq, if_pos rfl]
    · have hi : i < p.1 + 1 := hi
      rw [hu_ne (by omega), if_neg w]; exact q3 i (by omega) h20
  · have n1 : (20 : Int32) ≤ nI p.1 := nI_le (a := 20) (by omega) (by omega)
    rw [if_pos n1]
    simp only [q2, nI_1]
    refine Rs.ok ⟨fun k j hk => by rw [hu_ne (by omega)]; exact q1 k j hk, by rw [hu_eq]; rfl, fun i hi h20 => ?_⟩
    show _ = if i = p.1 then y else p.2 i
    rw [hu_ne (by omega), if_neg (by omega)]; exact q3 i (by omega) h20
theorem n7 (hN : N ≤ 6) : N = 0 ∨ N = 1 ∨ N = 2 ∨ N = 3 ∨ N = 4 ∨ N = 5 ∨ N = 6 := by omega
theorem comesA (q : NC b p g) (hp : p.1 ≤ 60) (hN : N ≤ 6) : Rs (NC b (cmP N p)) (fv_comesAct (kcl N, nI t, v) x g) (cmV N t x) := by
  have plain : ∀ {r : SR} {p : Nat × (Nat → Int32)} {g : HT}, NC b p g → p.1 ≤ 70 → r.2.1 = nI t → Rs (NC b (nt p 1)) (fX5_comesAct r x g) (x + nI t) := by
    intro r p g q hp hr
    obtain ⟨h1, e1, q1⟩ := noteE q (by omega) 1
    simp only [fX5_comesAct, e1, ob_s, hr]
    exact Rs.ok q1
  have two : Rs (NC b (nt (nt p 21) 1)) (fX4_comesAct (kcl N, nI t, v) x g) (-(x + nI t)) := by
    obtain ⟨h1, e1, q1⟩ := noteE q (by omega) 21
    obtain ⟨h2, e2, q2⟩ := plain (r := (kcl N, nI t, v)) q1 (by show p.1 + 1 ≤ 70; omega) rfl
    simp only [fX4_comesAct, e1, ob_s, e2]
    exact Rs.ok q2
  have one : Rs (NC b (nt (nt p 51) 1)) (fX1_comesAct (kcl N, nI t, v) x g) ((x + nI t) ^^^ nI t) := by
    obtain ⟨h1, e1, q1⟩ := noteE q (by omega) 51
    obtain ⟨h2, e2, q2⟩ := plain (r := (kcl N, nI t, v)) q1 (by show p.1 + 1 ≤ 70; omega) rfl
    simp only [fX1_comesAct, e1, ob_s, e2]
    exact Rs.ok q2
  rcases n7 hN with rfl | rfl | rfl | rfl | rfl | rfl | rfl
  · exact plain q (by omega) rfl
  · exact plain q (by omega) rfl
  · exact two
  · exact plain q (by omega) rfl
  · exact two
  · exact one
  · exact plain q (by omega) rfl
theorem daresA (q : NC b p g) (hp : p.1 ≤ 40) (hN : N ≤ 6) : Rs (NC b (drP N p)) (fv_daresAct (kcl N, nI t, v) x g) (drV N t v x) := by
  have plain : ∀ {p : Nat × (Nat → Int32)} {g : HT} (x : Int32), NC b p g → p.1 ≤ 50 → Rs (NC b (pdP N p)) (fX5_daresAct (kcl N, nI t, v) x g) (pdV N t v x) := by
    intro p g x q hp
    obtain ⟨h1, e1, q1⟩ := noteE q (by omega) 2
    obtain ⟨h2, e2, q2⟩ := comesA (t := t) (v := v) (x := x) q1 (by show p.1 + 1 ≤ 60; omega) hN
    simp only [fX5_daresAct, e1, ob_s, e2]
    exact Rs.ok q2
  rcases n7 hN with rfl | rfl | rfl | rfl | rfl | rfl | rfl
  · exact plain x q (by omega)
  · show Rs _ (fX0_daresAct (kcl 1, nI t, v) x g) _
    obtain ⟨h1, e1, q1⟩ := noteE q (by omega) 11
    obtain ⟨h2, e2, q2⟩ := plain (x * 3) q1 (by show p.1 + 1 ≤ 50; omega)
    simp only [fX0_daresAct, e1, ob_s, e2]
    exact Rs.ok q2
  · exact plain x q (by omega)
  · exact plain x q (by omega)
  · exact plain x q (by omega)
  · exact plain x q (by omega)
  · show Rs _ (fX7_daresAct (kcl 6, nI t, v) x g) _
    obtain ⟨h1, e1, q1⟩ := noteE q (by omega) 61
    obtain ⟨h2, e2, q2⟩ := plain x q1 (by show p.1 + 1 ≤ 50; omega)
    simp only [fX7_daresAct, e1, ob_s, e2]
    exact Rs.ok q2
theorem holdsA (q : NC b p g) (hp : p.1 ≤ 20) (hN : N ≤ 6) : Rs (NC b (hoP N p)) (fv_holdsAct (kcl N, nI t, v) x g) (hoV N t v x) := by
  have plain : ∀ {p : Nat × (Nat → Int32)} {g : HT} (x : Int32), NC b p g → p.1 ≤ 30 → Rs (NC b (phP N p)) (fX5_holdsAct (kcl N, nI t, v) x g) (phV N t v x) := by
    intro p g x q hp
    obtain ⟨h1, e1, q1⟩ := noteE q (by omega) 3
    obtain ⟨h2, e2, q2⟩ := daresA (t := t) (v := v) (x := x) q1 (by show p.1 + 1 ≤ 40; omega) hN
    simp only [fX5_holdsAct, e1, ob_s, e2]
    exact Rs.ok q2
  have web : Rs (NC b (phP N (nt p 31))) (fX9_holdsAct (kcl N, nI t, v) x g) (phV N t v x ^^^ 7) := by
    obtain ⟨h1, e1, q1⟩ := noteE q (by omega) 31
    obtain ⟨h2, e2, q2⟩ := plain x q1 (by show p.1 + 1 ≤ 30; omega)
    simp only [fX9_holdsAct, e1, ob_s, e2]
    exact Rs.ok q2
  rcases n7 hN with rfl | rfl | rfl | rfl | rfl | rfl | rfl
  · exact plain x q (by omega)
  · exact plain x q (by omega)
  · exact plain x q (by omega)
  · exact web
  · show Rs _ (fX2_holdsAct (kcl 4, nI t, v) x g) _
    obtain ⟨h1, e1, q1⟩ := noteE q (by omega) 41
    obtain ⟨h2, e2, q2⟩ := plain (x - 1) q1 (by show p.1 + 1 ≤ 30; omega)
    have le : (phP 4 (nt p 41)).1 ≤ p.1 + 6 := by
      have := drP_le 4 (nt (nt p 41) 3)
      have e : (nt (nt p 41) 3).1 = p.1 + 2 := rfl
      rw [e] at this
      exact this
    obtain ⟨h3, e3, q3⟩ := comesA (t := t) (v := v) (x := 2) q2 (by omega) hN
    simp only [fX2_holdsAct, e1, ob_s, e2, e3]
    exact Rs.ok q3
  · exact web
  · exact web
/-- the reference's cells of an act -/
def ar (N t : Nat) (v : Int32) (b : HT) : Prop := b 93 29 = nI N ∧ b 93 30 = nI t ∧ b 93 31 = v
theorem NR.ar (q : NR b p g) (a : ar N t v b) : ar N t v g := ⟨by rw [q.1 93 29 (by omega)]; exact a.1, by rw [q.1 93 30 (by omega)]; exact a.2.1, by rw [q.1 93 31 (by omega)]; exact a.2.2⟩
def und (N m : Nat) : Bool := decide (m = 0) || decide (m = N) || (decide (m = 2) && decide (N = 4)) || (decide (m = 3) && decide (4 < N))
theorem isUnderE : ∀ N m : Nat, N ≤ 6 → m ≤ 6 → fX12_isUnder (nI N) (nI m) h = some (bI (und N m), h) := by
  intro N m hN hm
  rcases n7 hN with rfl | rfl | rfl | rfl | rfl | rfl | rfl <;> rcases n7 hm with rfl | rfl | rfl | rfl | rfl | rfl | rfl <;> rfl
theorem comesB (a : ar N t v b) (q : NR b p g) (hp : p.1 ≤ 60) (hN : N ≤ 6) : Rs (NR b (cmP N p)) (fX12_comesActs x g) (cmV N t x) := by
  have plain : ∀ {p : Nat × (Nat → Int32)} {g : HT}, NR b p g → p.1 ≤ 70 → Rs (NR b (nt p 1)) (fX12_plainComes x g) (x + nI t) := by
    intro p g q hp
    obtain ⟨h1, e1, q1⟩ := runsE q (by omega) 1
    simp only [fX12_plainComes, e1, ob_s, (q1.ar a).2.1]
    exact Rs.ok q1
  have u := isUnderE (h := g) N 2 hN (by omega)
  have u' : fX12_isUnder (nI N) 2 g = some (bI (und N 2), g) := u
  have two : Rs (NR b (nt (nt p 21) 1)) (Option.bind (fX12_runs 21 g) fun z5 => Option.bind (fX12_plainComes x z5.2) fun z6 => some (-z6.1, z6.2)) (-(x + nI t)) := by
    obtain ⟨h1, e1, q1⟩ := runsE q (by omega) 21
    obtain ⟨h2, e2, q2⟩ := plain q1 (by show p.1 + 1 ≤ 70; omega)
    simp only [e1, ob_s, e2]
    exact Rs.ok q2
  have zero : Rs (NR b (nt p 1)) (Option.bind (fX12_plainComes x g) fun z4 => some (z4.1, z4.2)) (x + nI t) := by
    obtain ⟨h2, e2, q2⟩ := plain q (by omega)
    simp only [ob_s, e2]
    exact Rs.ok q2
  simp only [fX12_comesActs, (q.ar a).1]
  rcases n7 hN with rfl | rfl | rfl | rfl | rfl | rfl | rfl
  · rw [if_neg (by decide), u']; simp only [ob_s]; exact zero
  · rw [if_neg (by decide), u']; simp only [ob_s]; exact zero
  · rw [if_neg (by decide), u']; simp only [ob_s]; exact two
  · rw [if_neg (by decide), u']; simp only [ob_s]; exact zero
  · rw [if_neg (by decide), u']; simp only [ob_s]; exact two
  · rw [if_pos (show nI 5 = 5 from rfl)]
    obtain ⟨h1, e1, q1⟩ := runsE q (by omega) 51
    obtain ⟨h2, e2, q2⟩ := plain q1 (by show p.1 + 1 ≤ 70; omega)
    simp only [e1, ob_s, e2, (q2.ar a).2.1]
    exact Rs.ok q2
  · rw [if_neg (by decide), u']; simp only [ob_s]; exact zero
theorem daresB (a : ar N t v b) (q : NR b p g) (hp : p.1 ≤ 40) (hN : N ≤ 6) : Rs (NR b (drP N p)) (fX12_daresActs x g) (drV N t v x) := by
  have plain : ∀ {p : Nat × (Nat → Int32)} {g : HT} (x : Int32), NR b p g → p.1 ≤ 50 → Rs (NR b (pdP N p)) (fX12_plainDares x g) (pdV N t v x) := by
    intro p g x q hp
    obtain ⟨h1, e1, q1⟩ := runsE q (by omega) 2
    obtain ⟨h2, e2, q2⟩ := comesB (x := x) a q1 (by show p.1 + 1 ≤ 60; omega) hN
    simp only [fX12_plainDares, e1, ob_s, e2, (q2.ar a).2.2]
    exact Rs.ok q2
  have zero : Rs (NR b (pdP N p)) (Option.bind (fX12_plainDares x g) fun z3 => some (z3.1, z3.2)) (pdV N t v x) := by
    obtain ⟨h2, e2, q2⟩ := plain x q (by omega)
    simp only [ob_s, e2]
    exact Rs.ok q2
  simp only [fX12_daresActs, (q.ar a).1]
  rcases n7 hN with rfl | rfl | rfl | rfl | rfl | rfl | rfl
  · rw [if_neg (by decide), if_neg (by decide)]; exact zero
  · rw [if_pos (show nI 1 = 1 from rfl)]
    obtain ⟨h1, e1, q1⟩ := runsE q (by omega) 11
    obtain ⟨h2, e2, q2⟩ := plain (x * 3) q1 (by show p.1 + 1 ≤ 50; omega)
    simp only [e1, ob_s, e2]
    exact Rs.ok q2
  · rw [if_neg (by decide), if_neg (by decide)]; exact zero
  · rw [if_neg (by decide), if_neg (by decide)]; exact zero
  · rw [if_neg (by decide), if_neg (by decide)]; exact zero
  · rw [if_neg (by decide), if_neg (by decide)]; exact zero
  · rw [if_neg (by decide), if_pos (show nI 6 = 6 from rfl)]
    obtain ⟨h1, e1, q1⟩ := runsE q (by omega) 61
    obtain ⟨h2, e2, q2⟩ := plain x q1 (by show p.1 + 1 ≤ 50; omega)
    simp only [e1, ob_s, e2, (q2.ar a).2.2]
    exact Rs.ok q2
theorem holdsB (a : ar N t v b) (q : NR b p g) (hp : p.1 ≤ 20) (hN : N ≤ 6) : Rs (NR b (hoP N p)) (fX12_holdsActs x g) (hoV N t v x) := by
  have plain : ∀ {p : Nat × (Nat → Int32)} {g : HT} (x : Int32), NR b p g → p.1 ≤ 30 → Rs (NR b (phP N p)) (fX12_plainHolds x g) (phV N t v x) := by
    intro p g x q hp
    obtain ⟨h1, e1, q1⟩ := runsE q (by omega) 3
    obtain ⟨h2, e2, q2⟩ := daresB (x := x) a q1 (by show p.1 + 1 ≤ 40; omega) hN
    simp only [fX12_plainHolds, e1, ob_s, e2]
    exact Rs.ok q2
  have u : fX12_isUnder (nI N) 3 g = some (bI (und N 3), g) := isUnderE (h := g) N 3 hN (by omega)
  have zero : Rs (NR b (phP N p)) (Option.bind (fX12_plainHolds x g) fun z4 => some (z4.1, z4.2)) (phV N t v x) := by
    obtain ⟨h2, e2, q2⟩ := plain x q (by omega)
    simp only [ob_s, e2]
    exact Rs.ok q2
  have web : Rs (NR b (phP N (nt p 31))) (Option.bind (fX12_runs 31 g) fun z5 => Option.bind (fX12_plainHolds x z5.2) fun z6 => some (z6.1 ^^^ (7 : Int32), z6.2)) (phV N t v x ^^^ 7) := by
    obtain ⟨h1, e1, q1⟩ := runsE q (by omega) 31
    obtain ⟨h2, e2, q2⟩ := plain x q1 (by show p.1 + 1 ≤ 30; omega)
    simp only [e1, ob_s, e2]
    exact Rs.ok q2
  simp only [fX12_holdsActs, (q.ar a).1]
  rcases n7 hN with rfl | rfl | rfl | rfl | rfl | rfl | rfl
  · rw [if_neg (by decide), u]; simp only [ob_s]; exact zero
  · rw [if_neg (by decide), u]; simp only [ob_s]; exact zero
  · rw [if_neg (by decide), u]; simp only [ob_s]; exact zero
  · rw [if_neg (by decide), u]; simp only [ob_s]; exact web
  · rw [if_pos (show nI 4 = 4 from rfl)]
    obtain ⟨h1, e1, q1⟩ := runsE q (by omega) 41
    obtain ⟨h2, e2, q2⟩ := plain (x - 1) q1 (by show p.1 + 1 ≤ 30; omega)
    have le : (phP 4 (nt p 41)).1 ≤ p.1 + 6 := by
      have := drP_le 4 (nt (nt p 41) 3)
      have e : (nt (nt p 41) 3).1 = p.1 + 2 := rfl
      rw [e] at this
      exact this
    obtain ⟨h3, e3, q3⟩ := comesB (x := 2) a q2 (by omega) hN
    simp only [e1, ob_s, e2, e3]
    exact Rs.ok q3
  · rw [if_neg (by decide), u]; simp only [ob_s]; exact web
  · rw [if_neg (by decide), u]; simp only [ob_s]; exact web
theorem Ix.tr (X : Ix P K L n b) {h1 h2 : HT} (c1 : NC b p h1) (r : ∀ k j, k ≠ 101 → k ≠ 93 → h2 k j = h1 k j) (r3 : h2 93 3 = h1 93 3) (r28 : h2 93 28 = nI p.1) (r101 : ∀ i, i < p.1 → i < 20 → h2 101 i = p.2 i) (hp : p.1 ≤ 100) : Ix P K L n h2 := by
  have row : ∀ k, k ≠ 101 → k ≠ 93 → k ≠ 91 → h2 k = b k := fun k a c d => by rw [show h2 k = h1 k from funext fun j => r k j a c]; exact c1.1 k d
  obtain ⟨x2, x3, x4, c, d1, d2, d3, d4⟩ := X.2
  have e3 : h2 93 3 = b 93 3 := by rw [r3, c1.1 93 (by omega)]
  refine ⟨?_, ⟨x2.1, x2.2.e (row 30 (by omega) (by omega) (by omega)) (row 70 (by omega) (by omega) (by omega))⟩, by rw [row 0 (by omega) (by omega) (by omega), e3]; exact x3, ?_, p.1, hp, by rw [r 91 0 (by omega) (by omega)]; exact c1.2.1, r28, fun i hi h20 => by rw [r 91 (i + 1) (by omega) (by omega), c1.2.2 i hi h20, r101 i hi h20]⟩
  · rw [row 94 (by omega) (by omega) (by omega)]
    exact X.1.e fun q h1 h2 h3 => row _ (by omega) (by omega) (by omega)
  · rw [e3, row 95 (by omega) (by omega) (by omega)]
    rcases x4 with x4 | ⟨x4, K', L', n', y⟩
    · exact Or.inl x4
    · exact Or.inr ⟨x4, K', L', n', y.e fun q h1 h2 h3 => row _ (by omega) (by omega) (by omega)⟩
theorem m_act (X : Ix P K L n b) (l1 l2 l3 : Int32) : Mu P b (fX11_act P l1 l2 l3) (fX12_act l1 l2 l3) := by
  have hK := X.K7
  generalize hB : hu b 91 0 0 = B
  have Bn : ∀ k, k ≠ 91 → B k = b k := fun k hk => by rw [← hB, hu_r hk]
  have nB : NC b (0, fun _ => 0) B := ⟨Bn, by rw [← hB]; exact hu_eq, fun i hi => absurd hi (Nat.not_lt_zero i)⟩
  have B13 : B 1 3 = nI n := by rw [Bn 1 (by omega)]; exact X.c3 Qw.rfl'
  have n8 := X.n8
  have nostd : ∀ h1, NC b (0, fun _ => 0) h1 → fX11_act P l1 l2 l3 b = some (0, h1) → fX12_act l1 l2 l3 h1 = some (0, hu h1 93 28 0) → Mu P b (fX11_act P l1 l2 l3) (fX12_act l1 l2 l3) := fun h1 c1 e1 e2 =>
    ⟨0, h1, hu h1 93 28 0, e1, e2, K, L, n, X.tr (p := (0, fun _ => 0)) c1 (fun k j _ a => by rw [hu_ne (by omega)]) (by rw [hu_ne (by omega)]) hu_eq (fun i hi => absurd hi (Nat.not_lt_zero i)) (Nat.zero_le _)⟩
  rcases isn X.n8 l1 with ⟨t, ht, rfl⟩ | hn
  · obtain ⟨N, q, v, r, d1, d2, d3, d4, hN, hv, hr0, ht8, hc, hr⟩ := X.sd ht
    have c8 : ck 8 (nI t) = some t := ckI rfl (by omega)
    have sA : fX3_standingAt (nI t) B = some (b 30 t, B) := by
      simp only [fX3_standingAt, B13, if_neg (nI_pos (show t < 2 ^ 31 by omega)), if_neg (nI_ge ht (show n < 2 ^ 31 by omega)), c8, ob_s, fX3_standingAt_22, Bn 30 (by omega)]
    have k1 : ck 490 ((410 : Int32) + nI t) = some (410 + t) := ckO 410 (by omega)
    have k2 : ck 490 ((420 : Int32) + nI t) = some (420 + t) := ckO 420 (by omega)
    -- the reference's start
    have go : ∀ (h1 : HT) (pp : Nat × (Nat → Int32)), NC b pp h1 → fX12_isStanding (nI t) (hu h1 93 28 0) = some (1, hu h1 93 28 0) ∧ hu h1 93 28 0 94 (410 + t) = nI N ∧ (∀ u w : Int32, hu (hu (hu h1 93 28 0) 93 29 u) 93 30 w 94 (420 + t) = v) ∧ ar N t v (hu (hu (hu (hu h1 93 28 0) 93 29 (nI N)) 93 30 (nI t)) 93 31 v) ∧ NR (hu (hu (hu (hu h1 93 28 0) 93 29 (nI N)) 93 30 (nI t)) 93 31 v) (0, fun _ => 0) (hu (hu (hu (hu h1 93 28 0) 93 29 (nI N)) 93 30 (nI t)) 93 31 v) := by
      intro h1 pp c
      have e94 : hu h1 93 28 0 94 = b 94 := by rw [hu_r (by omega), c.1 94 (by omega)]
      refine ⟨isStdG n8 (by rw [e94]; exact X.1.2.2.2.1) ht, by rw [e94]; exact d3, fun u w => by rw [hu_ne (by omega), hu_ne (by omega), e94]; exact d4, ⟨?_, ?_, hu_eq⟩, fun _ _ _ => rfl, ?_, fun i hi => absurd hi (Nat.not_lt_zero i)⟩
      · rw [hu_ne (by omega), hu_ne (by omega), hu_eq]
      · rw [hu_ne (by omega), hu_eq]
      · rw [hu_ne (by omega), hu_ne (by omega), hu_ne (by omega), hu_eq]; rfl
    have fin : ∀ (h1 h2 : HT) (pp : Nat × (Nat → Int32)) (w : Int32), pp.1 ≤ 100 → NC b pp h1 → NR (hu (hu (hu (hu h1 93 28 0) 93 29 (nI N)) 93 30 (nI t)) 93 31 v) pp h2 → fX11_act P (nI t) l2 l3 b = some (w, h1) → fX12_act (nI t) l2 l3 h1 = some (w, h2) → Mu P b (fX11_act P (nI t) l2 l3) (fX12_act (nI t) l2 l3) := by
      intro h1 h2 pp w hp c1 c2 e1 e2
      refine ⟨w, h1, h2, e1, e2, K, L, n, X.tr c1 (fun k j a1 a2 => ?_) ?_ c2.2.1 c2.2.2 hp⟩
      · rw [c2.1 k j (by omega), hu_ne (by omega), hu_ne (by omega), hu_ne (by omega), hu_ne (by omega)]
      · rw [c2.1 93 3 (by omega), hu_ne (by omega), hu_ne (by omega), hu_ne (by omega), hu_ne (by omega)]
    cases ho : out l2 2
    · rcases out2 ho with rfl | rfl | rfl
      · obtain ⟨h1, e1, c1⟩ := comesA (t := t) (v := v) (x := l3) nB (Nat.zero_le _) hN
        obtain ⟨a1, a2, a3, a4, a5⟩ := go h1 _ c1
        obtain ⟨h2, e2, c2⟩ := comesB (x := l3) a4 a5 (Nat.zero_le _) hN
        refine fin h1 h2 (cmP N (0, fun _ => 0)) (cmV N t l3) (by have := cmP_le N (0, fun _ => 0); omega) c1 c2 ?_ ?_
        · simp only [fX11_act, hB, sA, d1, onq_s, d2, ob_s, if_true, hr0, e1]
        · simp only [fX12_act, a1, ob_s, if10, inE, ho, Bool.not_false, ifbt, k1, k2, a2, a3, if_true, e2, fX12_act_87]
      · obtain ⟨h1, e1, c1⟩ := daresA (t := t) (v := v) (x := l3) nB (Nat.zero_le _) hN
        obtain ⟨a1, a2, a3, a4, a5⟩ := go h1 _ c1
        obtain ⟨h2, e2, c2⟩ := daresB (x := l3) a4 a5 (Nat.zero_le _) hN
        refine fin h1 h2 (drP N (0, fun _ => 0)) (drV N t v l3) (by have := drP_le N (0, fun _ => 0); omega) c1 c2 ?_ ?_
        · simp only [fX11_act, hB, sA, d1, onq_s, d2, ob_s, if10, if_true, hr0, e1]
        · simp only [fX12_act, a1, ob_s, if10, inE, ho, Bool.not_false, ifbt, k1, k2, a2, a3, if_true, e2, fX12_act_87]
      · obtain ⟨h1, e1, c1⟩ := holdsA (t := t) (v := v) (x := l3) nB (Nat.zero_le _) hN
        obtain ⟨a1, a2, a3, a4, a5⟩ := go h1 _ c1
        obtain ⟨h2, e2, c2⟩ := holdsB (x := l3) a4 a5 (Nat.zero_le _) hN
        have le : (hoP N (0, fun _ => 0)).1 ≤ 100 := by
          unfold hoP phP
          have z1 := drP_le N (nt (nt (0, fun _ => 0) 41) 3)
          have z2 := drP_le N (nt (nt (0, fun _ => 0) 31) 3)
          have z3 := drP_le N (nt (0, fun _ => 0) 3)
          have y1 : (nt (nt ((0, fun _ => 0) : Nat × (Nat → Int32)) 41) 3).1 = 2 := rfl
          have y2 : (nt (nt ((0, fun _ => 0) : Nat × (Nat → Int32)) 31) 3).1 = 2 := rfl
          have y3 : (nt ((0, fun _ => 0) : Nat × (Nat → Int32)) 3).1 = 1 := rfl
          rw [y1] at z1
          rw [y2] at z2
          rw [y3] at z3
          by_cases a : N = 4
          · rw [if_pos a]
            have := cmP_le N (drP N (nt (nt (0, fun _ => 0) 41) 3))
            omega
          · rw [if_neg a]
            by_cases c : 3 ≤ N
            · rw [if_pos c]; omega
            · rw [if_neg c]; omega
        refine fin h1 h2 (hoP N (0, fun _ => 0)) (hoV N t v l3) le c1 c2 ?_ ?_
        · simp only [fX11_act, hB, sA, d1, onq_s, d2, ob_s, if_neg (show ¬ (2 : Int32) = 0 by decide), if_neg (show ¬ (2 : Int32) = 1 by decide), if_true, hr0, e1]
        · simp only [fX12_act, a1, ob_s, if10, inE, ho, Bool.not_false, ifbt, k1, k2, a2, a3, if_neg (show ¬ (2 : Int32) = 0 by decide), if_neg (show ¬ (2 : Int32) = 1 by decide), e2, fX12_act_87]
    · obtain ⟨z0, z1, z2⟩ := in2 ho
      obtain ⟨a1, a2, a3, a4, a5⟩ := go B _ nB
      refine nostd B nB ?_ ?_
      · simp only [fX11_act, hB, sA, d1, onq_s, d2, ob_s, if_neg z0, if_neg z1, if_neg z2]
      · simp only [fX12_act, a1, ob_s, if10, inE, ho, Bool.not_true, ifbf, fX12_act_22]
  · have sA : fX3_standingAt l1 B = some (0, B) := by
      simp only [fX3_standingAt, B13, fX3_standingAt_21, fX3_standingAt_22]
      by_cases c : l1 < 0
      · rw [if_pos c]
      · rw [if_neg c, if_pos (hn.resolve_left c)]
    refine nostd B nB ?_ ?_
    · simp only [fX11_act, hB, sA, ob_s, onq_0]
    · have e2 : hu B 93 28 0 94 2 = nI n := by rw [hu_ne (by omega), Bn 94 (by omega)]; exact X.1.2.2.2.1
      have iS : fX12_isStanding l1 (hu B 93 28 0) = some (0, hu B 93 28 0) := by
        simp only [fX12_isStanding, fX12_in, fX12_in_14, fX12_in_15, e2, cb_0, ob_s]
        by_cases c : l1 < 0
        · simp only [if_pos c, ob_s, cb_0]
        · have n1 : nI n - (1 : Int32) < l1 := (nm1 n8 c).mpr (hn.resolve_left c)
          simp only [if_neg c, if_pos n1, ob_s, cb_0]
      simp only [fX12_act, iS, ob_s, if_true, fX12_act_22]
theorem isOfE : ∀ N m : Nat, N ≤ 6 → m ≤ 6 → fX11_isOf (kcl N, nI t, v) (nI m) h = some (bI (und N m), h) := by
  intro N m hN hm
  rcases n7 hN with rfl | rfl | rfl | rfl | rfl | rfl | rfl <;> rcases n7 hm with rfl | rfl | rfl | rfl | rfl | rfl | rfl <;> rfl
theorem b_as (X : Ix P K L n b) (l1 l2 : Int32) : Bo b (fX11_as P l1 l2) (fX12_as l1 l2) := by
  have hK := X.K7
  rcases isn X.n8 l1 with ⟨t, ht, rfl⟩ | hn
  · obtain ⟨N, q, v, r, d1, d2, d3, d4, hN, hv, hr0, ht8, hc, hr⟩ := X.sd ht
    have k1 : ck 490 ((410 : Int32) + nI t) = some (410 + t) := ckO 410 (by omega)
    have k2 : ck 490 ((420 : Int32) + nI t) = some (420 + t) := ckO 420 (by omega)
    cases ho : out l2 6
    · obtain ⟨m, hm, rfl⟩ := out_n (k := 6) rfl (by omega) ho
      refine ⟨if und N m = true then v else -6, fun g q => ?_, fun g q => ?_⟩
      · simp only [fX11_as, stdAtE X q ht, d1, onq_s, d2, ob_s, outE, ho, ifbf, hr0, isOfE N m hN hm, fX11_as_41]
        cases und N m
        · rw [ifbf, if_neg (by decide)]; exact Rs.ok q
        · rw [ifbt, if_pos rfl]; exact Rs.ok q
      · simp only [fX12_as, isStdE X q ht, ob_s, if10, inE, ho, Bool.not_false, ifbt, k1, k2, X.r94 q, d3, d4, isUnderE N m hN hm, fX12_as_52]
        cases und N m
        · rw [ifbf, if_neg (by decide)]; exact Rs.ok q
        · rw [ifbt, if_pos rfl]; exact Rs.ok q
    · refine ⟨-1, fun g q => ?_, fun g q => ?_⟩
      · simp only [fX11_as, stdAtE X q ht, d1, onq_s, d2, ob_s, outE, ho, ifbt, fX11_as_22]; exact Rs.ok q
      · simp only [fX12_as, isStdE X q ht, ob_s, if10, inE, ho, Bool.not_true, ifbf, fX12_as_18]; exact Rs.ok q
  · refine ⟨-1, fun g q => ?_, fun g q => ?_⟩
    · simp only [fX11_as, stdAtN X q hn, ob_s, onq_0, fX11_as_22]; exact Rs.ok q
    · simp only [fX12_as, isStdN X q hn, ob_s, if_true, fX12_as_18]; exact Rs.ok q
end ac
