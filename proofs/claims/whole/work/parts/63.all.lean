/-! the reference's ways -/
section al
variable {P : PT} {n : Nat} {K : Nat} {L : Wld} {b g h : HT} {w : Nat → Nat} {W Q H : Nat} {r tgt hf : Int32} {kg : Nat}
def PC (b : HT) (W Q H : Nat) (r tgt : Int32) (kg : Nat) (hf : Int32) (g : HT) : Prop := Qw b g ∧ g 93 13 = 2 ∧ g 93 14 = 0 ∧ g 93 19 = nI W ∧ g 93 20 = nI Q ∧ g 93 21 = nI H ∧ g 93 22 = tgt ∧ g 93 23 = nI kg ∧ g 93 24 = hf ∧ g 93 25 = r
def PR (K : Nat) (b : HT) (w : Nat → Nat) (i : Nat) (g : HT) : Prop := ∀ k, k < i → k < K → lv (b 94) k = true → g 99 k = nI (w k)
theorem PC.q (c : PC b W Q H r tgt kg hf g) (q : Qs g h) : PC b W Q H r tgt kg hf h := by
  obtain ⟨c1, c2, c3, c4, c5, c6, c7, c8, c9, c10⟩ := c
  exact ⟨c1.tr q.w, by rw [q.c93 (by omega)]; exact c2, by rw [q.c93 (by omega)]; exact c3, by rw [q.c93 (by omega)]; exact c4, by rw [q.c93 (by omega)]; exact c5, by rw [q.c93 (by omega)]; exact c6, by rw [q.c93 (by omega)]; exact c7, by rw [q.c93 (by omega)]; exact c8, by rw [q.c93 (by omega)]; exact c9, by rw [q.c93 (by omega)]; exact c10⟩
theorem PC.s (c : PC b W Q H r tgt kg hf g) {k : Nat} {v : Int32} : PC b W Q H r tgt kg hf (hu g 99 k v) := by
  obtain ⟨c1, c2, c3, c4, c5, c6, c7, c8, c9, c10⟩ := c
  exact ⟨c1.pu (by unfold scr; omega), by rw [hu_ne (by omega)]; exact c2, by rw [hu_ne (by omega)]; exact c3, by rw [hu_ne (by omega)]; exact c4, by rw [hu_ne (by omega)]; exact c5, by rw [hu_ne (by omega)]; exact c6, by rw [hu_ne (by omega)]; exact c7, by rw [hu_ne (by omega)]; exact c8, by rw [hu_ne (by omega)]; exact c9, by rw [hu_ne (by omega)]; exact c10⟩
theorem PR.q {i : Nat} (p : PR K b w i g) (q : Qs g h) : PR K b w i h := fun k h1 h2 h3 => by rw [q.row (by decide)]; exact p k h1 h2 h3
theorem PC.hr (X : Ix P K L n b) (c : PC b W Q H r tgt kg hf g) : HR 2 0 (g 99) K (b 94) L g := ⟨X.ok, X.r94 c.1, ⟨c.2.1, c.2.2.1, fun _ _ => rfl⟩, by omega⟩
theorem PR.e (p : PR K b w K g) : ∀ k, k < K → lv (b 94) k = true → g 99 k = wb w k := fun k hk hl => p k hk hk hl
theorem fwP (X : Ix P K L n b) (c : PC b W Q H r tgt kg hf g) (p : PR K b w K g) : Rs (fun h => PC b W Q H r tgt kg hf h ∧ PR K b w K h) (fX12_firstWar g) (firstS (dr 2 0 (wb w) K (b 94) L) K) := by
  have h := fwR (c.hr X) Qs.rfl'
  rw [firstC 0 0 p.e] at h
  exact h.mono fun _ q => ⟨c.q q, p.q q⟩
theorem anyP (X : Ix P K L n b) (c : PC b W Q H r tgt kg hf g) (p : PR K b w K g) {k : Nat} (hk : k < K) : Rs (fun h => PC b W Q H r tgt kg hf h ∧ PR K b w K h) (fX12_doesDareAny (nI k) g) (bI (anyB (dr 2 0 (wb w) K (b 94) L k) K)) := by
  have h := doesDareAnyE (c.hr X) Qs.rfl' hk
  rw [anyB_c (fun y hy => drC 0 0 p.e hk hy)] at h
  exact h.mono fun _ q => ⟨c.q q, p.q q⟩
theorem PR.set (p : PR K b w K g) {k v : Nat} : PR K b (pset w k v) K (hu g 99 k (nI v)) := fun j h1 h2 h3 => by
  unfold pset
  by_cases z : j = k
  · subst z; rw [hu_eq, if_pos rfl]
  · rw [hu_ne (by omega), if_neg z]; exact p j h1 h2 h3
/-- one king tries all blocks -/
theorem tryR (X : Ix P K L n b) {k : Nat} (hk : k < K) {M : Nat} (hM : M ≤ 8) (k2 : Int32 → Int32 → HT → Option (Int32 × HT)) : ∀ (m : Nat) {f u : Nat} {g : HT}, u + m = M + 1 → m < f → PC b W Q H r tgt kg hf g → (∃ v, PR K b (pset w k v) K g) → anyB (tmpS K (b 94) L w k) u = false →
    ∃ g', (PC b W Q H r tgt kg hf g' ∧ PR K b w K g') ∧ fX12_wouldHold_33 k2 f (nI M) (nI k) (nI (w k)) 0 (nI u) g = if anyB (tmpS K (b 94) L w k) (M + 1) = true then some (0, g') else k2 (nI M) (nI (k + 1)) g'
  | 0, f, u, g, hu', hn, c, ⟨v, hp⟩, an => by
    have hK := X.K7
    obtain ⟨f, rfl⟩ : ∃ n', f = n' + 1 := ⟨f - 1, by omega⟩
    obtain rfl : u = M + 1 := by omega
    have c7 : ck 7 (nI k) = some k := ckI rfl (by omega)
    have st := hp.set (k := k) (v := w k)
    rw [pset_two, pset_same] at st
    refine ⟨_, ⟨c.s, st⟩, ?_⟩
    rw [an, if_neg (by decide)]
    simp only [fX12_wouldHold_33, if_pos (nI_lt (show M < M + 1 by omega) (by omega)), fX12_wouldHold_65, c7, ob_s, if_true, fX12_wouldHold_79, nI_1]
  | m + 1, f, u, g, hu', hn, c, ⟨v, hp⟩, an => by
    have hK := X.K7
    obtain ⟨f, rfl⟩ : ∃ n', f = n' + 1 := ⟨f - 1, by omega⟩
    have c7 : ck 7 (nI k) = some k := ckI rfl (by omega)
    have n1 : ¬ nI M < nI u := nI_nlt (by omega) (by omega)
    have st := hp.set (k := k) (v := u)
    rw [pset_two] at st
    obtain ⟨g1, e1, c1, p1⟩ := anyP X (PC.s (k := k) (v := nI u) c) st hk
    have eT : anyB (dr 2 0 (wb (pset w k u)) K (b 94) L k) K = tmpS K (b 94) L w k u := rfl
    rw [eT] at e1
    simp only [fX12_wouldHold_33, if_neg n1, if_true, c7, ob_s, e1, nI_1]
    cases t1 : tmpS K (b 94) L w k u
    · exact tryR X hk hM k2 m (by omega) (by omega) c1 ⟨u, p1⟩ (by show (anyB (tmpS K (b 94) L w k) u || tmpS K (b 94) L w k u) = false; rw [an, t1]; rfl)
    · have t : anyB (tmpS K (b 94) L w k) (u + 1) = true := by
        show (anyB (tmpS K (b 94) L w k) u || tmpS K (b 94) L w k u) = true
        rw [t1, Bool.or_true]
      obtain ⟨d, hd⟩ : ∃ d, M + 1 = u + 1 + d := ⟨M - u, by omega⟩
      have t2 : anyB (tmpS K (b 94) L w k) (M + 1) = true := by rw [hd]; exact anyB_up t d
      rw [t2]
      simp only [if_true]
      have st2 := p1.set (k := k) (v := w k)
      rw [pset_two, pset_same] at st2
      refine ⟨_, ⟨c1.s, st2⟩, ?_⟩
      obtain ⟨f, rfl⟩ : ∃ n', f = n' + 1 := ⟨f - 1, by omega⟩
      rw [fX12_wouldHold_33]
      by_cases cc : nI M < nI (u + 1)
      · rw [if_pos cc]
        simp only [fX12_wouldHold_65, c7, ob_s, ifbt]
      · rw [if_neg cc, ifbt]
        simp only [fX12_wouldHold_65, c7, ob_s, ifbt]
theorem holdE (X : Ix P K L n b) {M : Nat} (hM : M ≤ 8) (c : PC b W Q H r tgt kg hf g) (p : PR K b w K g) : Rs (fun h => PC b W Q H r tgt kg hf h ∧ PR K b w K h) (fX12_wouldHold (nI M) g) (bI (holS K (b 94) L (w, M))) := by
  have hK := X.K7
  unfold fX12_wouldHold
  have go : ∀ (m : Nat) {f k : Nat} {g : HT}, k + m = K → m < f → PC b W Q H r tgt kg hf g → PR K b w K g → anyB (fun k => lv (b 94) k && anyB (tmpS K (b 94) L w k) (M + 1)) k = false → Rs (fun h => PC b W Q H r tgt kg hf h ∧ PR K b w K h) (fX12_wouldHold_2 f (nI M) (nI k) g) (bI (holS K (b 94) L (w, M))) := by
    intro m
    induction m with
    | zero =>
      intro f k g hk hn c p an
      obtain ⟨f, rfl⟩ : ∃ n', f = n' + 1 := ⟨f - 1, by omega⟩
      obtain rfl : k = K := by omega
      simp only [fX12_wouldHold_2, X.r94 c.1, if_pos (rxs X.s0)]
      unfold holS
      rw [an]
      exact Rs.ok ⟨c, p⟩
    | succ m ih =>
      intro f k g hk hn c p an
      obtain ⟨f, rfl⟩ : ∃ n', f = n' + 1 := ⟨f - 1, by omega⟩
      have hkK : k < K := by omega
      have c7 : ck 7 (nI k) = some k := ckI rfl (by omega)
      simp only [fX12_wouldHold_2, X.r94 c.1, if_neg (rgs hK X.s0 hkK), isAliveE hK (X.r94 c.1) X.s0 hkK, ob_s, fX12_wouldHold_79, nI_1]
      cases l : lv (b 94) k
      · rw [ifbf]
        exact ih (by omega) (by omega) c p (by
          show (anyB _ k || (lv (b 94) k && _)) = false
          rw [an, l]; rfl)
      · have k99 := p k hkK hkK l
        obtain ⟨g1, ⟨c1, p1⟩, e2⟩ := tryR (w := w) X hkK hM (fX12_wouldHold_2 f) (M + 1) (f := 1000) (u := 0) (g := g) (by omega) (by omega) c ⟨w k, by rw [pset_same]; exact p⟩ rfl
        have e2' : fX12_wouldHold_33 (fX12_wouldHold_2 f) 1000 (nI M) (nI k) (nI (w k)) 0 0 g = _ := e2
        simp only [ifbt, c7, ob_s, k99, e2']
        cases t : anyB (tmpS K (b 94) L w k) (M + 1)
        · rw [if_neg (by decide)]
          exact ih (by omega) (by omega) c1 p1 (by
            show (anyB _ k || (lv (b 94) k && _)) = false
            rw [an, l, t]; rfl)
        · rw [if_pos rfl]
          have t1 : anyB (fun k => lv (b 94) k && anyB (tmpS K (b 94) L w k) (M + 1)) (k + 1) = true := by
            show (anyB _ k || (lv (b 94) k && _)) = true
            rw [l, t]; simp
          obtain ⟨d, hd⟩ : ∃ d, K = k + 1 + d := ⟨K - (k + 1), by omega⟩
          have t2 : holS K (b 94) L (w, M) = false := by
            unfold holS
            have t3 := anyB_up t1 d
            rw [← hd] at t3
            show (!anyB (fun k => lv (b 94) k && anyB (tmpS K (b 94) L w k) (M + 1)) K) = false
            rw [t3]; rfl
          rw [t2]
          exact Rs.ok ⟨c1, p1⟩
  exact go K (f := 1000) (k := 0) (by omega) (by omega) c p rfl
/-- what the counts become over a list of ways -/
def tall : Type := Nat × Nat × Nat × Int32
def tal (K : Nat) (s : RT) (L : Wld) (tgt hf : Int32) (kg : Nat) : List Way → Nat × Nat × Nat × Int32 → Nat × Nat × Nat × Int32
  | [], t => t
  | x :: l, (W, Q, H, r) => tal K s L tgt hf kg l (if quiS K s L x.1 = true then (W + 1, Q + 1, (if holS K s L x = true then H + 1 else H), (if (nI (if hf = 0 then Q else H) = tgt ∧ (hf = 0 ∨ holS K s L x = true)) then nI (x.1 kg) else r)) else (W + 1, Q, H, r))
theorem tal_app (K : Nat) (s : RT) (L : Wld) (tgt hf : Int32) (kg : Nat) : ∀ (l1 l2 : List Way) (t : Nat × Nat × Nat × Int32), tal K s L tgt hf kg (l1 ++ l2) t = tal K s L tgt hf kg l2 (tal K s L tgt hf kg l1 t)
  | [], _, _ => rfl
  | x :: l1, l2, (W, Q, H, r) => tal_app K s L tgt hf kg l1 l2 _
def PT4 (b : HT) (t : Nat × Nat × Nat × Int32) (tgt : Int32) (kg : Nat) (hf : Int32) (g : HT) : Prop := PC b t.1 t.2.1 t.2.2.1 t.2.2.2 tgt kg hf g
theorem leafE (X : Ix P K L n b) (rec : Int32 → Int32 → HT → Option (Int32 × HT)) {t : Nat × Nat × Nat × Int32} (hkg : kg < 7) (hlk : (kg < K ∧ lv (b 94) kg = true) ∨ tgt = -1) (hQ : t.2.1 ≤ 500 ∧ t.2.2.1 ≤ 500) {M : Nat} (hM : M ≤ 8) (c : PT4 b t tgt kg hf g) (p : PR K b w K g) : Rs (fun h => PT4 b (tal K (b 94) L tgt hf kg [(w, M)] t) tgt kg hf h ∧ PR K b w K h) (fX12_partsb rec (nI K) (nI M) g) 0 := by
  have hK := X.K7
  obtain ⟨W, Q, H, r⟩ := t
  have c : PC b W Q H r tgt kg hf g := c
  have e0 : g 94 0 = nI K := X.e0 c.1
  have c' : PC b (W + 1) Q H r tgt kg hf (hu g 93 19 (nI (W + 1))) := by
    obtain ⟨c1, c2, c3, c4, c5, c6, c7, c8, c9, c10⟩ := c
    exact ⟨c1.pu (by unfold scr; omega), by rw [hu_ne (by omega)]; exact c2, by rw [hu_ne (by omega)]; exact c3, hu_eq, by rw [hu_ne (by omega)]; exact c5, by rw [hu_ne (by omega)]; exact c6, by rw [hu_ne (by omega)]; exact c7, by rw [hu_ne (by omega)]; exact c8, by rw [hu_ne (by omega)]; exact c9, by rw [hu_ne (by omega)]; exact c10⟩
  have p' : PR K b w K (hu g 93 19 (nI (W + 1))) := fun k h1 h2 h3 => by rw [hu_ne (by omega)]; exact p k h1 h2 h3
  obtain ⟨g1, e1, c1, p1⟩ := fwP X c' p'
  simp only [fX12_partsb, e0, if_true, c.2.2.2.1, nI_1, e1, ob_s]
  have eT : tal K (b 94) L tgt hf kg [(w, M)] (W, Q, H, r) = if quiS K (b 94) L w = true then (W + 1, Q + 1, (if holS K (b 94) L (w, M) = true then H + 1 else H), (if (nI (if hf = 0 then Q else H) = tgt ∧ (hf = 0 ∨ holS K (b 94) L (w, M) = true)) then nI (w kg) else r)) else (W + 1, Q, H, r) := rfl
  rw [eT]
  have eq : quiS K (b 94) L w = decide (firstS (dr 2 0 (wb w) K (b 94) L) K = -5) := rfl
  by_cases z : firstS (dr 2 0 (wb w) K (b 94) L) K = -5
  · rw [if_pos z, eq, decide_eq_true z, if_pos rfl]
    obtain ⟨g2, e2, c2, p2⟩ := holdE X hM c1 p1
    simp only [e2, ob_s]
    generalize hh : holS K (b 94) L (w, M) = hs at *
    have last : ∀ (x : Int32), x = (if (nI (if hf = 0 then Q else H) = tgt ∧ (hf = 0 ∨ hs = true)) then nI (w kg) else r) → Rs (fun h => PT4 b (W + 1, Q + 1, (if hs = true then H + 1 else H), (if (nI (if hf = 0 then Q else H) = tgt ∧ (hf = 0 ∨ hs = true)) then nI (w kg) else r)) tgt kg hf h ∧ PR K b w K h) (fX12_partsb_92 rec (bI hs) x g2) 0 := by
      intro x hx
      obtain ⟨d1, d2, d3, d4, d5, d6, d7, d8, d9, d10⟩ := c2
      have v20 : hu g2 93 25 x 93 20 = nI Q := by rw [hu_ne (by omega)]; exact d5
      have v21 : ∀ u : Int32, hu (hu g2 93 25 x) 93 20 u 93 21 = nI H := fun u => by rw [hu_ne (by omega), hu_ne (by omega)]; exact d6
      simp only [fX12_partsb_92, v20, v21, fX12_partsb_119, fX12_partsb_123, nI_1, Int32.add_zero]
      have fin : ∀ y, y = nI (if hs = true then H + 1 else H) → PT4 b (W + 1, Q + 1, (if hs = true then H + 1 else H), (if (nI (if hf = 0 then Q else H) = tgt ∧ (hf = 0 ∨ hs = true)) then nI (w kg) else r)) tgt kg hf (hu (hu (hu g2 93 25 x) 93 20 (nI (Q + 1))) 93 21 y) ∧ PR K b w K (hu (hu (hu g2 93 25 x) 93 20 (nI (Q + 1))) 93 21 y) := by
        intro y hy
        refine ⟨⟨((d1.pu (by unfold scr; omega)).pu (by unfold scr; omega)).pu (by unfold scr; omega), ?_, ?_, ?_, ?_, ?_, ?_, ?_, ?_, ?_⟩, fun k h1 h2 h3 => ?_⟩
        · rw [hu_ne (by omega), hu_ne (by omega), hu_ne (by omega)]; exact d2
        · rw [hu_ne (by omega), hu_ne (by omega), hu_ne (by omega)]; exact d3
        · rw [hu_ne (by omega), hu_ne (by omega), hu_ne (by omega)]; exact d4
        · rw [hu_ne (by omega), hu_eq]
        · rw [hu_eq]; exact hy
        · rw [hu_ne (by omega), hu_ne (by omega), hu_ne (by omega)]; exact d7
        · rw [hu_ne (by omega), hu_ne (by omega), hu_ne (by omega)]; exact d8
        · rw [hu_ne (by omega), hu_ne (by omega), hu_ne (by omega)]; exact d9
        · rw [hu_ne (by omega), hu_ne (by omega), hu_eq]; exact hx
        · rw [hu_ne (by omega), hu_ne (by omega), hu_ne (by omega)]; exact p2 k h1 h2 h3
      cases hs
      · rw [ifbf]; exact Rs.ok (fin _ (by simp))
      · rw [ifbt]; exact Rs.ok (fin _ (by simp))
    have g2h : g2 93 24 = hf := c2.2.2.2.2.2.2.2.2.1
    have g2r : g2 93 25 = r := c2.2.2.2.2.2.2.2.2.2
    have g2t : g2 93 22 = tgt := c2.2.2.2.2.2.2.1
    have g2q : g2 93 20 = nI Q := c2.2.2.2.2.1
    have g2s : g2 93 21 = nI H := c2.2.2.2.2.2.1
    have g2k : g2 93 23 = nI kg := c2.2.2.2.2.2.2.2.1
    have ckk : ck 7 (nI kg) = some kg := ckI rfl (by omega)
    have rec1 : nI (if hf = 0 then Q else H) = tgt → g2 99 kg = nI (w kg) := by
      intro e
      rcases hlk with l | l
      · exact p2 kg l.1 l.1 l.2
      · exfalso
        rw [l] at e
        have hQ1 : Q ≤ 500 := hQ.1
        have hQ2 : H ≤ 500 := hQ.2
        have z0 := nI_pos (n := if hf = 0 then Q else H) (by split <;> omega)
        rw [e] at z0
        exact z0 (by decide)
    have cq : hf = 0 → nI (if hf = 0 then Q else H) = nI Q := fun y => by rw [if_pos y]
    have ch : ¬ hf = 0 → nI (if hf = 0 then Q else H) = nI H := fun y => by rw [if_neg y]
    generalize nI (if hf = 0 then Q else H) = CN at *
    have mid : Rs (fun h => PT4 b (W + 1, Q + 1, (if hs = true then H + 1 else H), (if (CN = tgt ∧ (hf = 0 ∨ hs = true)) then nI (w kg) else r)) tgt kg hf h ∧ PR K b w K h) (fX12_partsb_53 rec (bI hs) (CN) g2) 0 := by
      simp only [fX12_partsb_53, g2t, g2h, fX12_partsb_76, fX12_partsb_88, g2k, ckk, ob_s, g2r]
      by_cases y : CN = tgt
      · rw [if_pos y, rec1 y]
        cases hs
        · rw [ifbf]
          by_cases y2 : hf = 0
          · rw [if_pos y2]; exact last _ (by rw [if_pos ⟨y, Or.inl y2⟩])
          · rw [if_neg y2]; exact last _ (by rw [if_neg (fun q => by rcases q.2 with q | q; exact y2 q; cases q)])
        · rw [ifbt]; exact last _ (by rw [if_pos ⟨y, Or.inr rfl⟩])
      · rw [if_neg y]; exact last _ (by rw [if_neg (fun q => y q.1)])
    rw [g2h]
    by_cases y2 : hf = 0
    · rw [if_pos y2, g2q, ← cq y2]
      exact mid
    · rw [if_neg y2, g2s, ← ch y2]
      exact mid
  · rw [if_neg z, eq, decide_eq_false z, if_neg (by decide)]
    unfold fX12_partsb_123
    exact Rs.ok ⟨c1, p1⟩
end al
