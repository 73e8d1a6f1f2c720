section nx
variable {P : PT} {n : Nat} {N : Nat} {v : Int32} {blk : Nat → Int32} {K : Nat} {s s' : RT} {L : Wld} {r : SR} {b h : HT} {x y : Nat}
theorem warEnd {h1 g1 h2 : HT} (X : Ix P K L n b) (e : ∀ i, ¬ chg i → s' i = b 94 i) (hc1 : HC N v blk K s' L r h1) (fd : FD K b h1) (h14 : h1 1 4 = s' 4) (tk : ∀ k j, ¬ (k = 99 ∨ (k = 93 ∧ (j = 13 ∨ j = 14))) → g1 k j = h1 k j) (hr2 : HR N v blk K s' L h2) (d2 : D1 94 g1 h2) : Ix P K L n h2 := by
  have w2 : ∀ k j, ¬ scr k j → k ≠ 94 → h2 k j = h1 k j := fun k j n n94 => by
    rw [d2 k j (by unfold scr at n; omega) n94, tk k j (by unfold scr at n; omega)]
  have w1 : ∀ j, h2 1 j = h1 1 j := fun j => w2 1 j (by unfold scr; omega) (by omega)
  refine X.upd (s' := s') (fun k j n n1 n2 n4 n94 => by rw [w2 k j n n94]; exact fd.1 k j (by unfold scr at n; omega) n1 n2 n4) (by rw [w1]; exact fd.2.1) (by rw [w1]; exact fd.2.2.1) (by rw [w1]; exact fd.2.2.2.1) (by rw [w1]; exact h14) hr2.2.1 e hr2.1 (by rw [w1]; exact hc1.2.1.alive) ?_ ?_
  · intro k hk
    rw [w2 2 k (by unfold scr; omega) (by omega), w2 4 k (by unfold scr; omega) (by omega)]
    exact ⟨hc1.2.1.str hk, hc1.2.1.own hk⟩
  · intro k hk1 hk2
    rw [w2 4 k (by unfold scr; omega) (by omega)]
    exact fd.2.2.2.2 k hk1 hk2
theorem FD.tr {a c g : HT} (p : FD K a c) (q : FD K c g) : FD K a g := ⟨p.1.tr q.1, q.2.1.trans p.2.1, q.2.2.1.trans p.2.2.1, q.2.2.2.1.trans p.2.2.2.1, fun k h1 h2 => (q.2.2.2.2 k h1 h2).trans (p.2.2.2.2 k h1 h2)⟩
theorem Qs.fd {a c : HT} (q : Qs a c) : FD K a c := ⟨q.q3, by rw [q.row (by decide)], by rw [q.row (by decide)], by rw [q.row (by decide)], fun k _ _ => by rw [q.row (by decide)]⟩
theorem m_lead (X : Ix P K L n b) (l1 l2 l3 : Int32) : Mu P b (fX11_lead P l1 l2 l3) (fX12_lead l1 l2 l3) := by
  have hK := X.K7
  rcases isn X.n8 l1 with ⟨t, ht, rfl⟩ | hn
  · obtain ⟨N, p, v, r, d1, d2, d3, d4, hN, hv, hr0, ht8, hc, hr⟩ := X.sd ht
    generalize hblk : (fun k => b 94 (430 + 7 * t + k)) = blk at *
    rcases isk K hK l2 with ⟨a, ha, rfl⟩ | hn2
    · rcases isk K hK l3 with ⟨c, hcK, rfl⟩ | hn3
      · by_cases e : a = c
        · refine Bo.mu X ⟨-2, fun g q => ?_, fun g q => ?_⟩
          · simp only [fX11_lead, stdAtE X q ht, d1, onq_s, d2, ob_s, prE X q ha hcK]
            unfold prv
            rw [if_pos e, if_neg (by decide)]
            exact Rs.ok q
          · simp only [fX12_lead, isStdE X q ht, isKingE hK (X.e0 q) ha, isKingE hK (X.e0 q) hcK, ob_s, if10, nIx (show a < 7 by omega) (show c < 7 by omega), if_pos e]
            exact Rs.ok q
        · by_cases hl : (lv (b 94) a && lv (b 94) c) = true
          · obtain ⟨la, lc⟩ : lv (b 94) a = true ∧ lv (b 94) c = true := by rw [Bool.and_eq_true] at hl; exact hl
            obtain ⟨h1, e1, c1, fd, h14⟩ := fightE (hc b Qw.rfl') X.1.2.2.2.2.2.2.1 ha hcK e la lc
            have x1r : h1 94 = b 94 := funext fun j => fd.1 94 j (by omega) (by omega) (by omega) (by omega)
            obtain ⟨g1, e2, tk, r1⟩ := takesG (P := P) X.ok ht8 hN d3 d4 hblk x1r
            obtain ⟨h2, e3, c2, dd2⟩ := leadsE r1 ha hcK e la lc
            refine ⟨bI (won N v blk K (b 94) L a c), h1, h2, ?_, ?_, K, L, n, warEnd X (fun i hi => fiW_n hK (by omega) (by omega) hi) c1 fd h14 tk c2 dd2⟩
            · simp only [fX11_lead, stdAtE X Qw.rfl' ht, d1, onq_s, d2, ob_s, prE X Qw.rfl' ha hcK]
              unfold prv
              rw [if_neg e, if_pos hl, if_pos rfl]
              simp only [e1, ob_s, fX11_lead_52]
              cases won N v blk K (b 94) L a c
              · rw [ifbf]; rfl
              · rw [ifbt]; rfl
            · have s2 : h1 94 2 = nI n := by rw [x1r]; exact X.1.2.2.2.1
              have e0 : h1 94 0 = nI K := by rw [x1r]; exact X.s0
              simp only [fX12_lead, isStdG X.n8 s2 ht, isKingE hK e0 ha, isKingE hK e0 hcK, ob_s, if10, nIx (show a < 7 by omega) (show c < 7 by omega), if_neg e, isAliveE hK x1r X.s0 ha, isAliveE hK x1r X.s0 hcK, la, lc, ifbt, e2, e3]
          · refine Bo.mu X ⟨-3, fun g q => ?_, fun g q => ?_⟩
            · simp only [fX11_lead, stdAtE X q ht, d1, onq_s, d2, ob_s, prE X q ha hcK]
              unfold prv
              rw [if_neg e, if_neg hl, if_neg (by decide)]
              exact Rs.ok q
            · simp only [fX12_lead, isStdE X q ht, isKingE hK (X.e0 q) ha, isKingE hK (X.e0 q) hcK, ob_s, if10, nIx (show a < 7 by omega) (show c < 7 by omega), if_neg e, isAliveE hK (X.r94 q) X.s0 ha, isAliveE hK (X.r94 q) X.s0 hcK, fX12_lead_50]
              cases la : lv (b 94) a
              · rw [ifbf]; exact Rs.ok q
              · cases lc : lv (b 94) c
                · rw [ifbt, ifbf]; exact Rs.ok q
                · rw [la, lc] at hl; exact absurd rfl hl
      · refine Bo.mu X ⟨-1, fun g q => ?_, fun g q => ?_⟩
        · simp only [fX11_lead, stdAtE X q ht, d1, onq_s, d2, ob_s, prN2 X q ha hn3]
          exact Rs.ok q
        · simp only [fX12_lead, isStdE X q ht, isKingE hK (X.e0 q) ha, isKingN hK (X.e0 q) hn3, ob_s, if10, if_true, fX12_lead_24]
          exact Rs.ok q
    · refine Bo.mu X ⟨-1, fun g q => ?_, fun g q => ?_⟩
      · simp only [fX11_lead, stdAtE X q ht, d1, onq_s, d2, ob_s, prN1 X q hn2]
        exact Rs.ok q
      · simp only [fX12_lead, isStdE X q ht, isKingN hK (X.e0 q) hn2, ob_s, if10, if_true, fX12_lead_24]
        exact Rs.ok q
  · refine Bo.mu X ⟨-1, fun g q => ?_, fun g q => ?_⟩
    · simp only [fX11_lead, stdAtN X q hn, ob_s, onq_0]; exact Rs.ok q
    · simp only [fX12_lead, isStdN X q hn, ob_s, if_true, fX12_lead_24]; exact Rs.ok q
theorem fw2_t {p : Nat → Bool} : ∀ (m : Nat) {j k : Nat}, fw2 p m j = some k → p k = true
  | 0, j, k, h => by rw [fw2] at h; cases h
  | m + 1, j, k, h => by
    rw [fw2] at h
    by_cases e : p j = true
    · rw [if_pos e] at h; have := Option.some.inj h; rw [← this]; exact e
    · rw [if_neg e] at h; exact fw2_t m h
theorem fw1_t {d : Nat → Nat → Bool} {K : Nat} : ∀ (m : Nat) {i a c : Nat}, fw1 d K m i = some (a, c) → d a c = true
  | 0, i, a, c, h => by rw [fw1] at h; cases h
  | m + 1, i, a, c, h => by
    rw [fw1] at h
    cases e : fw2 (d i) K 0 with
    | some j =>
      rw [e] at h
      have h := Option.some.inj h
      obtain ⟨rfl, rfl⟩ := Prod.mk.inj h
      exact fw2_t _ e
    | none =>
      rw [e] at h
      exact fw1_t m h
theorem dr_l (h : dr N v blk K s L x y = true) : x ≠ y ∧ lv s x = true ∧ lv s y = true := by
  unfold dr at h
  rw [Bool.and_eq_true, Bool.and_eq_true, Bool.and_eq_true] at h
  refine ⟨fun e => ?_, h.1.1.2, h.1.2⟩
  rw [decide_eq_true e] at h
  exact absurd h.1.1.1 (by decide)
def nextS (N : Nat) (v : Int32) (blk : Nat → Int32) (K : Nat) (L : Wld) : Nat → RT → Nat → RT × Nat
  | 0, s, i => (s, i)
  | m + 1, s, i => match fw1 (dr N v blk K s L) K K 0 with
    | none => (s, i)
    | some (x, y) => nextS N v blk K L m (fiW N v blk K s L x y) (i + 1)
theorem dm10 (a c : Nat) (ha : a < 7) (hc : c < 7) : nI (10 * a + c) / (10 : Int32) = nI a ∧ nI (10 * a + c) - nI (10 * a + c) / (10 : Int32) * (10 : Int32) = nI c := by
  have e := nI_div (a := 10 * a + c) (b := 10) (by omega) (by omega)
  rw [show (10 * a + c) / 10 = a by omega] at e
  have e' : nI (10 * a + c) / (10 : Int32) = nI a := e
  refine ⟨e', ?_⟩
  have e2 : nI a * (10 : Int32) = nI (a * 10) := nI_mul a 10
  rw [e', e2, nI_sub (by omega), show 10 * a + c - a * 10 = c by omega]
theorem nextC : ∀ (m : Nat) {s : RT} {n i : Nat} {b : HT}, i + m = 20 → m < n → HC N v blk K s L r b → b 1 4 = s 4 → Rs (fun h => HC N v blk K (nextS N v blk K L m s i).1 L r h ∧ FD K b h ∧ h 1 4 = (nextS N v blk K L m s i).1 4) (fX11_next_17 P n r (nI i) b) (nI (nextS N v blk K L m s i).2)
  | 0, s, n, i, b, hi, hn, hc, h4 => by
    obtain ⟨n, rfl⟩ : ∃ n', n = n' + 1 := ⟨n - 1, by omega⟩
    obtain rfl : i = 20 := by omega
    simp only [fX11_next_17, if_pos (show (20 : Int32) ≤ nI 20 from Int32.le_refl _)]
    exact Rs.ok ⟨hc, Qs.fd Qs.rfl', h4⟩
  | m + 1, s, n, i, b, hi, hn, hc, h4 => by
    have hK := hc.K7
    obtain ⟨n, rfl⟩ : ∃ n', n = n' + 1 := ⟨n - 1, by omega⟩
    have n20 : ¬ (20 : Int32) ≤ nI i := nI_ge (a := i) (b := 20) (by omega) (by omega)
    obtain ⟨h1, e1, q1⟩ := fwC hc Qs.rfl'
    have f := first_neg (d := dr N v blk K s L) hK
    simp only [fX11_next_17, if_neg n20, e1, ob_s, nextS]
    cases c : fw1 (dr N v blk K s L) K K 0 with
    | none =>
      have e5 : firstS (dr N v blk K s L) K = -5 := by unfold firstS; rw [c]; rfl
      rw [e5, if_neg (by decide)]
      exact Rs.ok ⟨hc.q q1, q1.fd, by rw [q1.row (by decide)]; exact h4⟩
    | some p =>
      obtain ⟨x, y⟩ := p
      have n5 : firstS (dr N v blk K s L) K ≠ -5 := by
        intro e5
        unfold firstS at e5
        rw [c] at e5
        have z := (fw1_lt K c)
        have e2 : (10 : Int32) * nI x = nI (10 * x) := nI_mul 10 x
        have e6 : nI (10 * x + y) = -5 := by rw [← nI_add, ← e2]; exact e5
        have z2 := nI_pos (n := 10 * x + y) (by omega)
        rw [e6] at z2
        exact z2 (by decide)
      obtain ⟨x', y', e7, hx, hy, e8⟩ := f.2 n5
      rw [c] at e7
      obtain ⟨rfl, rfl⟩ := Prod.mk.inj (Option.some.inj e7)
      obtain ⟨d1, d2⟩ := dm10 x y (by omega) (by omega)
      obtain ⟨w1, w2, w3⟩ := dr_l (fw1_t K c)
      rw [e8, d2, d1, if_pos (nI_pos' (by omega))]
      obtain ⟨h2, e9, j2⟩ := fightE (hc.q q1) (by rw [q1.row (by decide)]; exact h4) hx hy w1 w2 w3
      simp only [e9, ob_s, nI_1]
      exact (nextC m (by omega) (by omega) j2.1 j2.2.2).mono fun h3 j3 => ⟨j3.1, (q1.fd.tr j2.2.1).tr j3.2.1, j3.2.2⟩
theorem nextR : ∀ (m : Nat) {s : RT} {n i : Nat} {b : HT}, i + m = 20 → m < n → HR N v blk K s L b → Rs (fun h => HR N v blk K (nextS N v blk K L m s i).1 L h ∧ D1 94 b h) (fX12_next_17 n (nI i) b) (nI (nextS N v blk K L m s i).2)
  | 0, s, n, i, b, hi, hn, hr => by
    obtain ⟨n, rfl⟩ : ∃ n', n = n' + 1 := ⟨n - 1, by omega⟩
    obtain rfl : i = 20 := by omega
    simp only [fX12_next_17, if_pos (show (20 : Int32) ≤ nI 20 from Int32.le_refl _)]
    exact Rs.ok ⟨hr, D1.rfl'⟩
  | m + 1, s, n, i, b, hi, hn, hr => by
    have hK := hr.K7
    obtain ⟨n, rfl⟩ : ∃ n', n = n' + 1 := ⟨n - 1, by omega⟩
    have n20 : ¬ (20 : Int32) ≤ nI i := nI_ge (a := i) (b := 20) (by omega) (by omega)
    obtain ⟨h1, e1, q1⟩ := fwR hr Qs.rfl'
    have f := first_neg (d := dr N v blk K s L) hK
    simp only [fX12_next_17, if_neg n20, e1, ob_s, nextS]
    cases c : fw1 (dr N v blk K s L) K K 0 with
    | none =>
      have e5 : firstS (dr N v blk K s L) K = -5 := by unfold firstS; rw [c]; rfl
      rw [if_pos e5]
      exact Rs.ok ⟨hr.q q1, D1.rfl'.q q1⟩
    | some p =>
      obtain ⟨x, y⟩ := p
      have n5 : firstS (dr N v blk K s L) K ≠ -5 := by
        intro e5
        unfold firstS at e5
        rw [c] at e5
        have z := (fw1_lt K c)
        have e2 : (10 : Int32) * nI x = nI (10 * x) := nI_mul 10 x
        have e6 : nI (10 * x + y) = -5 := by rw [← nI_add, ← e2]; exact e5
        have z2 := nI_pos (n := 10 * x + y) (by omega)
        rw [e6] at z2
        exact z2 (by decide)
      obtain ⟨x', y', e7, hx, hy, e8⟩ := f.2 n5
      rw [c] at e7
      obtain ⟨rfl, rfl⟩ := Prod.mk.inj (Option.some.inj e7)
      obtain ⟨d1, d2⟩ := dm10 x y (by omega) (by omega)
      obtain ⟨w1, w2, w3⟩ := dr_l (fw1_t K c)
      rw [if_neg n5, e8, d2, d1]
      obtain ⟨h2, e9, j2⟩ := leadsE (hr.q q1) hx hy w1 w2 w3
      simp only [e9, ob_s, nI_1]
      exact (nextR m (by omega) (by omega) j2.1).mono fun h3 j3 => ⟨j3.1, ((D1.rfl'.q q1).tr j2.2).tr j3.2⟩
theorem nextS_n (hK : K ≤ 7) : ∀ (m : Nat) {s : RT} {i j : Nat}, ¬ chg j → (nextS N v blk K L m s i).1 j = s j
  | 0, _, _, _, _ => rfl
  | m + 1, s, i, j, h => by
    rw [nextS]
    cases c : fw1 (dr N v blk K s L) K K 0 with
    | none => rfl
    | some p =>
      obtain ⟨x, y⟩ := p
      have z := fw1_lt K c
      show (nextS N v blk K L m (fiW N v blk K s L x y) (i + 1)).1 j = s j
      rw [nextS_n hK m h, fiW_n hK (by omega) (by omega) h]
theorem m_next (X : Ix P K L n b) (l1 : Int32) : Mu P b (fX11_next P l1) (fX12_next l1) := by
  have hK := X.K7
  rcases isn X.n8 l1 with ⟨t, ht, rfl⟩ | hn
  · obtain ⟨N, p, v, r, d1, d2, d3, d4, hN, hv, hr0, ht8, hc, hr⟩ := X.sd ht
    generalize hblk : (fun k => b 94 (430 + 7 * t + k)) = blk at *
    obtain ⟨h1, e1, c1, fd, h14⟩ := nextC (P := P) 20 (n := 1000) (i := 0) (by omega) (by omega) (hc b Qw.rfl') X.1.2.2.2.2.2.2.1
    have x1r : h1 94 = b 94 := funext fun j => fd.1 94 j (by omega) (by omega) (by omega) (by omega)
    obtain ⟨g1, e2, tk, r1⟩ := takesG (P := P) X.ok ht8 hN d3 d4 hblk x1r
    obtain ⟨h2, e3, c2, dd2⟩ := nextR 20 (n := 1000) (i := 0) (by omega) (by omega) r1
    refine ⟨_, h1, h2, by simp only [fX11_next, stdAtE X Qw.rfl' ht, d1, onq_s, d2, ob_s]; exact e1, ?_, K, L, n, warEnd X (fun i hi => nextS_n hK 20 hi) c1 fd h14 tk c2 dd2⟩
    have s2 : h1 94 2 = nI n := by rw [x1r]; exact X.1.2.2.2.1
    simp only [fX12_next, isStdG X.n8 s2 ht, ob_s, if10, e2]
    exact e3
  · refine Bo.mu X ⟨-1, fun g q => ?_, fun g q => ?_⟩
    · simp only [fX11_next, stdAtN X q hn, ob_s, onq_0]; exact Rs.ok q
    · simp only [fX12_next, isStdN X q hn, ob_s, if_true]; exact Rs.ok q
end nx
