/-! strengths, lives and owners that change -/
def ups (s : RT) (i : Nat) (w : Int32) : RT := fun j => if j = i then w else s j
theorem ups_eq {s : RT} {i : Nat} {w : Int32} : ups s i w i = w := if_pos rfl
theorem ups_ne {s : RT} {i j : Nat} {w : Int32} (h : j ≠ i) : ups s i w j = s j := if_neg h
theorem hu_rw {h : HT} {k j : Nat} {w : Int32} : hu h k j w k = ups (h k) j w := by
  funext i
  unfold hu ups
  by_cases e : i = j
  · subst e; simp
  · simp [e]
/-- places of the row that a war may change -/
def chg (i : Nat) : Prop := i = 4 ∨ (270 ≤ i ∧ i < 280) ∨ (290 ≤ i ∧ i < 310)
theorem OKs.ch {K : Nat} {s s' : RT} {L : Wld} (ok : OKs K s L) (e : ∀ i, ¬ chg i → s' i = s i) (k7 : ∀ k, k < 7 → bd (s' (270 + k)) 99 ∧ (s' (290 + k) = 0 ∨ s' (290 + k) = 1) ∧ (s' (290 + k) ≠ 0 → s' (270 + k) = 0)) : OKs K s' L := by
  obtain ⟨K7, s0, w, b6, b7, b8, sk, sw, s5, sL⟩ := ok
  have hw := w.2.1
  have hl := w.1
  refine ⟨K7, by rw [e 0 (by unfold chg; omega)]; exact s0, w, by rw [e 6 (by unfold chg; omega)]; exact b6, by rw [e 7 (by unfold chg; omega)]; exact b7, by rw [e 8 (by unfold chg; omega)]; exact b8, ?_, ?_, by rw [e 5 (by unfold chg; omega)]; exact s5, ?_⟩
  · intro k hk
    exact ⟨(k7 k hk).1, by rw [e _ (by unfold chg; omega)]; exact (sk k hk).2.1, (k7 k hk).2.1, (k7 k hk).2.2⟩
  · intro k o hk ho
    rw [e (310 + 7 * k + o) (by unfold chg; omega), e (360 + 7 * k + o) (by unfold chg; omega)]
    exact sw k o hk ho
  · intro c hc
    have h1 : ln L (c + 1) ≤ ln L L.length := ln_le L (by omega)
    have h2 : ln L (c + 1) = ln L c + (cl L c).2.length := rfl
    refine ⟨by rw [e _ (by unfold chg; omega)]; exact (sL c hc).1, fun i hi => by rw [e _ (by unfold chg; omega)]; exact (sL c hc).2 i hi⟩
theorem OKs.k7 {K : Nat} {s : RT} {L : Wld} (ok : OKs K s L) : ∀ k, k < 7 → bd (s (270 + k)) 99 ∧ (s (290 + k) = 0 ∨ s (290 + k) = 1) ∧ (s (290 + k) ≠ 0 → s (270 + k) = 0) := fun k hk => by
  have := ok.2.2.2.2.2.2.1 k hk
  exact ⟨this.1, this.2.2.1, this.2.2.2⟩
theorem lv_0 {s : RT} {k : Nat} (h : lv s k = true) : s (290 + k) = 0 := of_decide_eq_true h
theorem OKs.str {K : Nat} {s : RT} {L : Wld} (ok : OKs K s L) {k : Nat} (hl : lv s k = true) {w : Int32} (hw : bd w 99) (hk : k < 7) : OKs K (ups s (270 + k) w) L := by
  refine ok.ch (fun i hi => ups_ne (by unfold chg at hi; omega)) fun j hj => ?_
  rw [ups_ne (show 290 + j ≠ 270 + k by omega)]
  have a := ok.k7 j hj
  by_cases e : j = k
  · subst e
    rw [ups_eq]
    exact ⟨hw, a.2.1, fun n => absurd (lv_0 hl) n⟩
  · rw [ups_ne (by omega)]; exact a
theorem lv_str {s : RT} {k : Nat} (hk : k < 7) {w : Int32} : ∀ j, j < 7 → lv (ups s (270 + k) w) j = lv s j := fun j hj => by
  unfold lv; rw [ups_ne (by omega)]
/-- alike but for the scratch and what a war may change -/
def Q3 (b h : HT) : Prop := ∀ k j, ¬ (k = 29 ∨ k = 98 ∨ (k = 93 ∧ 15 ≤ j ∧ j ≤ 18)) → k ≠ 1 → k ≠ 2 → k ≠ 4 → h k j = b k j
theorem Q3.row {b h : HT} {k : Nat} (q : Q3 b h) (hk : k ≠ 29 ∧ k ≠ 98 ∧ k ≠ 93 ∧ k ≠ 1 ∧ k ≠ 2 ∧ k ≠ 4) : h k = b k := funext fun j => q k j (by omega) (by omega) (by omega) (by omega)
theorem HC.up {N : Nat} {v : Int32} {blk : Nat → Int32} {K : Nat} {s s' : RT} {L : Wld} {r : SR} {b h : HT} (hc : HC N v blk K s L r b) (ok' : OKs K s' L) (e : ∀ i, ¬ chg i → s' i = s i) (q : Q3 b h) (h10 : h 1 0 = b 1 0) (h11 : h 1 1 = mk (lv s') K) (hk : ∀ k, k < K → h 2 k = s' (270 + k) ∧ h 4 k = s' (300 + k)) : HC N v blk K s' L r h := by
  obtain ⟨ok, rc, ⟨r1, r2, r3⟩, hN⟩ := hc
  have hK := ok.1
  refine ⟨ok', ?_, ⟨r1, r2, fun hn => ?_⟩, hN⟩
  · unfold RC WRow at rc ⊢
    obtain ⟨a0, a1, a2, a3, a4, a5, a6, a7, a8, a9, a10⟩ := rc
    have f : ∀ k, k ≠ 29 ∧ k ≠ 98 ∧ k ≠ 93 ∧ k ≠ 1 ∧ k ≠ 2 ∧ k ≠ 4 → h k = b k := fun k hk => q.row hk
    rw [f (0 + 3) (by omega), f (0 + 23) (by omega), f (0 + 24) (by omega), f (0 + 24 + 1) (by omega), f (0 + 24 + 2) (by omega), f (0 + 24 + 3) (by omega), f (0 + 24 + 4) (by omega)]
    refine ⟨a0, by rw [show h (0 + 1) 0 = h 1 0 from rfl, h10]; exact a1, h11, ?_, ?_, by rw [e 6 (by unfold chg; omega)]; exact a5, by rw [e 7 (by unfold chg; omega)]; exact a6, by rw [e 8 (by unfold chg; omega)]; exact a7, a8, a9, a10⟩
    · intro k hk'
      exact ⟨(hk k hk').1, by rw [e _ (by unfold chg; omega)]; exact (a3 k hk').2.1, (hk k hk').2⟩
    · intro k j hk' hj
      rw [f (0 + 6 + k) (by omega), f (0 + 14 + k) (by omega), e (310 + 7 * k + j) (by unfold chg; omega), e (360 + 7 * k + j) (by unfold chg; omega)]
      exact a4 k j hk' hj
  · obtain ⟨t, t9, e1, g⟩ := r3 hn
    exact ⟨t, t9, e1, fun k hk => by rw [q.row (by omega)]; exact g k hk⟩
section up2
variable {N : Nat} {v : Int32} {blk : Nat → Int32} {K : Nat} {s s' : RT} {L : Wld} {r : SR} {b h : HT}
theorem Q3.hu {k j : Nat} {w : Int32} (q : Q3 b h) (hk : k = 1 ∨ k = 2 ∨ k = 4) : Q3 b (hu h k j w) := fun k' j' n n1 n2 n4 => by rw [hu_ne (by omega)]; exact q k' j' n n1 n2 n4
theorem Q3.rfl' : Q3 b b := fun _ _ _ _ _ _ => rfl
theorem HC.str (hc : HC N v blk K s L r b) {k : Nat} (hk : k < K) (hl : lv s k = true) {w : Int32} (hw : bd w 99) : HC N v blk K (ups s (270 + k) w) L r (hu b 2 k w) := by
  have hK := hc.K7
  have rc := hc.2.1
  refine hc.up (hc.1.str hl hw (by omega)) (fun i hi => ups_ne (by unfold chg at hi; omega)) (Q3.rfl'.hu (by omega)) (by rw [hu_ne (by omega)]) ?_ ?_
  · rw [hu_ne (by omega), rc.alive]
    exact mk_cong fun j hj => (lv_str (by omega) j (by omega)).symm
  · intro j hj
    refine ⟨?_, by rw [hu_ne (by omega), ups_ne (by omega)]; exact rc.own hj⟩
    by_cases e : j = k
    · subst e; rw [hu_eq, ups_eq]
    · rw [hu_ne (by omega), ups_ne (by omega)]; exact rc.str hj
theorem HR.str (hr : HR N v blk K s L b) {k : Nat} (hk : k < K) (hl : lv s k = true) {w : Int32} (hw : bd w 99) : HR N v blk K (ups s (270 + k) w) L (hu b 94 (270 + k) w) := by
  obtain ⟨ok, e94, ⟨a, c, d⟩, hN⟩ := hr
  have hK := ok.1
  refine ⟨ok.str hl hw (by omega), by rw [hu_rw, e94], ⟨by rw [hu_ne (by omega)]; exact a, by rw [hu_ne (by omega)]; exact c, fun j hj => by rw [hu_ne (by omega)]; exact d j hj⟩, hN⟩
/-- a cell changed, and changed back -/
theorem Qs.back {k j : Nat} {w : Int32} {h2 : HT} (q : Qs b h) (q2 : Qs (hu h k j w) h2) : Qs b (hu h2 k j (b k j)) := by
  intro k' j' n
  by_cases e : k' = k ∧ j' = j
  · obtain ⟨rfl, rfl⟩ := e
    rw [hu_eq]
  · rw [hu_ne e, q2 k' j' n, hu_ne e]; exact q k' j' n
def fwOk (o : Option (Nat × Nat)) : Prop := ∀ i j, o = some (i, j) → i < 7 ∧ j < 7
theorem fw2_lt {p : Nat → Bool} : ∀ (m : Nat) {j k : Nat}, fw2 p m j = some k → k < j + m
  | 0, j, k, h => by rw [fw2] at h; cases h
  | m + 1, j, k, h => by
    rw [fw2] at h
    by_cases e : p j = true
    · rw [if_pos e] at h; have := Option.some.inj h; omega
    · rw [if_neg e] at h; have := fw2_lt m h; omega
theorem fw1_lt {d : Nat → Nat → Bool} {K : Nat} : ∀ (m : Nat) {i a c : Nat}, fw1 d K m i = some (a, c) → a < i + m ∧ c < K
  | 0, i, a, c, h => by rw [fw1] at h; cases h
  | m + 1, i, a, c, h => by
    rw [fw1] at h
    cases e : fw2 (d i) K 0 with
    | some j =>
      rw [e] at h
      have h := Option.some.inj h
      have := fw2_lt _ e
      obtain ⟨rfl, rfl⟩ := Prod.mk.inj h
      omega
    | none =>
      rw [e] at h
      have := fw1_lt m h
      omega
theorem first_neg {d : Nat → Nat → Bool} (hK : K ≤ 7) : (firstS d K < 0 ↔ firstS d K = -5) ∧ (firstS d K ≠ -5 → ∃ a c, fw1 d K K 0 = some (a, c) ∧ a < K ∧ c < K ∧ firstS d K = nI (10 * a + c)) := by
  unfold firstS
  cases e : fw1 d K K 0 with
  | none => exact ⟨⟨fun _ => rfl, fun _ => by decide⟩, fun n => absurd rfl n⟩
  | some p =>
    obtain ⟨a, c⟩ := p
    have h := fw1_lt K e
    have e1 : fwV (some (a, c)) = nI (10 * a + c) := by
      have e2 : (10 : Int32) * nI a = nI (10 * a) := nI_mul 10 a
      show (10 : Int32) * nI a + nI c = _
      rw [e2, nI_add]
    rw [e1]
    have h0 : ¬ nI (10 * a + c) < 0 := nI_pos (by omega)
    refine ⟨⟨fun n => absurd n h0, fun n => ?_⟩, fun _ => ⟨a, c, rfl, by omega, by omega, rfl⟩⟩
    rw [n] at h0
    exact absurd (by decide) h0
/-- a change of one that makes a war -/
def upz (N : Nat) (v : Int32) (blk : Nat → Int32) (K : Nat) (s : RT) (L : Wld) (c : Int32) (k : Nat) : Bool := lv s k && !out (s (270 + k) + c) 99 && !decide (firstS (dr N v blk K (ups s (270 + k) (s (270 + k) + c)) L) K = -5)
theorem out_bd {w : Int32} (h : out w 99 = false) : bd w 99 := by
  unfold out at h
  rw [Bool.or_eq_false_iff, decide_eq_false_iff_not, decide_eq_false_iff_not] at h
  have e0 : (0 : Int32).toInt = 0 := by decide
  have e9 : (99 : Int32).toInt = 99 := by decide
  have h1 := h.1
  have h2 := h.2
  rw [fa_lt, e0] at h1
  rw [fa_lt, e9] at h2
  unfold bd
  omega
theorem upsetE (hc : HC N v blk K s L r b) (q : Qs b h) (c : Int32) : Rs (Qs b) (fX11_upsetBy r c h) (match fw2 (upz N v blk K s L c) K 0 with
    | some k => nI k
    | none => -5) := by
  have hK := hc.K7
  unfold fX11_upsetBy
  have go : ∀ (m : Nat) {n k : Nat} {h : HT}, k + m = K → m < n → Qs b h → Rs (Qs b) (fX11_upsetBy_2 r n c (nI k) h) (match fw2 (upz N v blk K s L c) m k with
    | some k => nI k
    | none => -5) := by
    intro m
    induction m with
    | zero =>
      intro n k h hk hn q
      obtain ⟨n, rfl⟩ : ∃ n', n = n' + 1 := ⟨n - 1, by omega⟩
      obtain rfl : k = K := by omega
      simp only [fX11_upsetBy_2, if_pos (hc.2.1.q q).ex, fw2]
      exact Rs.ok q
    | succ m ih =>
      intro n k h hk hn q
      obtain ⟨n, rfl⟩ : ∃ n', n = n' + 1 := ⟨n - 1, by omega⟩
      have hkK : k < K := by omega
      have c7 : ck 7 (nI k) = some k := ckI rfl (by omega)
      have hcq := hc.q q
      have rh := hcq.2.1
      have nx : ∀ {g : HT}, Qs b g → upz N v blk K s L c k = false → Rs (Qs b) (fX11_upsetBy_2 r n c (nI (k + 1)) g) (match (if upz N v blk K s L c k = true then some k else fw2 (upz N v blk K s L c) m (k + 1)) with
        | some k => nI k
        | none => -5) := fun qg z => by
        rw [z, if_neg (by decide)]
        exact ih (by omega) (by omega) qg
      have eU : upz N v blk K s L c k = (lv s k && !out (s (270 + k) + c) 99 && !decide (firstS (dr N v blk K (ups s (270 + k) (s (270 + k) + c)) L) K = -5)) := rfl
      have b2 : b 2 k = s (270 + k) := hc.2.1.str hkK
      simp only [fX11_upsetBy_2, if_neg (rh.go hkK), c7, livesE rh hkK, ob_s, rh.str hkK, outE, fX11_upsetBy_99, fX11_upsetBy_79, nI_1, fw2]
      cases lk : lv s k
      · rw [ifbf]; exact nx q (by rw [eU, lk]; rfl)
      · rw [ifbt]
        cases ho : out (s (270 + k) + c) 99
        · rw [ifbf]
          obtain ⟨h2, e2, q2⟩ := fwC (hcq.str hkK lk (out_bd ho)) Qs.rfl'
          have q3 := Qs.back q q2
          rw [b2] at q3
          simp only [e2, ob_s, (first_neg hK).1, if10, if_true]
          by_cases z : firstS (dr N v blk K (ups s (270 + k) (s (270 + k) + c)) L) K = -5
          · rw [if_pos z]; exact nx q3 (by rw [eU, lk, ho, decide_eq_true z]; rfl)
          · have eT : upz N v blk K s L c k = true := by rw [eU, lk, ho, decide_eq_false z]; rfl
            rw [if_neg z, if_pos eT]; exact Rs.ok q3
        · rw [ifbt]; exact nx q (by rw [eU, lk, ho]; rfl)
  exact go K (n := 1000) (k := 0) (by omega) (by omega) q
theorem quietWithE (hr : HR N v blk K s L b) (q : Qs b h) (c : Int32) {k : Nat} (hk : k < K) (hl : lv s k = true) (ho : out (s (270 + k) + c) 99 = false) : Rs (Qs b) (fX12_isQuietWith (nI k) c h) (bI (decide (firstS (dr N v blk K (ups s (270 + k) (s (270 + k) + c)) L) K = -5))) := by
  have hK := hr.K7
  have hrq := hr.q q
  have c1 : ck 490 ((270 : Int32) + nI k) = some (270 + k) := ckO 270 (by omega)
  obtain ⟨h2, e2, q2⟩ := fwR (hrq.str hk hl (out_bd ho)) Qs.rfl'
  have q3 := Qs.back q q2
  have b94 : b 94 (270 + k) = s (270 + k) := by rw [hr.2.1]
  rw [b94] at q3
  have h2s : h2 94 (270 + k) - c = s (270 + k) := by
    rw [q2.row (by decide), hu_rw, ups_eq, Int32.add_sub_cancel]
  simp only [fX12_isQuietWith, c1, ob_s, hrq.2.1, e2, fX12_isQuietWith_28, cb_0, cb_1, h2s]
  by_cases z : firstS (dr N v blk K (ups s (270 + k) (s (270 + k) + c)) L) K = -5
  · rw [if_pos z, decide_eq_true z]; exact Rs.ok q3
  · rw [if_neg z, decide_eq_false z]; exact Rs.ok q3
end up2
