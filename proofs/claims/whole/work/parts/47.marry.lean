/-! two crowns in one -/
def Q4 (b h : HT) : Prop := ∀ k j, ¬ (k = 29 ∨ k = 98 ∨ k = 92 ∨ k = 100 ∨ (k = 93 ∧ 15 ≤ j ∧ j ≤ 18)) → h k j = b k j
theorem Q4.rfl' {b : HT} : Q4 b b := fun _ _ _ => rfl
theorem Q4.tr {a b c : HT} (q : Q4 a b) (r : Q4 b c) : Q4 a c := fun k j n => (r k j n).trans (q k j n)
theorem Qs.q4 {b h : HT} (q : Qs b h) : Q4 b h := fun k j n => q k j (by omega)
theorem Q4.w {b h : HT} (q : Q4 b h) : Qw b h := fun k j n => q k j (by unfold scr at n; omega)
theorem Q4.hu {b h : HT} {k j : Nat} {w : Int32} (q : Q4 b h) (hk : k = 92 ∨ k = 100) : Q4 b (hu h k j w) := fun k' j' n => by rw [hu_ne (by omega)]; exact q k' j' n
theorem Q4.row {b h : HT} {k : Nat} (q : Q4 b h) (hk : k ≠ 29 ∧ k ≠ 98 ∧ k ≠ 93 ∧ k ≠ 92 ∧ k ≠ 100) : h k = b k := funext fun j => q k j (by omega)
/-- only 92 and 100 put right -/
def mixq (b h : HT) : HT := fun k j => if k = 92 ∨ k = 100 then b k j else h k j
theorem Q4.mix {b h : HT} (q : Q4 b h) : Qs b (mixq b h) ∧ ∀ k, k ≠ 92 → k ≠ 100 → h k = mixq b h k := by
  refine ⟨fun k j n => ?_, fun k h1 h2 => ?_⟩
  · unfold mixq
    by_cases e : k = 92 ∨ k = 100
    · rw [if_pos e]
    · rw [if_neg e]; exact q k j (by omega)
  · funext j
    unfold mixq
    rw [if_neg (by omega)]
section ma
variable {P : PT} {n : Nat} {N : Nat} {v : Int32} {blk : Nat → Int32} {K : Nat} {s s' : RT} {L : Wld} {r : SR} {b h : HT}
theorem HC.e (hc : HC N v blk K s L r b) (e : ∀ k, k ≠ 92 → k ≠ 100 → h k = b k) : HC N v blk K s L r h := by
  obtain ⟨ok, rc, ⟨r1, r2, r3⟩, hN⟩ := hc
  have hK := ok.1
  refine ⟨ok, ?_, ⟨r1, r2, fun hn => ?_⟩, hN⟩
  · unfold RC WRow at rc ⊢
    obtain ⟨a0, a1, a2, a3, a4, a5, a6, a7, a8, a9, a10⟩ := rc
    rw [e (0 + 1) (by omega) (by omega), e (0 + 2) (by omega) (by omega), e (0 + 3) (by omega) (by omega), e (0 + 4) (by omega) (by omega), e (0 + 23) (by omega) (by omega), e (0 + 24) (by omega) (by omega), e (0 + 24 + 1) (by omega) (by omega), e (0 + 24 + 2) (by omega) (by omega), e (0 + 24 + 3) (by omega) (by omega), e (0 + 24 + 4) (by omega) (by omega)]
    refine ⟨a0, a1, a2, a3, ?_, a5, a6, a7, a8, a9, a10⟩
    intro k j hk hj
    rw [e (0 + 6 + k) (by omega) (by omega), e (0 + 14 + k) (by omega) (by omega)]
    exact a4 k j hk hj
  · obtain ⟨t, t9, e1, f⟩ := r3 hn
    exact ⟨t, t9, e1, fun k hk => by rw [e _ (by omega) (by omega)]; exact f k hk⟩
theorem HC.q4 (hc : HC N v blk K s L r b) (q : Q4 b h) : HC N v blk K s L r h := (hc.q q.mix.1).e q.mix.2
theorem HR.q4 (hr : HR N v blk K s L b) (q : Q4 b h) : HR N v blk K s L h := by
  obtain ⟨ok, e94, ⟨a, c, d⟩, hN⟩ := hr
  refine ⟨ok, (q.row (by omega)).trans e94, ⟨by rw [q 93 13 (by omega)]; exact a, by rw [q 93 14 (by omega)]; exact c, fun k hk => by rw [q.row (by omega)]; exact d k hk⟩, hN⟩
/-- how many dare k -/
def cn (N : Nat) (v : Int32) (blk : Nat → Int32) (K : Nat) (s : RT) (L : Wld) (k : Nat) : Nat := fb_ct (fun x => dr N v blk K s L x k) K
theorem cn_le (hK : K ≤ 7) (k : Nat) : cn N v blk K s L k ≤ 7 := by
  have := fb_ct_le (fun x => dr N v blk K s L x k) K
  unfold cn; omega
theorem cn_dead {k : Nat} (h : lv s k = false) : cn N v blk K s L k = 0 := by
  unfold cn
  exact fb_ct_zero.mpr fun x _ => by unfold dr; rw [h]; simp
/-- sums of numbers -/
def sm (c : Nat → Nat) : Nat → Nat
  | 0 => 0
  | k + 1 => sm c k + c k
/-- the row while both are one -/
def wed (s : RT) (x y : Nat) : RT := ups (ups (ups s (270 + x) (if s (270 + x) + s (270 + y) < 99 then s (270 + x) + s (270 + y) else 99)) (270 + y) 0) (290 + y) 1
theorem wed_w (s : RT) (x y : Nat) : (if s (270 + x) + s (270 + y) < 99 then s (270 + x) + s (270 + y) else (99 : Int32)) = (if s (270 + x) + s (270 + y) ≤ 99 then s (270 + x) + s (270 + y) else 99) := by
  rcases fa_three (s (270 + x) + s (270 + y)) 99 with u | u | u
  · rw [if_pos u, if_pos (fa_of_lt u).1]
  · rw [u]; rfl
  · rw [if_neg (fa_of_lt u).2.2.1, if_neg (fa_of_lt u).2.1]
theorem wed_bd (ok : OKs K s L) {x y : Nat} (hx : x < 7) (hy : y < 7) : bd (if s (270 + x) + s (270 + y) < 99 then s (270 + x) + s (270 + y) else (99 : Int32)) 99 := by
  have a := (ok.k7 x hx).1
  have c := (ok.k7 y hy).1
  unfold bd at *
  have e9 : (99 : Int32).toInt = 99 := by decide
  have e : (s (270 + x) + s (270 + y)).toInt = (s (270 + x)).toInt + (s (270 + y)).toInt := fb_addI (by omega) (by omega)
  by_cases u : s (270 + x) + s (270 + y) < 99
  · rw [if_pos u, e]
    rw [fa_lt, e, e9] at u
    omega
  · rw [if_neg u, e9]; omega
theorem wed_n {x y i : Nat} (h : ¬ chg i) (hx : x < 7) (hy : y < 7) : wed s x y i = s i := by
  unfold wed chg at *
  rw [ups_ne (by omega), ups_ne (by omega), ups_ne (by omega)]
theorem wed_ok (ok : OKs K s L) {x y : Nat} (hx : x < 7) (hy : y < 7) (hne : x ≠ y) (lx : lv s x = true) : OKs K (wed s x y) L := by
  refine ok.ch (fun i hi => wed_n hi hx hy) fun k hk => ?_
  have a := ok.k7 k hk
  by_cases e : k = y
  · subst e
    have e1 : wed s x k (270 + k) = 0 := by unfold wed; rw [ups_ne (by omega), ups_eq]
    have e2 : wed s x k (290 + k) = 1 := by unfold wed; rw [ups_eq]
    rw [e1, e2]
    exact ⟨⟨by decide, by decide⟩, Or.inr rfl, fun _ => rfl⟩
  · have e2 : wed s x y (290 + k) = s (290 + k) := by unfold wed; rw [ups_ne (by omega), ups_ne (by omega), ups_ne (by omega)]
    rw [e2]
    by_cases e3 : k = x
    · subst e3
      have e1 : wed s k y (270 + k) = (if s (270 + k) + s (270 + y) < 99 then s (270 + k) + s (270 + y) else (99 : Int32)) := by unfold wed; rw [ups_ne (by omega), ups_ne (by omega), ups_eq]
      rw [e1]
      exact ⟨wed_bd ok hx hy, a.2.1, fun n => absurd (lv_0 lx) n⟩
    · have e1 : wed s x y (270 + k) = s (270 + k) := by unfold wed; rw [ups_ne (by omega), ups_ne (by omega), ups_ne (by omega)]
      rw [e1]; exact a
theorem wed_lv {x y k : Nat} (hx : x < 7) (hy : y < 7) (hk : k < 7) : lv (wed s x y) k = (lv s k && !decide (k = y)) := by
  unfold lv wed
  by_cases e : k = y
  · subst e; rw [ups_eq]; simp
  · rw [ups_ne (by omega), ups_ne (by omega), ups_ne (by omega)]; simp [e]
theorem wed_al (hK : K ≤ 7) {x y : Nat} (hx : x < K) (hy : y < K) (ly : lv s y = true) : mk (lv s) K ^^^ ((1 : Int32) <<< (nI y &&& 31)) = mk (lv (wed s x y)) K := by
  apply mk_ext (by omega)
  intro i hi
  rw [b_xor, b_one (by omega) hi, b_mk _ hi (by omega)]
  by_cases c : i < K
  · rw [wed_lv (by omega) (by omega) (by omega), decide_eq_true c]
    by_cases e : i = y
    · subst e; simp [ly]
    · simp [e]
  · have e : i ≠ y := by omega
    simp [c, e]
theorem xor_back (X Y : Int32) : (X ^^^ Y) ^^^ Y = X := by
  apply b_ext
  intro i _
  rw [b_xor, b_xor]
  cases bt X i <;> cases bt Y i <;> rfl
theorem hunters4 (hc : HC N v blk K s L r b) (q : Q4 b h) {y : Nat} (hy : y < K) : Rs (Q4 b) (fX5_hunters r (nI y) h) (mk (fun x => dr N v blk K s L x y) K) :=
  (huntersE (hc.q4 q) Qs.rfl' hy).mono fun _ q1 => q.tr q1.q4
theorem darers4 (hr : HR N v blk K s L b) (q : Q4 b h) {y : Nat} (hy : y < K) : Rs (Q4 b) (fX12_darers (nI y) h) (mk (fun x => dr N v blk K s L x y) K) :=
  (darersE (hr.q4 q) Qs.rfl' hy).mono fun _ q1 => q.tr q1.q4
def barS (c c' : Nat → Nat) (x y k : Nat) : Bool := !decide (c' k ≤ c k) && !decide (k = x) && !decide (k = y)
theorem sub_le (p q : Nat) (hp : p ≤ 7) (hq : q ≤ 7) : (nI p - nI q ≤ 0) ↔ p ≤ q := by
  have e0 : (0 : Int32).toInt = 0 := by decide
  rw [fa_le, e0, fb_subI, nI_toInt (show p < 2 ^ 31 by omega), nI_toInt (show q < 2 ^ 31 by omega)]
  · omega
  · rw [nI_toInt (show p < 2 ^ 31 by omega), nI_toInt (show q < 2 ^ 31 by omega)]; omega
  · rw [nI_toInt (show p < 2 ^ 31 by omega), nI_toInt (show q < 2 ^ 31 by omega)]; omega
theorem more_s (a c p q : Int32) : (a - c) + (p - q) = (a + p) - (c + q) := by grind
theorem sm_le {c : Nat → Nat} (hc : ∀ k, c k ≤ 7) : ∀ k, sm c k ≤ 7 * k
  | 0 => Nat.le_refl _
  | k + 1 => by have := sm_le hc k; have := hc k; show sm c k + c k ≤ _; omega
def marV (c c' : Nat → Nat) (K x y : Nat) (l4 : Int32) : Int32 := if l4 = 0 then nI (sm c' K) - nI (sm c K) else mk (barS c c' x y) K
theorem marriedE (hc : HC N v blk K s L r b) {x y : Nat} (hx : x < K) (hy : y < K) (hne : x ≠ y) (lx : lv s x = true) (ly : lv s y = true) (l4 : Int32) :
    Rs (Qw b) (fX11_married r (nI x) (nI y) l4 b) (marV (cn N v blk K s L) (cn N v blk K (wed s x y) L) K x y (if l4 = 0 then 1 else 0)) := by
  have hK := hc.K7
  have cx : ck 7 (nI x) = some x := ckI rfl (by omega)
  have cy : ck 7 (nI y) = some y := ckI rfl (by omega)
  have rb := hc.2.1
  simp only [fX11_married, cx, cy, ob_s, rb.str hx, rb.str hy]
  refine loop0 (K := K) (F := fun n k h => fX11_married_31 r n (nI x) (nI y) l4 (s (270 + x)) (s (270 + y)) 0 0 (nI k) h) (fun k h => Q4 b h ∧ ∀ j, j < k → h 92 j = nI (cn N v blk K s L j)) (n := 1000) (by omega) ⟨Q4.rfl', fun j hj => absurd hj (Nat.not_lt_zero j)⟩ ?_ ?_
  · intro n k g hk ⟨qg, w⟩
    refine Or.inl ?_
    have c7 : ck 7 (nI k) = some k := ckI rfl (by omega)
    obtain ⟨h1, e1, q1⟩ := huntersE (hc.q4 qg) Qs.rfl' hk
    refine ⟨hu h1 92 k (nI (cn N v blk K s L k)), ⟨(qg.tr q1.q4).hu (Or.inl rfl), ?_⟩, ?_⟩
    · intro j hj
      by_cases e : j = k
      · subst e; rw [hu_eq]
      · rw [hu_ne (by omega), q1.row (by decide)]
        exact w j (by omega)
    · show fX11_married_31 r (n + 1) (nI x) (nI y) l4 _ _ 0 0 (nI k) g = fX11_married_31 r n (nI x) (nI y) l4 _ _ 0 0 (nI (k + 1)) _
      simp only [fX11_married_31, if_neg ((hc.q4 qg).2.1.go hk), e1, ob_s, bcE hK, c7, nI_1]
      rfl
  · intro n g ⟨qg, w⟩
    have hg := hc.q4 qg
    simp only [fX11_married_31, if_pos hg.2.1.ex, cx, cy, ob_s]
    generalize hW : (if s (270 + x) + s (270 + y) < 99 then s (270 + x) + s (270 + y) else (99 : Int32)) = W
    have g11 : (hu (hu g 2 x W) 2 y 0) 1 1 = mk (lv s) K := by rw [hu_ne (by omega), hu_ne (by omega)]; exact hg.2.1.alive
    rw [g11, wed_al hK hx hy ly]
    generalize hH : hu (hu (hu g 2 x W) 2 y 0) 1 1 (mk (lv (wed s x y)) K) = H
    have qH : Q3 g H := by rw [← hH]; exact ((Q3.rfl'.hu (by omega)).hu (by omega)).hu (by omega)
    have hcH : HC N v blk K (wed s x y) L r H := by
      refine hg.up (wed_ok hc.1 (by omega) (by omega) hne lx) (fun i hi => wed_n hi (by omega) (by omega)) qH ?_ ?_ ?_
      · rw [← hH, hu_ne (by omega), hu_ne (by omega), hu_ne (by omega)]
      · rw [← hH, hu_eq]
      · intro k hk
        refine ⟨?_, ?_⟩
        · rw [← hH, hu_ne (by omega)]
          by_cases e : k = y
          · subst e; rw [hu_eq]; unfold wed; rw [ups_ne (by omega), ups_eq]
          · rw [hu_ne (by omega)]
            by_cases e2 : k = x
            · subst e2; rw [hu_eq]; unfold wed; rw [ups_ne (by omega), ups_ne (by omega), ups_eq, hW]
            · rw [hu_ne (by omega)]; unfold wed; rw [ups_ne (by omega), ups_ne (by omega), ups_ne (by omega)]; exact hg.2.1.str hk
        · rw [← hH, hu_ne (by omega), hu_ne (by omega), hu_ne (by omega)]; unfold wed; rw [ups_ne (by omega), ups_ne (by omega), ups_ne (by omega)]; exact hg.2.1.own hk
    have w92 : ∀ j, j < K → H 92 j = nI (cn N v blk K s L j) := fun j hj => by rw [qH.row (by decide)]; exact w j hj
    have z0 : nI (sm (cn N v blk K (wed s x y) L) 0) - nI (sm (cn N v blk K s L) 0) = 0 := (by decide : (nI 0 - nI 0 : Int32) = 0)
    suffices hh : Rs (Qw b) (fX11_married_116 r 1000 (nI x) (nI y) l4 (s (270 + x)) (s (270 + y)) (nI (sm (cn N v blk K (wed s x y) L) 0) - nI (sm (cn N v blk K s L) 0)) (mk (barS (cn N v blk K s L) (cn N v blk K (wed s x y) L) x y) 0) (nI 0) H) (marV (cn N v blk K s L) (cn N v blk K (wed s x y) L) K x y (if l4 = 0 then 1 else 0)) by
      rw [z0] at hh
      exact hh
    refine loop0 (K := K) (F := fun n k h => fX11_married_116 r n (nI x) (nI y) l4 (s (270 + x)) (s (270 + y)) (nI (sm (cn N v blk K (wed s x y) L) k) - nI (sm (cn N v blk K s L) k)) (mk (barS (cn N v blk K s L) (cn N v blk K (wed s x y) L) x y) k) (nI k) h) (fun _ h => Qs H h) (n := 1000) (by omega) Qs.rfl' ?_ ?_
    · intro n k h hk qh
      refine Or.inl ?_
      have c7 : ck 7 (nI k) = some k := ckI rfl (by omega)
      obtain ⟨h1, e1, q1⟩ := huntersE hcH qh hk
      refine ⟨h1, q1, ?_⟩
      show fX11_married_116 r (n + 1) (nI x) (nI y) l4 _ _ _ _ (nI k) h = fX11_married_116 r n (nI x) (nI y) l4 _ _ (nI (sm (cn N v blk K (wed s x y) L) (k + 1)) - nI (sm (cn N v blk K s L) (k + 1))) (mk (barS (cn N v blk K s L) (cn N v blk K (wed s x y) L) x y) (k + 1)) (nI (k + 1)) h1
      have hd : h1 92 k = nI (cn N v blk K s L k) := by rw [q1.row (by decide)]; exact w92 k hk
      have ec : fb_ct (fun x_1 => dr N v blk K (wed s x y) L x_1 k) K = cn N v blk K (wed s x y) L k := rfl
      have es : (nI (sm (cn N v blk K (wed s x y) L) k) - nI (sm (cn N v blk K s L) k)) + (nI (cn N v blk K (wed s x y) L k) - nI (cn N v blk K s L k)) = nI (sm (cn N v blk K (wed s x y) L) (k + 1)) - nI (sm (cn N v blk K s L) (k + 1)) := by
        rw [more_s, nI_add, nI_add]; rfl
      rw [mk]
      simp only [fX11_married_116, if_neg ((hcH.q qh).2.1.go hk), e1, ob_s, bcE hK, c7, hd, ec, es, fX11_married_184, nI_1, nIx (show k < 7 by omega) (show x < 7 by omega), nIx (show k < 7 by omega) (show y < 7 by omega), sub_le _ _ (cn_le hK k) (cn_le hK k)]
      unfold barS
      by_cases z1 : cn N v blk K (wed s x y) L k ≤ cn N v blk K s L k
      · rw [if_pos z1, decide_eq_true z1]; rfl
      · rw [if_neg z1, decide_eq_false z1]
        by_cases z2 : k = x
        · rw [if_pos z2, decide_eq_true z2]; rfl
        · rw [if_neg z2, decide_eq_false z2]
          by_cases z3 : k = y
          · rw [if_pos z3, decide_eq_true z3]; rfl
          · rw [if_neg z3, decide_eq_false z3]; rfl
    · intro n h qh
      simp only [fX11_married_116, if_pos (hcH.q qh).2.1.ex, cx, cy, ob_s, fX11_married_239]
      have fin : Qw b (hu (hu (hu h 1 1 (h 1 1 ^^^ ((1 : Int32) <<< (nI y &&& 31)))) 2 y (s (270 + y))) 2 x (s (270 + x))) := by
        intro k j nn
        by_cases e1 : k = 2 ∧ j = x
        · obtain ⟨rfl, rfl⟩ := e1; rw [hu_eq, rb.str hx]
        · rw [hu_ne e1]
          by_cases e2 : k = 2 ∧ j = y
          · obtain ⟨rfl, rfl⟩ := e2; rw [hu_eq, rb.str hy]
          · rw [hu_ne e2]
            by_cases e3 : k = 1 ∧ j = 1
            · obtain ⟨rfl, rfl⟩ := e3
              rw [hu_eq, qh.row (by decide), (hcH.2.1).alive, ← wed_al hK hx hy ly, xor_back, rb.alive]
            · rw [hu_ne e3]
              have n1 : ¬ (k = 29 ∨ k = 98 ∨ (k = 93 ∧ 15 ≤ j ∧ j ≤ 18)) := by unfold scr at nn; omega
              rw [qh k j n1, ← hH, hu_ne e3, hu_ne e2, hu_ne e1]
              exact qg.w k j nn
      unfold marV
      by_cases z : l4 = 0
      · rw [if_pos z, if_pos z, if_neg (by decide)]; exact Rs.ok fin
      · rw [if_neg z, if_neg z, if_pos rfl]; exact Rs.ok fin
theorem marryR (hr : HR N v blk K s L b) {x y : Nat} (hx : x < K) (hy : y < K) (hne : x ≠ y) (lx : lv s x = true) (ly : lv s y = true) (l4 : Int32) :
    Rs (Qw b) (fX12_marry_78 1000 (nI x) (nI y) l4 0 0 b) (marV (cn N v blk K s L) (cn N v blk K (wed s x y) L) K x y l4) := by
  have hK := hr.K7
  have cx : ck 490 ((270 : Int32) + nI x) = some (270 + x) := ckO 270 (by omega)
  have cy : ck 490 ((270 : Int32) + nI y) = some (270 + y) := ckO 270 (by omega)
  have cy2 : ck 490 ((290 : Int32) + nI y) = some (290 + y) := ckO 290 (by omega)
  refine loop0 (K := K) (F := fun n k h => fX12_marry_78 n (nI x) (nI y) l4 (nI (sm (cn N v blk K s L) k)) (nI k) h) (fun k h => Q4 b h ∧ ∀ j, j < k → h 100 j = nI (cn N v blk K s L j)) (n := 1000) (by omega) ⟨Q4.rfl', fun j hj => absurd hj (Nat.not_lt_zero j)⟩ ?_ ?_
  · intro n k g hk ⟨qg, w⟩
    refine Or.inl ?_
    have c7 : ck 7 (nI k) = some k := ckI rfl (by omega)
    obtain ⟨h1, e1, q1⟩ := darersE (hr.q4 qg) Qs.rfl' hk
    refine ⟨hu h1 100 k (nI (cn N v blk K s L k)), ⟨(qg.tr q1.q4).hu (Or.inr rfl), ?_⟩, ?_⟩
    · intro j hj
      by_cases e : j = k
      · subst e; rw [hu_eq]
      · rw [hu_ne (by omega), q1.row (by decide)]
        exact w j (by omega)
    · show fX12_marry_78 (n + 1) (nI x) (nI y) l4 _ (nI k) g = fX12_marry_78 n (nI x) (nI y) l4 (nI (sm (cn N v blk K s L) k + cn N v blk K s L k)) (nI (k + 1)) _
      have ec : fb_ct (fun x_1 => dr N v blk K s L x_1 k) K = cn N v blk K s L k := rfl
      simp only [fX12_marry_78, if_neg (rgo hK (hr.q4 qg).e0 hk), e1, ob_s, count1E hK, c7, nI_1, ec, hu_eq, nI_add]
  · intro n g ⟨qg, w⟩
    have hg := hr.q4 qg
    have e94 := hg.2.1
    simp only [fX12_marry_78, e94, if_pos (rxs hr.1.2.1), cx, cy, ob_s]
    have key : ∀ W, W = (if s (270 + x) + s (270 + y) < 99 then s (270 + x) + s (270 + y) else (99 : Int32)) → Rs (Qw b) (fX12_marry_176 (nI x) (nI y) l4 (nI (sm (cn N v blk K s L) K)) (s (270 + x)) (s (270 + y)) W ((270 : Int32) + nI x) g) (marV (cn N v blk K s L) (cn N v blk K (wed s x y) L) K x y l4) := by
      intro W hW
      simp only [fX12_marry_176, cx, cy, cy2, ob_s]
      generalize hH : hu (hu (hu g 94 (270 + x) W) 94 (270 + y) 0) 94 (290 + y) 1 = H
      have H94 : H 94 = wed s x y := by
        rw [← hH, hu_rw, hu_rw, hu_rw, e94, hW]; rfl
      have Hn : ∀ k, k ≠ 94 → H k = g k := fun k hk => by rw [← hH, hu_r hk, hu_r hk, hu_r hk]
      have hrH : HR N v blk K (wed s x y) L H := ⟨wed_ok hr.1 (by omega) (by omega) hne lx, H94, ⟨by rw [Hn 93 (by omega)]; exact hg.2.2.1.1, by rw [Hn 93 (by omega)]; exact hg.2.2.1.2.1, fun k hk => by rw [Hn 99 (by omega)]; exact hg.2.2.1.2.2 k hk⟩, hg.2.2.2⟩
      have w100 : ∀ j, j < K → H 100 j = nI (cn N v blk K s L j) := fun j hj => by rw [Hn 100 (by omega)]; exact w j hj
      refine loop0 (K := K) (F := fun n k h => fX12_marry_208 n (nI x) (nI y) l4 (nI (sm (cn N v blk K s L) K)) (s (270 + x)) (s (270 + y)) (nI (sm (cn N v blk K (wed s x y) L) k)) (mk (barS (cn N v blk K s L) (cn N v blk K (wed s x y) L) x y) k) (nI k) h) (fun _ h => Qs H h) (n := 1000) (by omega) Qs.rfl' ?_ ?_
      · intro n k h hk qh
        refine Or.inl ?_
        have c7 : ck 7 (nI k) = some k := ckI rfl (by omega)
        obtain ⟨h1, e1, q1⟩ := darersE hrH qh hk
        refine ⟨h1, q1, ?_⟩
        show fX12_marry_208 (n + 1) (nI x) (nI y) l4 _ _ _ _ _ (nI k) h = fX12_marry_208 n (nI x) (nI y) l4 _ _ _ (nI (sm (cn N v blk K (wed s x y) L) k + cn N v blk K (wed s x y) L k)) (mk (barS (cn N v blk K s L) (cn N v blk K (wed s x y) L) x y) (k + 1)) (nI (k + 1)) h1
        have hd : h1 100 k = nI (cn N v blk K s L k) := by rw [q1.row (by decide)]; exact w100 k hk
        have ec : fb_ct (fun x_1 => dr N v blk K (wed s x y) L x_1 k) K = cn N v blk K (wed s x y) L k := rfl
        have al := isAliveE hK (hrH.q q1).2.1 (hrH.1.2.1) hk
        have n1 := cn_le (N := N) (v := v) (blk := blk) (s := s) (L := L) hK k
        have n2 := cn_le (N := N) (v := v) (blk := blk) (s := wed s x y) (L := L) hK k
        rw [mk]
        simp only [fX12_marry_208, if_neg (rgo hK (hrH.q qh).e0 hk), e1, ob_s, count1E hK, c7, hd, ec, nI_add, fX12_marry_279, fX12_marry_280, nI_1, nIx (show k < 7 by omega) (show x < 7 by omega), nIx (show k < 7 by omega) (show y < 7 by omega), al, Int32.or_zero, nI_leI (show cn N v blk K (wed s x y) L k < 2 ^ 31 by omega) (show cn N v blk K s L k < 2 ^ 31 by omega)]
        unfold barS
        by_cases z2 : k = x
        · rw [if_pos z2, decide_eq_true z2, Bool.not_true, Bool.and_false, Bool.false_and, if_neg (by decide)]
        · rw [if_neg z2, decide_eq_false z2]
          by_cases z3 : k = y
          · rw [if_pos z3, decide_eq_true z3, Bool.not_true, Bool.and_false, if_neg (by decide)]
          · rw [if_neg z3, decide_eq_false z3, Bool.not_false, Bool.and_true, Bool.and_true]
            cases la : lv (wed s x y) k
            · rw [ifbf, cn_dead la, decide_eq_true (Nat.zero_le _), Bool.not_true, if_neg (by decide)]
            · rw [ifbt]
              by_cases z1 : cn N v blk K (wed s x y) L k ≤ cn N v blk K s L k
              · rw [if_pos z1, decide_eq_true z1]; rfl
              · rw [if_neg z1, decide_eq_false z1]; rfl
      · intro n h qh
        simp only [fX12_marry_208, if_pos (rex (hrH.q qh).e0), cx, cy, cy2, ob_s, fX12_marry_339]
        have fin : Qw b (hu (hu (hu h 94 (270 + x) (s (270 + x))) 94 (270 + y) (s (270 + y))) 94 (290 + y) 0) := by
          intro k j nn
          by_cases e0 : k = 94
          · subst e0
            rw [hu_rw, hu_rw, hu_rw, (hrH.q qh).2.1, hr.2.1]
            unfold wed ups
            by_cases a1 : j = 290 + y
            · rw [if_pos a1, a1, lv_0 ly]
            · rw [if_neg a1]
              by_cases a2 : j = 270 + y
              · rw [if_pos a2, a2]
              · rw [if_neg a2]
                by_cases a3 : j = 270 + x
                · rw [if_pos a3, a3]
                · rw [if_neg a3, if_neg a1, if_neg a2, if_neg a3]
          · rw [hu_ne (by omega), hu_ne (by omega), hu_ne (by omega)]
            have n1 : ¬ (k = 29 ∨ k = 98 ∨ (k = 93 ∧ 15 ≤ j ∧ j ≤ 18)) := by unfold scr at nn; omega
            rw [qh k j n1, Hn k e0]
            exact qg.w k j nn
        unfold marV
        by_cases z : l4 = 0
        · rw [if_pos z, if_pos z]; exact Rs.ok fin
        · rw [if_neg z, if_neg z]; exact Rs.ok fin
    by_cases u : s (270 + x) + s (270 + y) ≤ 99
    · rw [if_pos u]; exact key _ (by rw [wed_w, if_pos u])
    · rw [if_neg u]; exact key _ (by rw [wed_w, if_neg u])
theorem b_marry (x : Ix P K L n b) (l1 l2 l3 l4 : Int32) : Bo b (fX11_marry P l1 l2 l3 l4) (fX12_marry l1 l2 l3 l4) := by
  have hK := x.K7
  rcases isn x.n8 l1 with ⟨t, ht, rfl⟩ | hn
  · obtain ⟨N, p, v, r, d1, d2, d3, d4, hN, hv, hr0, ht8, hc, hr⟩ := x.sd ht
    generalize hblk : (fun k => b 94 (430 + 7 * t + k)) = blk at *
    cases ho : out l4 1
    · rcases isk K hK l2 with ⟨a, ha, rfl⟩ | hn2
      · rcases isk K hK l3 with ⟨c, hcK, rfl⟩ | hn3
        · by_cases e : a = c
          · refine ⟨-1001, fun g q => ?_, fun g q => ?_⟩
            · simp only [fX11_marry, stdAtE x q ht, d1, onq_s, d2, ob_s, outE, ho, ifbf, prE x q ha hcK]
              unfold prv
              rw [if_pos e, if_neg (by decide), if_pos rfl]
              exact Rs.ok q
            · simp only [fX12_marry, isStdE x q ht, isKingE hK (x.e0 q) ha, isKingE hK (x.e0 q) hcK, ob_s, if10, inE, ho, Bool.not_false, ifbt, nIx (show a < 7 by omega) (show c < 7 by omega), if_pos e]
              exact Rs.ok q
          · by_cases hl : (lv (b 94) a && lv (b 94) c) = true
            · obtain ⟨la, lc⟩ : lv (b 94) a = true ∧ lv (b 94) c = true := by rw [Bool.and_eq_true] at hl; exact hl
              refine ⟨marV (cn N v blk K (b 94) L) (cn N v blk K (wed (b 94) a c) L) K a c l4, fun g q => ?_, fun g q => ?_⟩
              · have m0 := marriedE (hc g q) ha hcK e la lc 0
                have m1 := marriedE (hc g q) ha hcK e la lc 1
                simp only [fX11_marry, stdAtE x q ht, d1, onq_s, d2, ob_s, outE, ho, ifbf, prE x q ha hcK]
                unfold prv
                rw [if_neg e, if_pos hl, if_neg (by decide), if_neg (by decide), if_neg (by decide)]
                rcases out1 ho with rfl | rfl
                · obtain ⟨h1, e1, q1⟩ := m1
                  rw [if_pos rfl]
                  simp only [fX11_marry_87, e1, ob_s]
                  exact Rs.ok (q.tr q1)
                · obtain ⟨h1, e1, q1⟩ := m0
                  rw [if_neg (by decide)]
                  simp only [fX11_marry_87, e1, ob_s]
                  exact Rs.ok (q.tr q1)
              · obtain ⟨g1, e1, q1, r1⟩ := hr g q
                obtain ⟨g2, e2, q2⟩ := marryR r1 ha hcK e la lc l4
                simp only [fX12_marry, isStdE x q ht, isKingE hK (x.e0 q) ha, isKingE hK (x.e0 q) hcK, ob_s, if10, inE, ho, Bool.not_false, ifbt, nIx (show a < 7 by omega) (show c < 7 by omega), if_neg e, isAliveE hK (x.r94 q) x.s0 ha, isAliveE hK (x.r94 q) x.s0 hcK, la, lc, e1, e2]
                exact Rs.ok (q1.tr q2)
            · refine ⟨-1002, fun g q => ?_, fun g q => ?_⟩
              · simp only [fX11_marry, stdAtE x q ht, d1, onq_s, d2, ob_s, outE, ho, ifbf, prE x q ha hcK]
                unfold prv
                rw [if_neg e, if_neg hl, if_pos rfl]
                exact Rs.ok q
              · simp only [fX12_marry, isStdE x q ht, isKingE hK (x.e0 q) ha, isKingE hK (x.e0 q) hcK, ob_s, if10, inE, ho, Bool.not_false, ifbt, nIx (show a < 7 by omega) (show c < 7 by omega), if_neg e, isAliveE hK (x.r94 q) x.s0 ha, isAliveE hK (x.r94 q) x.s0 hcK, fX12_marry_63]
                cases la : lv (b 94) a
                · rw [ifbf]; exact Rs.ok q
                · cases lc : lv (b 94) c
                  · rw [ifbt, ifbf]; exact Rs.ok q
                  · rw [la, lc] at hl; exact absurd rfl hl
        · refine ⟨-1000, fun g q => ?_, fun g q => ?_⟩
          · simp only [fX11_marry, stdAtE x q ht, d1, onq_s, d2, ob_s, outE, ho, ifbf, prN2 x q ha hn3]
            exact Rs.ok q
          · simp only [fX12_marry, isStdE x q ht, isKingE hK (x.e0 q) ha, isKingN hK (x.e0 q) hn3, ob_s, if10, if_true, fX12_marry_34]
            exact Rs.ok q
      · refine ⟨-1000, fun g q => ?_, fun g q => ?_⟩
        · simp only [fX11_marry, stdAtE x q ht, d1, onq_s, d2, ob_s, outE, ho, ifbf, prN1 x q hn2]
          exact Rs.ok q
        · simp only [fX12_marry, isStdE x q ht, isKingN hK (x.e0 q) hn2, ob_s, if10, if_true, fX12_marry_34]
          exact Rs.ok q
    · refine ⟨-1000, fun g q => ?_, fun g q => ?_⟩
      · simp only [fX11_marry, stdAtE x q ht, d1, onq_s, d2, ob_s, outE, ho, ifbt, fX11_marry_24]
        exact Rs.ok q
      · simp only [fX12_marry, isStdE x q ht, ob_s, if10, inE, ho, Bool.not_true, fX12_marry_34]
        rcases isk K hK l2 with ⟨a, ha, rfl⟩ | hn2
        · rcases isk K hK l3 with ⟨c, hcK, rfl⟩ | hn3
          · simp only [isKingE hK (x.e0 q) ha, isKingE hK (x.e0 q) hcK, ob_s, if10, ifbf]
            exact Rs.ok q
          · simp only [isKingE hK (x.e0 q) ha, isKingN hK (x.e0 q) hn3, ob_s, if10, if_true]
            exact Rs.ok q
        · simp only [isKingN hK (x.e0 q) hn2, ob_s, if_true]
          exact Rs.ok q
  · refine ⟨-1000, fun g q => ?_, fun g q => ?_⟩
    · simp only [fX11_marry, stdAtN x q hn, ob_s, onq_0, fX11_marry_24]; exact Rs.ok q
    · simp only [fX12_marry, isStdN x q hn, ob_s, if_true, fX12_marry_34]; exact Rs.ok q
end ma
