section ft
variable {P : PT} {n : Nat} {N : Nat} {v : Int32} {blk : Nat → Int32} {K : Nat} {s s' : RT} {L : Wld} {r : SR} {b h : HT} {x y : Nat}
theorem halveE (hK : K ≤ 7) (hk0 : h 1 0 = nI K) {p : Nat → Bool} {X : Int32} (hX : ∀ k, k < K → bt X k = p k) {u : Nat → Int32} (hu2 : ∀ k, k < K → h 2 k = u k) : Rs (fun h' => D1 2 h h' ∧ ∀ k, k < K → h' 2 k = if p k = true then u k / 2 else u k) (fX3_halve X h) 0 := by
  refine Rs.mono (loop0 (K := K) (F := fun n k h => fX3_halve_2 n X (nI k) h) (R := fun h' => D1 2 h h' ∧ ∀ j, j < K → h' 2 j = if j < K ∧ p j = true then u j / 2 else u j) (fun k h' => D1 2 h h' ∧ ∀ j, j < K → h' 2 j = if j < k ∧ p j = true then u j / 2 else u j) (n := 1000) (by omega) ⟨D1.rfl', fun j hj => by rw [if_neg (by omega)]; exact hu2 j hj⟩ ?_ ?_) ?_
  · intro n k g hk ⟨dg, w⟩
    left
    show ∃ h', (D1 2 h h' ∧ ∀ j, j < K → h' 2 j = if j < k + 1 ∧ p j = true then u j / 2 else u j) ∧ fX3_halve_2 (n + 1) X (nI k) g = fX3_halve_2 n X (nI (k + 1)) h'
    have c7 : ck 7 (nI k) = some k := ckI rfl (by omega)
    have g0 : ¬ g 1 0 ≤ nI k := by rw [dg 1 0 (by omega) (by omega), hk0]; exact nI_ge hk (by omega)
    have e := hX k hk
    simp only [fX3_halve_2, if_neg g0, c7, ob_s, fX3_halve_28, nI_1]
    cases c : p k
    · rw [c] at e
      rw [if_pos (b_t0 (by omega) e)]
      refine ⟨g, ⟨dg, fun j hj => ?_⟩, rfl⟩
      rw [w j hj]
      by_cases ej : j = k
      · subst ej; rw [c, if_neg (fun z => absurd z.2 (by decide)), if_neg (fun z => absurd z.2 (by decide))]
      · by_cases z : j < k ∧ p j = true
        · rw [if_pos z, if_pos ⟨by omega, z.2⟩]
        · rw [if_neg z, if_neg (fun z2 => z ⟨by omega, z2.2⟩)]
    · rw [c] at e
      rw [if_neg (b_n0 (by omega) e)]
      refine ⟨hu g 2 k (g 2 k / 2), ⟨dg.hu, fun j hj => ?_⟩, rfl⟩
      by_cases ej : j = k
      · subst ej
        rw [hu_eq, w j hj, if_neg (fun z => absurd z.1 (by omega)), if_pos ⟨by omega, c⟩]
      · rw [hu_ne (by omega), w j hj]
        by_cases z : j < k ∧ p j = true
        · rw [if_pos z, if_pos ⟨by omega, z.2⟩]
        · rw [if_neg z, if_neg (fun z2 => z ⟨by omega, z2.2⟩)]
  · intro n g j
    have g0 : g 1 0 ≤ nI K := by rw [j.1 1 0 (by omega) (by omega), hk0]; exact Int32.le_refl _
    simp only [fX3_halve_2, if_pos g0]
    exact Rs.ok j
  · intro g ⟨dg, w⟩
    refine ⟨dg, fun k hk => ?_⟩
    rw [w k hk]
    by_cases z : p k = true
    · rw [if_pos z, if_pos ⟨hk, z⟩]
    · rw [if_neg z, if_neg (fun z2 => z z2.2)]
theorem wearE (hK : K ≤ 7) (hk0 : h 1 0 = nI K) {p : Nat → Bool} {X lo W : Int32} (hW : bd W 693000) (hX : ∀ k, k < K → bt X k = p k) {u : Nat → Int32} (hu2 : ∀ k, k < K → h 2 k = u k) : Rs (fun h' => D1 2 h h' ∧ ∀ k, k < K → h' 2 k = if p k = true then wr (u k) lo W else u k) (fX3_wear X lo W h) 0 := by
  unfold fX3_wear wr
  by_cases zW : 0 < W
  · rw [if_pos zW]
    have nzE : nz ((2 : Int32) * W) = some () := by
      obtain ⟨d, rfl, hd⟩ := bd_nI hW (by decide)
      have z' : nI 0 < nI d := zW
      rw [nI_ltI (by omega) (by omega)] at z'
      have e2 : (2 : Int32) * nI d = nI (2 * d) := nI_mul 2 d
      unfold nz
      rw [e2, if_neg (nI_ne0 (by omega) (by omega))]
    simp only [if_pos zW]
    refine Rs.mono (loop0 (K := K) (F := fun n k h => fX3_wear_8 n X lo W (nI k) h) (R := fun h' => D1 2 h h' ∧ ∀ j, j < K → h' 2 j = if j < K ∧ p j = true then u j - u j * lo / (2 * W) else u j) (fun k h' => D1 2 h h' ∧ ∀ j, j < K → h' 2 j = if j < k ∧ p j = true then u j - u j * lo / (2 * W) else u j) (n := 1000) (by omega) ⟨D1.rfl', fun j hj => by rw [if_neg (by omega)]; exact hu2 j hj⟩ ?_ ?_) ?_
    · intro n k g hk ⟨dg, w⟩
      left
      show ∃ h', (D1 2 h h' ∧ ∀ j, j < K → h' 2 j = if j < k + 1 ∧ p j = true then u j - u j * lo / (2 * W) else u j) ∧ fX3_wear_8 (n + 1) X lo W (nI k) g = fX3_wear_8 n X lo W (nI (k + 1)) h'
      have c7 : ck 7 (nI k) = some k := ckI rfl (by omega)
      have g0 : ¬ g 1 0 ≤ nI k := by rw [dg 1 0 (by omega) (by omega), hk0]; exact nI_ge hk (by omega)
      have e := hX k hk
      simp only [fX3_wear_8, if_neg g0, c7, ob_s, nzE, fX3_wear_49, nI_1]
      cases c : p k
      · rw [c] at e
        rw [if_pos (b_t0 (by omega) e)]
        refine ⟨g, ⟨dg, fun j hj => ?_⟩, rfl⟩
        rw [w j hj]
        by_cases ej : j = k
        · subst ej; rw [c, if_neg (fun z => absurd z.2 (by decide)), if_neg (fun z => absurd z.2 (by decide))]
        · by_cases z : j < k ∧ p j = true
          · rw [if_pos z, if_pos ⟨by omega, z.2⟩]
          · rw [if_neg z, if_neg (fun z2 => z ⟨by omega, z2.2⟩)]
      · rw [c] at e
        rw [if_neg (b_n0 (by omega) e)]
        refine ⟨hu g 2 k (g 2 k - g 2 k * lo / (2 * W)), ⟨dg.hu, fun j hj => ?_⟩, rfl⟩
        by_cases ej : j = k
        · subst ej
          rw [hu_eq, w j hj, if_neg (fun z => absurd z.1 (by omega)), if_pos ⟨by omega, c⟩]
        · rw [hu_ne (by omega), w j hj]
          by_cases z : j < k ∧ p j = true
          · rw [if_pos z, if_pos ⟨by omega, z.2⟩]
          · rw [if_neg z, if_neg (fun z2 => z ⟨by omega, z2.2⟩)]
    · intro n g j
      have g0 : g 1 0 ≤ nI K := by rw [j.1 1 0 (by omega) (by omega), hk0]; exact Int32.le_refl _
      simp only [fX3_wear_8, if_pos g0]
      exact Rs.ok j
    · intro g ⟨dg, w⟩
      refine ⟨dg, fun k hk => ?_⟩
      rw [w k hk]
      by_cases z : p k = true
      · rw [if_pos z, if_pos ⟨hk, z⟩]
      · rw [if_neg z, if_neg (fun z2 => z z2.2)]
  · rw [if_neg zW]
    refine Rs.ok ⟨D1.rfl', fun k hk => ?_⟩
    rw [hu2 k hk, if_neg zW]
    by_cases z : p k = true
    · rw [if_pos z]
    · rw [if_neg z]
/-- what stays through a war -/
def FD (K : Nat) (h h' : HT) : Prop := Q3 h h' ∧ h' 1 0 = h 1 0 ∧ h' 1 2 = h 1 2 ∧ h' 1 3 = h 1 3 ∧ ∀ k, K ≤ k → k < 7 → h' 4 k = h 4 k
theorem D1.q3 {g h : HT} (d : D1 2 g h) : Q3 g h := fun k j n _ n2 _ => d k j n n2
theorem Qs.q3 {g h : HT} (q : Qs g h) : Q3 g h := fun k j n _ _ _ => q k j n
theorem Q3.tr {a c g : HT} (q : Q3 a c) (r : Q3 c g) : Q3 a g := fun k j n n1 n2 n4 => (r k j n n1 n2 n4).trans (q k j n n1 n2 n4)
theorem wear_le (hw : won N v blk K s L x y = true) : fB N v blk K s L x y ≤ fA N v blk K s L x y := by
  unfold won at hw
  cases c : decide (fA N v blk K s L x y ≤ fB N v blk K s L x y)
  · exact Int32.le_of_lt (Int32.not_le.mp (of_decide_eq_false c))
  · rw [c] at hw; cases hw
theorem fightE (hc : HC N v blk K s L r b) (h4 : b 1 4 = s 4) (hx : x < K) (hy : y < K) (hne : x ≠ y) (lx : lv s x = true) (ly : lv s y = true) : Rs (fun h => HC N v blk K (fiW N v blk K s L x y) L r h ∧ FD K b h ∧ h 1 4 = fiW N v blk K s L x y 4) (fX5_fight r (nI x) (nI y) b) (bI (won N v blk K s L x y)) := by
  have hK := hc.K7
  obtain ⟨ok, rc, st, hN⟩ := hc
  have cx : ck 7 (nI x) = some x := ckI rfl (by omega)
  have cy : ck 7 (nI y) = some y := ckI rfl (by omega)
  obtain ⟨h1, e1, q1⟩ := campsE ok rc st hN Qs.rfl' hx hy
  have r1 := rc.q q1
  have bA := fA_bd (N := N) (v := v) (blk := blk) (x := x) ok (show y < 7 by omega)
  have bB := fB_bd (N := N) (v := v) (blk := blk) (x := x) ok (show y < 7 by omega)
  have e2 : fX3_forcesAt (mk (mA N v blk K s L x y) K) (s (280 + y)) h1 = some (fA N v blk K s L x y, h1) := forcesAtE r1 (mA N v blk K s L x y) _ (s (280 + y)) (b_mkK hK)
  have e3 : fX3_forcesAt (mk (mB N v blk K s L x y) K) (s (280 + y)) h1 = some (fB N v blk K s L x y, h1) := forcesAtE r1 (mB N v blk K s L x y) _ (s (280 + y)) (b_mkK hK)
  have w4 : fiW N v blk K s L x y 4 = s 4 + 1 := ups_eq
  have fin : ∀ g : HT, FD K b g → g 1 4 = s 4 + 1 → g 1 1 = mk (lv (fiW N v blk K s L x y)) K → (∀ k, k < K → g 2 k = fiW N v blk K s L x y (270 + k) ∧ g 4 k = fiW N v blk K s L x y (300 + k)) → HC N v blk K (fiW N v blk K s L x y) L r g ∧ FD K b g ∧ g 1 4 = fiW N v blk K s L x y 4 := by
    intro g f f4 f1 f2
    have hc0 : HC N v blk K s L r b := ⟨ok, rc, st, hN⟩
    exact ⟨hc0.up (fiW_ok ok hx hy hne lx ly) (fun i hi => fiW_n hK (by omega) (by omega) hi) f.1 f.2.1 f1 f2, f, by rw [f4, w4]⟩
  simp only [fX5_fight, e1, ob_s, cy, attJ hK, defJ hK, r1.plc hy, r1.str hy, e2, e3]
  have d4 : ∀ {g h' : HT}, D1 2 g h' → ∀ j, h' 4 j = g 4 j := fun d j => d 4 j (by omega) (by omega)
  have d1 : ∀ {g h' : HT}, D1 2 g h' → ∀ j, h' 1 j = g 1 j := fun d j => d 1 j (by omega) (by omega)
  by_cases z : fA N v blk K s L x y ≤ fB N v blk K s L x y
  · have hw : won N v blk K s L x y = false := by unfold won; rw [decide_eq_true z]; rfl
    rw [if_pos z, hw]
    obtain ⟨h2, e4, D2, u2⟩ := halveE (h := h1) hK r1.kings (b_mkK (K := K) (p := mA N v blk K s L x y) hK) (u := fun k => s (270 + k)) (fun k hk => r1.str hk)
    obtain ⟨h3, e5, D3, u3⟩ := wearE (h := h2) (lo := fA N v blk K s L x y) hK (by rw [d1 D2]; exact r1.kings) bB (b_mkK (K := K) (p := mB N v blk K s L x y) hK) u2
    simp only [fX5_fight_63, if_true, attJ hK, defJ hK, ob_s, e4, e5, fX5_fight_125, cb_0]
    have k1 : ∀ j, h3 1 j = b 1 j := fun j => by rw [d1 D3, d1 D2, q1.row (by decide)]
    have k4 : ∀ j, h3 4 j = b 4 j := fun j => by rw [d4 D3, d4 D2, q1.row (by decide)]
    have sW : ∀ i, i ≠ 4 → fiW N v blk K s L x y i = s1W N v blk K s L x y K i := fun i hi => by
      unfold fiW; rw [ups_ne hi, hw, if_neg (by decide)]
    refine Rs.ok (fin _ ⟨((q1.q3.tr D2.q3).tr D3.q3).hu (by omega), by rw [hu_ne (by omega), k1], by rw [hu_ne (by omega), k1], by rw [hu_ne (by omega), k1], fun k _ _ => by rw [hu_ne (by omega), k4]⟩ (by rw [hu_eq, k1, h4]) ?_ ?_)
    · rw [hu_ne (by omega), k1, rc.alive]
      exact mk_cong fun k hk => by
        unfold lv
        rw [sW _ (by omega)]
        unfold s1W
        rw [if_neg (by omega)]
    · intro k hk
      rw [hu_ne (by omega), hu_ne (by omega), sW _ (by omega), sW _ (by omega), k4, rc.own hk]
      have g1 : s1W N v blk K s L x y K (270 + k) = stW N v blk K s L x y k := by
        unfold s1W; rw [if_pos (by omega), show 270 + k - 270 = k by omega]
      have g2 : s1W N v blk K s L x y K (300 + k) = s (300 + k) := if_neg (by omega)
      rw [g1, g2, u3 k hk]
      refine ⟨?_, rfl⟩
      unfold stW
      rw [hw]
      cases m1 : mA N v blk K s L x y k
      · simp only [Bool.false_eq_true, if_false]
      · rw [mAB hne m1]; simp only [Bool.false_eq_true, if_false, if_true]
  · have hw : won N v blk K s L x y = true := by unfold won; rw [decide_eq_false z]; rfl
    rw [if_neg z, hw]
    obtain ⟨h2, e4, D2, u2⟩ := halveE (h := h1) hK r1.kings (b_mkK (K := K) (p := mB N v blk K s L x y) hK) (u := fun k => s (270 + k)) (fun k hk => r1.str hk)
    obtain ⟨h3, e5, D3, u3⟩ := wearE (h := h2) (lo := fB N v blk K s L x y) hK (by rw [d1 D2]; exact r1.kings) bA (b_mkK (K := K) (p := mA N v blk K s L x y) hK) u2
    simp only [fX5_fight_63, if10, attJ hK, defJ hK, ob_s, e4, e5, fX3_fall, cx, cy, fX5_fight_125, cb_1]
    have k1 : ∀ j, h3 1 j = b 1 j := fun j => by rw [d1 D3, d1 D2, q1.row (by decide)]
    have k4 : ∀ j, h3 4 j = b 4 j := fun j => by rw [d4 D3, d4 D2, q1.row (by decide)]
    have k23 : ∀ j, h3 23 j = b 23 j := fun j => by rw [D3 23 j (by omega) (by omega), D2 23 j (by omega) (by omega), q1.row (by decide)]
    have st3 : ∀ k, k < K → h3 2 k = stW N v blk K s L x y k := fun k hk => by
      rw [u3 k hk]
      unfold stW
      rw [hw]
      cases m1 : mA N v blk K s L x y k
      · simp only [Bool.false_eq_true, if_false, if_true]
      · rw [mAB hne m1]; simp only [Bool.false_eq_true, if_false, if_true]
    generalize hg3 : hu (hu (hu h3 2 y 0) 1 1 ((hu h3 2 y 0) 1 1 &&& (((1 : Int32) <<< (nI y &&& 31)) ^^^ (-1 : Int32)))) 4 y (nI x) = g3
    have v2 : ∀ j, g3 2 j = if j = y then 0 else h3 2 j := fun j => by
      rw [← hg3, hu_ne (by omega), hu_ne (by omega)]
      by_cases e : j = y
      · subst e; rw [hu_eq, if_pos rfl]
      · rw [hu_ne (by omega), if_neg e]
    have v23 : g3 23 2 = s 8 := by
      rw [← hg3, hu_ne (by omega), hu_ne (by omega), hu_ne (by omega), k23]; exact rc.tk
    have v4 : ∀ j, g3 4 j = if j = y then nI x else b 4 j := fun j => by
      rw [← hg3]
      by_cases e : j = y
      · subst e; rw [hu_eq, if_pos rfl]
      · rw [hu_ne (by omega), hu_ne (by omega), hu_ne (by omega), if_neg e, k4]
    have v1 : ∀ j, j ≠ 1 → g3 1 j = b 1 j := fun j hj => by
      rw [← hg3, hu_ne (by omega), hu_ne (by omega), hu_ne (by omega), k1]
    have al3 : g3 1 1 = mk (fun k => lv s k && !decide (k = y)) K := by
      rw [← hg3, hu_ne (by omega), hu_eq, hu_ne (by omega), k1, rc.alive]
      exact oth_e hK hy
    have q3 : Q3 b g3 := by rw [← hg3]; exact ((((q1.q3.tr D2.q3).tr D3.q3).hu (by omega)).hu (by omega)).hu (by omega)
    have vx : g3 2 x = stW N v blk K s L x y x := by rw [v2, if_neg hne, st3 x hx]
    have gE : (if g3 2 x + g3 23 2 * s (270 + y) / (100 : Int32) < 99 then g3 2 x + g3 23 2 * s (270 + y) / (100 : Int32) else 99) = gnW N v blk K s L x y := by
      rw [vx, v23]
      unfold gnW
      rw [Int32.mul_comm (s 8)]
      rcases fa_three (stW N v blk K s L x y x + s (270 + y) * s 8 / 100) 99 with u | u | u
      · rw [if_pos u, if_pos (fa_of_lt u).1]
      · rw [u]; rfl
      · rw [if_neg (fa_of_lt u).2.2.1, if_neg (fa_of_lt u).2.1]
    rw [gE]
    have sW : ∀ i, i ≠ 4 → fiW N v blk K s L x y i = ups (ups (ups (ups (s1W N v blk K s L x y K) (290 + y) 1) (270 + y) 0) (300 + y) (nI x)) (270 + x) (gnW N v blk K s L x y) i := fun i hi => by
      unfold fiW; rw [ups_ne hi, hw, if_pos rfl]
    refine Rs.ok (fin _ ⟨(q3.hu (by omega)).hu (by omega), by rw [hu_ne (by omega), hu_ne (by omega), v1 _ (by omega)], by rw [hu_ne (by omega), hu_ne (by omega), v1 _ (by omega)], by rw [hu_ne (by omega), hu_ne (by omega), v1 _ (by omega)], fun k hk1 hk2 => by rw [hu_ne (by omega), hu_ne (by omega), v4, if_neg (by omega)]⟩ ?_ ?_ ?_)
    · rw [hu_eq, hu_ne (by omega), v1 _ (by omega), h4]
    · rw [hu_ne (by omega), hu_ne (by omega), al3]
      refine mk_cong fun k hk => ?_
      unfold lv
      rw [sW _ (by omega), ups_ne (by omega), ups_ne (by omega), ups_ne (by omega)]
      by_cases e : k = y
      · subst e; rw [ups_eq]; simp
      · rw [ups_ne (by omega)]
        unfold s1W
        rw [if_neg (by omega)]; simp [e]
    · intro k hk
      rw [sW _ (by omega), sW _ (by omega)]
      refine ⟨?_, ?_⟩
      · rw [hu_ne (by omega)]
        by_cases e : k = x
        · subst e; rw [hu_eq, ups_eq]
        · rw [hu_ne (by omega), v2, ups_ne (by omega), ups_ne (by omega)]
          by_cases e2 : k = y
          · subst e2; rw [if_pos rfl, ups_eq]
          · rw [if_neg e2, ups_ne (by omega), ups_ne (by omega), st3 k hk]
            unfold s1W
            rw [if_pos (by omega), show 270 + k - 270 = k by omega]
      · rw [hu_ne (by omega), hu_ne (by omega), v4, ups_ne (by omega)]
        by_cases e : k = y
        · subst e; rw [if_pos rfl, ups_eq]
        · rw [if_neg e, ups_ne (by omega), ups_ne (by omega), ups_ne (by omega), rc.own hk]
          unfold s1W
          rw [if_neg (by omega)]
end ft
