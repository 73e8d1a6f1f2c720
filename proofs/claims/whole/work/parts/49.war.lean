/-! a war that is fought -/
theorem wAB (p q : Int32) : wA p q = true → wB p q = false := by
  unfold wA wB
  cases decide (p = 3) <;> cases decide (q = 3) <;> cases decide (p = 2) <;> cases (decide (q = 1) || decide (q = 2)) <;> simp
section wr
variable {N : Nat} {v : Int32} {blk : Nat → Int32} {K : Nat} {s s' : RT} {L : Wld} {r : SR} {b h : HT} {x y : Nat}
theorem toAB {k : Nat} (ht : toA N v blk K s L x y k = true) : toB N v blk K s L x y k = false := by
  unfold toA at ht
  unfold toB
  by_cases n0 : N = 0
  · rw [if_pos n0] at ht ⊢
    rw [decide_eq_true_eq] at ht
    exact decide_eq_false (by omega)
  · rw [if_neg n0] at ht ⊢
    by_cases n1 : N = 1
    · rw [if_pos n1] at ht; cases ht
    · rw [if_neg n1] at ht ⊢
      by_cases n24 : N = 2 ∨ N = 4
      · rw [if_pos n24, Bool.and_eq_true] at ht
        rw [if_pos n24]
        have e2 : blk k = blk x := of_decide_eq_true ht.2
        by_cases m : N = 4 ∧ maj s blk K x = true
        · rw [if_pos m, decide_eq_true e2]; rfl
        · rw [if_neg m, e2]
          cases c : decide (blk y = blk x)
          · have : ¬ blk x = blk y := fun e => (of_decide_eq_false c) e.symm
            rw [decide_eq_false this]; rfl
          · rfl
      · rw [if_neg n24] at ht
        rw [if_neg n24, if_neg (fun m => n24 (Or.inr m.1))]
        by_cases n3 : N = 3
        · rw [if_pos n3] at ht ⊢; exact wAB _ _ ht
        · rw [if_neg n3] at ht ⊢
          by_cases n5 : N = 5
          · rw [if_pos n5, Bool.and_eq_true] at ht
            rw [if_pos n5, wAB _ _ ht.2]
            cases c : decide (nI y = v)
            · rfl
            · rw [c] at ht; exact absurd ht.1 (by decide)
          · rw [if_neg n5, Bool.and_eq_true] at ht
            rw [if_neg n5, wAB _ _ ht.1]; rfl
theorem mAB (hne : x ≠ y) {k : Nat} (ht : mA N v blk K s L x y k = true) : mB N v blk K s L x y k = false := by
  unfold mA cA at ht
  unfold mB cA
  by_cases e : k = x
  · subst e; simp [hne]
  · rw [decide_eq_false e, Bool.false_or, Bool.and_eq_true, Bool.and_eq_true, Bool.and_eq_true] at ht
    have e2 : ¬ k = y := of_decide_eq_true ht.2
    rw [toAB ht.1.1.1, decide_eq_false e2]; rfl
theorem mA_lv (lx : lv s x = true) {k : Nat} (ht : mA N v blk K s L x y k = true) : lv s k = true := by
  unfold mA cA at ht
  by_cases e : k = x
  · rw [e]; exact lx
  · rw [decide_eq_false e, Bool.false_or, Bool.and_eq_true, Bool.and_eq_true, Bool.and_eq_true] at ht
    exact ht.1.1.2
theorem mB_lv (ly : lv s y = true) {k : Nat} (ht : mB N v blk K s L x y k = true) : lv s k = true := by
  unfold mB cA at ht
  by_cases e : k = y
  · rw [e]; exact ly
  · rw [decide_eq_false e, Bool.false_or, Bool.and_eq_true, Bool.and_eq_true, Bool.and_eq_true] at ht
    exact ht.1.1.2
theorem frc_bd (ok : OKs K s L) {k : Nat} (hk : k < 7) {p : Int32} (hp : bd p 40) : bd (frc s k p) 99000 := by
  have a := (ok.2.2.2.2.2.2.1 k hk)
  have b7 := ok.2.2.2.2.1
  have a1 := a.1
  have a2 := a.2.1
  have e0 : (0 : Int32).toInt = 0 := by decide
  have e1 : (1000 : Int32).toInt = 1000 := by decide
  unfold frc frcX absd
  generalize s (270 + k) = u at *
  generalize s (280 + k) = w at *
  generalize s 7 = l at *
  unfold bd at *
  have d1 : (w - p).toInt = w.toInt - p.toInt := fb_subI (by omega) (by omega)
  have d2 : ∃ D : Int32, (if 0 ≤ w - p then w - p else 0 - (w - p)) = D ∧ 0 ≤ D.toInt ∧ D.toInt ≤ 40 := by
    by_cases z : 0 ≤ w - p
    · refine ⟨_, if_pos z, ?_⟩
      rw [fa_le, e0, d1] at z
      rw [d1]; omega
    · refine ⟨_, if_neg z, ?_⟩
      rw [fa_le, e0, d1] at z
      rw [fb_subI (by rw [e0, d1]; omega) (by rw [e0, d1]; omega), e0, d1]; omega
  obtain ⟨D, eD, D0, D1⟩ := d2
  rw [eD]
  have m1 : (u * 1000).toInt = u.toInt * 1000 := by
    have := fb_mulI (x := u) (y := 1000) (by rw [e1]; omega) (by rw [e1]; omega)
    rw [this, e1]
  have p0 : 0 ≤ l.toInt * D.toInt := Int.mul_nonneg (by omega) D0
  have p1 : l.toInt * D.toInt ≤ 999 * 40 := by
    have h1 : l.toInt * D.toInt ≤ 999 * D.toInt := Int.mul_le_mul_of_nonneg_right (by omega) D0
    omega
  have m2 : (l * D).toInt = l.toInt * D.toInt := fb_mulI (by omega) (by omega)
  generalize l.toInt * D.toInt = T at *
  have m3 : (u * 1000 - l * D).toInt = u.toInt * 1000 - T := by rw [fb_subI, m1, m2] <;> rw [m1, m2] <;> omega
  by_cases z : 0 < u * 1000 - l * D
  · rw [if_pos z]
    rw [fa_lt, e0, m3] at z
    rw [m3]; omega
  · rw [if_neg z, e0]; omega
theorem fA_bd (ok : OKs K s L) (hy : y < 7) : bd (fA N v blk K s L x y) 693000 := by
  have hK := ok.1
  have a := sumW_bd (p := mA N v blk K s L x y) (f := fun k => frc s k (s (280 + y))) (m := 99000) (by decide) (by decide) (n := K) (by omega) (fun k hk => frc_bd ok (by omega) (ok.2.2.2.2.2.2.1 y hy).2.1)
  unfold fA
  unfold bd at *
  omega
theorem fB_bd (ok : OKs K s L) (hy : y < 7) : bd (fB N v blk K s L x y) 693000 := by
  have hK := ok.1
  have a := sumW_bd (p := mB N v blk K s L x y) (f := fun k => frc s k (s (280 + y))) (m := 99000) (by decide) (by decide) (n := K) (by omega) (fun k hk => frc_bd ok (by omega) (ok.2.2.2.2.2.2.1 y hy).2.1)
  unfold fB
  unfold bd at *
  omega
theorem bd_nI {u : Int32} {n : Int} (h : bd u n) (hn : n < 2147483648) : ∃ a : Nat, u = nI a ∧ (a : Int) ≤ n := by
  have e0 : (0 : Int32).toInt = 0 := by decide
  unfold bd at h
  obtain ⟨j, hj, rfl⟩ := nI_of (x := u) (by rw [fa_lt, e0]; omega)
  rw [nI_toInt hj] at h
  exact ⟨j, rfl, h.2⟩
/-- what wearing leaves -/
def wr (u lo W : Int32) : Int32 := if 0 < W then u - (u * lo) / (2 * W) else u
theorem wr_n {a c d : Nat} (ha : a ≤ 99) (hc : c ≤ 693000) (hd : d ≤ 693000) (h0 : 0 < d) (hcd : c ≤ d) : (nI a * nI c) / (2 * nI d) = nI (a * c / (2 * d)) ∧ a * c / (2 * d) ≤ a ∧ a * c ≤ 99 * 693000 := by
  have e2 : (2 : Int32) * nI d = nI (2 * d) := nI_mul 2 d
  have m : a * c ≤ 99 * 693000 := Nat.mul_le_mul ha hc
  refine ⟨?_, ?_, m⟩
  · rw [nI_mul, e2, nI_div (by omega) (by omega)]
  · have : a * c ≤ a * (2 * d) := Nat.mul_le_mul_left a (by omega)
    exact Nat.div_le_of_le_mul (by rw [Nat.mul_comm (2 * d) a]; exact this)
theorem wr_bd {u lo W : Int32} (hu : bd u 99) (hl : bd lo 693000) (hW : bd W 693000) (hle : lo ≤ W) : bd (wr u lo W) 99 := by
  obtain ⟨a, rfl, ha⟩ := bd_nI hu (by decide)
  obtain ⟨c, rfl, hc⟩ := bd_nI hl (by decide)
  obtain ⟨d, rfl, hd⟩ := bd_nI hW (by decide)
  rw [nI_leI (by omega) (by omega)] at hle
  unfold wr
  by_cases z : 0 < nI d
  · have z' : nI 0 < nI d := z
    rw [nI_ltI (by omega) (by omega)] at z'
    obtain ⟨e, l, m⟩ := wr_n (a := a) (c := c) (d := d) (by omega) (by omega) (by omega) z' hle
    rw [if_pos z, e, nI_sub l]
    generalize a * c / (2 * d) = q at *
    unfold bd
    rw [nI_toInt (by omega)]
    omega
  · rw [if_neg z]; exact hu
/-- the same through longs -/
theorem wr_L {u lo W : Int32} (hu : bd u 99) (hl : bd lo 693000) (hW : bd W 693000) (hle : lo ≤ W) (h0 : ¬ lg_cmp W.toInt64 0 = 0) : nzl ((2 : Int64) * W.toInt64) = some () ∧ u - ((u.toInt64 * lo.toInt64) / ((2 : Int64) * W.toInt64)).toInt32 = wr u lo W := by
  obtain ⟨a, rfl, ha⟩ := bd_nI hu (by decide)
  obtain ⟨c, rfl, hc⟩ := bd_nI hl (by decide)
  obtain ⟨d, rfl, hd⟩ := bd_nI hW (by decide)
  rw [nI_leI (by omega) (by omega)] at hle
  rw [lg_cmp_eq, nI_l (by omega)] at h0
  have h0' : ¬ lN d = lN 0 := h0
  rw [lN_eq (by omega) (by omega)] at h0'
  obtain ⟨e, l, m⟩ := wr_n (a := a) (c := c) (d := d) (by omega) (by omega) (by omega) (by omega) hle
  rw [nI_l (show a < 2 ^ 31 by omega), nI_l (show c < 2 ^ 31 by omega), nI_l (show d < 2 ^ 31 by omega)]
  have e2 : (2 : Int64) * lN d = lN (2 * d) := lN_mul 2 d
  rw [e2, lN_mul]
  have dv : lN (a * c) / lN (2 * d) = lN (a * c / (2 * d)) := by
    apply Int64.toInt_inj.mp
    have hq : a * c / (2 * d) ≤ a * c := Nat.div_le_self _ _
    rw [Int64.toInt_div, lN_toInt (by omega), lN_toInt (by omega), lN_toInt (show a * c / (2 * d) < 2 ^ 31 by omega), ← Int.ofNat_tdiv]
    generalize a * c / (2 * d) = w at *
    exact fb_bmodL (by omega) (by omega)
  refine ⟨?_, ?_⟩
  · unfold nzl
    rw [if_neg]
    intro z
    have z' : lN (2 * d) = lN 0 := z
    rw [lN_eq (by omega) (by omega)] at z'
    omega
  · rw [dv, lN_i]
    unfold wr
    rw [if_pos (show (0 : Int32) < nI d from nI_lt (a := 0) (by omega) (by omega)), e]
theorem wr_0 {u lo W : Int32} (hW : bd W 693000) (h0 : lg_cmp W.toInt64 0 = 0) : wr u lo W = u := by
  obtain ⟨d, rfl, hd⟩ := bd_nI hW (by decide)
  rw [lg_cmp_eq, nI_l (by omega)] at h0
  have h0' : lN d = lN 0 := h0
  rw [lN_eq (by omega) (by omega)] at h0'
  subst h0'
  exact if_neg (by decide)
theorem half_bd {u : Int32} (hu : bd u 99) : bd (u / 2) 99 := by
  obtain ⟨a, rfl, ha⟩ := bd_nI hu (by decide)
  have e : nI a / (2 : Int32) = nI (a / 2) := nI_div (b := 2) (by omega) (by omega)
  rw [e]
  unfold bd
  rw [nI_toInt (by omega)]
  omega
/-- whether the attackers win; the strengths behind the war; the row behind it -/
def won (N : Nat) (v : Int32) (blk : Nat → Int32) (K : Nat) (s : RT) (L : Wld) (x y : Nat) : Bool := !decide (fA N v blk K s L x y ≤ fB N v blk K s L x y)
def stW (N : Nat) (v : Int32) (blk : Nat → Int32) (K : Nat) (s : RT) (L : Wld) (x y k : Nat) : Int32 :=
  if mA N v blk K s L x y k = true then (if won N v blk K s L x y = true then wr (s (270 + k)) (fB N v blk K s L x y) (fA N v blk K s L x y) else s (270 + k) / 2)
  else if mB N v blk K s L x y k = true then (if won N v blk K s L x y = true then s (270 + k) / 2 else wr (s (270 + k)) (fA N v blk K s L x y) (fB N v blk K s L x y))
  else s (270 + k)
def s1W (N : Nat) (v : Int32) (blk : Nat → Int32) (K : Nat) (s : RT) (L : Wld) (x y : Nat) (m : Nat) : RT := fun i => if 270 ≤ i ∧ i < 270 + m then stW N v blk K s L x y (i - 270) else s i
def gnW (N : Nat) (v : Int32) (blk : Nat → Int32) (K : Nat) (s : RT) (L : Wld) (x y : Nat) : Int32 := if stW N v blk K s L x y x + (s (270 + y) * s 8) / 100 ≤ 99 then stW N v blk K s L x y x + (s (270 + y) * s 8) / 100 else 99
def fiW (N : Nat) (v : Int32) (blk : Nat → Int32) (K : Nat) (s : RT) (L : Wld) (x y : Nat) : RT :=
  ups (if won N v blk K s L x y = true then ups (ups (ups (ups (s1W N v blk K s L x y K) (290 + y) 1) (270 + y) 0) (300 + y) (nI x)) (270 + x) (gnW N v blk K s L x y) else s1W N v blk K s L x y K) 4 (s 4 + 1)
theorem stW_bd (ok : OKs K s L) (hy : y < 7) {k : Nat} (hk : k < 7) : bd (stW N v blk K s L x y k) 99 := by
  have a := (ok.k7 k hk).1
  have b1 := fA_bd (N := N) (v := v) (blk := blk) (x := x) ok hy
  have b2 := fB_bd (N := N) (v := v) (blk := blk) (x := x) ok hy
  unfold stW won
  by_cases z : fA N v blk K s L x y ≤ fB N v blk K s L x y
  · rw [decide_eq_true z]
    simp only [Bool.not_true, Bool.false_eq_true, if_false]
    by_cases m1 : mA N v blk K s L x y k = true
    · rw [if_pos m1]; exact half_bd a
    · rw [if_neg m1]
      by_cases m2 : mB N v blk K s L x y k = true
      · rw [if_pos m2]; exact wr_bd a b1 b2 z
      · rw [if_neg m2]; exact a
  · rw [decide_eq_false z]
    simp only [Bool.not_false, if_true]
    have z2 : fB N v blk K s L x y ≤ fA N v blk K s L x y := Int32.le_of_lt (Int32.not_le.mp z)
    by_cases m1 : mA N v blk K s L x y k = true
    · rw [if_pos m1]; exact wr_bd a b2 b1 z2
    · rw [if_neg m1]
      by_cases m2 : mB N v blk K s L x y k = true
      · rw [if_pos m2]; exact half_bd a
      · rw [if_neg m2]; exact a
theorem stW_dead (ok : OKs K s L) (lx : lv s x = true) (ly : lv s y = true) {k : Nat} (hk : k < 7) (hl : s (290 + k) ≠ 0) : stW N v blk K s L x y k = 0 := by
  have ld : ¬ lv s k = true := fun e => hl (lv_0 e)
  unfold stW
  rw [if_neg (fun m => ld (mA_lv lx m)), if_neg (fun m => ld (mB_lv ly m))]
  exact (ok.k7 k hk).2.2 hl
theorem gnW_bd (ok : OKs K s L) (hx : x < 7) (hy : y < 7) : bd (gnW N v blk K s L x y) 99 := by
  have a := stW_bd (N := N) (v := v) (blk := blk) (x := x) ok hy hx
  have c := (ok.k7 y hy).1
  have b8 := ok.2.2.2.2.2.1
  unfold gnW
  obtain ⟨p, e1, hp⟩ := bd_nI a (by decide)
  obtain ⟨q, e2, hq⟩ := bd_nI c (by decide)
  obtain ⟨t, e3, ht⟩ := bd_nI b8 (by decide)
  have m : q * t ≤ 99 * 999 := Nat.mul_le_mul (by omega) (by omega)
  have hd : q * t / 100 ≤ q * t := Nat.div_le_self _ _
  have e4 : nI (q * t) / (100 : Int32) = nI (q * t / 100) := nI_div (b := 100) (by omega) (by omega)
  rw [e1, e2, e3, nI_mul, e4, nI_add]
  generalize q * t / 100 = w at *
  by_cases z : nI (p + w) ≤ 99
  · rw [if_pos z]
    have z' : nI (p + w) ≤ nI 99 := z
    rw [nI_leI (by omega) (by omega)] at z'
    unfold bd
    rw [nI_toInt (by omega)]
    omega
  · rw [if_neg z]; exact ⟨by decide, by decide⟩
theorem fiW_n {i : Nat} (hK : K ≤ 7) (hx : x < 7) (hy : y < 7) (h : ¬ chg i) : fiW N v blk K s L x y i = s i := by
  unfold chg at h
  unfold fiW
  rw [ups_ne (by omega)]
  cases won N v blk K s L x y
  · rw [if_neg (by decide)]; exact if_neg (by omega)
  · rw [if_pos rfl, ups_ne (by omega), ups_ne (by omega), ups_ne (by omega), ups_ne (by omega)]; exact if_neg (by omega)
theorem fiW_ok (ok : OKs K s L) (hx : x < K) (hy : y < K) (hne : x ≠ y) (lx : lv s x = true) (ly : lv s y = true) : OKs K (fiW N v blk K s L x y) L := by
  have hK := ok.1
  refine ok.ch (fun i hi => fiW_n hK (by omega) (by omega) hi) fun k hk => ?_
  have a := ok.k7 k hk
  have s1k : bd (s1W N v blk K s L x y K (270 + k)) 99 ∧ (s (290 + k) ≠ 0 → s1W N v blk K s L x y K (270 + k) = 0) := by
    unfold s1W
    by_cases c : k < K
    · rw [if_pos (by omega), show 270 + k - 270 = k by omega]
      exact ⟨stW_bd ok (by omega) hk, fun n => stW_dead ok lx ly hk n⟩
    · rw [if_neg (by omega)]; exact ⟨a.1, a.2.2⟩
  have s1l : s1W N v blk K s L x y K (290 + k) = s (290 + k) := if_neg (by omega)
  unfold fiW
  rw [ups_ne (by omega), ups_ne (by omega)]
  cases won N v blk K s L x y
  · rw [if_neg (by decide), s1l]; exact ⟨s1k.1, a.2.1, s1k.2⟩
  · rw [if_pos rfl]
    by_cases e : k = y
    · subst e
      have f1 : ∀ W : Int32, ups (ups (ups (ups (s1W N v blk K s L x k K) (290 + k) 1) (270 + k) 0) (300 + k) (nI x)) (270 + x) W (270 + k) = 0 := fun W => by rw [ups_ne (by omega), ups_ne (by omega), ups_eq]
      have f2 : ∀ W : Int32, ups (ups (ups (ups (s1W N v blk K s L x k K) (290 + k) 1) (270 + k) 0) (300 + k) (nI x)) (270 + x) W (290 + k) = 1 := fun W => by rw [ups_ne (by omega), ups_ne (by omega), ups_ne (by omega), ups_eq]
      rw [f1, f2]
      exact ⟨⟨by decide, by decide⟩, Or.inr rfl, fun _ => rfl⟩
    · have f2 : ∀ W : Int32, ups (ups (ups (ups (s1W N v blk K s L x y K) (290 + y) 1) (270 + y) 0) (300 + y) (nI x)) (270 + x) W (290 + k) = s (290 + k) := fun W => by rw [ups_ne (by omega), ups_ne (by omega), ups_ne (by omega), ups_ne (by omega)]; exact s1l
      rw [f2]
      by_cases e2 : k = x
      · subst e2
        rw [ups_eq]
        exact ⟨gnW_bd ok (by omega) (by omega), a.2.1, fun n => absurd (lv_0 lx) n⟩
      · rw [ups_ne (by omega), ups_ne (by omega), ups_ne (by omega), ups_ne (by omega)]
        exact ⟨s1k.1, a.2.1, s1k.2⟩
end wr
