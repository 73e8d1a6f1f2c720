section ld
variable {P : PT} {n : Nat} {N : Nat} {v : Int32} {blk : Nat → Int32} {K : Nat} {s s' : RT} {L : Wld} {r : SR} {b h : HT} {x y : Nat}
theorem s1W_0 : s1W N v blk K s L x y 0 = s := funext fun i => if_neg (by omega)
theorem s1W_s (k : Nat) : ups (s1W N v blk K s L x y k) (270 + k) (stW N v blk K s L x y k) = s1W N v blk K s L x y (k + 1) := by
  funext i
  unfold ups s1W
  by_cases e : i = 270 + k
  · rw [if_pos e, if_pos (by omega), e, show 270 + k - 270 = k by omega]
  · rw [if_neg e]
    by_cases c : 270 ≤ i ∧ i < 270 + k
    · rw [if_pos c, if_pos (by omega)]
    · rw [if_neg c, if_neg (by omega)]
theorem s1W_k (k : Nat) : s1W N v blk K s L x y k (270 + k) = s (270 + k) := if_neg (by omega)
theorem s1W_e {k : Nat} (h : stW N v blk K s L x y k = s (270 + k)) : s1W N v blk K s L x y (k + 1) = s1W N v blk K s L x y k := by
  rw [← s1W_s, h]
  funext i
  unfold ups
  by_cases e : i = 270 + k
  · rw [if_pos e, e, s1W_k]
  · rw [if_neg e]
theorem leadsE (hr : HR N v blk K s L b) (hx : x < K) (hy : y < K) (hne : x ≠ y) (lx : lv s x = true) (ly : lv s y = true) : Rs (fun h => HR N v blk K (fiW N v blk K s L x y) L h ∧ D1 94 b h) (fX12_leads (nI x) (nI y) b) (bI (won N v blk K s L x y)) := by
  have hK := hr.K7
  have ok := hr.1
  obtain ⟨h1, e1, m1⟩ := sumsE hr.1 hr.2.1 hr.2.2.1 hr.2.2.2 Qs.rfl' hx hy
  have hr1 := hr.q m1.1
  have c270y : ck 490 ((270 : Int32) + nI y) = some (270 + y) := ckO 270 (by omega)
  have c270x : ck 490 ((270 : Int32) + nI x) = some (270 + x) := ckO 270 (by omega)
  have c290y : ck 490 ((290 : Int32) + nI y) = some (290 + y) := ckO 290 (by omega)
  have c300y : ck 490 ((300 : Int32) + nI y) = some (300 + y) := ckO 300 (by omega)
  have bA := fA_bd (N := N) (v := v) (blk := blk) (x := x) ok (show y < 7 by omega)
  have bB := fB_bd (N := N) (v := v) (blk := blk) (x := x) ok (show y < 7 by omega)
  have key : ∀ (w : Bool) (l3 lo W : Int32), l3 = bI w → w = won N v blk K s L x y → (lo = if w = true then fB N v blk K s L x y else fA N v blk K s L x y) → (W = if w = true then fA N v blk K s L x y else fB N v blk K s L x y) → Rs (fun h => HR N v blk K (fiW N v blk K s L x y) L h ∧ D1 94 b h) (fX12_leads_87 1000 (nI x) (nI y) l3 lo.toInt64 W.toInt64 (s (270 + y) * s 8 / (100 : Int32)) 0 h1) (bI w) := by
    intro w l3 lo W hl3 hw hlo hW
    subst hl3
    have blo : bd lo 693000 := by
      rw [hlo]
      cases w
      · rw [if_neg (by decide)]; exact bA
      · rw [if_pos rfl]; exact bB
    have bW : bd W 693000 := by
      rw [hW]
      cases w
      · rw [if_neg (by decide)]; exact bB
      · rw [if_pos rfl]; exact bA
    have hle : lo ≤ W := by
      rw [hlo, hW]
      cases w
      · rw [if_neg (by decide), if_neg (by decide)]
        have z := hw.symm
        unfold won at z
        cases c : decide (fA N v blk K s L x y ≤ fB N v blk K s L x y)
        · rw [c] at z; cases z
        · exact of_decide_eq_true c
      · rw [if_pos rfl, if_pos rfl]; exact wear_le hw.symm
    refine loop0 (K := K) (F := fun n k g => fX12_leads_87 n (nI x) (nI y) (bI w) lo.toInt64 W.toInt64 (s (270 + y) * s 8 / (100 : Int32)) (nI k) g) (fun k g => D1 94 h1 g ∧ g 94 = s1W N v blk K s L x y k ∧ g 93 = h1 93) (n := 1000) (by omega) ⟨D1.rfl', by rw [s1W_0]; exact hr1.2.1, rfl⟩ ?_ ?_
    · intro n k g hk ⟨dg, g94, g93⟩
      left
      show ∃ h', (D1 94 h1 h' ∧ h' 94 = s1W N v blk K s L x y (k + 1) ∧ h' 93 = h1 93) ∧ fX12_leads_87 (n + 1) (nI x) (nI y) (bI w) lo.toInt64 W.toInt64 _ (nI k) g = fX12_leads_87 n (nI x) (nI y) (bI w) lo.toInt64 W.toInt64 _ (nI (k + 1)) h'
      have c7 : ck 490 ((270 : Int32) + nI k) = some (270 + k) := ckO 270 (by omega)
      have g15 : g 93 15 = mk (mA N v blk K s L x y) K := by rw [g93]; exact m1.2.1.1
      have g16 : g 93 16 = mk (mB N v blk K s L x y) K := by rw [g93]; exact m1.2.1.2
      have eA := b_mkK (K := K) (p := mA N v blk K s L x y) hK k hk
      have eB := b_mkK (K := K) (p := mB N v blk K s L x y) hK k hk
      have gk : g 94 (270 + k) = s (270 + k) := by rw [g94, s1W_k]
      have g0 : g 94 0 = nI K := by rw [g94]; show s1W N v blk K s L x y k 0 = _; unfold s1W; rw [if_neg (by omega)]; exact ok.2.1
      have bk := (ok.k7 k (by omega)).1
      have stE : stW N v blk K s L x y k = if mA N v blk K s L x y k = true then (if w = true then wr (s (270 + k)) lo W else s (270 + k) / 2) else if mB N v blk K s L x y k = true then (if w = true then s (270 + k) / 2 else wr (s (270 + k)) lo W) else s (270 + k) := by
        unfold stW
        rw [← hw, hlo, hW]
        cases w <;> simp only [Bool.false_eq_true, if_false, if_true]
      have put : ∀ z, z = stW N v blk K s L x y k → ∃ h', (D1 94 h1 h' ∧ h' 94 = s1W N v blk K s L x y (k + 1) ∧ h' 93 = h1 93) ∧ fX12_leads_212 (fX12_leads_87 n) (nI x) (nI y) (bI w) lo.toInt64 W.toInt64 (s (270 + y) * s 8 / (100 : Int32)) (nI k) z ((270 : Int32) + nI k) g = fX12_leads_87 n (nI x) (nI y) (bI w) lo.toInt64 W.toInt64 (s (270 + y) * s 8 / (100 : Int32)) (nI (k + 1)) h' := by
        intro z hz
        refine ⟨hu g 94 (270 + k) z, ⟨dg.hu, by rw [hu_rw, g94, hz, s1W_s], by rw [hu_r (by omega)]; exact g93⟩, ?_⟩
        simp only [fX12_leads_212, c7, ob_s, fX12_leads_213, nI_1]
      have wear : wr (s (270 + k)) lo W = stW N v blk K s L x y k → ∃ h', (D1 94 h1 h' ∧ h' 94 = s1W N v blk K s L x y (k + 1) ∧ h' 93 = h1 93) ∧ (if lg_cmp W.toInt64 0 = 0 then fX12_leads_204 (fX12_leads_87 n) (nI x) (nI y) (bI w) lo.toInt64 W.toInt64 (s (270 + y) * s 8 / (100 : Int32)) (nI k) 0 (s (270 + k)) ((270 : Int32) + nI k) g else (Option.bind (nzl ((2 : Int64) * W.toInt64)) fun _ => fX12_leads_204 (fX12_leads_87 n) (nI x) (nI y) (bI w) lo.toInt64 W.toInt64 (s (270 + y) * s 8 / (100 : Int32)) (nI k) ((((s (270 + k)).toInt64 * lo.toInt64) / ((2 : Int64) * W.toInt64)).toInt32) (s (270 + k)) ((270 : Int32) + nI k) g)) = fX12_leads_87 n (nI x) (nI y) (bI w) lo.toInt64 W.toInt64 (s (270 + y) * s 8 / (100 : Int32)) (nI (k + 1)) h' := by
        intro hz
        by_cases z : lg_cmp W.toInt64 0 = 0
        · rw [if_pos z]
          unfold fX12_leads_204
          rw [Int32.sub_zero]
          exact put _ (by rw [← hz, wr_0 bW z])
        · obtain ⟨w1, w2⟩ := wr_L bk blo bW hle z
          rw [if_neg z, w1]
          simp only [ob_s]
          unfold fX12_leads_204
          rw [w2]
          exact put _ hz
      have mid : ∀ (inA inB : Bool), inA = mA N v blk K s L x y k → inB = mB N v blk K s L x y k → ∃ h', (D1 94 h1 h' ∧ h' 94 = s1W N v blk K s L x y (k + 1) ∧ h' 93 = h1 93) ∧ fX12_leads_136 (fX12_leads_87 n) (nI x) (nI y) (bI w) lo.toInt64 W.toInt64 (s (270 + y) * s 8 / (100 : Int32)) (nI k) (bI inA) (bI inB) g = fX12_leads_87 n (nI x) (nI y) (bI w) lo.toInt64 W.toInt64 (s (270 + y) * s 8 / (100 : Int32)) (nI (k + 1)) h' := by
        intro inA inB hA hB
        rw [← hA, ← hB] at stE
        simp only [fX12_leads_136, c7, ob_s, gk, fX12_leads_161, bI_eq, fX12_leads_213, nI_1]
        cases inA
        · simp only [ifbf]
          cases inB
          · simp only [ifbf]
            refine ⟨g, ⟨dg, ?_, g93⟩, rfl⟩
            rw [g94, s1W_e]
            rw [stE]; simp only [Bool.false_eq_true, if_false]
          · simp only [ifbt]
            cases w
            · rw [if_pos rfl]
              exact wear (by rw [stE]; simp only [Bool.false_eq_true, if_false, if_true])
            · rw [if_neg (by decide)]
              exact put _ (by rw [stE]; simp only [Bool.false_eq_true, if_false, if_true])
        · simp only [ifbt]
          cases w
          · rw [if_neg (by decide)]
            exact put _ (by rw [stE]; simp only [Bool.false_eq_true, if_false, if_true])
          · rw [if_pos rfl]
            exact wear (by rw [stE]; simp only [Bool.false_eq_true, if_false, if_true])
      have n0 : ¬ g 94 0 ≤ nI k := by rw [g0]; exact nI_ge hk (by omega)
      simp only [fX12_leads_87, if_neg n0, g15, fX12_leads_116, g16]
      cases cA : mA N v blk K s L x y k
      · rw [cA] at eA
        rw [if_neg (b_n1 (by omega) eA)]
        cases cB : mB N v blk K s L x y k
        · rw [cB] at eB
          rw [if_neg (b_n1 (by omega) eB)]
          exact mid false false cA.symm cB.symm
        · rw [cB] at eB
          rw [if_pos (b_t1 (by omega) eB)]
          exact mid false true cA.symm cB.symm
      · rw [cA] at eA
        rw [if_pos (b_t1 (by omega) eA)]
        cases cB : mB N v blk K s L x y k
        · rw [cB] at eB
          rw [if_neg (b_n1 (by omega) eB)]
          exact mid true false cA.symm cB.symm
        · rw [cB] at eB
          rw [if_pos (b_t1 (by omega) eB)]
          exact mid true true cA.symm cB.symm
    · intro n g ⟨dg, g94, g93⟩
      have g0 : g 94 0 ≤ nI K := by rw [g94]; show s1W N v blk K s L x y K 0 ≤ _; unfold s1W; rw [if_neg (by omega), ok.2.1]; exact Int32.le_refl _
      have d0 : D1 94 b g := (D1.rfl'.q m1.1).tr dg
      have fin : ∀ {g' : HT}, D1 94 b g' → g' 94 = fiW N v blk K s L x y → HR N v blk K (fiW N v blk K s L x y) L g' ∧ D1 94 b g' := by
        intro g' d e
        refine ⟨⟨fiW_ok ok hx hy hne lx ly, e, ⟨?_, ?_, ?_⟩, hr.2.2.2⟩, d⟩
        · rw [d 93 13 (by omega) (by omega)]; exact hr.2.2.1.1
        · rw [d 93 14 (by omega) (by omega)]; exact hr.2.2.1.2.1
        · intro k hk; rw [d 99 k (by omega) (by omega)]; exact hr.2.2.1.2.2 k hk
      have s4 : s1W N v blk K s L x y K 4 = s 4 := if_neg (by omega)
      simp only [fX12_leads_87, if_pos g0, c290y, c270y, c270x, c300y, ob_s, fX12_leads_294, fX12_leads_295]
      cases w
      · rw [ifbf, ifbf]
        unfold fX12_leads_314
        refine Rs.ok (fin d0.hu ?_)
        rw [hu_rw, g94, s4]
        unfold fiW
        rw [← hw, if_neg (by decide)]
      · rw [ifbt]
        generalize hg3 : hu (hu (hu g 94 (290 + y) 1) 94 (270 + y) 0) 94 (300 + y) (nI x) = g3
        have d3 : D1 94 b g3 := by rw [← hg3]; exact d0.hu.hu.hu
        have r3 : g3 94 = ups (ups (ups (s1W N v blk K s L x y K) (290 + y) 1) (270 + y) 0) (300 + y) (nI x) := by
          rw [← hg3, hu_rw, hu_rw, hu_rw, g94]
        have gx : g3 94 (270 + x) = stW N v blk K s L x y x := by
          rw [r3, ups_ne (by omega), ups_ne (by omega), ups_ne (by omega)]
          unfold s1W
          rw [if_pos (by omega), show 270 + x - 270 = x by omega]
        have f4 : ∀ W : Int32, hu g3 94 (270 + x) W 94 4 = s 4 := fun W => by
          rw [hu_rw, ups_ne (by omega), r3, ups_ne (by omega), ups_ne (by omega), ups_ne (by omega), s4]
        have last : ∀ W, W = gnW N v blk K s L x y → Rs (fun h => HR N v blk K (fiW N v blk K s L x y) L h ∧ D1 94 b h) (fX12_leads_314 1 (hu (hu g3 94 (270 + x) W) 94 4 ((hu g3 94 (270 + x) W) 94 4 + (1 : Int32)))) (bI true) := by
          intro W hW'
          unfold fX12_leads_314
          refine Rs.ok (fin d3.hu.hu ?_)
          rw [f4, hu_rw, hu_rw, r3, hW']
          unfold fiW
          rw [← hw, if_pos rfl]
        rw [gx]
        by_cases z : stW N v blk K s L x y x + s (270 + y) * s 8 / 100 ≤ 99
        · rw [if_pos z, ifbt]
          exact last _ (by unfold gnW; rw [if_pos z])
        · rw [if_neg z, ifbt]
          exact last _ (by unfold gnW; rw [if_neg z])
  have s8 : h1 94 8 = s 8 := by rw [hr1.2.1]
  have sy : h1 94 (270 + y) = s (270 + y) := by rw [hr1.2.1]
  simp only [fX12_leads, e1, ob_s, m1.2.2.1, m1.2.2.2, fX12_leads_22, fX12_leads_40, fX12_leads_59, c270y, s8, sy, if10, if_true]
  by_cases z : fA N v blk K s L x y ≤ fB N v blk K s L x y
  · have hw : won N v blk K s L x y = false := by unfold won; rw [decide_eq_true z]; rfl
    rw [if_pos z, hw]
    exact key false 0 _ _ bI_f.symm hw.symm rfl rfl
  · have hw : won N v blk K s L x y = true := by unfold won; rw [decide_eq_false z]; rfl
    rw [if_neg z, hw]
    exact key true 1 _ _ bI_t.symm hw.symm rfl rfl
end ld
