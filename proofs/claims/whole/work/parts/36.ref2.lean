/-! who comes, by the reference -/
theorem sumW_c {p q : Nat → Bool} {f : Nat → Int32} : ∀ {n : Nat}, (∀ k, k < n → p k = q k ∨ f k = 0) → sumW p f n = sumW q f n
  | 0, _ => rfl
  | n + 1, h => by
    rw [sumW, sumW, sumW_c (fun k hk => h k (by omega))]
    rcases h n (by omega) with e | e
    · rw [e]
    · rw [e, Int32.add_zero]; cases p n <;> cases q n <;> rfl
theorem nIx {k x : Nat} (hk : k < 7) (hx : x < 7) : (nI k = nI x) ↔ k = x := nI_eq (by omega) (by omega)
theorem bI_eq (a c : Bool) : (bI a = bI c) ↔ a = c := by cases a <;> cases c <;> decide
section rC
variable {K : Nat} {s : RT} {L : Wld} {b h : HT} {N : Nat} {v : Int32} {blk : Nat → Int32} {x y : Nat}
theorem StR.q (st : StR N v blk b) (q : Qs b h) : StR N v blk h := by
  obtain ⟨a, c, d⟩ := st
  exact ⟨by rw [q.c93 (by decide)]; exact a, by rw [q.c93 (by decide)]; exact c, fun k hk => by rw [q.row (by decide)]; exact d k hk⟩
theorem StR.q8 (st : StR N v blk b) (q : Q8 b h) : StR N v blk h := st.q (Q8.s Qs.rfl' q)
theorem blockOfE (hK : K ≤ 7) (e94 : h 94 = s) (s0 : s 0 = nI K) (st : StR N v blk h) (c : Int32) : fX12_blockOf c h = some (mk (fun k => decide (blk k = c) && lv s k) K, h) := by
  refine loopE (K := K) (F := fun n k => fX12_blockOf_4 n c (mk (fun k => decide (blk k = c) && lv s k) k) (nI k) h) ?_ ?_ K (n := 1000) (i := 0) (by omega) (by omega)
  · intro n k hk
    show fX12_blockOf_4 (n + 1) c _ (nI k) h = fX12_blockOf_4 n c (mk (fun k => decide (blk k = c) && lv s k) (k + 1)) (nI (k + 1)) h
    have c7 : ck 7 (nI k) = some k := ckI rfl (by omega)
    have e := isAliveE hK e94 s0 hk
    simp only [fX12_blockOf_4, e94, if_neg (rgs hK s0 hk), e, ob_s, c7, st.2.2 k (by omega), fX12_blockOf_39, fX12_blockOf_40, nI_1, ← mkS]
    cases lv s k
    · rw [if_pos bI_f, Bool.and_false]; rfl
    · rw [if_neg (by decide), Bool.and_true]
      by_cases q : blk k = c
      · rw [if_pos q, if_pos (decide_eq_true q)]
      · rw [if_neg q, if_neg (by simp [q])]
  · intro n
    simp only [fX12_blockOf_4, e94, if_pos (rxs s0)]
theorem sb_lv (ok : OKs K s L) : sumW (fun k => decide (blk k = blk x) && lv s k) (fun k => s (270 + k)) K = sb s blk K x := by
  obtain ⟨K7, s0, w, b6, b7, b8, sk, _⟩ := ok
  refine sumW_c fun k hk => ?_
  have e := (sk k (by omega)).2.2.2
  unfold lv
  by_cases q : s (290 + k) = 0
  · left; rw [decide_eq_true q, Bool.and_true]
  · right; exact e q
/-- both camps stand -/
def Cm (X Y : Int32) (h : HT) : Prop := h 93 15 = X ∧ h 93 16 = Y
theorem side_mk2 (hK : K ≤ 7) (hx : x < K) (hy : y < K) {p t : Nat → Bool} (hp : ∀ k, k < K → k ≠ x → k ≠ y → p k = (t k && lv s k)) : (mk p K &&& two x y) ||| ((1 : Int32) <<< (nI x &&& 31)) = mk (cA t s x y) K := by
  apply mk_ext (by omega)
  intro i hi
  rw [b_or, b_and, b_two (by omega) (by omega) hi, b_one (by omega) hi, b_mk _ hi (by omega)]
  unfold cA
  by_cases c : i < K
  · by_cases e1 : i = x
    · subst e1; simp [c]
    · by_cases e2 : i = y
      · subst e2; simp [c, e1]
      · simp [hp i c e1 e2, e1, e2, c]
  · have e1 : i ≠ x := by omega
    simp [c, e1]
theorem ends81 (hK : K ≤ 7) (hx : x < K) (hy : y < K) {p p' t t' : Nat → Bool} (q : Qs b h) (c : Cm (mk p K) (mk p' K) h) (hp : ∀ k, k < K → k ≠ x → k ≠ y → p k = (t k && lv s k)) (hp' : ∀ k, k < K → k ≠ x → k ≠ y → p' k = (t' k && lv s k)) :
    Rs (fun h' => Qs b h' ∧ Cm (mk (cA t s x y) K) (mk (cA t' s y x) K) h') (fX12_comesTo_81 (nI x) (nI y) h) 0 := by
  have e1 := side_mk2 (s := s) hK hx hy hp
  have e2 := side_mk2 (s := s) hK hy hx (p := p') (t := t') (fun k hk h1 h2 => hp' k hk h2 h1)
  have e3 : two y x = two x y := by unfold two; rw [Int32.or_comm]
  rw [e3] at e2
  unfold two at e1 e2
  have f1 : ∀ u : Int32, (hu h 93 15 u) 93 16 = h 93 16 := fun u => hu_ne (by decide)
  simp only [fX12_comesTo_81, f1, c.1, c.2, e1, e2]
  refine Rs.ok ⟨(q.pu (Or.inr (Or.inr ⟨rfl, by decide⟩))).pu (Or.inr (Or.inr ⟨rfl, by decide⟩)), ?_, ?_⟩
  · rw [hu_ne (by decide), hu_eq]
  · rw [hu_eq]
theorem mk_and {p p' : Nat → Bool} (hK : K ≤ 7) : mk p K &&& mk p' K = mk (fun k => p k && p' k) K := by
  apply mk_ext (by omega)
  intro i hi
  rw [b_and, b_mk _ hi (by omega), b_mk _ hi (by omega)]
  cases decide (i < K) <;> cases p i <;> rfl
theorem mk_andx {p g : Nat → Bool} {w : Int32} (hK : K ≤ 7) (hw : ∀ i, i < 7 → bt w i = g i) : mk p K &&& w = mk (fun k => g k && p k) K := by
  apply mk_ext (by omega)
  intro i hi
  rw [b_and, b_mk _ hi (by omega)]
  by_cases c : i < K
  · rw [hw i (by omega), decide_eq_true c]; cases p i <;> cases g i <;> rfl
  · simp [c]
theorem sidesE (ok : OKs K s L) (e94 : b 94 = s) (st : StR N v blk b) (hN : N = 2 ∨ N = 4) (q : Qs b h) (hc : Cm 0 0 h) (hx : x < K) (hy : y < K) :
    Rs (fun h' => Qs b h' ∧ Cm (mk (fun k => !decide (blk y = blk x) && decide (blk k = blk x) && lv s k) K) (mk (fun k => (if N = 4 ∧ maj s blk K x = true then !decide (blk k = blk x) else !decide (blk y = blk x) && decide (blk k = blk y)) && lv s k) K) h') (fX12_sides (nI x) (nI y) h) 0 := by
  have hK := ok.1
  have s0 := ok.2.1
  have cx : ck 7 (nI x) = some x := ckI rfl (by omega)
  have cy : ck 7 (nI y) = some y := ckI rfl (by omega)
  have r94 : ∀ {g : HT}, Qs b g → g 94 = s := fun qg => (qg.row (by decide)).trans e94
  have bo : ∀ {g : HT}, Qs b g → ∀ c, fX12_blockOf c g = some (mk (fun k => decide (blk k = c) && lv s k) K, g) := fun qg c => blockOfE hK (r94 qg) s0 (st.q qg) c
  have b99 : ∀ {g : HT}, Qs b g → ∀ {k : Nat}, k < 7 → g 99 k = blk k := fun qg k hk => (st.q qg).2.2 k hk
  have st1 : ∀ {g : HT}, Qs b g → fX12_strengths (mk (fun k => decide (blk k = blk x) && lv s k) K) g = some (sb s blk K x, g) := fun qg => by
    rw [strengthsE hK (r94 qg) s0 (fun k => decide (blk k = blk x) && lv s k) _ (b_mkK hK), sb_lv ok]
  have st2 : ∀ {g : HT}, Qs b g → fX12_strengths (mk (lv s) K) g = some (tt s K, g) := fun qg => by
    rw [strengthsE hK (r94 qg) s0 (lv s) _ (b_mkK hK)]; rfl
  have al : ∀ {g : HT}, Qs b g → fX12_alive g = some (mk (lv s) K, g) := fun qg => aliveE hK (r94 qg) s0
  have pu15 : ∀ {g : HT} {w : Int32}, Qs b g → Qs b (hu g 93 15 w) := fun qg => qg.pu (Or.inr (Or.inr ⟨rfl, by decide⟩))
  have pu16 : ∀ {g : HT} {w : Int32}, Qs b g → Qs b (hu g 93 16 w) := fun qg => qg.pu (Or.inr (Or.inr ⟨rfl, by decide⟩))
  have f62 : ∀ (g : HT) (w w' : Int32), Qs b g → g 93 15 = w → w = mk (fun k => !decide (blk y = blk x) && decide (blk k = blk x) && lv s k) K → w' = mk (fun k => (!decide (blk y = blk x) && decide (blk k = blk y)) && lv s k) K →
      Rs (fun h' => Qs b h' ∧ Cm (mk (fun k => !decide (blk y = blk x) && decide (blk k = blk x) && lv s k) K) (mk (fun k => (if N = 4 ∧ maj s blk K x = true then !decide (blk k = blk x) else !decide (blk y = blk x) && decide (blk k = blk y)) && lv s k) K) h') (fX12_sides_62 (nI x) w' g) 0 := by
    intro g w w' qg g15 ew ew'
    have q1 : Qs b (hu g 93 16 w') := pu16 qg
    have k13 : (hu g 93 16 w') 93 13 = nI N := (st.q q1).1
    have h15 : (hu g 93 16 w') 93 15 = w := by rw [hu_ne (by decide)]; exact g15
    have h16 : (hu g 93 16 w') 93 16 = w' := hu_eq
    unfold fX12_sides_62
    rw [k13]
    rcases hN with rfl | rfl
    · rw [if_neg (show ¬ nI 2 = 4 by decide)]
      unfold fX12_sides_121
      refine Rs.ok ⟨q1, by rw [h15, ew], by rw [h16, ew']; exact mk_cong fun k _ => by simp⟩
    · rw [if_pos (show nI 4 = 4 from rfl)]
      simp only [cx, ob_s, b99 q1 (show x < 7 by omega), bo q1, st1 q1, al q1, st2 q1, fX12_sides_121]
      by_cases m : tt s K < 2 * sb s blk K x
      · have mm : maj s blk K x = true := decide_eq_true m
        rw [if_neg (Int32.not_le.mpr m)]
        refine Rs.ok ⟨pu16 q1, ?_, ?_⟩
        · rw [hu_ne (by decide), h15, ew]
        · rw [hu_eq]
          have e : mk (lv s) K &&& (mk (fun k => decide (blk k = blk x) && lv s k) K ^^^ (-1 : Int32)) = mk (fun k => !decide (blk k = blk x) && lv s k) K := by
            apply mk_ext (by omega)
            intro i hi
            rw [b_and, b_not _ hi, b_mk _ hi (by omega), b_mk _ hi (by omega)]
            cases decide (i < K) <;> cases lv s i <;> simp
          rw [e]
          exact mk_cong fun k _ => by simp [mm]
      · have mm : ¬ (maj s blk K x = true) := by unfold maj; simp [m]
        rw [if_pos (Int32.not_lt.mp m)]
        refine Rs.ok ⟨q1, by rw [h15, ew], by rw [h16, ew']; exact mk_cong fun k _ => by simp [mm]⟩
  simp only [fX12_sides, cx, cy, ob_s, b99 q (show x < 7 by omega), b99 q (show y < 7 by omega)]
  by_cases e : blk x = blk y
  · have e' : blk y = blk x := e.symm
    rw [if_pos e]
    simp only [fX12_sides_20, if_neg (show ¬ (1 : Int32) = 0 by decide), fX12_sides_40]
    refine f62 _ 0 0 (pu15 q) hu_eq ?_ ?_
    · refine Eq.symm ?_
      rw [mk_cong (q := fun _ => false) (fun k _ => by simp [e'])]
      exact (mk_ext (by omega) (fun i hi => by rw [b_0]; simp)).symm
    · refine Eq.symm ?_
      rw [mk_cong (q := fun _ => false) (fun k _ => by simp [e'])]
      exact (mk_ext (by omega) (fun i hi => by rw [b_0]; simp)).symm
  · have e' : ¬ blk y = blk x := fun a => e a.symm
    rw [if_neg e]
    simp only [fX12_sides_20, if_true, cx, ob_s, b99 q (show x < 7 by omega), bo q, fX12_sides_40, cy, b99 (pu15 q) (show y < 7 by omega), bo (pu15 q)]
    refine f62 _ _ _ (pu15 q) hu_eq ?_ ?_
    · exact mk_cong fun k _ => by simp [e']
    · exact mk_cong fun k _ => by simp [e']
def tru6 (N : Nat) (s : RT) (L : Wld) (k o : Nat) : Bool := if N = 6 then decide (costS s L k o ≤ s 6) else true
theorem isTrueE (ok : OKs K s L) (e94 : h 94 = s) (st : StR N v blk h) (hN : N ≤ 6) {k o : Nat} (hk : k < K) (ho : o < K) : Rs (Q8 h) (fX12_isTrue (nI k) (nI o) h) (bI (tru6 N s L k o)) := by
  unfold fX12_isTrue tru6
  rw [st.1]
  by_cases n6 : N = 6
  · subst n6
    obtain ⟨h1, e1, q1⟩ := costR ok e94 Q8.rfl' hk ho
    have w : h1 94 6 = s 6 := by rw [q1 94 (by decide), e94]
    simp only [if_pos (show nI 6 = 6 from rfl), e1, ob_s, w, fX12_isTrue_25, fX12_isTrue_30, cb_0, cb_1, if_true]
    by_cases u : s 6 < costS s L k o
    · rw [if_pos u, decide_eq_false (Int32.not_le.mpr u)]; exact Rs.ok q1
    · rw [if_neg u, decide_eq_true (Int32.not_lt.mp u)]; exact Rs.ok q1
  · rw [if_neg (show ¬ nI N = 6 from fun e => n6 ((nI_eq (b := 6) (by omega) (by omega)).mp e)), if_neg n6]
    simp only [fX12_isTrue_25, fX12_isTrue_30, cb_1, ob_s]
    exact Rs.ok Q8.rfl'
def okw (s : RT) (x y k : Nat) : Bool := lv s k && !decide (k = x) && !decide (k = y)
theorem web89 (hK : K ≤ 7) (e94 : h 94 = s) (s0 : s 0 = nI K) (hx : x < K) (hy : y < K) {k : Nat} (hk : k < K) {c : Int32 → Int32 → Int32 → HT → Option (Int32 × HT)} (P1 P2 : Int32) (u w : Bool) :
    fX12_web_89 c (nI x) (nI y) (nI k) P1 P2 (bI u) (bI w) h = fX12_web_133 c (nI x) (nI y) (nI k) (bI u) (bI w) (bI (okw s x y k && !decide (P1 = 3) && !decide (P2 = 3) && (u != w))) h := by
  have e := isAliveE hK e94 s0 hk
  simp only [fX12_web_89, e, ob_s, nIx (show k < 7 by omega) (show x < 7 by omega), nIx (show k < 7 by omega) (show y < 7 by omega), fX12_web_132, bI_eq]
  unfold okw
  cases lv s k
  · rw [if_pos bI_f]; simp [bI]
  · rw [if_neg (show ¬ bI true = 0 by decide)]
    by_cases e1 : k = x
    · rw [if_pos e1]; simp [e1, bI]
    · rw [if_neg e1]
      by_cases e2 : k = y
      · rw [if_pos e2]; simp [e2, bI]
      · rw [if_neg e2]
        by_cases e3 : P1 = 3
        · rw [if_pos e3]; simp [e3, bI]
        · rw [if_neg e3]
          by_cases e4 : P2 = 3
          · rw [if_pos e4]; simp [e4, bI]
          · rw [if_neg e4]
            cases u <;> cases w <;> simp [e1, e2, e3, e4, bI]
theorem webStep (ok : OKs K s L) (e94 : b 94 = s) (st : StR N v blk b) (hN : N ≤ 6) (q : Qs b h) (hx : x < K) (hy : y < K) {k : Nat} (hk : k < K) {pA pB : Nat → Bool} (hA : pA k = (okw s x y k && wA (pc s k x) (pc s k y) && tru6 N s L k y)) (hB : pB k = (okw s x y k && wB (pc s k x) (pc s k y) && tru6 N s L k x)) (hc : Cm (mk pA k) (mk pB k) h) (n : Nat) :
    ∃ h', (Qs b h' ∧ Cm (mk pA (k + 1)) (mk pB (k + 1)) h') ∧ fX12_web_33 (n + 1) (nI x) (nI y) (nI k) h = fX12_web_33 n (nI x) (nI y) (nI (k + 1)) h' := by
  have hK := ok.1
  have s0 := ok.2.1
  have h94 : h 94 = s := (q.row (by decide)).trans e94
  have cx : ck 490 (((360 : Int32) + (7 : Int32) * nI k) + nI x) = some (360 + 7 * k + x) := ckW 360 (by omega)
  have cy : ck 490 (((360 : Int32) + (7 : Int32) * nI k) + nI y) = some (360 + 7 * k + y) := ckW 360 (by omega)
  have p1 : s (360 + 7 * k + x) = pc s k x := rfl
  have p2 : s (360 + 7 * k + y) = pc s k y := rfl
  have k1 := pact4 ok hk hx
  have k2 := pact4 ok hk hy
  have first : fX12_web_33 (n + 1) (nI x) (nI y) (nI k) h = fX12_web_133 (fX12_web_33 n) (nI x) (nI y) (nI k) (bI (decide (pc s k x = 2))) (bI (decide (pc s k y = 1) || decide (pc s k y = 2))) (bI (okw s x y k && !decide (pc s k x = 3) && !decide (pc s k y = 3) && (decide (pc s k x = 2) != (decide (pc s k y = 1) || decide (pc s k y = 2))))) h := by
    rw [← web89 hK h94 s0 hx hy hk]
    simp only [fX12_web_33, h94, if_neg (rgs hK s0 hk), fX12_pactOf, cx, cy, ob_s, p1, p2, fX12_web_70, fX12_web_84]
    generalize pc s k x = u1
    generalize pc s k y = u2
    by_cases e1 : u1 = 2
    · rw [if_pos e1]
      by_cases e2 : u2 = 1
      · rw [if_pos e2]; simp [e1, e2, bI]
      · rw [if_neg e2]
        by_cases e3 : u2 = 2
        · rw [if_pos e3]; simp [e1, e3, bI]
        · rw [if_neg e3]; simp [e1, e2, e3, bI]
    · rw [if_neg e1]
      by_cases e2 : u2 = 1
      · rw [if_pos e2]; simp [e1, e2, bI]
      · rw [if_neg e2]
        by_cases e3 : u2 = 2
        · rw [if_pos e3]; simp [e1, e3, bI]
        · rw [if_neg e3]; simp [e1, e2, e3, bI]
  rw [first, mk, mk, hA, hB]
  unfold wA wB
  generalize okw s x y k = o
  generalize decide (pc s k x = 3) = a3
  generalize decide (pc s k y = 3) = b3
  generalize decide (pc s k x = 2) = a2
  generalize (decide (pc s k y = 1) || decide (pc s k y = 2)) = b12
  have l4 : nI k + 1 = nI (k + 1) := nI_1 k
  have pu15 : ∀ {g : HT} {w : Int32}, Qs b g → Qs b (hu g 93 15 w) := fun qg => qg.pu (Or.inr (Or.inr ⟨rfl, by decide⟩))
  have pu16 : ∀ {g : HT} {w : Int32}, Qs b g → Qs b (hu g 93 16 w) := fun qg => qg.pu (Or.inr (Or.inr ⟨rfl, by decide⟩))
  have done0 : ∀ (X Y : Int32) (g : HT), Qs b g → Cm X Y g → ∃ h', (Qs b h' ∧ Cm X Y h') ∧ fX12_web_166 (fX12_web_33 n) (nI x) (nI y) (nI k) (bI b12) (bI false) 0 X g = fX12_web_33 n (nI x) (nI y) (nI (k + 1)) h' := by
    intro X Y g qg cg
    refine ⟨hu (hu g 93 15 X) 93 16 Y, ⟨pu16 (pu15 qg), ?_, hu_eq⟩, ?_⟩
    · rw [hu_ne (by decide), hu_eq]
    · have f : (hu g 93 15 X) 93 16 = Y := by rw [hu_ne (by decide)]; exact cg.2
      simp only [fX12_web_166, if_pos bI_f, fX12_web_200, fX12_web_201, Int32.or_zero, f, l4]
  cases ho : (o && !a3 && !b3 && (a2 != b12))
  · have eA : (o && (!a3 && !b3 && a2 && !b12) && tru6 N s L k y) = false := by
      cases o <;> cases a3 <;> cases b3 <;> cases a2 <;> cases b12 <;> first | rfl | cases ho
    have eB : (o && (!a3 && !b3 && !a2 && b12) && tru6 N s L k x) = false := by
      cases o <;> cases a3 <;> cases b3 <;> cases a2 <;> cases b12 <;> first | rfl | cases ho
    rw [eA, eB, if_neg (by decide), if_neg (by decide)]
    simp only [fX12_web_133, if_pos bI_f, fX12_web_165, hc.1]
    exact done0 _ _ h q hc
  · obtain ⟨rfl, rfl, rfl, hab⟩ : o = true ∧ a3 = false ∧ b3 = false ∧ b12 = !a2 := by
      cases o <;> cases a3 <;> cases b3 <;> cases a2 <;> cases b12 <;> simp at ho ⊢
    subst hab
    cases a2
    · simp only [Bool.not_false, Bool.true_and, Bool.and_false, Bool.false_and, Bool.and_true, Bool.false_eq_true, if_false]
      simp only [fX12_web_133, if_neg (show ¬ bI true = 0 by decide), if_pos bI_f, fX12_web_165, fX12_web_166, Int32.or_zero]
      have h15 : hu h 93 15 (h 93 15) = h := by
        funext k' j'
        unfold hu
        by_cases e : k' = 93 ∧ j' = 15
        · rw [if_pos e, e.1, e.2]
        · rw [if_neg e]
      rw [h15]
      obtain ⟨h1, e1, q1⟩ := isTrueE ok h94 (st.q q) hN hk hx
      simp only [e1, ob_s, fX12_web_200, fX12_web_201, hc.2, Int32.or_zero, l4]
      have c15 : h1 93 15 = mk pA k := by rw [q1 93 (by decide)]; exact hc.1
      cases tru6 N s L k x
      · rw [if_pos (show bI false = 0 from rfl)]
        exact ⟨_, ⟨pu16 (Q8.s q q1), by rw [hu_ne (by decide), c15], by rw [hu_eq, if_neg (by decide)]⟩, rfl⟩
      · rw [if_neg (show ¬ bI true = 0 by decide)]
        exact ⟨_, ⟨pu16 (Q8.s q q1), by rw [hu_ne (by decide), c15], by rw [hu_eq, if_pos rfl]⟩, rfl⟩
    · simp only [Bool.not_true, Bool.true_and, Bool.and_false, Bool.false_and, Bool.and_true, Bool.false_eq_true, if_false, Bool.not_false]
      simp only [fX12_web_133, if_neg (show ¬ bI true = 0 by decide), if_pos bI_f, fX12_web_165]
      obtain ⟨h1, e1, q1⟩ := isTrueE ok h94 (st.q q) hN hk hy
      have c1 : Cm (mk pA k) (mk pB k) h1 := ⟨by rw [q1 93 (by decide)]; exact hc.1, by rw [q1 93 (by decide)]; exact hc.2⟩
      simp only [e1, ob_s, hc.1, fX12_web_166, if_neg (show ¬ bI true = 0 by decide), if_pos bI_f, fX12_web_200, fX12_web_201, Int32.or_zero, l4]
      have f16 : ∀ w : Int32, (hu h1 93 15 w) 93 16 = mk pB k := fun w => by rw [hu_ne (by decide)]; exact c1.2
      simp only [f16]
      cases tru6 N s L k y
      · rw [if_pos (show bI false = 0 from rfl)]
        exact ⟨_, ⟨pu16 (pu15 (Q8.s q q1)), by rw [hu_ne (by decide), hu_eq, if_neg (by decide)], by rw [hu_eq]⟩, rfl⟩
      · rw [if_neg (show ¬ bI true = 0 by decide)]
        exact ⟨_, ⟨pu16 (pu15 (Q8.s q q1)), by rw [hu_ne (by decide), hu_eq, if_pos rfl], by rw [hu_eq]⟩, rfl⟩
end rC
