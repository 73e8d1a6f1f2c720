section rD
variable {K : Nat} {s : RT} {L : Wld} {b h : HT} {N : Nat} {v : Int32} {blk : Nat → Int32} {x y : Nat}
theorem mk_f (n : Nat) (hn : n ≤ 7) : mk (fun _ => false) n = 0 := (mk_ext (by omega) (fun i _ => by rw [b_0]; simp)).symm
theorem web_c (hK : K ≤ 7) {t : Nat → Bool} : ∀ k, k < K → k ≠ x → k ≠ y → (okw s x y k && t k) = (t k && lv s k) := by
  intro k _ h1 h2
  unfold okw
  cases lv s k <;> cases t k <;> simp [h1, h2]
theorem webE (ok : OKs K s L) (e94 : b 94 = s) (st : StR N v blk b) (hN : N = 3 ∨ N = 5 ∨ N = 6) (q : Qs b h) (hc : Cm 0 0 h) (hx : x < K) (hy : y < K) :
    ∃ pA pB, (∀ k, k < K → k ≠ x → k ≠ y → pA k = (toA N v blk K s L x y k && lv s k)) ∧ (∀ k, k < K → k ≠ x → k ≠ y → pB k = (toB N v blk K s L x y k && lv s k)) ∧
    Rs (fun h' => Qs b h' ∧ Cm (mk pA K) (mk pB K) h') (fX12_web (nI x) (nI y) h) 0 := by
  have hK := ok.1
  have s0 := ok.2.1
  have r94 : ∀ {g : HT}, Qs b g → g 94 = s := fun qg => (qg.row (by decide)).trans e94
  have sh := st.q q
  have plain : ∀ pA pB : Nat → Bool, (∀ k, pA k = (okw s x y k && wA (pc s k x) (pc s k y) && tru6 N s L k y)) → (∀ k, pB k = (okw s x y k && wB (pc s k x) (pc s k y) && tru6 N s L k x)) → Rs (fun h' => Qs b h' ∧ Cm (mk pA K) (mk pB K) h') (fX12_web_31 (nI x) (nI y) h) 0 := by
    intro pA pB hA hB
    refine loop0 (K := K) (F := fun n k h => fX12_web_33 n (nI x) (nI y) (nI k) h) (fun k h => Qs b h ∧ Cm (mk pA k) (mk pB k) h) (n := 1000) (by omega) ⟨q, hc⟩ ?_ ?_
    · intro n k h hk j
      exact Or.inl (webStep ok e94 st (by omega) j.1 hx hy hk (hA k) (hB k) j.2 n)
    · intro n h j
      simp only [fX12_web_33, r94 j.1, if_pos (rxs s0)]
      exact Rs.ok j
  have n13 : h 93 13 = nI N := sh.1
  have n14 : h 93 14 = v := sh.2.1
  unfold fX12_web
  rcases hN with rfl | rfl | rfl
  · rw [n13, if_neg (show ¬ nI 3 = 5 by decide)]
    refine ⟨_, _, ?_, ?_, plain (fun k => okw s x y k && wA (pc s k x) (pc s k y) && tru6 3 s L k y) (fun k => okw s x y k && wB (pc s k x) (pc s k y) && tru6 3 s L k x) (fun _ => rfl) (fun _ => rfl)⟩
    · intro k hk h1 h2
      rw [← web_c hK k hk h1 h2]; simp [toA, tru6]
    · intro k hk h1 h2
      rw [← web_c hK k hk h1 h2]; simp [toB, tru6]
  · rw [n13, if_pos (show nI 5 = 5 from rfl), n14]
    by_cases c : nI y = v
    · rw [if_pos c, aliveE hK (r94 q) s0]
      simp only [ob_s]
      refine ⟨fun _ => false, fun k => !decide (k = x) && lv s k, ?_, ?_, ?_⟩
      · intro k hk h1 h2; simp [toA, c]
      · intro k hk h1 h2; simp [toB, c, h1]
      · refine Rs.ok ⟨q.pu (Or.inr (Or.inr ⟨rfl, by decide⟩)), ?_, ?_⟩
        · rw [hu_ne (by decide), mk_f K hK]; exact hc.1
        · rw [hu_eq]
          apply mk_andx hK
          intro i hi
          rw [b_not _ (by omega), b_one (by omega) (by omega)]
    · rw [if_neg c]
      refine ⟨_, _, ?_, ?_, plain (fun k => okw s x y k && wA (pc s k x) (pc s k y) && tru6 5 s L k y) (fun k => okw s x y k && wB (pc s k x) (pc s k y) && tru6 5 s L k x) (fun _ => rfl) (fun _ => rfl)⟩
      · intro k hk h1 h2
        rw [← web_c hK k hk h1 h2]; simp [toA, tru6, c]
      · intro k hk h1 h2
        rw [← web_c hK k hk h1 h2]; simp [toB, tru6, c]
  · rw [n13, if_neg (show ¬ nI 6 = 5 by decide)]
    refine ⟨_, _, ?_, ?_, plain (fun k => okw s x y k && wA (pc s k x) (pc s k y) && tru6 6 s L k y) (fun k => okw s x y k && wB (pc s k x) (pc s k y) && tru6 6 s L k x) (fun _ => rfl) (fun _ => rfl)⟩
    · intro k hk h1 h2
      rw [← web_c hK k hk h1 h2]; simp [toA, tru6, Bool.and_assoc]
    · intro k hk h1 h2
      rw [← web_c hK k hk h1 h2]; simp [toB, tru6, Bool.and_assoc]
def fA (N : Nat) (v : Int32) (blk : Nat → Int32) (K : Nat) (s : RT) (L : Wld) (a b : Nat) : Int32 := sumW (mA N v blk K s L a b) (fun k => frc s k (s (280 + b))) K
def fB (N : Nat) (v : Int32) (blk : Nat → Int32) (K : Nat) (s : RT) (L : Wld) (a b : Nat) : Int32 := sumW (mB N v blk K s L a b) (fun k => frc s k (s (280 + b))) K
theorem comesToE (ok : OKs K s L) (e94 : b 94 = s) (st : StR N v blk b) (hN : N ≤ 6) (q : Qs b h) (hx : x < K) (hy : y < K) :
    Rs (fun h' => Qs b h' ∧ Cm (mk (mA N v blk K s L x y) K) (mk (mB N v blk K s L x y) K) h') (fX12_comesTo (nI x) (nI y) h) 0 := by
  have hK := ok.1
  have s0 := ok.2.1
  have r94 : ∀ {g : HT}, Qs b g → g 94 = s := fun qg => (qg.row (by decide)).trans e94
  have pu15 : ∀ {g : HT} {w : Int32}, Qs b g → Qs b (hu g 93 15 w) := fun qg => qg.pu (Or.inr (Or.inr ⟨rfl, by decide⟩))
  have pu16 : ∀ {g : HT} {w : Int32}, Qs b g → Qs b (hu g 93 16 w) := fun qg => qg.pu (Or.inr (Or.inr ⟨rfl, by decide⟩))
  have q0 : Qs b (hu (hu h 93 15 0) 93 16 0) := pu16 (pu15 q)
  have c0 : Cm 0 0 (hu (hu h 93 15 0) 93 16 0) := ⟨by rw [hu_ne (by decide), hu_eq], hu_eq⟩
  unfold fX12_comesTo
  generalize hu (hu h 93 15 0) 93 16 0 = g at *
  rw [(st.q q0).1]
  have c00 : Cm (mk (fun _ => false) K) (mk (fun _ => false) K) g := by rw [mk_f K hK]; exact c0
  have hN' : N = 0 ∨ N = 1 ∨ N = 2 ∨ N = 3 ∨ N = 4 ∨ N = 5 ∨ N = 6 := by omega
  have web : ∀ M, M = N → (M = 3 ∨ M = 5 ∨ M = 6) → Rs (fun h' => Qs b h' ∧ Cm (mk (mA N v blk K s L x y) K) (mk (mB N v blk K s L x y) K) h') (Option.bind (fX12_web (nI x) (nI y) g) fun z6 => fX12_comesTo_81 (nI x) (nI y) z6.2) 0 := by
    intro M e hM
    subst e
    obtain ⟨pA, pB, hA, hB, a⟩ := webE ok e94 st hM q0 c0 hx hy
    refine Rs.bind a fun h1 q1 => ?_
    exact ends81 hK hx hy q1.1 q1.2 hA hB
  have sid : ∀ M, M = N → (M = 2 ∨ M = 4) → Rs (fun h' => Qs b h' ∧ Cm (mk (mA N v blk K s L x y) K) (mk (mB N v blk K s L x y) K) h') (fX12_comesTo_58 (nI x) (nI y) g) 0 := by
    intro M e hM
    subst e
    unfold fX12_comesTo_58
    refine Rs.bind (sidesE ok e94 st hM q0 c0 hx hy) fun h1 q1 => ?_
    refine ends81 hK hx hy q1.1 q1.2 (fun k _ _ _ => ?_) (fun k _ _ _ => ?_)
    · rcases hM with rfl | rfl <;> simp [toA]
    · rcases hM with rfl | rfl <;> simp [toB]
  rcases hN' with rfl | rfl | rfl | rfl | rfl | rfl | rfl
  · rw [if_pos (show nI 0 = 0 from rfl), aliveE hK (r94 q0) s0]
    simp only [ob_s, mk_andx hK b_85]
    rw [aliveE hK (r94 (pu15 q0)) s0]
    simp only [ob_s, mk_andx hK b_42]
    exact ends81 hK hx hy (pu16 (pu15 q0)) (p := fun k => decide (k % 2 = 0) && lv s k) (p' := fun k => decide (k % 2 = 1) && lv s k) ⟨by rw [hu_ne (by decide), hu_eq], by rw [hu_eq]⟩ (fun k _ _ _ => by simp [toA]) (fun k _ _ _ => by simp [toB])
  · rw [if_neg (show ¬ nI 1 = 0 by decide), if_neg (show ¬ nI 1 = 2 by decide), if_neg (show ¬ nI 1 = 4 by decide), if_pos (show nI 1 = 1 from rfl)]
    exact ends81 hK hx hy q0 c00 (fun k _ _ _ => by simp [toA]) (fun k _ _ _ => by simp [toB])
  · rw [if_neg (show ¬ nI 2 = 0 by decide), if_pos (show nI 2 = 2 from rfl)]
    exact sid 2 rfl (Or.inl rfl)
  · rw [if_neg (show ¬ nI 3 = 0 by decide), if_neg (show ¬ nI 3 = 2 by decide), if_neg (show ¬ nI 3 = 4 by decide), if_neg (show ¬ nI 3 = 1 by decide)]
    exact web 3 rfl (by omega)
  · rw [if_neg (show ¬ nI 4 = 0 by decide), if_neg (show ¬ nI 4 = 2 by decide), if_pos (show nI 4 = 4 from rfl)]
    exact sid 4 rfl (Or.inr rfl)
  · rw [if_neg (show ¬ nI 5 = 0 by decide), if_neg (show ¬ nI 5 = 2 by decide), if_neg (show ¬ nI 5 = 4 by decide), if_neg (show ¬ nI 5 = 1 by decide)]
    exact web 5 rfl (by omega)
  · rw [if_neg (show ¬ nI 6 = 0 by decide), if_neg (show ¬ nI 6 = 2 by decide), if_neg (show ¬ nI 6 = 4 by decide), if_neg (show ¬ nI 6 = 1 by decide)]
    exact web 6 rfl (by omega)
/-- both sums stand too -/
def Sm (N : Nat) (v : Int32) (blk : Nat → Int32) (K : Nat) (s : RT) (L : Wld) (x y : Nat) (b h : HT) : Prop := Qs b h ∧ Cm (mk (mA N v blk K s L x y) K) (mk (mB N v blk K s L x y) K) h ∧ h 93 17 = fA N v blk K s L x y ∧ h 93 18 = fB N v blk K s L x y
theorem sumsE (ok : OKs K s L) (e94 : b 94 = s) (st : StR N v blk b) (hN : N ≤ 6) (q : Qs b h) (hx : x < K) (hy : y < K) :
    Rs (Sm N v blk K s L x y b) (fX12_sums (nI x) (nI y) h) 0 := by
  have hK := ok.1
  have s0 := ok.2.1
  have r94 : ∀ {g : HT}, Qs b g → g 94 = s := fun qg => (qg.row (by decide)).trans e94
  have pu17 : ∀ {g : HT} {w : Int32}, Qs b g → Qs b (hu g 93 17 w) := fun qg => qg.pu (Or.inr (Or.inr ⟨rfl, by decide⟩))
  have pu18 : ∀ {g : HT} {w : Int32}, Qs b g → Qs b (hu g 93 18 w) := fun qg => qg.pu (Or.inr (Or.inr ⟨rfl, by decide⟩))
  have cy : ck 490 ((280 : Int32) + nI y) = some (280 + y) := ckO 280 (by omega)
  unfold fX12_sums
  refine Rs.bind (comesToE ok e94 st hN q hx hy) fun h1 q1 => ?_
  unfold Sm fA fB
  generalize mA N v blk K s L x y = pA at *
  generalize mB N v blk K s L x y = pB at *
  generalize hf : (fun k => frc s k (s (280 + y))) = f at *
  have hf' : ∀ k, frc s k (s (280 + y)) = f k := fun k => by rw [← hf]
  refine loop0 (K := K) (F := fun n k h => fX12_sums_18 n (nI y) (nI k) h) (fun k h => Qs b h ∧ Cm (mk pA K) (mk pB K) h ∧ h 93 17 = sumW pA f k ∧ h 93 18 = sumW pB f k) (n := 1000) (by omega) ⟨pu18 (pu17 q1.1), ⟨by rw [hu_ne (by decide), hu_ne (by decide)]; exact q1.2.1, by rw [hu_ne (by decide), hu_ne (by decide)]; exact q1.2.2⟩, by rw [hu_ne (by decide), hu_eq]; rfl, by rw [hu_eq]; rfl⟩ ?_ ?_
  · intro n k g hk ⟨qg, cm, e17, e18⟩
    refine Or.inl ?_
    show ∃ h', (Qs b h' ∧ Cm (mk pA K) (mk pB K) h' ∧ h' 93 17 = sumW pA f (k + 1) ∧ h' 93 18 = sumW pB f (k + 1)) ∧ fX12_sums_18 (n + 1) (nI y) (nI k) g = fX12_sums_18 n (nI y) (nI (k + 1)) h'
    have ea := b_mkK (K := K) (p := pA) hK k hk
    have eb := b_mkK (K := K) (p := pB) hK k hk
    have one : ∀ w, w = sumW pA f (k + 1) → ∃ h', (Qs b h' ∧ Cm (mk pA K) (mk pB K) h' ∧ h' 93 17 = sumW pA f (k + 1) ∧ h' 93 18 = sumW pB f (k + 1)) ∧ (if ((hu g 93 17 w 93 16 >>> (nI k &&& 31)) &&& (1 : Int32)) = 1 then (Option.bind (fX12_forceOf (nI k) (s (280 + y)) (hu g 93 17 w)) fun z6 => fX12_sums_104 (fX12_sums_18 n) (nI y) (nI k) z6.1 (hu g 93 17 w 93 18) z6.2) else (fX12_sums_104 (fX12_sums_18 n) (nI y) (nI k) 0 (hu g 93 17 w 93 18) (hu g 93 17 w))) = fX12_sums_18 n (nI y) (nI (k + 1)) h' := by
      intro w hw
      have q2 : Qs b (hu g 93 17 w) := pu17 qg
      have c2 : Cm (mk pA K) (mk pB K) (hu g 93 17 w) := ⟨by rw [hu_ne (by decide)]; exact cm.1, by rw [hu_ne (by decide)]; exact cm.2⟩
      have g18 : hu g 93 17 w 93 18 = sumW pB f k := by rw [hu_ne (by decide)]; exact e18
      refine ⟨hu (hu g 93 17 w) 93 18 (sumW pB f (k + 1)), ⟨pu18 q2, ⟨by rw [hu_ne (by decide)]; exact c2.1, by rw [hu_ne (by decide)]; exact c2.2⟩, by rw [hu_ne (by decide), hu_eq, hw], by rw [hu_eq]⟩, ?_⟩
      rw [c2.2, g18, forceOfE hK (r94 q2) hk]
      simp only [ob_s, fX12_sums_104, nI_1, hf']
      rw [sumW]
      cases c : pB k
      · rw [c] at eb
        rw [if_neg (b_n1 (by omega) eb), if_neg (by decide), Int32.add_zero]
      · rw [c] at eb
        rw [if_pos (b_t1 (by omega) eb), if_pos rfl]
    simp only [fX12_sums_18, r94 qg, if_neg (rgs hK s0 hk), cm.1, cy, ob_s, forceOfE hK (r94 qg) hk, hf', e17, fX12_sums_64, r94 (pu17 qg)]
    cases c : pA k
    · rw [c] at ea
      rw [if_neg (b_n1 (by omega) ea)]
      exact one _ (by rw [sumW, c, if_neg (by decide), Int32.add_zero])
    · rw [c] at ea
      rw [if_pos (b_t1 (by omega) ea)]
      exact one _ (by rw [sumW, c, if_pos rfl])
  · intro n g j
    simp only [fX12_sums_18, r94 j.1, if_pos (rxs s0)]
    exact Rs.ok j
end rD
