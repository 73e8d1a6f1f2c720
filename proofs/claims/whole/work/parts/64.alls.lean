section als
variable {P : PT} {n : Nat} {K : Nat} {L : Wld} {b g h : HT} {tgt hf : Int32} {kg : Nat}
theorem tal_le (s : RT) : ∀ (l : List Way) (t : Nat × Nat × Nat × Int32), (tal K s L tgt hf kg l t).2.1 ≤ t.2.1 + l.length ∧ (tal K s L tgt hf kg l t).2.2.1 ≤ t.2.2.1 + l.length
  | [], _ => ⟨Nat.le_refl _, Nat.le_refl _⟩
  | x :: l, (W, Q, H, r) => by
    rw [tal]
    have ih := tal_le s l (if quiS K s L x.1 = true then (W + 1, Q + 1, (if holS K s L x = true then H + 1 else H), (if (nI (if hf = 0 then Q else H) = tgt ∧ (hf = 0 ∨ holS K s L x = true)) then nI (x.1 kg) else r)) else (W + 1, Q, H, r))
    refine ⟨Nat.le_trans ih.1 ?_, Nat.le_trans ih.2 ?_⟩
    · rw [List.length_cons]
      cases quiS K s L x.1
      · simp
      · simp; omega
    · rw [List.length_cons]
      cases quiS K s L x.1
      · simp
      · cases holS K s L x
        · simp
        · simp; omega
theorem partsE (X : Ix P K L n b) (hkg : kg < 7) (hlk : (kg < K ∧ lv (b 94) kg = true) ∨ tgt = -1) : ∀ (d i mx : Nat) (w : Nat → Nat) (f : Nat) (g : HT) (t : Nat × Nat × Nat × Int32), i + d = K → d < f → mx ≤ i → t.2.1 + (lvs (b 94) d i mx w).length ≤ 500 → t.2.2.1 + (lvs (b 94) d i mx w).length ≤ 500 → PT4 b t tgt kg hf g → PR K b w i g → Rs (fun h => PT4 b (tal K (b 94) L tgt hf kg (lvs (b 94) d i mx w) t) tgt kg hf h ∧ PR K b w i h) (fX12_parts f (nI i) (nI mx) g) 0
  | 0, i, mx, w, f, g, t, hi, hf', hm, h1, h2, c, p => by
    have hK := X.K7
    obtain ⟨f, rfl⟩ : ∃ n', f = n' + 1 := ⟨f - 1, by omega⟩
    obtain rfl : i = K := by omega
    rw [lvs] at h1 h2 ⊢
    exact leafE X (fX12_parts f) hkg hlk ⟨by omega, by omega⟩ (by omega) c p
  | d + 1, i, mx, w, f, g, t, hi, hf', hm, h1, h2, c, p => by
    have hK := X.K7
    obtain ⟨f, rfl⟩ : ∃ n', f = n' + 1 := ⟨f - 1, by omega⟩
    have hiK : i < K := by omega
    have c7 : ck 7 (nI i) = some i := ckI rfl (by omega)
    have q : Qw b g := c.1
    have ne : ¬ nI i = g 94 0 := by
      rw [X.e0 q, nI_eq (by omega) (by omega)]; omega
    have b1 : nI i + (1 : Int32) = nI (i + 1) := nI_1 i
    rw [lvs] at h1 h2 ⊢
    show Rs _ (fX12_partsb (fX12_parts f) (nI i) (nI mx) g) 0
    simp only [fX12_partsb, if_neg ne, isAliveE hK (X.r94 q) X.s0 hiK, ob_s, c7, b1]
    cases l : lv (b 94) i
    · rw [l] at h1 h2
      simp only [Bool.false_eq_true, if_false] at h1 h2 ⊢
      rw [ifbf]
      have p9 : PR K b w (i + 1) (hu g 99 i 9) := fun k a1 a2 a3 => by
        by_cases z : k = i
        · rw [z, l] at a3; cases a3
        · rw [hu_ne (by omega)]; exact p k (by omega) a2 a3
      obtain ⟨h', e, c', p'⟩ := partsE X hkg hlk d (i + 1) mx w f (hu g 99 i 9) t (by omega) (by omega) (by omega) h1 h2 (PC.s c) p9
      simp only [e, ob_s]
      exact Rs.ok ⟨c', fun k a1 a2 a3 => p' k (by omega) a2 a3⟩
    · rw [l] at h1 h2
      simp only [if_true] at h1 h2 ⊢
      rw [ifbt]
      have inner : ∀ (k v : Nat) (f2 : Nat) (g : HT) (t : Nat × Nat × Nat × Int32), v + k = mx + 1 → k < f2 → t.2.1 + ((List.range' v k).flatMap (fun v => lvs (b 94) d (i + 1) (if v = mx then mx + 1 else mx) (pset w i v))).length ≤ 500 → t.2.2.1 + ((List.range' v k).flatMap (fun v => lvs (b 94) d (i + 1) (if v = mx then mx + 1 else mx) (pset w i v))).length ≤ 500 → PT4 b t tgt kg hf g → PR K b w i g → Rs (fun h => PT4 b (tal K (b 94) L tgt hf kg ((List.range' v k).flatMap (fun v => lvs (b 94) d (i + 1) (if v = mx then mx + 1 else mx) (pset w i v))) t) tgt kg hf h ∧ PR K b w i h) (fX12_partsb_151 (fX12_parts f) f2 (nI i) (nI mx) (nI v) g) 0 := by
        intro k
        induction k with
        | zero =>
          intro v f2 g t hv hf2 h1 h2 c p
          obtain ⟨f2, rfl⟩ : ∃ n', f2 = n' + 1 := ⟨f2 - 1, by omega⟩
          obtain rfl : v = mx + 1 := by omega
          simp only [fX12_partsb_151, if_pos (nI_lt (show mx < mx + 1 by omega) (by omega))]
          exact Rs.ok ⟨c, p⟩
        | succ k ih =>
          intro v f2 g t hv hf2 h1 h2 c p
          obtain ⟨f2, rfl⟩ : ∃ n', f2 = n' + 1 := ⟨f2 - 1, by omega⟩
          have n1 : ¬ nI mx < nI v := nI_nlt (by omega) (by omega)
          rw [List.range'_succ, List.flatMap_cons] at h1 h2 ⊢
          rw [List.length_append] at h1 h2
          rw [tal_app]
          have pv : PR K b (pset w i v) (i + 1) (hu g 99 i (nI v)) := fun k a1 a2 a3 => by
            unfold pset
            by_cases z : k = i
            · subst z; rw [hu_eq, if_pos rfl]
            · rw [hu_ne (by omega), if_neg z]; exact p k (by omega) a2 a3
          have fin : ∀ h', PT4 b (tal K (b 94) L tgt hf kg (lvs (b 94) d (i + 1) (if v = mx then mx + 1 else mx) (pset w i v)) t) tgt kg hf h' → PR K b (pset w i v) (i + 1) h' → Rs (fun h => PT4 b (tal K (b 94) L tgt hf kg ((List.range' (v + 1) k).flatMap (fun v => lvs (b 94) d (i + 1) (if v = mx then mx + 1 else mx) (pset w i v))) (tal K (b 94) L tgt hf kg (lvs (b 94) d (i + 1) (if v = mx then mx + 1 else mx) (pset w i v)) t)) tgt kg hf h ∧ PR K b w i h) (fX12_partsb_151 (fX12_parts f) f2 (nI i) (nI mx) (nI (v + 1)) h') 0 := by
            intro h' c' p'
            have le := tal_le (K := K) (L := L) (tgt := tgt) (hf := hf) (kg := kg) (b 94) (lvs (b 94) d (i + 1) (if v = mx then mx + 1 else mx) (pset w i v)) t
            refine ih (v + 1) f2 h' _ (by omega) (by omega) (by omega) (by omega) c' (fun k a1 a2 a3 => ?_)
            have := p' k (by omega) a2 a3
            unfold pset at this
            rw [if_neg (by omega)] at this
            exact this
          have eqv : (nI v = nI mx) ↔ v = mx := nI_eq (by omega) (by omega)
          simp only [fX12_partsb_151, if_neg n1, c7, ob_s, eqv, fX12_partsb_179, b1, nI_1]
          by_cases z : v = mx
          · rw [if_pos z]
            rw [if_pos z] at h1 h2 fin
            obtain ⟨h', e, c', p'⟩ := partsE X hkg hlk d (i + 1) (mx + 1) (pset w i v) f (hu g 99 i (nI v)) t (by omega) (by omega) (by omega) (by omega) (by omega) (PC.s c) pv
            simp only [e, ob_s]
            rw [if_pos z]
            exact fin h' c' p'
          · rw [if_neg z]
            rw [if_neg z] at h1 h2 fin
            obtain ⟨h', e, c', p'⟩ := partsE X hkg hlk d (i + 1) mx (pset w i v) f (hu g 99 i (nI v)) t (by omega) (by omega) (by omega) (by omega) (by omega) (PC.s c) pv
            simp only [e, ob_s]
            rw [if_neg z]
            exact fin h' c' p'
      exact inner (mx + 1) 0 1000 g t (by omega) (by omega) h1 h2 c p
theorem partsAllE (X : Ix P K L n b) (q : Qw b g) (h6 : ¬ 6 < cnt (b 94) K) (hkg : kg < 7) (hlk : (kg < K ∧ lv (b 94) kg = true) ∨ tgt = -1) (hb : hf = 0 ∨ hf = 1) : Rs (PT4 b (tal K (b 94) L tgt hf kg (allW (b 94) K) (0, 0, 0, -1)) tgt kg hf) (fX12_partsAll tgt (nI kg) hf g) 0 := by
  have hK := X.K7
  have cbh : cb hf = some () := by rcases hb with rfl | rfl <;> rfl
  have hlen : (allW (b 94) K).length ≤ 203 := by
    unfold allW
    rw [lvs_len]
    have : cnt (b 94) 0 = 0 := rfl
    rw [this, Nat.zero_add, Nat.sub_zero]
    exact NB_6 _ (by omega)
  simp only [fX12_partsAll, cbh, ob_s]
  generalize hG : hu (hu (hu (hu (hu (hu (hu (hu (hu g 93 13 2) 93 14 0) 93 19 0) 93 20 0) 93 21 0) 93 22 tgt) 93 23 (nI kg)) 93 24 hf) 93 25 (-1) = G
  have c0 : PT4 b (0, 0, 0, -1) tgt kg hf G := by
    refine ⟨?_, ?_, ?_, ?_, ?_, ?_, ?_, ?_, ?_, ?_⟩
    · rw [← hG]
      exact ((((((((q.pu (by unfold scr; omega)).pu (by unfold scr; omega)).pu (by unfold scr; omega)).pu (by unfold scr; omega)).pu (by unfold scr; omega)).pu (by unfold scr; omega)).pu (by unfold scr; omega)).pu (by unfold scr; omega)).pu (by unfold scr; omega)
    · rw [← hG, hu_ne (by omega), hu_ne (by omega), hu_ne (by omega), hu_ne (by omega), hu_ne (by omega), hu_ne (by omega), hu_ne (by omega), hu_ne (by omega), hu_eq]
    · rw [← hG, hu_ne (by omega), hu_ne (by omega), hu_ne (by omega), hu_ne (by omega), hu_ne (by omega), hu_ne (by omega), hu_ne (by omega), hu_eq]
    · rw [← hG, hu_ne (by omega), hu_ne (by omega), hu_ne (by omega), hu_ne (by omega), hu_ne (by omega), hu_ne (by omega), hu_eq]; rfl
    · rw [← hG, hu_ne (by omega), hu_ne (by omega), hu_ne (by omega), hu_ne (by omega), hu_ne (by omega), hu_eq]; rfl
    · rw [← hG, hu_ne (by omega), hu_ne (by omega), hu_ne (by omega), hu_ne (by omega), hu_eq]; rfl
    · rw [← hG, hu_ne (by omega), hu_ne (by omega), hu_ne (by omega), hu_eq]
    · rw [← hG, hu_ne (by omega), hu_ne (by omega), hu_eq]
    · rw [← hG, hu_ne (by omega), hu_eq]
    · rw [← hG, hu_eq]
  obtain ⟨h', e, c', _⟩ := partsE X hkg hlk K 0 0 (fun _ => 0) 9 G (0, 0, 0, -1) (by omega) (by omega) (by omega) (by show 0 + (allW (b 94) K).length ≤ 500; omega) (by show 0 + (allW (b 94) K).length ≤ 500; omega) c0 (fun k a1 _ _ => absurd a1 (Nat.not_lt_zero k))
  have e' : fX12_parts 9 0 0 G = some (0, h') := e
  simp only [e', ob_s]
  exact Rs.ok c'
theorem tal_W (s : RT) : ∀ (l : List Way) (t : Nat × Nat × Nat × Int32), (tal K s L tgt hf kg l t).1 = t.1 + l.length ∧ (tal K s L tgt hf kg l t).2.1 = t.2.1 + l.countP (fun x => quiS K s L x.1) ∧ (tal K s L tgt hf kg l t).2.2.1 = t.2.2.1 + l.countP (fun x => quiS K s L x.1 && holS K s L x)
  | [], _ => ⟨rfl, rfl, rfl⟩
  | x :: l, (W, Q, H, r) => by
    rw [tal]
    obtain ⟨i1, i2, i3⟩ := tal_W s l (if quiS K s L x.1 = true then (W + 1, Q + 1, (if holS K s L x = true then H + 1 else H), (if (nI (if hf = 0 then Q else H) = tgt ∧ (hf = 0 ∨ holS K s L x = true)) then nI (x.1 kg) else r)) else (W + 1, Q, H, r))
    rw [i1, i2, i3, List.length_cons, List.countP_cons, List.countP_cons]
    cases quiS K s L x.1
    · simp; omega
    · cases holS K s L x
      · simp; omega
      · simp; omega
theorem fnd_none (pr : Way → Bool) : ∀ (l : List Way) (a : Nat), (∀ a', a ≤ a' → a' < a + l.length → ¬ nI a' = tgt) → fnd pr tgt l a = none
  | [], _, _ => rfl
  | x :: l, a, h => by
    rw [List.length_cons] at h
    rw [fnd, if_neg (h a (Nat.le_refl _) (by omega)), fnd_none pr l (a + 1) (fun a' h1 h2 => h a' (by omega) (by omega)), fnd_none pr l a (fun a' h1 h2 => h a' (by omega) (by omega))]
    cases pr x <;> rfl
theorem tal_r (s : RT) : ∀ (l : List Way) (W Q H : Nat) (r : Int32), Q + l.length < 2 ^ 31 → H + l.length < 2 ^ 31 → (tal K s L tgt hf kg l (W, Q, H, r)).2.2.2 = match fnd (prW K s L 1 hf) tgt l (if hf = 0 then Q else H) with
    | some x => nI (x.1 kg)
    | none => r
  | [], _, _, _, _, _, _ => rfl
  | x :: l, W, Q, H, r, h1, h2 => by
    rw [List.length_cons] at h1 h2
    have eP : prW K s L 1 hf x = (quiS K s L x.1 && (decide (hf = 0) || holS K s L x)) := by
      unfold prW
      rw [decide_eq_false (show ¬ (1 : Int32) = 0 by decide), Bool.false_or]
    have none' : ∀ a, a + l.length < 2 ^ 31 → nI a = tgt → fnd (prW K s L 1 hf) tgt l (a + 1) = none := fun a ha e => fnd_none _ l (a + 1) fun a' g1 g2 e2 => by
      rw [← e, nI_eq (by omega) (by omega)] at e2; omega
    rw [tal, fnd, eP]
    cases qv : quiS K s L x.1
    · simp only [Bool.false_and, Bool.false_eq_true, if_false]
      exact tal_r s l (W + 1) Q H r (by omega) (by omega)
    · simp only [Bool.true_and, if_true]
      by_cases z : hf = 0
      · have z1 := tal_r s l (W + 1) (Q + 1) (if holS K s L x = true then H + 1 else H) (if (nI (if hf = 0 then Q else H) = tgt ∧ (hf = 0 ∨ holS K s L x = true)) then nI (x.1 kg) else r) (by omega) (by split <;> omega)
        rw [z1]
        simp only [if_pos z, decide_eq_true z, Bool.true_or, if_true]
        by_cases y : nI Q = tgt
        · rw [none' Q (by omega) y, if_pos y, if_pos ⟨y, Or.inl z⟩]
        · rw [if_neg y, if_neg (fun q => y q.1)]
      · rw [decide_eq_false z, Bool.false_or]
        cases hv : holS K s L x
        · simp only [Bool.false_eq_true, if_false]
          have z1 := tal_r s l (W + 1) (Q + 1) H (if (nI (if hf = 0 then Q else H) = tgt ∧ (hf = 0 ∨ False)) then nI (x.1 kg) else r) (by omega) (by omega)
          rw [z1]
          simp only [if_neg z]
          have : ¬ (nI H = tgt ∧ (hf = 0 ∨ False)) := fun q => by rcases q.2 with q | q; exact z q; exact q
          rw [if_neg this]
        · simp only [if_true]
          have z1 := tal_r s l (W + 1) (Q + 1) (H + 1) (if (nI (if hf = 0 then Q else H) = tgt ∧ (hf = 0 ∨ True)) then nI (x.1 kg) else r) (by omega) (by omega)
          rw [z1]
          simp only [if_neg z]
          by_cases y : nI H = tgt
          · rw [none' H (by omega) y, if_pos y, if_pos ⟨y, Or.inr trivial⟩]
          · rw [if_neg y, if_neg (fun q => y q.1)]
theorem b_all (X : Ix P K L n b) (l1 : Int32) : Bo b (fX11_all l1) (fX12_all l1) := by
  have hK := X.K7
  have c7 := cnt_7 (b 94) hK
  have eC : fb_ct (lv (b 94)) K = cnt (b 94) K := rfl
  have e6 : (nI (cnt (b 94) K) ≤ (6 : Int32)) ↔ cnt (b 94) K ≤ 6 := nI_leI (b := 6) (by omega) (by omega)
  cases ho : out l1 2
  · by_cases z : 6 < cnt (b 94) K
    · refine ⟨-9, fun g q => ?_, fun g q => ?_⟩
      · simp only [fX11_all, outE, ho, ifbf, ob_s, fitsE X q, decide_eq_true z, Bool.not_true]; exact Rs.ok q
      · simp only [fX12_all, inE, ho, Bool.not_false, ifbt, ob_s, aliveE hK (X.r94 q) X.s0, count1E hK, eC, e6, if_neg (show ¬ cnt (b 94) K ≤ 6 by omega)]; exact Rs.ok q
    · have ref : ∀ g, Qw b g → ∃ h', fX12_partsAll (-1) 0 0 g = some (0, h') ∧ PT4 b (tal K (b 94) L (-1) 0 0 (allW (b 94) K) (0, 0, 0, -1)) (-1) 0 0 h' := fun g q => by
        obtain ⟨h', e, c⟩ := partsAllE (tgt := -1) (hf := 0) (kg := 0) X q z (by omega) (Or.inr rfl) (Or.inl rfl)
        exact ⟨h', e, c⟩
      have tw := tal_W (K := K) (L := L) (tgt := -1) (hf := 0) (kg := 0) (b 94) (allW (b 94) K) (0, 0, 0, -1)
      have cp0 : (allW (b 94) K).countP (prW K (b 94) L 0 0) = (allW (b 94) K).length := by
        rw [List.countP_eq_length]
        intro x _
        rfl
      have cp1 : (allW (b 94) K).countP (prW K (b 94) L 1 0) = (allW (b 94) K).countP (fun x => quiS K (b 94) L x.1) := by
        refine List.countP_congr fun x _ => ?_
        unfold prW
        rw [decide_eq_false (show ¬ (1 : Int32) = 0 by decide), decide_eq_true (show (0 : Int32) = 0 from rfl), Bool.false_or, Bool.true_or, Bool.and_true]
      have cp2 : (allW (b 94) K).countP (prW K (b 94) L 1 1) = (allW (b 94) K).countP (fun x => quiS K (b 94) L x.1 && holS K (b 94) L x) := by
        refine List.countP_congr fun x _ => ?_
        unfold prW
        rw [decide_eq_false (show ¬ (1 : Int32) = 0 by decide), Bool.false_or, Bool.false_or]
      rcases out2 ho with rfl | rfl | rfl
      · refine ⟨nI ((allW (b 94) K).countP (prW K (b 94) L 0 0)), fun g q => ?_, fun g q => ?_⟩
        · obtain ⟨h1, e1, q1⟩ := numberE X q z (qf := 0) (hf := 0) (Or.inl rfl) (Or.inl rfl)
          simp only [fX11_all, outE, ho, ifbf, ob_s, fitsE X q, decide_eq_false z, Bool.not_false, ifbt, if_pos (show (0 : Int32) < 1 by decide), fX11_all_45, if_neg (show ¬ (0 : Int32) = 2 by decide), fX11_all_55, e1]
          exact Rs.ok q1
        · obtain ⟨h1, e1, c1⟩ := ref g q
          have v : h1 93 19 = _ := c1.2.2.2.1
          simp only [fX12_all, inE, ho, Bool.not_false, ifbt, ob_s, aliveE hK (X.r94 q) X.s0, count1E hK, eC, e6, if_pos (show cnt (b 94) K ≤ 6 by omega), e1, if_true, fX12_all_60, v, tw.1, cp0, Nat.zero_add]
          exact Rs.ok c1.1
      · refine ⟨nI ((allW (b 94) K).countP (prW K (b 94) L 1 0)), fun g q => ?_, fun g q => ?_⟩
        · obtain ⟨h1, e1, q1⟩ := numberE X q z (qf := 1) (hf := 0) (Or.inr rfl) (Or.inl rfl)
          simp only [fX11_all, outE, ho, ifbf, ob_s, fitsE X q, decide_eq_false z, Bool.not_false, ifbt, if_neg (show ¬ (1 : Int32) < 1 by decide), fX11_all_45, if_neg (show ¬ (1 : Int32) = 2 by decide), fX11_all_55, e1]
          exact Rs.ok q1
        · obtain ⟨h1, e1, c1⟩ := ref g q
          have v : h1 93 20 = _ := c1.2.2.2.2.1
          simp only [fX12_all, inE, ho, Bool.not_false, ifbt, ob_s, aliveE hK (X.r94 q) X.s0, count1E hK, eC, e6, if_pos (show cnt (b 94) K ≤ 6 by omega), e1, if10, if_true, fX12_all_60, v, tw.2.1, cp1, Nat.zero_add]
          exact Rs.ok c1.1
      · refine ⟨nI ((allW (b 94) K).countP (prW K (b 94) L 1 1)), fun g q => ?_, fun g q => ?_⟩
        · obtain ⟨h1, e1, q1⟩ := numberE X q z (qf := 1) (hf := 1) (Or.inr rfl) (Or.inr ⟨rfl, rfl⟩)
          simp only [fX11_all, outE, ho, ifbf, ob_s, fitsE X q, decide_eq_false z, Bool.not_false, ifbt, if_neg (show ¬ (2 : Int32) < 1 by decide), fX11_all_45, if_true, fX11_all_55, e1]
          exact Rs.ok q1
        · obtain ⟨h1, e1, c1⟩ := ref g q
          have v : h1 93 21 = _ := c1.2.2.2.2.2.1
          simp only [fX12_all, inE, ho, Bool.not_false, ifbt, ob_s, aliveE hK (X.r94 q) X.s0, count1E hK, eC, e6, if_pos (show cnt (b 94) K ≤ 6 by omega), e1, if_neg (show ¬ (2 : Int32) = 0 by decide), if_neg (show ¬ (2 : Int32) = 1 by decide), fX12_all_60, v, tw.2.2, cp2, Nat.zero_add]
          exact Rs.ok c1.1
  · refine ⟨-1, fun g q => ?_, fun g q => ?_⟩
    · simp only [fX11_all, outE, ho, ifbt, ob_s]; exact Rs.ok q
    · simp only [fX12_all, inE, ho, Bool.not_true, ifbf, ob_s]; exact Rs.ok q
theorem b_quiet (X : Ix P K L n b) (l1 l2 l3 : Int32) (hl3 : l3 = 0 ∨ l3 = 1) : Bo b (fX11_quiet l1 l2 l3) (fX12_quiet l1 l2 l3) := by
  have hK := X.K7
  have c7 := cnt_7 (b 94) hK
  have eC : fb_ct (lv (b 94)) K = cnt (b 94) K := rfl
  have e6 : (nI (cnt (b 94) K) ≤ (6 : Int32)) ↔ cnt (b 94) K ≤ 6 := nI_leI (b := 6) (by omega) (by omega)
  by_cases yes : ∃ a, a < K ∧ l2 = nI a ∧ lv (b 94) a = true
  · obtain ⟨a, ha, rfl, la⟩ := yes
    have oA : ∀ g, Qw b g → fX12_isAlive (nI a) g = some (1, g) := fun g q => by
      have := isAliveE hK (X.r94 q) X.s0 ha
      rwa [la] at this
    have oL : ∀ g, Qw b g → fX3_lives (nI a) g = some (1, g) := fun g q => by
      have := livesE (X.rc q) ha
      rwa [la] at this
    by_cases z : 6 < cnt (b 94) K
    · refine ⟨-9, fun g q => ?_, fun g q => ?_⟩
      · simp only [fX11_quiet, hasE (X.rc q) ha, oL g q, ob_s, if10, fitsE X q, decide_eq_true z, Bool.not_true, ifbf]; exact Rs.ok q
      · simp only [fX12_quiet, oA g q, ob_s, if10, aliveE hK (X.r94 q) X.s0, count1E hK, eC, e6, if_neg (show ¬ cnt (b 94) K ≤ 6 by omega)]; exact Rs.ok q
    · have hlen : (allW (b 94) K).length ≤ 203 := by
        unfold allW
        rw [lvs_len]
        have : cnt (b 94) 0 = 0 := rfl
        rw [this, Nat.zero_add, Nat.sub_zero]
        exact NB_6 _ (by omega)
      have ca : ck 7 (nI a) = some a := ckI rfl (by omega)
      refine ⟨match fnd (prW K (b 94) L 1 l3) l1 (allW (b 94) K) 0 with | some x => nI (x.1 a) | none => -1, fun g q => ?_, fun g q => ?_⟩
      · obtain ⟨g', e1, q1, q2⟩ := findE (L := L) X q z (tgt := l1) hl3
        simp only [fX11_quiet, hasE (X.rc q) ha, oL g q, ob_s, if10, fitsE X q, decide_eq_false z, Bool.not_false, ifbt, e1, fX8_blockOf, ca, fX11_quiet_73]
        cases r : fnd (prW K (b 94) L 1 l3) l1 (allW (b 94) K) 0 with
        | some x =>
          simp only [ifbt, q2 x r a ha la]
          exact Rs.ok q1
        | none =>
          simp only [ifbf]
          exact Rs.ok q1
      · have go : ∀ tgt, fnd (prW K (b 94) L 1 l3) tgt (allW (b 94) K) 0 = fnd (prW K (b 94) L 1 l3) l1 (allW (b 94) K) 0 → Rs (Qw b) (fX12_quiet_36 (nI a) l3 tgt g) (match fnd (prW K (b 94) L 1 l3) l1 (allW (b 94) K) 0 with | some x => nI (x.1 a) | none => -1) := by
          intro tgt et
          obtain ⟨h1, e1, c1⟩ := partsAllE (tgt := tgt) (hf := l3) (kg := a) X q z (by omega) (Or.inl ⟨ha, la⟩) hl3
          have v : h1 93 25 = _ := c1.2.2.2.2.2.2.2.2.2
          have tr := tal_r (K := K) (L := L) (tgt := tgt) (hf := l3) (kg := a) (b 94) (allW (b 94) K) 0 0 0 (-1) (by omega) (by omega)
          rw [ite_self, et] at tr
          simp only [fX12_quiet_36, e1, ob_s, v, tr]
          exact Rs.ok c1.1
        simp only [fX12_quiet, oA g q, ob_s, if10, aliveE hK (X.r94 q) X.s0, count1E hK, eC, e6, if_pos (show cnt (b 94) K ≤ 6 by omega)]
        by_cases y : 0 ≤ l1
        · rw [if_pos y]; exact go l1 rfl
        · rw [if_neg y]
          refine go (-2) ?_
          rw [fnd_none _ _ _ (fun a' _ h2 e => ?_), fnd_none _ _ _ (fun a' _ h2 e => ?_)]
          · rw [← e] at y
            exact y (nI_pos' (by omega))
          · have := nI_pos' (n := a') (by omega)
            rw [e] at this
            exact absurd this (by decide)
  · refine ⟨-1, fun g q => ?_, fun g q => ?_⟩
    · rcases isk K hK l2 with ⟨a, ha, rfl⟩ | n2
      · have la : lv (b 94) a = false := by
          cases c : lv (b 94) a
          · rfl
          · exact absurd ⟨a, ha, rfl, c⟩ yes
        simp only [fX11_quiet, hasE (X.rc q) ha, livesE (X.rc q) ha, la, ob_s, if10, ifbf, fX11_quiet_22]; exact Rs.ok q
      · simp only [fX11_quiet, hasN (X.rc q) n2, ob_s, if_true, fX11_quiet_22]; exact Rs.ok q
    · rcases isAliveS X q l2 with ⟨a, ha, e, la, _⟩ | ⟨_, e1⟩
      · exact absurd ⟨a, ha, e, la⟩ yes
      · simp only [fX12_quiet, e1, ob_s, if_true]; exact Rs.ok q
end als
