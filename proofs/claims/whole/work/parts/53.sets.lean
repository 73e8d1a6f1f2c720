/-! the calls that set one thing -/
section st
variable {P : PT} {n : Nat} {K : Nat} {s s' : RT} {L : Wld} {b h : HT}
theorem OKs.hi (ok : OKs K s L) (e : ∀ i, i < 310 → s' i = s i) (w : ∀ k o, k < K → o < K → bd (s' (310 + 7 * k + o)) 99 ∧ bd (s' (360 + 7 * k + o)) 3) : OKs K s' L := by
  obtain ⟨K7, s0, wf, b6, b7, b8, sk, sw, s5, sL⟩ := ok
  have hw := wf.2.1
  have hl := wf.1
  refine ⟨K7, by rw [e 0 (by omega)]; exact s0, wf, by rw [e 6 (by omega)]; exact b6, by rw [e 7 (by omega)]; exact b7, by rw [e 8 (by omega)]; exact b8, ?_, w, by rw [e 5 (by omega)]; exact s5, ?_⟩
  · intro k hk
    rw [e (270 + k) (by omega), e (280 + k) (by omega), e (290 + k) (by omega)]; exact sk k hk
  · intro c hc
    have h1 : ln L (c + 1) ≤ ln L L.length := ln_le L (by omega)
    have h2 : ln L (c + 1) = ln L c + (cl L c).2.length := rfl
    refine ⟨by rw [e _ (by omega)]; exact (sL c hc).1, fun i hi => by rw [e _ (by omega)]; exact (sL c hc).2 i hi⟩
theorem RX.hi (X : RX 0 s P K L n b) (e : ∀ i, i < 310 → s' i = s i) (hr : ∀ k, 1 ≤ k → k ≤ 39 → k ≠ 29 → ¬ (6 ≤ k ∧ k < 13) → ¬ (14 ≤ k ∧ k < 21) → k < 32 → h k = b k)
    (hW : ∀ k j, k < K → j < 7 → h (6 + k) j = s' (310 + 7 * k + j) ∧ h (14 + k) j = s' (360 + 7 * k + j) ∧ bd (s' (310 + 7 * k + j)) 99 ∧ bd (s' (360 + 7 * k + j)) 3)
    (hN : ∀ k j, K ≤ k → k < 7 → j < 7 → h (6 + k) j = 10 ∧ h (14 + k) j = 0)
    (hS : ∀ t, t < n → s' (410 + t) = s (410 + t) ∧ s' (420 + t) = s (420 + t))
    (hB : ∀ t k, t < n → k < 7 → h (32 + t) k = s' (430 + 7 * t + k) ∧ bd (s' (430 + 7 * t + k)) 6)
    (hB2 : ∀ t k, n ≤ t → t < 8 → k < 7 → h (32 + t) k = nI k) : RX 0 s' P K L n h := by
  obtain ⟨a0, ⟨b0, b1, b2, b3, b4, b5, b6, b7, b8, b9, b10⟩, a2, a3, a4, a5, a6, a7, a8, a9, a10, a11, a12, T, t1, t2, t3, t4⟩ := X
  have K7 := b0
  have z : ∀ k, 0 + k = k := fun k => Nat.zero_add k
  have r : ∀ k, 1 ≤ k → k ≤ 39 → k ≠ 29 → ¬ (6 ≤ k ∧ k < 13) → ¬ (14 ≤ k ∧ k < 21) → k < 32 → h (0 + k) = b (0 + k) := fun k h1 h2 h3 h4 h5 h6 => by rw [z]; exact hr k h1 h2 h3 h4 h5 h6
  have r1 := r 1 (by omega) (by omega) (by omega) (by omega) (by omega) (by omega)
  have lvE : ∀ k, k < 7 → lv s' k = lv s k := fun k hk => by unfold lv; rw [e _ (by omega)]
  refine ⟨a0.hi e (fun k o hk ho => ⟨(hW k o hk (by omega)).2.2.1, (hW k o hk (by omega)).2.2.2⟩), ⟨b0, by rw [r1]; exact b1, ?_, ?_, fun k j hk hj => ?_, ?_, ?_, ?_, ?_⟩, a2, by rw [e 2 (by omega)]; exact a3, by rw [r1]; exact a4, by rw [r1, e 1 (by omega)]; exact a5, by rw [r1, e 4 (by omega)]; exact a6, ?_, ?_, ?_, ?_, ?_, ?_, T, t1, by rw [e 3 (by omega)]; exact t2, ?_, ?_⟩
  · rw [r1, b2]; exact mk_cong fun k hk => (lvE k (by omega)).symm
  · intro k hk
    rw [r 2 (by omega) (by omega) (by omega) (by omega) (by omega) (by omega), r 3 (by omega) (by omega) (by omega) (by omega) (by omega) (by omega), r 4 (by omega) (by omega) (by omega) (by omega) (by omega) (by omega), e (270 + k) (by omega), e (280 + k) (by omega), e (300 + k) (by omega)]
    exact b3 k hk
  · rw [show 0 + 6 + k = 6 + k by omega, show 0 + 14 + k = 14 + k by omega]
    exact ⟨(hW k j hk (by omega)).1, (hW k j hk (by omega)).2.1⟩
  · rw [r 23 (by omega) (by omega) (by omega) (by omega) (by omega) (by omega), e 6 (by omega)]; exact b5
  · rw [r 23 (by omega) (by omega) (by omega) (by omega) (by omega) (by omega), e 7 (by omega)]; exact b6
  · rw [r 23 (by omega) (by omega) (by omega) (by omega) (by omega) (by omega), e 8 (by omega)]; exact b7
  · have f1 : h (0 + 24 + 1) = b (0 + 24 + 1) := r 25 (by omega) (by omega) (by omega) (by omega) (by omega) (by omega)
    have f2 : h (0 + 24 + 2) = b (0 + 24 + 2) := r 26 (by omega) (by omega) (by omega) (by omega) (by omega) (by omega)
    have f3 : h (0 + 24 + 3) = b (0 + 24 + 3) := r 27 (by omega) (by omega) (by omega) (by omega) (by omega) (by omega)
    have f4 : h (0 + 24 + 4) = b (0 + 24 + 4) := r 28 (by omega) (by omega) (by omega) (by omega) (by omega) (by omega)
    unfold WRow
    rw [f1, f2, f3, f4, r 23 (by omega) (by omega) (by omega) (by omega) (by omega) (by omega), r 24 (by omega) (by omega) (by omega) (by omega) (by omega) (by omega)]
    exact ⟨b8, b9, b10⟩
  · intro t ht
    rw [r 30 (by omega) (by omega) (by omega) (by omega) (by omega) (by omega), (hS t ht).1, (hS t ht).2]
    exact a7 t ht
  · intro t k ht hk
    rw [show 0 + 32 + t = 32 + t by omega]; exact hB t k ht hk
  · intro t k h1 h2 hk
    rw [show 0 + 32 + t = 32 + t by omega]; exact hB2 t k h1 h2 hk
  · intro t ht
    rw [r 30 (by omega) (by omega) (by omega) (by omega) (by omega) (by omega)]; exact a10 t ht
  · intro k j hk hj
    rw [show 0 + 6 + k = 6 + k by omega, show 0 + 14 + k = 14 + k by omega]; exact hW k j hk hj
  · intro k j h1 h2 hj
    rw [show 0 + 6 + k = 6 + k by omega, show 0 + 14 + k = 14 + k by omega, r 4 (by omega) (by omega) (by omega) (by omega) (by omega) (by omega)]
    exact ⟨(hN k j h1 h2 hj).1, (hN k j h1 h2 hj).2, (a12 k j h1 h2 hj).2.2⟩
  · rw [r 21 (by omega) (by omega) (by omega) (by omega) (by omega) (by omega)]; exact t3
  · intro i hi
    rw [r 22 (by omega) (by omega) (by omega) (by omega) (by omega) (by omega), e (10 + i) (by omega)]; exact t4 i hi
theorem IT.e (x : IT P b) (r : ∀ k, k = 0 ∨ k = 30 ∨ (41 ≤ k ∧ k ≤ 79) ∨ k = 91 ∨ k = 95 ∨ k = 101 → h k = b k) (e3 : h 93 3 = b 93 3) (e28 : h 93 28 = b 93 28) : IT P h := by
  obtain ⟨x2, x3, x4, c, c1, c2, c3, c4⟩ := x
  refine ⟨⟨x2.1, x2.2.e (r 30 (by omega)) (r 70 (by omega))⟩, by rw [r 0 (by omega), e3]; exact x3, ?_, c, c1, by rw [r 91 (by omega)]; exact c2, by rw [e28]; exact c3, by rw [r 91 (by omega), r 101 (by omega)]; exact c4⟩
  rw [e3, r 95 (by omega)]
  rcases x4 with x4 | ⟨x4, K', L', n', y⟩
  · exact Or.inl x4
  · exact Or.inr ⟨x4, K', L', n', y.e fun q h1 h2 h3 => r _ (by omega)⟩
theorem out_n {x m : Int32} {k : Nat} (hm : m = nI k) (hk : k < 2 ^ 31) (h : out x m = false) : ∃ j, j ≤ k ∧ x = nI j := by
  unfold out at h
  rw [Bool.or_eq_false_iff, decide_eq_false_iff_not, decide_eq_false_iff_not] at h
  obtain ⟨j, hj, rfl⟩ := nI_of h.1
  have h1 := h.2
  rw [hm, nI_ltI hk hj] at h1
  exact ⟨j, by omega, rfl⟩
theorem nI_bd {j : Nat} {k : Int} (h : (j : Int) ≤ k) (hj : j < 2 ^ 31) : bd (nI j) k := by
  unfold bd; rw [nI_toInt hj]; omega
theorem m_worth (X : Ix P K L n b) (l1 l2 l3 : Int32) : Mu P b (fX11_worth l1 l2 l3) (fX12_worth l1 l2 l3) := by
  have hK := X.K7
  rcases isk K hK l1 with ⟨a, ha, rfl⟩ | n1
  · rcases isk K hK l2 with ⟨c, hc, rfl⟩ | n2
    · have k1 := nIx (show a < 7 by omega) (show c < 7 by omega)
      by_cases e : a = c
      · refine Bo.mu X ⟨-2, fun g q => ?_, fun g q => ?_⟩
        · simp only [fX11_worth, hasE (X.rc q) ha, hasE (X.rc q) hc, ob_s, if10, k1, if_pos e, fX11_worth_38]; exact Rs.ok q
        · simp only [fX12_worth, isKingE hK (X.e0 q) ha, isKingE hK (X.e0 q) hc, ob_s, if10, k1, if_pos e, fX12_worth_33]; exact Rs.ok q
      · cases ho : out l3 99
        · obtain ⟨j, hj, rfl⟩ := out_n (k := 99) rfl (by omega) ho
          have c7a : ck 7 (nI a) = some a := ckI rfl (by omega)
          have c7c : ck 7 (nI c) = some c := ckI rfl (by omega)
          have cw : ck 490 (((310 : Int32) + ((7 : Int32) * nI a)) + nI c) = some (310 + 7 * a + c) := ckW 310 (by omega)
          have wa : b (6 + a) c = b 94 (310 + 7 * a + c) := (X.rc Qw.rfl').wor ha hc
          have g94 : hu b (6 + a) c (nI j) 94 = b 94 := hu_r (by omega)
          have e0 : hu b (6 + a) c (nI j) 94 0 = nI K := by rw [g94]; exact X.s0
          refine ⟨b 94 (310 + 7 * a + c), hu b (6 + a) c (nI j), hu (hu b (6 + a) c (nI j)) 94 (310 + 7 * a + c) (nI j), ?_, ?_, K, L, n, ?_, ?_⟩
          · simp only [fX11_worth, hasE (X.rc Qw.rfl') ha, hasE (X.rc Qw.rfl') hc, ob_s, if10, k1, if_neg e, outE, ho, ifbf, c7a, c7c, wa]
          · simp only [fX12_worth, isKingE hK e0 ha, isKingE hK e0 hc, ob_s, if10, k1, if_neg e, inE, ho, Bool.not_false, ifbt, cw, g94]
          · rw [hu_rw, g94]
            have bl := X.1.2.2.2.2.2.2.2.2
            have n8 := X.n8
            refine X.1.hi (fun i hi => ups_ne (by omega)) (fun k h1 h2 h3 h4 h5 h6 => by rw [hu_r (by omega), hu_r (by omega)]) ?_ ?_ (fun t ht => ⟨ups_ne (by omega), ups_ne (by omega)⟩) ?_ ?_
            · intro k o hk ho
              have old := bl.2.2.2.1 k o hk ho
              rw [show 0 + 6 + k = 6 + k by omega, show 0 + 14 + k = 14 + k by omega] at old
              rw [hu_ne (by omega), hu_r (k' := 14 + k) (by omega), hu_r (k' := 14 + k) (by omega), ups_ne (j := 360 + 7 * k + o) (by omega)]
              by_cases z : k = a ∧ o = c
              · obtain ⟨rfl, rfl⟩ := z
                rw [hu_eq, ups_eq]
                exact ⟨rfl, old.2.1, nI_bd (by omega) (by omega), old.2.2.2⟩
              · rw [hu_ne (by omega), ups_ne (by omega)]; exact old
            · intro k o h1 h2 ho
              have old := bl.2.2.2.2.1 k o h1 h2 ho
              rw [show 0 + 6 + k = 6 + k by omega, show 0 + 14 + k = 14 + k by omega] at old
              rw [hu_ne (by omega), hu_ne (by omega), hu_ne (by omega), hu_ne (by omega)]
              exact ⟨old.1, old.2.1⟩
            · intro t k ht hk
              have old := bl.1 t k ht hk
              rw [show 0 + 32 + t = 32 + t by omega] at old
              rw [hu_ne (by omega), hu_ne (by omega), ups_ne (by omega)]; exact old
            · intro t k h1 h2 hk
              have old := bl.2.1 t k h1 h2 hk
              rw [show 0 + 32 + t = 32 + t by omega] at old
              rw [hu_ne (by omega), hu_ne (by omega)]; exact old
          · exact X.2.e (fun k hk => by rw [hu_r (by omega), hu_r (by omega)]) (by rw [hu_ne (by omega), hu_ne (by omega)]) (by rw [hu_ne (by omega), hu_ne (by omega)])
        · refine Bo.mu X ⟨-2, fun g q => ?_, fun g q => ?_⟩
          · simp only [fX11_worth, hasE (X.rc q) ha, hasE (X.rc q) hc, ob_s, if10, k1, if_neg e, outE, ho, ifbt, fX11_worth_38]; exact Rs.ok q
          · simp only [fX12_worth, isKingE hK (X.e0 q) ha, isKingE hK (X.e0 q) hc, ob_s, if10, k1, if_neg e, inE, ho, Bool.not_true, ifbf, fX12_worth_33]; exact Rs.ok q
    · refine Bo.mu X ⟨-1, fun g q => ?_, fun g q => ?_⟩
      · simp only [fX11_worth, hasE (X.rc q) ha, hasN (X.rc q) n2, ob_s, if10, if_true, fX11_worth_22]; exact Rs.ok q
      · simp only [fX12_worth, isKingE hK (X.e0 q) ha, isKingN hK (X.e0 q) n2, ob_s, if10, if_true, fX12_worth_16]; exact Rs.ok q
  · refine Bo.mu X ⟨-1, fun g q => ?_, fun g q => ?_⟩
    · simp only [fX11_worth, hasN (X.rc q) n1, ob_s, if_true, fX11_worth_22]; exact Rs.ok q
    · simp only [fX12_worth, isKingN hK (X.e0 q) n1, ob_s, if_true, fX12_worth_16]; exact Rs.ok q
end st
