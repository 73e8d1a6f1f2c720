section st2
variable {P : PT} {n : Nat} {K : Nat} {s s' : RT} {L : Wld} {b h : HT}
theorem m_pact (X : Ix P K L n b) (l1 l2 l3 : Int32) : Mu P b (fX11_pact l1 l2 l3) (fX12_pact l1 l2 l3) := by
  have hK := X.K7
  rcases isk K hK l1 with ⟨a, ha, rfl⟩ | n1
  · rcases isk K hK l2 with ⟨c, hc, rfl⟩ | n2
    · have k1 := nIx (show a < 7 by omega) (show c < 7 by omega)
      by_cases e : a = c
      · refine Bo.mu X ⟨-2, fun g q => ?_, fun g q => ?_⟩
        · simp only [fX11_pact, hasE (X.rc q) ha, hasE (X.rc q) hc, ob_s, if10, k1, if_pos e, fX11_pact_37]; exact Rs.ok q
        · simp only [fX12_pact, isKingE hK (X.e0 q) ha, isKingE hK (X.e0 q) hc, ob_s, if10, k1, if_pos e, fX12_pact_32]; exact Rs.ok q
      · cases ho : out l3 3
        · obtain ⟨j, hj, rfl⟩ := out_n (k := 3) rfl (by omega) ho
          have c7a : ck 7 (nI a) = some a := ckI rfl (by omega)
          have c7c : ck 7 (nI c) = some c := ckI rfl (by omega)
          have cw : ck 490 (((360 : Int32) + ((7 : Int32) * nI a)) + nI c) = some (360 + 7 * a + c) := ckW 360 (by omega)
          have wa : b (14 + a) c = b 94 (360 + 7 * a + c) := (X.rc Qw.rfl').pac ha hc
          have g94 : hu b (14 + a) c (nI j) 94 = b 94 := hu_r (by omega)
          have e0 : hu b (14 + a) c (nI j) 94 0 = nI K := by rw [g94]; exact X.s0
          refine ⟨b 94 (360 + 7 * a + c), hu b (14 + a) c (nI j), hu (hu b (14 + a) c (nI j)) 94 (360 + 7 * a + c) (nI j), ?_, ?_, K, L, n, ?_, ?_⟩
          · simp only [fX11_pact, hasE (X.rc Qw.rfl') ha, hasE (X.rc Qw.rfl') hc, ob_s, if10, k1, if_neg e, outE, ho, ifbf, c7a, c7c, wa]
          · simp only [fX12_pact, isKingE hK e0 ha, isKingE hK e0 hc, ob_s, if10, k1, if_neg e, inE, ho, Bool.not_false, ifbt, cw, g94]
          · rw [hu_rw, g94]
            have bl := X.1.2.2.2.2.2.2.2.2
            have n8 := X.n8
            refine X.1.hi (fun i hi => ups_ne (by omega)) (fun k h1 h2 h3 h4 h5 h6 => by rw [hu_r (by omega), hu_r (by omega)]) ?_ ?_ (fun t ht => ⟨ups_ne (by omega), ups_ne (by omega)⟩) ?_ ?_
            · intro k o hk ho
              have old := bl.2.2.2.1 k o hk ho
              rw [show 0 + 6 + k = 6 + k by omega, show 0 + 14 + k = 14 + k by omega] at old
              rw [hu_r (k' := 6 + k) (by omega), hu_r (k' := 6 + k) (by omega), hu_ne (by omega), ups_ne (j := 310 + 7 * k + o) (by omega)]
              by_cases z : k = a ∧ o = c
              · obtain ⟨rfl, rfl⟩ := z
                rw [hu_eq, ups_eq]
                exact ⟨old.1, rfl, old.2.2.1, nI_bd (by omega) (by omega)⟩
              · rw [hu_ne (by omega), ups_ne (by omega)]; exact old
            · intro k o h1 h2 ho
              have old := bl.2.2.2.2.1 k o h1 h2 ho
              rw [show 0 + 6 + k = 6 + k by omega, show 0 + 14 + k = 14 + k by omega] at old
              rw [hu_ne (by omega), hu_ne (by omega), hu_ne (by omega), hu_ne (by omega)]
              exact ⟨old.1, old.2.1⟩
            · intro t k ht hk
              have old := bl.1 t k ht hk
              rw [show 0 + 32 + t = 32 + t by omega] at old
              rw [hu_ne (by omega), hu_ne (by omega), ups_ne (by omega)]; exact old
            · intro t k h1 h2 hk
              have old := bl.2.1 t k h1 h2 hk
              rw [show 0 + 32 + t = 32 + t by omega] at old
              rw [hu_ne (by omega), hu_ne (by omega)]; exact old
          · exact X.2.e (fun k hk => by rw [hu_r (by omega), hu_r (by omega)]) (by rw [hu_ne (by omega), hu_ne (by omega)]) (by rw [hu_ne (by omega), hu_ne (by omega)])
        · refine Bo.mu X ⟨-2, fun g q => ?_, fun g q => ?_⟩
          · simp only [fX11_pact, hasE (X.rc q) ha, hasE (X.rc q) hc, ob_s, if10, k1, if_neg e, outE, ho, ifbt, fX11_pact_37]; exact Rs.ok q
          · simp only [fX12_pact, isKingE hK (X.e0 q) ha, isKingE hK (X.e0 q) hc, ob_s, if10, k1, if_neg e, inE, ho, Bool.not_true, ifbf, fX12_pact_32]; exact Rs.ok q
    · refine Bo.mu X ⟨-1, fun g q => ?_, fun g q => ?_⟩
      · simp only [fX11_pact, hasE (X.rc q) ha, hasN (X.rc q) n2, ob_s, if10, if_true, fX11_pact_22]; exact Rs.ok q
      · simp only [fX12_pact, isKingE hK (X.e0 q) ha, isKingN hK (X.e0 q) n2, ob_s, if10, if_true, fX12_pact_16]; exact Rs.ok q
  · refine Bo.mu X ⟨-1, fun g q => ?_, fun g q => ?_⟩
    · simp only [fX11_pact, hasN (X.rc q) n1, ob_s, if_true, fX11_pact_22]; exact Rs.ok q
    · simp only [fX12_pact, isKingN hK (X.e0 q) n1, ob_s, if_true, fX12_pact_16]; exact Rs.ok q
theorem m_block (X : Ix P K L n b) (l1 l2 l3 : Int32) : Mu P b (fX11_block P l1 l2 l3) (fX12_block l1 l2 l3) := by
  have hK := X.K7
  have n8 := X.n8
  rcases isn X.n8 l1 with ⟨t, ht, rfl⟩ | hn
  · obtain ⟨N, p, v, r, d1, d2, d3, d4, hN, hv, hr0, ht8, hc, hr⟩ := X.sd ht
    rcases isk K hK l2 with ⟨a, ha, rfl⟩ | n2
    · cases ho : out l3 6
      · obtain ⟨j, hj, rfl⟩ := out_n (k := 6) rfl (by omega) ho
        have c7a : ck 7 (nI a) = some a := ckI rfl (by omega)
        have c9 : ck 9 (nI t) = some t := ckI rfl (by omega)
        have cw : ck 490 (((430 : Int32) + ((7 : Int32) * nI t)) + nI a) = some (430 + 7 * t + a) := ckW 430 (by omega)
        have bl := X.1.2.2.2.2.2.2.2.2
        have wa : b (32 + t) a = b 94 (430 + 7 * t + a) := by
          have := (bl.1 t a ht (by omega)).1
          rwa [show 0 + 32 + t = 32 + t by omega] at this
        have g94 : hu b (32 + t) a (nI j) 94 = b 94 := hu_r (by omega)
        have e0 : hu b (32 + t) a (nI j) 94 0 = nI K := by rw [g94]; exact X.s0
        have e2 : hu b (32 + t) a (nI j) 94 2 = nI n := by rw [g94]; exact X.1.2.2.2.1
        refine ⟨b 94 (430 + 7 * t + a), hu b (32 + t) a (nI j), hu (hu b (32 + t) a (nI j)) 94 (430 + 7 * t + a) (nI j), ?_, ?_, K, L, n, ?_, ?_⟩
        · simp only [fX11_block, stdAtE X Qw.rfl' ht, d1, onq_s, d2, hasE (X.rc Qw.rfl') ha, ob_s, if10, outE, ho, ifbf, c7a, c9, wa]
        · simp only [fX12_block, isStdG n8 e2 ht, isKingE hK e0 ha, ob_s, if10, inE, ho, Bool.not_false, ifbt, cw, g94]
        · rw [hu_rw, g94]
          refine X.1.hi (fun i hi => ups_ne (by omega)) (fun k h1 h2 h3 h4 h5 h6 => by rw [hu_r (by omega), hu_r (by omega)]) ?_ ?_ (fun t' ht' => ⟨ups_ne (by omega), ups_ne (by omega)⟩) ?_ ?_
          · intro k o hk ho
            have old := bl.2.2.2.1 k o hk ho
            rw [show 0 + 6 + k = 6 + k by omega, show 0 + 14 + k = 14 + k by omega] at old
            rw [hu_r (k' := 6 + k) (by omega), hu_r (k' := 6 + k) (by omega), hu_r (k' := 14 + k) (by omega), hu_r (k' := 14 + k) (by omega), ups_ne (by omega), ups_ne (by omega)]
            exact old
          · intro k o h1 h2 ho
            have old := bl.2.2.2.2.1 k o h1 h2 ho
            rw [show 0 + 6 + k = 6 + k by omega, show 0 + 14 + k = 14 + k by omega] at old
            rw [hu_ne (by omega), hu_ne (by omega), hu_ne (by omega), hu_ne (by omega)]
            exact ⟨old.1, old.2.1⟩
          · intro t' k ht' hk
            have old := bl.1 t' k ht' hk
            rw [show 0 + 32 + t' = 32 + t' by omega] at old
            rw [hu_r (k := 94) (by omega)]
            by_cases z : t' = t ∧ k = a
            · obtain ⟨rfl, rfl⟩ := z
              rw [hu_eq, ups_eq]
              exact ⟨rfl, nI_bd (by omega) (by omega)⟩
            · rw [hu_ne (by omega), ups_ne (by omega)]; exact old
          · intro t' k h1 h2 hk
            have old := bl.2.1 t' k h1 h2 hk
            rw [show 0 + 32 + t' = 32 + t' by omega] at old
            rw [hu_ne (by omega), hu_ne (by omega)]; exact old
        · exact X.2.e (fun k hk => by rw [hu_r (by omega), hu_r (by omega)]) (by rw [hu_ne (by omega), hu_ne (by omega)]) (by rw [hu_ne (by omega), hu_ne (by omega)])
      · refine Bo.mu X ⟨-2, fun g q => ?_, fun g q => ?_⟩
        · simp only [fX11_block, stdAtE X q ht, d1, onq_s, d2, hasE (X.rc q) ha, ob_s, if10, outE, ho, ifbt]; exact Rs.ok q
        · simp only [fX12_block, isStdE X q ht, isKingE hK (X.e0 q) ha, ob_s, if10, inE, ho, Bool.not_true, ifbf]; exact Rs.ok q
    · refine Bo.mu X ⟨-1, fun g q => ?_, fun g q => ?_⟩
      · simp only [fX11_block, stdAtE X q ht, d1, onq_s, d2, hasN (X.rc q) n2, ob_s, if_true, fX11_block_22]; exact Rs.ok q
      · simp only [fX12_block, isStdE X q ht, isKingN hK (X.e0 q) n2, ob_s, if10, if_true, fX12_block_16]; exact Rs.ok q
  · refine Bo.mu X ⟨-1, fun g q => ?_, fun g q => ?_⟩
    · simp only [fX11_block, stdAtN X q hn, ob_s, onq_0, fX11_block_22]; exact Rs.ok q
    · simp only [fX12_block, isStdN X q hn, ob_s, if_true, fX12_block_16]; exact Rs.ok q
theorem m_arm (X : Ix P K L n b) (l1 l2 : Int32) : Mu P b (fX11_arm l1 l2) (fX12_arm l1 l2) := by
  have hK := X.K7
  rcases isk K hK l1 with ⟨a, ha, rfl⟩ | n1
  · cases ho : out l2 99
    · cases la : lv (b 94) a
      · refine Bo.mu X ⟨-3, fun g q => ?_, fun g q => ?_⟩
        · simp only [fX11_arm, hasE (X.rc q) ha, ob_s, if10, outE, ho, ifbf, livesE (X.rc q) ha, la]; exact Rs.ok q
        · simp only [fX12_arm, isKingE hK (X.e0 q) ha, ob_s, if10, inE, ho, Bool.not_false, ifbt, isAliveE hK (X.r94 q) X.s0 ha, la, ifbf]; exact Rs.ok q
      · have c7 : ck 7 (nI a) = some a := ckI rfl (by omega)
        have cw : ck 490 ((270 : Int32) + nI a) = some (270 + a) := ckO 270 (by omega)
        have g94 : hu b 2 a l2 94 = b 94 := hu_r (by omega)
        have e0 : hu b 2 a l2 94 0 = nI K := by rw [g94]; exact X.s0
        have rc := X.rc Qw.rfl'
        refine ⟨b 94 (270 + a), hu b 2 a l2, hu (hu b 2 a l2) 94 (270 + a) l2, ?_, ?_, K, L, n, ?_⟩
        · simp only [fX11_arm, hasE rc ha, ob_s, if10, outE, ho, ifbf, livesE rc ha, la, ifbt, c7, rc.str ha]
        · simp only [fX12_arm, isKingE hK e0 ha, ob_s, if10, inE, ho, Bool.not_false, ifbt, isAliveE hK g94 X.s0 ha, la, cw, g94]
        · refine X.upd (s' := ups (b 94) (270 + a) l2) (fun k j _ n1 n2 n4 n94 => by rw [hu_r n94, hu_r n2]) (by rw [hu_ne (by omega), hu_ne (by omega)]) (by rw [hu_ne (by omega), hu_ne (by omega)]) (by rw [hu_ne (by omega), hu_ne (by omega)]) ?_ (by rw [hu_rw, g94]) (fun i hi => ups_ne (by unfold chg at hi; omega)) (X.ok.str la (out_bd ho) (by omega)) ?_ ?_ (fun k _ _ => by rw [hu_ne (by omega), hu_ne (by omega)])
          · rw [hu_ne (by omega), hu_ne (by omega), ups_ne (by omega)]; exact X.1.2.2.2.2.2.2.1
          · rw [hu_ne (by omega), hu_ne (by omega), rc.alive]
            exact mk_cong fun k hk => (lv_str (by omega) k (by omega)).symm
          · intro k hk
            rw [hu_ne (by omega), hu_ne (k' := 4) (by omega), hu_ne (k' := 4) (by omega), ups_ne (j := 300 + k) (by omega)]
            refine ⟨?_, rc.own hk⟩
            by_cases z : k = a
            · subst z; rw [hu_eq, ups_eq]
            · rw [hu_ne (by omega), ups_ne (by omega)]; exact rc.str hk
    · refine Bo.mu X ⟨-2, fun g q => ?_, fun g q => ?_⟩
      · simp only [fX11_arm, hasE (X.rc q) ha, ob_s, if10, outE, ho, ifbt]; exact Rs.ok q
      · simp only [fX12_arm, isKingE hK (X.e0 q) ha, ob_s, if10, inE, ho, Bool.not_true, ifbf]; exact Rs.ok q
  · refine Bo.mu X ⟨-1, fun g q => ?_, fun g q => ?_⟩
    · simp only [fX11_arm, hasN (X.rc q) n1, ob_s, if_true]; exact Rs.ok q
    · simp only [fX12_arm, isKingN hK (X.e0 q) n1, ob_s, if_true]; exact Rs.ok q
end st2
