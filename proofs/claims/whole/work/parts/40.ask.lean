/-! the calls that only ask: both sides -/
section ask
variable {P : PT} {K : Nat} {L : Wld} {n : Nat} {b : HT}
theorem b_comes (x : Ix P K L n b) (l1 l2 l3 l4 : Int32) : Bo b (fX11_comes P l1 l2 l3 l4) (fX12_comes l1 l2 l3 l4) := by
  have hK := x.K7
  rcases isn x.n8 l1 with ⟨t, ht, rfl⟩ | hn
  · obtain ⟨N, p, v, r, d1, d2, d3, d4, hN, hv, hr0, ht8, hc, hr⟩ := x.sd ht
    cases ho : out l4 1
    · rcases isk K hK l2 with ⟨a, ha, rfl⟩ | hn2
      · rcases isk K hK l3 with ⟨c, hcK, rfl⟩ | hn3
        · by_cases e : a = c
          · refine ⟨-2, fun g q => ?_, fun g q => ?_⟩
            · simp only [fX11_comes, stdAtE x q ht, d1, onq_s, d2, ob_s, outE, ho, ifbf, prE x q ha hcK]
              unfold prv
              rw [if_pos e, if_neg (by decide)]
              exact Rs.ok q
            · simp only [fX12_comes, isStdE x q ht, isKingE hK (x.e0 q) ha, isKingE hK (x.e0 q) hcK, ob_s, if10, inE, ho, Bool.not_false, ifbt, nIx (show a < 7 by omega) (show c < 7 by omega), if_pos e]
              exact Rs.ok q
          · by_cases hl : (lv (b 94) a && lv (b 94) c) = true
            · obtain ⟨la, lc⟩ : lv (b 94) a = true ∧ lv (b 94) c = true := by rw [Bool.and_eq_true] at hl; exact hl
              refine ⟨if l4 = 0 then mk (mA N v (fun k => b 94 (430 + 7 * t + k)) K (b 94) L a c) K else mk (mB N v (fun k => b 94 (430 + 7 * t + k)) K (b 94) L a c) K, fun g q => ?_, fun g q => ?_⟩
              · obtain ⟨ok, rc, st, _⟩ := hc g q
                obtain ⟨h1, e1, q1⟩ := campsE ok rc st hN Qs.rfl' ha hcK
                simp only [fX11_comes, stdAtE x q ht, d1, onq_s, d2, ob_s, outE, ho, ifbf, prE x q ha hcK]
                unfold prv
                rw [if_neg e, if_pos hl, if_pos rfl, e1]
                simp only [ob_s, attJ hK, defJ hK, fX11_comes_73]
                by_cases z : l4 = 0
                · rw [if_pos z, if_pos z]; exact Rs.ok (q.tr q1.w)
                · rw [if_neg z, if_neg z]; exact Rs.ok (q.tr q1.w)
              · obtain ⟨g1, e1, q1, r1⟩ := hr g q
                obtain ⟨g2, e2, q2, cm⟩ := comesToE r1.1 r1.2.1 r1.2.2.1 hN Qs.rfl' ha hcK
                simp only [fX12_comes, isStdE x q ht, isKingE hK (x.e0 q) ha, isKingE hK (x.e0 q) hcK, ob_s, if10, inE, ho, Bool.not_false, ifbt, nIx (show a < 7 by omega) (show c < 7 by omega), if_neg e, isAliveE hK (x.r94 q) x.s0 ha, isAliveE hK (x.r94 q) x.s0 hcK, la, lc, e1, e2, fX12_comes_90, cm.1, cm.2]
                by_cases z : l4 = 0
                · rw [if_pos z, if_pos z]; exact Rs.ok (q1.tr q2.w)
                · rw [if_neg z, if_neg z]; exact Rs.ok (q1.tr q2.w)
            · refine ⟨-3, fun g q => ?_, fun g q => ?_⟩
              · simp only [fX11_comes, stdAtE x q ht, d1, onq_s, d2, ob_s, outE, ho, ifbf, prE x q ha hcK]
                unfold prv
                rw [if_neg e, if_neg hl, if_neg (by decide)]
                exact Rs.ok q
              · simp only [fX12_comes, isStdE x q ht, isKingE hK (x.e0 q) ha, isKingE hK (x.e0 q) hcK, ob_s, if10, inE, ho, Bool.not_false, ifbt, nIx (show a < 7 by omega) (show c < 7 by omega), if_neg e, isAliveE hK (x.r94 q) x.s0 ha, isAliveE hK (x.r94 q) x.s0 hcK, fX12_comes_60]
                cases la : lv (b 94) a
                · rw [ifbf]; exact Rs.ok q
                · cases lc : lv (b 94) c
                  · rw [ifbt, ifbf]; exact Rs.ok q
                  · rw [la, lc] at hl; exact absurd rfl hl
        · refine ⟨-1, fun g q => ?_, fun g q => ?_⟩
          · simp only [fX11_comes, stdAtE x q ht, d1, onq_s, d2, ob_s, outE, ho, ifbf, prN2 x q ha hn3]
            exact Rs.ok q
          · simp only [fX12_comes, isStdE x q ht, isKingE hK (x.e0 q) ha, isKingN hK (x.e0 q) hn3, ob_s, if10, if_true, fX12_comes_34]
            exact Rs.ok q
      · refine ⟨-1, fun g q => ?_, fun g q => ?_⟩
        · simp only [fX11_comes, stdAtE x q ht, d1, onq_s, d2, ob_s, outE, ho, ifbf, prN1 x q hn2]
          exact Rs.ok q
        · simp only [fX12_comes, isStdE x q ht, isKingN hK (x.e0 q) hn2, ob_s, if10, if_true, fX12_comes_34]
          exact Rs.ok q
    · refine ⟨-1, fun g q => ?_, fun g q => ?_⟩
      · simp only [fX11_comes, stdAtE x q ht, d1, onq_s, d2, ob_s, outE, ho, ifbt, fX11_comes_24]
        exact Rs.ok q
      · simp only [fX12_comes, isStdE x q ht, ob_s, if10, inE, ho, Bool.not_true, fX12_comes_34]
        rcases isk K hK l2 with ⟨a, ha, rfl⟩ | hn2
        · rcases isk K hK l3 with ⟨c, hcK, rfl⟩ | hn3
          · simp only [isKingE hK (x.e0 q) ha, isKingE hK (x.e0 q) hcK, ob_s, if10, ifbf]
            exact Rs.ok q
          · simp only [isKingE hK (x.e0 q) ha, isKingN hK (x.e0 q) hn3, ob_s, if10, if_true]
            exact Rs.ok q
        · simp only [isKingN hK (x.e0 q) hn2, ob_s, if_true]
          exact Rs.ok q
  · refine ⟨-1, fun g q => ?_, fun g q => ?_⟩
    · simp only [fX11_comes, stdAtN x q hn, ob_s, onq_0, fX11_comes_24]; exact Rs.ok q
    · simp only [fX12_comes, isStdN x q hn, ob_s, if_true, fX12_comes_34]; exact Rs.ok q
end ask
