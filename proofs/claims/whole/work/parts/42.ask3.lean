section ask3
variable {P : PT} {K : Nat} {L : Wld} {n : Nat} {b : HT}
theorem b_cost (x : Ix P K L n b) (l1 l2 : Int32) : Bo b (fX11_cost l1 l2) (fX12_cost l1 l2) := by
  have hK := x.K7
  rcases isk K hK l1 with ⟨a, ha, rfl⟩ | n1
  · rcases isk K hK l2 with ⟨c, hc, rfl⟩ | n2
    · by_cases e : a = c
      · refine ⟨-2, fun g q => ?_, fun g q => ?_⟩
        · simp only [fX11_cost, hasE (x.rc q) ha, hasE (x.rc q) hc, ob_s, if10, nIx (show a < 7 by omega) (show c < 7 by omega), if_pos e]; exact Rs.ok q
        · simp only [fX12_cost, isKingE hK (x.e0 q) ha, isKingE hK (x.e0 q) hc, ob_s, if10, nIx (show a < 7 by omega) (show c < 7 by omega), if_pos e, fX12_cost_34]; exact Rs.ok q
      · refine ⟨costS (b 94) L a c, fun g q => ?_, fun g q => ?_⟩
        · obtain ⟨h1, e1, q1⟩ := costC x.ok (x.rc q) Qs.rfl' ha hc
          simp only [fX11_cost, hasE (x.rc q) ha, hasE (x.rc q) hc, ob_s, if10, nIx (show a < 7 by omega) (show c < 7 by omega), if_neg e, e1]
          exact Rs.ok (q.tr q1.w)
        · obtain ⟨h1, e1, q1⟩ := costR x.ok (x.r94 q) Q8.rfl' ha hc
          simp only [fX12_cost, isKingE hK (x.e0 q) ha, isKingE hK (x.e0 q) hc, ob_s, if10, nIx (show a < 7 by omega) (show c < 7 by omega), if_neg e, fX12_cost_34, e1]
          exact Rs.ok (q.tr (Q8.s Qs.rfl' q1).w)
    · refine ⟨-1, fun g q => ?_, fun g q => ?_⟩
      · simp only [fX11_cost, hasE (x.rc q) ha, hasN (x.rc q) n2, ob_s, if10, if_true, fX11_cost_22]; exact Rs.ok q
      · simp only [fX12_cost, isKingE hK (x.e0 q) ha, isKingN hK (x.e0 q) n2, ob_s, if10, if_true, fX12_cost_16]; exact Rs.ok q
  · refine ⟨-1, fun g q => ?_, fun g q => ?_⟩
    · simp only [fX11_cost, hasN (x.rc q) n1, ob_s, if_true, fX11_cost_22]; exact Rs.ok q
    · simp only [fX12_cost, isKingN hK (x.e0 q) n1, ob_s, if_true, fX12_cost_16]; exact Rs.ok q
theorem b_force (x : Ix P K L n b) (l1 l2 : Int32) : Bo b (fX11_force l1 l2) (fX12_force l1 l2) := by
  have hK := x.K7
  rcases isk K hK l1 with ⟨a, ha, rfl⟩ | n1
  · cases ho : out l2 40
    · refine ⟨frc (b 94) a l2, fun g q => ?_, fun g q => ?_⟩
      · simp only [fX11_force, hasE (x.rc q) ha, ob_s, if10, outE, ho, ifbf, forceAtE (x.rc q) ha]; exact Rs.ok q
      · simp only [fX12_force, isKingE hK (x.e0 q) ha, ob_s, if10, inE, ho, Bool.not_false, ifbt, forceOfE hK (x.r94 q) ha, fX12_force_31]; exact Rs.ok q
    · refine ⟨-2, fun g q => ?_, fun g q => ?_⟩
      · simp only [fX11_force, hasE (x.rc q) ha, ob_s, if10, outE, ho, ifbt]; exact Rs.ok q
      · simp only [fX12_force, isKingE hK (x.e0 q) ha, ob_s, if10, inE, ho, Bool.not_true, ifbf, fX12_force_31]; exact Rs.ok q
  · refine ⟨-1, fun g q => ?_, fun g q => ?_⟩
    · simp only [fX11_force, hasN (x.rc q) n1, ob_s, if_true]; exact Rs.ok q
    · simp only [fX12_force, isKingN hK (x.e0 q) n1, ob_s, if_true]; exact Rs.ok q
theorem b_of (x : Ix P K L n b) (l1 l2 : Int32) : Bo b (fX11_of l1 l2) (fX12_of l1 l2) := by
  have hK := x.K7
  rcases isk K hK l1 with ⟨a, ha, rfl⟩ | n1
  · have c7 : ck 7 (nI a) = some a := ckI rfl (by omega)
    have c1 : ck 490 ((270 : Int32) + nI a) = some (270 + a) := ckO 270 (by omega)
    have c2 : ck 490 ((280 : Int32) + nI a) = some (280 + a) := ckO 280 (by omega)
    have c3 : ck 490 ((290 : Int32) + nI a) = some (290 + a) := ckO 290 (by omega)
    have c4 : ck 490 ((300 : Int32) + nI a) = some (300 + a) := ckO 300 (by omega)
    have r1 := fun (g : HT) (q : Qw b g) => hasE (x.rc q) ha
    have r2 := fun (g : HT) (q : Qw b g) => isKingE hK (x.e0 q) ha
    by_cases e0 : l2 = 0
    · refine ⟨b 94 (270 + a), fun g q => ?_, fun g q => ?_⟩
      · simp only [fX11_of, r1 g q, ob_s, if10, if_pos e0, c7, (x.rc q).str ha]; exact Rs.ok q
      · simp only [fX12_of, r2 g q, ob_s, if10, if_pos e0, c1, x.r94 q]; exact Rs.ok q
    · by_cases e1 : l2 = 1
      · refine ⟨b 94 (280 + a), fun g q => ?_, fun g q => ?_⟩
        · simp only [fX11_of, r1 g q, ob_s, if10, if_neg e0, if_pos e1, c7, (x.rc q).plc ha]; exact Rs.ok q
        · simp only [fX12_of, r2 g q, ob_s, if10, if_neg e0, if_pos e1, c2, x.r94 q]; exact Rs.ok q
      · by_cases e2 : l2 = 2
        · refine ⟨b 94 (290 + a), fun g q => ?_, fun g q => ?_⟩
          · simp only [fX11_of, r1 g q, ob_s, if10, if_neg e0, if_neg e1, if_pos e2, livesE (x.rc q) ha, fX11_of_80]
            unfold lv
            have e := (x.ok.2.2.2.2.2.2.1 a (by omega)).2.2.1
            rcases e with e | e
            · rw [e]; exact Rs.ok q
            · rw [e]; exact Rs.ok q
          · simp only [fX12_of, r2 g q, ob_s, if10, if_neg e0, if_neg e1, if_pos e2, c3, x.r94 q]; exact Rs.ok q
        · by_cases e3 : l2 = 3
          · refine ⟨b 94 (300 + a), fun g q => ?_, fun g q => ?_⟩
            · simp only [fX11_of, r1 g q, ob_s, if10, if_neg e0, if_neg e1, if_neg e2, if_pos e3, c7, (x.rc q).own ha]; exact Rs.ok q
            · simp only [fX12_of, r2 g q, ob_s, if10, if_neg e0, if_neg e1, if_neg e2, if_pos e3, c4, x.r94 q]; exact Rs.ok q
          · refine ⟨-1, fun g q => ?_, fun g q => ?_⟩
            · simp only [fX11_of, r1 g q, ob_s, if10, if_neg e0, if_neg e1, if_neg e2, if_neg e3]; exact Rs.ok q
            · simp only [fX12_of, r2 g q, ob_s, if10, if_neg e0, if_neg e1, if_neg e2, if_neg e3]; exact Rs.ok q
  · refine ⟨-1, fun g q => ?_, fun g q => ?_⟩
    · simp only [fX11_of, hasN (x.rc q) n1, ob_s, if_true]; exact Rs.ok q
    · simp only [fX12_of, isKingN hK (x.e0 q) n1, ob_s, if_true]; exact Rs.ok q
theorem b_first (x : Ix P K L n b) (l1 : Int32) : Bo b (fX11_first P l1) (fX12_first l1) := by
  rcases isn x.n8 l1 with ⟨t, ht, rfl⟩ | hn
  · obtain ⟨N, p, v, r, d1, d2, d3, d4, hN, hv, hr0, ht8, hc, hr⟩ := x.sd ht
    refine ⟨firstS (dr N v (fun k => b 94 (430 + 7 * t + k)) K (b 94) L) K, fun g q => ?_, fun g q => ?_⟩
    rotate_left
    · obtain ⟨g1, e1, q1, r1⟩ := hr g q
      obtain ⟨g2, e2, q2⟩ := fwR r1 Qs.rfl'
      simp only [fX12_first, isStdE x q ht, ob_s, if10, e1, e2]
      exact Rs.ok (q1.tr q2.w)
    · obtain ⟨g2, e2, q2⟩ := fwC (hc g q) Qs.rfl'
      simp only [fX11_first, stdAtE x q ht, d1, onq_s, d2, ob_s, e2, fX11_first_25]
      exact Rs.ok (q.tr q2.w)
  · refine ⟨-1, fun g q => ?_, fun g q => ?_⟩
    · simp only [fX11_first, stdAtN x q hn, ob_s, onq_0, fX11_first_25]; exact Rs.ok q
    · simp only [fX12_first, isStdN x q hn, ob_s, if_true]; exact Rs.ok q
theorem dares0 {N : Nat} {v : Int32} {blk : Nat → Int32} {s : RT} {b h : HT} {x : Nat} (hr : HR N v blk K s L b) (q : Qs b h) (hx : x < K) : Rs (Qs b) (fX12_dares_49 1000 (nI x) 0 0 h) (mk (fun y => dr N v blk K s L x y) K) := by
  have hK := hr.K7
  refine loop0 (K := K) (F := fun n k h => fX12_dares_49 n (nI x) (mk (fun y => dr N v blk K s L x y) k) (nI k) h) (fun _ h => Qs b h) (n := 1000) (by omega) q ?_ ?_
  · intro n k g hk qg
    refine Or.inl ?_
    show ∃ h', Qs b h' ∧ fX12_dares_49 (n + 1) (nI x) _ (nI k) g = fX12_dares_49 n (nI x) (mk (fun y => dr N v blk K s L x y) (k + 1)) (nI (k + 1)) h'
    obtain ⟨h1, e1, q1⟩ := doesDareE hr qg hx hk
    rw [mk]
    simp only [fX12_dares_49, if_neg (rgo hK (hr.q qg).e0 hk), e1, ob_s, fX12_dares_80, nI_1]
    cases dr N v blk K s L x k
    · rw [if_pos bI_f]; exact ⟨h1, q1, by rw [if_neg (by decide), Int32.or_zero]⟩
    · rw [if_neg (show ¬ bI true = 0 by decide)]; exact ⟨h1, q1, rfl⟩
  · intro n g qg
    simp only [fX12_dares_49, if_pos (rex (hr.q qg).e0)]
    exact Rs.ok qg
theorem out1 {x : Int32} (h : out x 1 = false) : x = 0 ∨ x = 1 := by
  unfold out at h
  rw [Bool.or_eq_false_iff, decide_eq_false_iff_not, decide_eq_false_iff_not] at h
  obtain ⟨j, hj, rfl⟩ := nI_of h.1
  have h1 : ¬ nI 1 < nI j := h.2
  rw [nI_ltI (by omega) hj] at h1
  have : j = 0 ∨ j = 1 := by omega
  rcases this with rfl | rfl
  · exact Or.inl rfl
  · exact Or.inr rfl
theorem b_dares (x : Ix P K L n b) (l1 l2 l3 : Int32) : Bo b (fX11_dares P l1 l2 l3) (fX12_dares l1 l2 l3) := by
  have hK := x.K7
  rcases isn x.n8 l1 with ⟨t, ht, rfl⟩ | hn
  · obtain ⟨N, p, v, r, d1, d2, d3, d4, hN, hv, hr0, ht8, hc, hr⟩ := x.sd ht
    rcases isk K hK l2 with ⟨a, ha, rfl⟩ | n2
    · cases ho : out l3 1
      · rcases out1 ho with rfl | rfl
        · refine ⟨mk (fun y => dr N v (fun k => b 94 (430 + 7 * t + k)) K (b 94) L a y) K, fun g q => ?_, fun g q => ?_⟩
          rotate_left
          · obtain ⟨g1, e1, q1, r1⟩ := hr g q
            obtain ⟨g2, e2, q2⟩ := dares0 r1 Qs.rfl' ha
            simp only [fX12_dares, isStdE x q ht, isKingE hK (x.e0 q) ha, ob_s, if10, inE, ho, Bool.not_false, ifbt, e1, if_neg (show ¬ (0 : Int32) = 1 by decide), e2]
            exact Rs.ok (q1.tr q2.w)
          · obtain ⟨g2, e2, q2⟩ := preyE (hc g q) Qs.rfl' ha
            simp only [fX11_dares, stdAtE x q ht, d1, onq_s, d2, hasE (x.rc q) ha, ob_s, if10, outE, ho, ifbf, if_true, e2, fX11_dares_63]
            exact Rs.ok (q.tr q2.w)
        · refine ⟨mk (fun y => dr N v (fun k => b 94 (430 + 7 * t + k)) K (b 94) L y a) K, fun g q => ?_, fun g q => ?_⟩
          rotate_left
          · obtain ⟨g1, e1, q1, r1⟩ := hr g q
            obtain ⟨g2, e2, q2⟩ := darersE r1 Qs.rfl' ha
            simp only [fX12_dares, isStdE x q ht, isKingE hK (x.e0 q) ha, ob_s, if10, inE, ho, Bool.not_false, ifbt, e1, if_true, e2]
            exact Rs.ok (q1.tr q2.w)
          · obtain ⟨g2, e2, q2⟩ := huntersE (hc g q) Qs.rfl' ha
            simp only [fX11_dares, stdAtE x q ht, d1, onq_s, d2, hasE (x.rc q) ha, ob_s, if10, outE, ho, ifbf, e2, fX11_dares_63]
            exact Rs.ok (q.tr q2.w)
      · refine ⟨-1, fun g q => ?_, fun g q => ?_⟩
        · simp only [fX11_dares, stdAtE x q ht, d1, onq_s, d2, hasE (x.rc q) ha, ob_s, if10, outE, ho, ifbt, fX11_dares_34]; exact Rs.ok q
        · simp only [fX12_dares, isStdE x q ht, isKingE hK (x.e0 q) ha, ob_s, if10, inE, ho, Bool.not_true, ifbf, fX12_dares_25]; exact Rs.ok q
    · refine ⟨-1, fun g q => ?_, fun g q => ?_⟩
      · simp only [fX11_dares, stdAtE x q ht, d1, onq_s, d2, hasN (x.rc q) n2, ob_s, if_true, fX11_dares_34]; exact Rs.ok q
      · simp only [fX12_dares, isStdE x q ht, isKingN hK (x.e0 q) n2, ob_s, if10, if_true, fX12_dares_25]; exact Rs.ok q
  · refine ⟨-1, fun g q => ?_, fun g q => ?_⟩
    · simp only [fX11_dares, stdAtN x q hn, ob_s, onq_0, fX11_dares_34]; exact Rs.ok q
    · simp only [fX12_dares, isStdN x q hn, ob_s, if_true, fX12_dares_25]; exact Rs.ok q
theorem mk_z {p : Nat → Bool} : ∀ {n : Nat}, n ≤ 32 → (mk p n = 0 ↔ ∀ k, k < n → p k = false) := by
  intro n hn
  constructor
  · intro e k hk
    have := congrArg (fun z => bt z k) e
    rw [b_mk _ (by omega) hn, b_0, decide_eq_true hk, Bool.true_and] at this
    exact this
  · intro h
    apply b_ext
    intro i hi
    rw [b_mk _ hi hn, b_0]
    by_cases c : i < n
    · rw [h i c, Bool.and_false]
    · rw [decide_eq_false c, Bool.false_and]
theorem b_guarded (x : Ix P K L n b) (l1 : Int32) : Bo b (fX11_guarded P l1) (fX12_guarded l1) := by
  have hK := x.K7
  rcases isn x.n8 l1 with ⟨t, ht, rfl⟩ | hn
  · obtain ⟨N, p, v, r, d1, d2, d3, d4, hN, hv, hr0, ht8, hc, hr⟩ := x.sd ht
    generalize hblk : (fun k => b 94 (430 + 7 * t + k)) = blk at *
    refine ⟨mk (fun y => lv (b 94) y && decide (mk (fun x => dr N v blk K (b 94) L x y) K = 0)) K, fun g q => ?_, fun g q => ?_⟩
    · simp only [fX11_guarded, stdAtE x q ht, d1, onq_s, d2, ob_s]
      refine Rs.w q (loop0 (K := K) (F := fun n k h => fX11_guarded_20 P n r (mk (fun y => lv (b 94) y && decide (mk (fun x => dr N v blk K (b 94) L x y) K = 0)) k) (nI k) h) (fun _ h => Qs g h) (n := 1000) (by omega) Qs.rfl' ?_ ?_)
      · intro n k h hk qh
        refine Or.inl ?_
        show ∃ h', Qs g h' ∧ fX11_guarded_20 P (n + 1) r _ (nI k) h = fX11_guarded_20 P n r (mk (fun y => lv (b 94) y && decide (mk (fun x => dr N v blk K (b 94) L x y) K = 0)) (k + 1)) (nI (k + 1)) h'
        have rg := (hc g q).2.1.q qh
        rw [mk]
        simp only [fX11_guarded_20, if_neg (rg.go hk), livesE rg hk, ob_s, fX11_guarded_64, nI_1]
        cases lv (b 94) k
        · simp only [ifbf]; exact ⟨h, qh, rfl⟩
        · obtain ⟨h1, e1, q1⟩ := huntersE (hc g q) qh hk
          simp only [ifbt, e1, ob_s, Bool.true_and]
          by_cases z : mk (fun x => dr N v blk K (b 94) L x k) K = 0
          · rw [if_pos z, if_pos (decide_eq_true z)]; exact ⟨h1, q1, rfl⟩
          · rw [if_neg z, if_neg (by simp [z])]; exact ⟨h1, q1, rfl⟩
      · intro n h qh
        simp only [fX11_guarded_20, if_pos ((hc g q).2.1.q qh).ex]
        exact Rs.ok qh
    · obtain ⟨g1, e1, qq, r1⟩ := hr g q
      simp only [fX12_guarded, isStdE x q ht, ob_s, if10, e1]
      refine Rs.w qq (loop0 (K := K) (F := fun n k h => fX12_guarded_19 n (mk (fun y => lv (b 94) y && decide (mk (fun x => dr N v blk K (b 94) L x y) K = 0)) k) (nI k) h) (fun _ h => Qs g1 h) (n := 1000) (by omega) Qs.rfl' ?_ ?_)
      · intro n k h hk qh
        refine Or.inl ?_
        show ∃ h', Qs g1 h' ∧ fX12_guarded_19 (n + 1) _ (nI k) h = fX12_guarded_19 n (mk (fun y => lv (b 94) y && decide (mk (fun x => dr N v blk K (b 94) L x y) K = 0)) (k + 1)) (nI (k + 1)) h'
        have rr := r1.q qh
        rw [mk]
        simp only [fX12_guarded_19, if_neg (rgo hK rr.e0 hk), isAliveE hK rr.2.1 x.s0 hk, ob_s, fX12_guarded_52, fX12_guarded_53, nI_1, Int32.or_zero]
        cases lv (b 94) k
        · simp only [ifbf]; exact ⟨h, qh, rfl⟩
        · obtain ⟨h1, e1, q1⟩ := darersE r1 qh hk
          simp only [ifbt, e1, ob_s, Bool.true_and]
          by_cases z : mk (fun x => dr N v blk K (b 94) L x k) K = 0
          · rw [if_pos z, if_pos (decide_eq_true z)]; exact ⟨h1, q1, rfl⟩
          · rw [if_neg z, if_neg (by simp [z])]; exact ⟨h1, q1, rfl⟩
      · intro n h qh
        simp only [fX12_guarded_19, if_pos (rex (r1.q qh).e0)]
        exact Rs.ok qh
  · refine ⟨-1, fun g q => ?_, fun g q => ?_⟩
    · simp only [fX11_guarded, stdAtN x q hn, ob_s, onq_0]; exact Rs.ok q
    · simp only [fX12_guarded, isStdN x q hn, ob_s, if_true]; exact Rs.ok q
theorem b_edge (x : Ix P K L n b) (l1 : Int32) : Bo b (fX11_edge l1) (fX12_edge l1) := by
  have hK := x.K7
  rcases isk K hK l1 with ⟨a, ha, rfl⟩ | n1
  · cases la : lv (b 94) a
    · refine ⟨-3, fun g q => ?_, fun g q => ?_⟩
      · simp only [fX11_edge, hasE (x.rc q) ha, livesE (x.rc q) ha, la, ob_s, if10, ifbf]; exact Rs.ok q
      · simp only [fX12_edge, isKingE hK (x.e0 q) ha, isAliveE hK (x.r94 q) x.s0 ha, la, ob_s, if10, ifbf, fX12_edge_28]; exact Rs.ok q
    · refine ⟨tuV (b 94) K a, fun g q => ?_, fun g q => ?_⟩
      · simp only [fX11_edge, hasE (x.rc q) ha, livesE (x.rc q) ha, la, ob_s, if10, ifbt, turnsC (x.rc q) ha]; exact Rs.ok q
      · simp only [fX12_edge, isKingE hK (x.e0 q) ha, isAliveE hK (x.r94 q) x.s0 ha, la, ob_s, if10, ifbt, fX12_edge_28, turnsR hK (x.r94 q) x.s0 ha]; exact Rs.ok q
  · refine ⟨-1, fun g q => ?_, fun g q => ?_⟩
    · simp only [fX11_edge, hasN (x.rc q) n1, ob_s, if_true]; exact Rs.ok q
    · simp only [fX12_edge, isKingN hK (x.e0 q) n1, ob_s, if_true]; exact Rs.ok q
end ask3
