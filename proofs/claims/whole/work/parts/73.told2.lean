/-- where a reading stops, well or badly, is never past the tape's end -/
def LQz (T : Nat) (sg : Nat → PRs) : Prop := ∀ p, p ≤ T → (sg p).2.1 ≤ T
theorem tst_LQ (Z : Nat → Int32) (T : Nat) : LQz T (tstS Z T) := by
  intro p hp
  unfold tstS
  cases a : pkS Z T [109, 115, 111, 107] p with
  | none => exact hp
  | some i =>
    have h1 := (pkz_lt a).1
    simp only
    cases c : pkS Z T [60, 61, 62] (p + 1) with
    | none => exact h1
    | some j =>
      have h2 := (pkz_lt c).1
      simp only
      cases d : numS Z T (p + 2) with
      | none => exact h2
      | some x => obtain ⟨v, q⟩ := x; exact (numS_le d).2.2
theorem lp_LQ {Z : Nat → Int32} {T : Nat} {sign : Int32} {op : Nat} {sg : Nat → PRs} (hs : LQz T sg) : ∀ (f p : Nat) (S : List Sq), p ≤ T → (lpS Z T sign op sg f p S).2.1 ≤ T
  | 0, p, S, hp => hp
  | f + 1, p, S, hp => by
    rw [lpS]
    by_cases z : p < T ∧ Z p = sign
    · rw [if_pos z]
      have h1 := hs (p + 1) (by omega)
      by_cases y : (sg (p + 1)).1 = true
      · rw [if_pos y]; exact lp_LQ hs f _ _ h1
      · rw [if_neg y]; exact h1
    · rw [if_neg z]; exact hp
theorem jn_LQ {Z : Nat → Int32} {T : Nat} {sign : Int32} {op : Nat} {sg : Nat → PRs} (hs : LQz T sg) : LQz T (jnS Z T sign op sg) := by
  intro p hp
  unfold jnS
  have h1 := hs p hp
  by_cases y : (sg p).1 = true
  · rw [if_pos y]; exact lp_LQ hs 120 _ _ h1
  · rw [if_neg y]; exact h1
theorem sgl_LQ (Z : Nat → Int32) (T : Nat) : ∀ d, LQz T (sglS Z T d)
  | 0 => tst_LQ Z T
  | d + 1 => by
    intro p hp
    have ih := sgl_LQ Z T d
    rw [sglS]
    cases a : pkS Z T [33, 40] p with
    | none => exact tst_LQ Z T p hp
    | some k =>
      have hpT := (pkz_lt a).1
      cases k with
      | zero =>
        simp only
        have h1 := ih (p + 1) (by omega)
        by_cases y : (sglS Z T d (p + 1)).1 = true
        · rw [if_pos y]; exact h1
        · rw [if_neg y]; exact h1
      | succ k =>
        simp only
        have hL : LQz T (eiS Z T (sglS Z T d)) := jn_LQ (jn_LQ ih)
        have h1 := hL (p + 1) (by omega)
        by_cases y : (eiS Z T (sglS Z T d) (p + 1)).1 = true
        · rw [if_pos y]
          by_cases z : (eiS Z T (sglS Z T d) (p + 1)).2.1 < T ∧ Z (eiS Z T (sglS Z T d) (p + 1)).2.1 = 41
          · rw [if_pos z]
            exact z.1
          · rw [if_neg z]; exact h1
        · rw [if_neg y]; exact h1
theorem pr_LQ {Z : Nat → Int32} {T p : Nat} {A : Ac} (hp : p ≤ T) : (prS Z T A p).2.1 ≤ T := by
  obtain ⟨m1, m2, m3, m4⟩ := amS_ok (Z := Z) (cs := [111, 115, 116, 32]) hp
  unfold prS
  by_cases z1 : (amS Z T [111, 115, 116, 32] p).1 = true
  · rw [if_pos z1]
    by_cases z2 : (amS Z T [111, 115, 116, 32] p).2.2 < T ∧ Z (amS Z T [111, 115, 116, 32] p).2.2 = 32
    · rw [if_pos z2]
      have hL : LQz T (eiS Z T (sglS Z T 5)) := jn_LQ (jn_LQ (sgl_LQ Z T 5))
      have h1 := hL ((amS Z T [111, 115, 116, 32] p).2.2 + 1) (by omega)
      by_cases z3 : (eiS Z T (sglS Z T 5) ((amS Z T [111, 115, 116, 32] p).2.2 + 1)).1 = true
      · rw [if_pos z3]; exact h1
      · rw [if_neg z3]; exact h1
    · rw [if_neg z2]; exact m1
  · rw [if_neg z1]; exact m1
theorem cl_LQ {Z : Nat → Int32} {T p : Nat} {A : Ac} (hp : p ≤ T) : (clS Z T A p).2.1 ≤ T := by
  unfold clS
  cases k : pkS Z T [99, 119, 108, 116] p with
  | none => exact hp
  | some i =>
    have hpT := (pkz_lt k).1
    match i with
    | 0 => exact pr_LQ (by omega)
    | 1 => exact (amS_ok (Z := Z) (cs := [111, 114, 100, 32]) (show p + 1 ≤ T by omega)).1
    | 2 => exact (amS_ok (Z := Z) (cs := [101, 115, 115, 32]) (show p + 1 ≤ T by omega)).1
    | i + 3 => exact (amS_ok (Z := Z) (cs := [97, 107, 101, 32]) (show p + 1 ≤ T by omega)).1
section wt
variable {P : PT} {n : Nat} {K : Nat} {L : Wld} {Z : Nat → Int32} {T p : Nat} {h m b : HT} {A : Ac}
theorem A0_ok : AOK (0, 0, 0, []) 0 := ⟨by decide, by decide, by decide, WRd.nil, Nat.le_refl _, Nat.le_refl _, fun c hc => absurd hc (Nat.not_lt_zero c)⟩
theorem refRun (hT : T ≤ 120) (h3 : h 94 3 = nI T) (hz : ∀ i, i < T → h 94 (10 + i) = Z i) : ∃ G h4, (∀ k, k ≠ 93 → k ≠ 94 → G k = h k) ∧ G 94 = ups (h 94) 3 0 ∧ G 93 5 = nI T ∧ (∀ j, ¬ (j = 4 ∨ j = 5 ∨ j = 6 ∨ j = 7 ∨ j = 10) → G 93 j = h 93 j) ∧ ENz T G (rdS Z T 9 (0, 0, 0, []) 0) h4 ∧ fX12_world h = fX12_world_105 h4 := by
  unfold fX12_world
  rw [h3]
  generalize hG : hu (hu (hu (hu (hu (hu h 93 5 (nI T)) 94 3 0) 93 4 0) 93 6 0) 93 7 0) 93 10 0 = G
  have G94 : G 94 = ups (h 94) 3 0 := by rw [← hG, hu_r (by omega), hu_r (by omega), hu_r (by omega), hu_r (by omega), hu_rw, hu_r (by omega)]
  have Gn : ∀ k, k ≠ 93 → k ≠ 94 → G k = h k := fun k a1 a2 => by rw [← hG, hu_r a1, hu_r a1, hu_r a1, hu_r a1, hu_r a2, hu_r a1]
  have G93 : ∀ j, G 93 j = if j = 10 then 0 else if j = 7 then 0 else if j = 6 then 0 else if j = 4 then 0 else if j = 5 then nI T else h 93 j := fun j => by
    rw [← hG]
    by_cases a1 : j = 10
    · rw [if_pos a1, a1, hu_eq]
    · rw [if_neg a1, hu_ne (by omega)]
      by_cases a2 : j = 7
      · rw [if_pos a2, a2, hu_eq]
      · rw [if_neg a2, hu_ne (by omega)]
        by_cases a3 : j = 6
        · rw [if_pos a3, a3, hu_eq]
        · rw [if_neg a3, hu_ne (by omega)]
          by_cases a4 : j = 4
          · rw [if_pos a4, a4, hu_eq]
          · rw [if_neg a4, hu_ne (by omega), hu_ne (by omega)]
            by_cases a5 : j = 5
            · rw [if_pos a5, a5, hu_eq]
            · rw [if_neg a5, hu_ne (by omega)]
  have st : ∀ {n : Nat} {l : Int32} {g : HT}, fX12_world_39 (n + 1) l g = if 3 ≤ l then (Option.bind (fX12_clause g) fun z2 => fX12_world_63 1000 1 z2.2) else (Option.bind (ck 3 l) fun j16 => fX12_world_39 n (l + 1) (hu g 97 j16 0)) := by
    intro n l g
    rw [fX12_world_39]
  have c0 : ck 3 (0 : Int32) = some 0 := ckI (j := 0) rfl (by omega)
  have c1 : ck 3 ((0 : Int32) + 1) = some 1 := ckI (j := 1) rfl (by omega)
  have c2 : ck 3 ((0 : Int32) + 1 + 1) = some 2 := ckI (j := 2) rfl (by omega)
  rw [show (1000 : Nat) = 996 + 1 + 1 + 1 + 1 from rfl, st, if_neg (by decide), c0]
  simp only [ob_s]
  rw [st, if_neg (by decide), c1]
  simp only [ob_s]
  rw [st, if_neg (by decide), c2]
  simp only [ob_s]
  rw [st, if_pos (by decide)]
  have rbG : rb Z T G := ⟨hT, by rw [G93, if_neg (by decide), if_neg (by decide), if_neg (by decide), if_neg (by decide), if_pos rfl], fun i hi => by rw [G94, ups_ne (by omega)]; exact hz i hi⟩
  have w0 : Rst G (0, 0, 0, []) 0 (hu (hu (hu G 97 0 0) 97 1 0) 97 2 0) := by
    refine ⟨fun k j n => by rw [hu_ne (by omega), hu_ne (by omega), hu_ne (by omega)], ⟨fun _ _ _ => rfl, ?_, ?_, ?_, ?_, fun i hi => absurd hi (Nat.not_lt_zero i)⟩, ?_, ?_, hu_eq⟩
    · rw [hu_ne (by omega), hu_ne (by omega), hu_ne (by omega), G93, if_neg (by decide), if_neg (by decide), if_neg (by decide), if_pos rfl]; rfl
    · rw [hu_ne (by omega), hu_ne (by omega), hu_ne (by omega), G93, if_neg (by decide), if_neg (by decide), if_pos rfl]
    · rw [hu_ne (by omega), hu_ne (by omega), hu_ne (by omega), G93, if_neg (by decide), if_pos rfl]; rfl
    · rw [hu_ne (by omega), hu_ne (by omega), hu_ne (by omega), G93, if_pos rfl]; rfl
    · rw [hu_ne (by omega), hu_ne (by omega), hu_eq]; rfl
    · rw [hu_ne (by omega), hu_eq]; rfl
  obtain ⟨h3, e3, r3⟩ := clauseR rbG w0 (Nat.zero_le _) A0_ok
  obtain ⟨h4, en, e4⟩ := w63 rbG 9 (n := 1000) (by omega) (by omega) r3 (Nat.zero_le _) A0_ok
  have e4' : fX12_world_63 1000 1 h3 = fX12_world_105 h4 := e4
  refine ⟨G, h4, Gn, G94, rbG.2.1, fun j hj => by rw [G93, if_neg (by omega), if_neg (by omega), if_neg (by omega), if_neg (by omega), if_neg (by omega)], en, ?_⟩
  rw [e3]
  simp only [ob_s]
  exact e4'
theorem m_world (X : Ix P K L n b) : Mu P b fX11_world fX12_world := by
  obtain ⟨T, t1, t2, t3, t4⟩ := X.1.2.2.2.2.2.2.2.2.2.2.2.2.2
  have hK := X.K7
  have t3 : b 21 1 = nI T := t3
  have t4 : ∀ i, i < T → b 22 i = b 94 (10 + i) := t4
  generalize hZ : (fun i => b 94 (10 + i)) = Z
  have hZ' : ∀ i, b 94 (10 + i) = Z i := fun i => by rw [← hZ]
  have tbb : tb Z T b := ⟨t1, t3, fun i hi => by rw [t4 i hi, hZ']⟩
  generalize hH : hu (hu (hu (hu (hu (hu b 81 0 0) 81 1 0) 81 2 0) 81 3 0) 81 4 0) 21 2 0 = H
  have w0 : Wst b (0, 0, 0, []) 0 H := by
    refine ⟨⟨fun k j n1 n2 => by rw [← hH, hu_ne (by omega), hu_ne (by omega), hu_ne (by omega), hu_ne (by omega), hu_ne (by omega), hu_ne (by omega)], by rw [← hH, hu_eq]; rfl⟩, ?_, ?_, ?_, ?_, ?_, fun i hi => absurd hi (Nat.not_lt_zero i), fun c hc => absurd hc (Nat.not_lt_zero c)⟩
    · rw [← hH, hu_ne (by omega), hu_ne (by omega), hu_ne (by omega), hu_ne (by omega), hu_ne (by omega), hu_eq]; rfl
    · rw [← hH, hu_ne (by omega), hu_ne (by omega), hu_ne (by omega), hu_ne (by omega), hu_eq]; rfl
    · rw [← hH, hu_ne (by omega), hu_ne (by omega), hu_ne (by omega), hu_eq]; rfl
    · rw [← hH, hu_ne (by omega), hu_ne (by omega), hu_eq]; rfl
    · rw [← hH, hu_ne (by omega), hu_eq]; rfl
  obtain ⟨h', e1, r1, r2⟩ := readC tbb 9 (n := 1000) (by omega) (by omega) w0 (Nat.zero_le _) A0_ok (by decide)
  have e1' : fX10_read b = some (if (rdS Z T 9 (0, 0, 0, []) 0).1 = true then -1 else nI (rdS Z T 9 (0, 0, 0, []) 0).2.1, h') := by
    unfold fX10_read
    rw [hH]
    exact e1
  have ok9 := rdS_ok (Z := Z) (T := T) 9 (0, 0, 0, []) 0 A0_ok (Nat.zero_le _)
  generalize hR : rdS Z T 9 (0, 0, 0, []) 0 = R at *
  cases y : R.1
  · have wf := r2 y
    rw [y] at e1'
    have e1' : fX10_read b = some (nI R.2.1, h') := e1'
    have hq : ∃ j, R.2.1 = j ∧ j < 2 ^ 31 := ⟨_, rfl, by
      -- a place on the tape
      have key : ∀ (k : Nat) (A : Ac) (p : Nat), AOK A p → p ≤ T → (rdS Z T k A p).2.1 ≤ T := by
        have clT : ∀ (A : Ac) (p : Nat), AOK A p → p ≤ T → (clS Z T A p).2.1 ≤ T := fun A p _ hp => cl_LQ hp
        intro k
        induction k with
        | zero =>
          intro A p a hp
          rw [rdS]
          cases y : (clS Z T A p).1
          · exact clT A p a hp
          · exact clT A p a hp
        | succ k ih =>
          intro A p a hp
          rw [rdS]
          cases y : (clS Z T A p).1
          · exact clT A p a hp
          · obtain ⟨c1, c2, c3, c4⟩ := clS_ok a hp y
            simp only [if_true]
            split
            · exact c3
            · split
              · exact ih _ _ (c1.up (by omega)) (by omega)
              · exact c3
      have := key 9 (0, 0, 0, []) 0 A0_ok (Nat.zero_le _)
      rw [hR] at this
      omega⟩
    obtain ⟨_, rfl, hq31⟩ := hq
    have Y94 : hu h' 21 1 0 94 = b 94 := by rw [hu_r (by omega)]; exact funext fun j => wf.1 94 j (by omega) (by omega)
    obtain ⟨G, h4, G1, G2, G3, G4, en, e4⟩ := refRun (Z := Z) (h := hu h' 21 1 0) t1 (by rw [Y94]; exact t2) (fun i _ => by rw [Y94]; exact hZ' i)
    rw [hR] at en
    obtain ⟨f1, f2, f3⟩ := en.2 y
    refine ⟨(-10 : Int32) - nI R.2.1, hu h' 21 1 0, h4, ?_, ?_, K, L, n, ?_, ?_⟩
    · simp only [fX11_world, e1', ob_s, if_neg (nI_pos hq31)]
    · have f5 : h4 93 5 = nI T := by rw [f1 93 5 (by omega)]; exact G3
      rw [e4]
      rcases f3 with f3 | ⟨f3, f6⟩
      · simp only [fX12_world_105, f3, if10, fX12_world_123, f2]
      · have ne : ¬ nI R.2.1 = nI T := fun e => f6 ((nI_eq hq31 (by omega)).mp e)
        simp only [fX12_world_105, f3, if_true, f2, f5, if_neg ne, fX12_world_123]
    · have h94 : h4 94 = ups (b 94) 3 0 := by
        rw [show h4 94 = G 94 from funext fun j => f1 94 j (by omega), G2, Y94]
      rw [h94]
      refine X.1.tape (fun i a1 a2 => ups_ne a1) (fun k j a1 a2 a3 a4 a5 => ?_) ⟨0, Nat.zero_le _, by rw [ups_eq]; rfl, ?_, fun i hi => absurd hi (Nat.not_lt_zero i)⟩
      · rw [f1 k j (by omega), G1 k (by omega) (by omega), hu_ne (by omega)]
        exact wf.1 k j (by omega) (by omega)
      · rw [f1 21 1 (by omega), G1 21 (by omega) (by omega), hu_eq]; rfl
    · refine X.2.e (fun k hk => ?_) ?_ ?_
      · rw [show h4 k = G k from funext fun j => f1 k j (by omega), G1 k (by omega) (by omega), hu_r (by omega)]
        exact funext fun j => wf.1 k j (by omega) (by omega)
      · rw [f1 93 3 (by omega), G4 3 (by omega), hu_ne (by omega)]; exact wf.1 93 3 (by omega) (by omega)
      · rw [f1 93 28 (by omega), G4 28 (by omega), hu_ne (by omega)]; exact wf.1 93 28 (by omega) (by omega)
  · have ws := r1 y
    rw [y] at e1'
    have e1' : fX10_read b = some (-1, h') := e1'
    obtain ⟨aT, qT, lT⟩ := ok9 y
    have lT : R.2.2.2.2.2.length ≤ 10 := by simpa using lT
    generalize hA : R.2.2 = A at *
    -- the world becomes what was read
    generalize hY : hu h' 21 1 0 = Y
    have Yn : ∀ k j, ¬ (k = 21 ∧ j = 1) → Y k j = h' k j := fun k j q => by rw [← hY, hu_ne q]
    have f23 : ∀ (g : HT) (j : Nat) (v : Int32), hu g 23 j v 81 = g 81 := fun g j v => hu_r (by omega)
    generalize hD : hu (hu (hu (hu (hu Y 23 0 (Y 81 0)) 23 1 (Y 81 1)) 23 2 (Y 81 2)) 23 3 (Y 81 3)) 23 4 (Y 81 4) = D
    have Dn : ∀ k, k ≠ 23 → D k = Y k := fun k a => by rw [← hD, hu_r a, hu_r a, hu_r a, hu_r a, hu_r a]
    have D23 : D 23 0 = Y 81 0 ∧ D 23 1 = Y 81 1 ∧ D 23 2 = Y 81 2 ∧ D 23 3 = Y 81 3 ∧ D 23 4 = Y 81 4 := by
      rw [← hD]
      refine ⟨?_, ?_, ?_, ?_, ?_⟩
      · rw [hu_ne (by omega), hu_ne (by omega), hu_ne (by omega), hu_ne (by omega), hu_eq]
      · rw [hu_ne (by omega), hu_ne (by omega), hu_ne (by omega), hu_eq]
      · rw [hu_ne (by omega), hu_ne (by omega), hu_eq]
      · rw [hu_ne (by omega), hu_eq]
      · rw [hu_eq]
    generalize hJ : hcp (hcp (hcp (hcp (hcp D 24 82 10) 25 83 10) 26 84 120) 27 85 120) 28 86 120 = J
    have Jn : ∀ k, ¬ (24 ≤ k ∧ k ≤ 28) → J k = D k := fun k a => by rw [← hJ, hcp_ne (by omega), hcp_ne (by omega), hcp_ne (by omega), hcp_ne (by omega), hcp_ne (by omega)]
    have eB : fX10_become_h23_h81 Y = some (0, J) := by
      simp only [fX10_become_h23_h81, f23, hD, hJ]
    have J12 : J 1 2 = b 1 2 := by rw [Jn 1 (by omega), Dn 1 (by omega), Yn 1 2 (by omega)]; exact ws.1.1 1 2 (by omega) (by omega)
    generalize hF : hu J 1 2 (b 1 2 + 1) = F
    have Fn : ∀ k, k ≠ 1 → F k = J k := fun k a => by rw [← hF, hu_r a]
    have F94 : F 94 = b 94 := by
      rw [Fn 94 (by omega), Jn 94 (by omega), Dn 94 (by omega)]
      exact funext fun j => by rw [Yn 94 j (by omega)]; exact ws.1.1 94 j (by omega) (by omega)
    have s1 : b 1 2 = b 94 1 := X.1.2.2.2.2.2.1
    obtain ⟨G, h4, G1, G2, G3, G4, en, e4⟩ := refRun (Z := Z) (h := F) t1 (by rw [F94]; exact t2) (fun i _ => by rw [F94]; exact hZ' i)
    rw [hR] at en
    obtain ⟨rs, _⟩ := en.1 y
    rw [hA, qT] at rs
    obtain ⟨h5, e5, f94, fn⟩ := endR (s := b 94) aT t1 (fun i hi => by rw [G2, F94, ups_ne hi]) (by rw [G2, ups_eq]) rs
    have far : ∀ k j, ¬ (k = 93 ∨ k = 94 ∨ k = 96 ∨ k = 97) → h5 k j = F k j := fun k j a => by rw [fn k j (by omega), rs.1 k j (by omega), G1 k (by omega) (by omega)]
    refine ⟨b 94 1 + 1, F, h5, ?_, ?_, K, A.2.2.2, n, ?_, ?_⟩
    · simp only [fX11_world, e1', ob_s, if_pos (show (-1 : Int32) < 0 by decide), hY, eB, J12, hF]
      rw [← hF, hu_eq, s1]
    · have f4 : h4 93 4 = nI T := rs.2.1.2.1
      have f5 : h4 93 5 = nI T := by rw [rs.1 93 5 (by omega)]; exact G3
      rw [e4]
      simp only [fX12_world_105, rs.2.1.2.2.1, if_true, f4, f5]
      exact e5
    · rw [f94]
      have base : ∀ k j, 1 ≤ k → k ≤ 39 → k ≠ 21 → k ≠ 22 → ¬ (23 ≤ k ∧ k ≤ 28) → ¬ (k = 1 ∧ j = 2) → h5 k j = b k j := fun k j a1 a2 a3 a4 a5 a6 => by
        rw [far k j (by omega), ← hF, hu_ne (by omega), Jn k (by omega), Dn k (by omega), Yn k j (by omega)]
        exact ws.1.1 k j (by omega) (by omega)
      have v81 : ∀ j, Y 81 j = h' 81 j := fun j => Yn 81 j (by omega)
      have h23 : ∀ j, h5 23 j = D 23 j := fun j => by rw [far 23 j (by omega), Fn 23 (by omega), Jn 23 (by omega)]
      have hlen : (flC A.2.2.2).length ≤ 120 := Nat.le_trans aT.2.2.2.2.1 t1
      refine X.1.wor aT t1 lT (fun k j a1 a2 a3 a4 a5 a6 a7 => base k j a1 a2 a4 a5 a6 a7) ?_ ?_ ?_ ?_ ?_ ?_
      · rw [far 1 2 (by omega), ← hF, hu_eq, s1]
      · rw [far 21 1 (by omega), Fn 21 (by omega), Jn 21 (by omega), Dn 21 (by omega), ← hY, hu_eq]
      · rw [h23, D23.1, v81]; exact ws.2.1
      · rw [h23, D23.2.1, v81]; exact ws.2.2.1
      · rw [h23, D23.2.2.1, v81]; exact ws.2.2.2.1
      · refine ⟨by rw [h23, D23.2.2.2.1, v81]; exact ws.2.2.2.2.1, by rw [h23, D23.2.2.2.2, v81, ← aT.2.2.2.1.1]; exact ws.2.2.2.2.2.1, fun c hc => ?_⟩
        have hl10 : A.2.2.2.length ≤ 10 := lT
        have hY8 : ∀ q j, q ≠ 21 → q ≠ 23 → D q j = h' q j := fun q j a1 a2 => by rw [Dn q a2]; exact Yn q j (by omega)
        obtain ⟨o1, o2⟩ := ws.2.2.2.2.2.2.2 c hc
        have hle : ln A.2.2.2 (c + 1) ≤ ln A.2.2.2 A.2.2.2.length := ln_le _ (by omega)
        have hln : ln A.2.2.2 (c + 1) = ln A.2.2.2 c + (cl A.2.2.2 c).2.length := rfl
        have wr1 := aT.2.2.2.1.1
        refine ⟨?_, ?_, fun i hi => ?_⟩
        · show h5 24 c = _
          rw [far 24 c (by omega), Fn 24 (by omega), ← hJ, hcp_ne (by omega), hcp_ne (by omega), hcp_ne (by omega), hcp_ne (by omega), hcp_eq (by omega), hY8 82 c (by omega) (by omega)]
          exact o1
        · show h5 25 c = _
          rw [far 25 c (by omega), Fn 25 (by omega), ← hJ, hcp_ne (by omega), hcp_ne (by omega), hcp_ne (by omega), hcp_eq (by omega), hcp_ne (by omega), hY8 83 c (by omega) (by omega)]
          exact o2
        · have hq : ln A.2.2.2 c + i < (flC A.2.2.2).length := by omega
          obtain ⟨u1, u2, u3⟩ := ws.2.2.2.2.2.2.1 _ hq
          rw [aT.2.2.2.1.2.2.1 c hc i hi] at u1 u2 u3
          refine ⟨?_, ?_, ?_⟩
          · show h5 26 _ = _
            rw [far 26 _ (by omega), Fn 26 (by omega), ← hJ, hcp_ne (by omega), hcp_ne (by omega), hcp_eq (by omega), hcp_ne (by omega), hcp_ne (by omega), hY8 84 _ (by omega) (by omega)]
            exact u1
          · show h5 27 _ = _
            rw [far 27 _ (by omega), Fn 27 (by omega), ← hJ, hcp_ne (by omega), hcp_eq (by omega), hcp_ne (by omega), hcp_ne (by omega), hcp_ne (by omega), hY8 85 _ (by omega) (by omega)]
            exact u2
          · show h5 28 _ = _
            rw [far 28 _ (by omega), Fn 28 (by omega), ← hJ, hcp_eq (by omega), hcp_ne (by omega), hcp_ne (by omega), hcp_ne (by omega), hcp_ne (by omega), hY8 86 _ (by omega) (by omega)]
            exact u3
    · have low : ∀ k j, ¬ (81 ≤ k ∧ k ≤ 86) → ¬ ((1 ≤ k ∧ k ≤ 29) ∨ (31 ≤ k ∧ k ≤ 39)) → ¬ (k = 93 ∨ k = 94 ∨ k = 96 ∨ k = 97) → h5 k j = b k j := fun k j a1 a2 a3 => by
        rw [far k j a3, Fn k (by omega), Jn k (by omega), Dn k (by omega), Yn k j (by omega)]
        exact ws.1.1 k j a1 (by omega)
      have n93 : ∀ j, ¬ (j = 4 ∨ j = 5 ∨ j = 6 ∨ j = 7 ∨ j = 10) → h5 93 j = b 93 j := fun j a => by
        rw [fn 93 j (by omega), rs.1 93 j (by omega), G4 j a, Fn 93 (by omega), Jn 93 (by omega), Dn 93 (by omega), Yn 93 j (by omega)]
        exact ws.1.1 93 j (by omega) (by omega)
      exact X.2.e (fun k hk => funext fun j => low k j (by omega) (by omega) (by omega)) (n93 3 (by omega)) (n93 28 (by omega))
end wt
