/-! clauses by the reference -/
section rcl
variable {Z : Nat → Int32} {T p : Nat} {h m b : HT} {A : Ac}
def RsF (m : HT) (p : Nat) (h : HT) : Prop := (∀ k j, ¬ (k = 96 ∨ k = 97 ∨ (k = 93 ∧ (j = 4 ∨ j = 6 ∨ j = 7 ∨ j = 10))) → h k j = m k j) ∧ h 93 4 = nI p ∧ h 93 6 = 1
def Rst (m : HT) (A : Ac) (p : Nat) (h : HT) : Prop := (∀ k j, ¬ (k = 96 ∨ k = 97 ∨ (k = 93 ∧ (j = 4 ∨ j = 6 ∨ j = 7 ∨ j = 10))) → h k j = m k j) ∧ RGz h p 0 (flR A.2.2.2) h ∧ h 97 0 = nI A.1 ∧ h 97 1 = nI A.2.1 ∧ h 97 2 = nI A.2.2.1
def RLz (m : HT) (r : Bool × Nat × Ac) (h : HT) : Prop := (r.1 = true → Rst m r.2.2 r.2.1 h) ∧ (r.1 = false → RsF m r.2.1 h)
theorem RLz.t {q : Nat} {B : Ac} (w : Rst m B q h) : RLz m (true, q, B) h := ⟨fun _ => w, fun e => by cases e⟩
theorem RLz.f {q : Nat} {B : Ac} (w : RsF m q h) : RLz m (false, q, B) h := ⟨fun e => (by cases e), fun _ => w⟩
theorem RF.tr {q q2 : Nat} {e1 e2 : Bool} {h1 h2 : HT} (a : RF h q e1 h1) (c : RF h1 q2 e2 h2) : RF h q2 e2 h2 := ⟨fun k j n => (c.1 k j n).trans (a.1 k j n), c.2⟩
theorem RGz.self {o : Nat} {E : List Int32} (g : RGz m p o E h) : RGz h p o E h := ⟨fun _ _ _ => rfl, g.2⟩
theorem Rst.rb (w : Rst m A p h) (r : rb Z T m) : rb Z T h := ⟨r.1, by rw [w.1 93 5 (by omega)]; exact r.2.1, fun i hi => by rw [w.1 94 (10 + i) (by omega)]; exact r.2.2 i hi⟩
theorem Rst.fail {q : Nat} {h' : HT} (w : Rst m A p h) (r : RF h q true h') : RsF m q h' := ⟨fun k j n => by rw [r.1 k j (by omega)]; exact w.1 k j n, r.2.1, r.2.2⟩
theorem Rst.re {q : Nat} {h' : HT} (w : Rst m A p h) (r : REz h q h') : RsF m q h' := ⟨fun k j n => by rw [r.1 k j (by omega)]; exact w.1 k j n, r.2.1, r.2.2⟩
/-- a word and a number -/
theorem wordR {si : Nat} {c0 : Nat} {cs : List Int32} (st : ST si (nI c0 :: cs)) (h0 : c0 < 200) (hl : cs.length ≤ 19) (hc : ∀ c, c ∈ cs → ∃ k, k < 200 ∧ c = nI k) (r : rb Z T h) (hp : p < T) (hz : Z p = nI c0) (f : RF h p false h) : ∃ h1 h2, fX12_spells si h = some (0, h1) ∧ fX12_figures h1 = some (if (amS Z T cs (p + 1)).1 = true then nI (amS Z T cs (p + 1)).2.1 else 0, h2) ∧ RF h (amS Z T cs (p + 1)).2.2 (!(amS Z T cs (p + 1)).1) h2 := by
  have g0 : goS Z T (nI c0 :: cs) p = goS Z T cs (p + 1) := by rw [goS, if_pos ⟨hp, hz⟩]
  obtain ⟨h1, e1, r1⟩ := spellsE st (by rw [List.length_cons]; omega) (fun c hc' => by
    rcases List.mem_cons.mp hc' with rfl | q
    · exact ⟨c0, h0, rfl⟩
    · exact hc c q) r (Nat.le_of_lt hp) f
  rw [g0] at r1
  have gl := goS_le (Z := Z) cs (p + 1) (show p + 1 ≤ T by omega)
  unfold amS
  cases y : (goS Z T cs (p + 1)).1
  · rw [y] at r1
    obtain ⟨h2, e2, r2⟩ := figX (h := h1) (m := h1) (p := (goS Z T cs (p + 1)).2) ⟨fun _ _ _ => rfl, r1.2⟩
    refine ⟨h1, h2, e1, ?_, ?_⟩
    · simp only [Bool.false_eq_true, if_false]; exact e2
    · simp only [Bool.false_eq_true, if_false]; exact r1.tr r2
  · rw [y] at r1
    have rb1 : rb Z T h1 := ⟨r.1, by rw [r1.1 93 5 (by omega)]; exact r.2.1, fun i hi => by rw [r1.1 94 (10 + i) (by omega)]; exact r.2.2 i hi⟩
    rcases figE rb1 gl.2 ⟨fun _ _ _ => rfl, r1.2⟩ with ⟨v, q, h2, n1, e2, r2⟩ | ⟨n1, h2, e2, r2⟩
    · refine ⟨h1, h2, e1, ?_, ?_⟩
      · simp only [if_true, n1]; exact e2
      · simp only [if_true, n1]; exact r1.tr r2
    · refine ⟨h1, h2, e1, ?_, ?_⟩
      · simp only [if_true, n1, Bool.false_eq_true, if_false]; exact e2
      · simp only [if_true, n1]; exact r1.tr r2
theorem tellsR {si c0 j : Nat} {cs : List Int32} (st : ST si (nI c0 :: cs)) (h0 : c0 < 200) (hl : cs.length ≤ 19) (hc : ∀ c, c ∈ cs → ∃ k, k < 200 ∧ c = nI k) (r : rb Z T m) (w : Rst m A p h) (hp : p < T) (hz : Z p = nI c0) (hj : j < 3) : ∃ h', fX12_tells si (nI j) h = some (0, h') ∧ ((amS Z T cs (p + 1)).1 = false → RsF m (amS Z T cs (p + 1)).2.2 h') ∧ ((amS Z T cs (p + 1)).1 = true → (∀ k i, ¬ (k = 96 ∨ k = 97 ∨ (k = 93 ∧ (i = 4 ∨ i = 6 ∨ i = 7 ∨ i = 10))) → h' k i = m k i) ∧ RGz h' (amS Z T cs (p + 1)).2.2 0 (flR A.2.2.2) h' ∧ ∀ i, h' 97 i = if i = j then nI (amS Z T cs (p + 1)).2.1 else h 97 i) := by
  obtain ⟨h1, h2, e1, e2, r2⟩ := wordR st h0 hl hc (w.rb r) hp hz w.2.1.rf
  have cj : ck 3 (nI j) = some j := ckI rfl hj
  generalize amS Z T cs (p + 1) = am at *
  simp only [fX12_tells, e1, ob_s, e2, r2.2.2, cj, fX12_tells_32]
  cases y : am.1
  · rw [y] at r2
    refine ⟨_, by simp only [Bool.not_false, ifbt]; rfl, fun _ => ?_, fun e => by cases e⟩
    have rs := w.fail r2
    refine ⟨fun k i n => by rw [hu_ne (by omega)]; exact rs.1 k i n, by rw [hu_ne (by omega)]; exact rs.2.1, by rw [hu_ne (by omega)]; exact rs.2.2⟩
  · rw [y] at r2
    refine ⟨_, by simp only [Bool.not_true, ifbf, if_true]; rfl, fun e => (by cases e), fun _ => ⟨fun k i n => ?_, ?_, fun i => ?_⟩⟩
    · rw [hu_ne (by omega), r2.1 k i (by omega)]; exact w.1 k i n
    · have g := w.2.1.of r2
      refine ⟨fun _ _ _ => rfl, by rw [hu_ne (by omega)]; exact g.2.1, by rw [hu_ne (by omega)]; exact g.2.2.1, by rw [hu_ne (by omega)]; exact g.2.2.2.1, by rw [hu_ne (by omega)]; exact g.2.2.2.2.1, fun i hi => by rw [hu_ne (by omega)]; exact g.2.2.2.2.2 i hi⟩
    · by_cases z : i = j
      · subst z; rw [hu_eq, if_pos rfl]
      · rw [hu_ne (by omega), if_neg z, r2.1 97 i (by omega)]
theorem cs_ok : ∀ cs : List Int32, (cs = [111, 115, 116, 32] ∨ cs = [111, 114, 100, 32] ∨ cs = [101, 115, 115, 32] ∨ cs = [97, 107, 101, 32]) → cs.length ≤ 19 ∧ ∀ c, c ∈ cs → ∃ k, k < 200 ∧ c = nI k := by
  intro cs h
  rcases h with rfl | rfl | rfl | rfl
  · exact ⟨by decide, fun c hc => by
      simp only [List.mem_cons, List.not_mem_nil, or_false] at hc
      rcases hc with rfl | rfl | rfl | rfl
      · exact ⟨111, by omega, rfl⟩
      · exact ⟨115, by omega, rfl⟩
      · exact ⟨116, by omega, rfl⟩
      · exact ⟨32, by omega, rfl⟩⟩
  · exact ⟨by decide, fun c hc => by
      simp only [List.mem_cons, List.not_mem_nil, or_false] at hc
      rcases hc with rfl | rfl | rfl | rfl
      · exact ⟨111, by omega, rfl⟩
      · exact ⟨114, by omega, rfl⟩
      · exact ⟨100, by omega, rfl⟩
      · exact ⟨32, by omega, rfl⟩⟩
  · exact ⟨by decide, fun c hc => by
      simp only [List.mem_cons, List.not_mem_nil, or_false] at hc
      rcases hc with rfl | rfl | rfl | rfl
      · exact ⟨101, by omega, rfl⟩
      · exact ⟨115, by omega, rfl⟩
      · exact ⟨115, by omega, rfl⟩
      · exact ⟨32, by omega, rfl⟩⟩
  · exact ⟨by decide, fun c hc => by
      simp only [List.mem_cons, List.not_mem_nil, or_false] at hc
      rcases hc with rfl | rfl | rfl | rfl
      · exact ⟨97, by omega, rfl⟩
      · exact ⟨107, by omega, rfl⟩
      · exact ⟨101, by omega, rfl⟩
      · exact ⟨32, by omega, rfl⟩⟩
theorem clauseR (r : rb Z T m) (w : Rst m A p h) (hp : p ≤ T) (a : AOK A p) : Rs (RLz m (clS Z T A p)) (fX12_clause h) 0 := by
  have hT := r.1
  have rbh := w.rb r
  have rp := w.2.1.rf.rp rbh hp
  unfold clS
  simp only [fX12_clause, hereE rp, ob_s, fX12_clause_115]
  cases k : pkS Z T [99, 119, 108, 116] p with
  | none =>
    have no : ∀ i, i < 4 → ¬ hrS Z T p = ([99, 119, 108, 116] : List Int32).getD i 0 := fun i hi e => by
      have hi' : i < ([99, 119, 108, 116] : List Int32).length := hi
      have no := pkz_no k hi'
      unfold hrS at e
      by_cases z : p < T
      · rw [if_pos z] at e; exact no ⟨z, e⟩
      · rw [if_neg z] at e
        have : i = 0 ∨ i = 1 ∨ i = 2 ∨ i = 3 := by omega
        rcases this with rfl | rfl | rfl | rfl <;> exact absurd e (by decide)
    have n0 : ¬ hrS Z T p = 99 := no 0 (by omega)
    have n1 : ¬ hrS Z T p = 119 := no 1 (by omega)
    have n2 : ¬ hrS Z T p = 108 := no 2 (by omega)
    have n3 : ¬ hrS Z T p = 116 := no 3 (by omega)
    rw [if_neg n0, if_neg n2, if_neg n3, if_neg n1]
    refine Rs.ok (RLz.f ⟨fun k j n => by rw [hu_ne (by omega)]; exact w.1 k j n, by rw [hu_ne (by omega)]; exact w.2.1.2.1, hu_eq⟩)
  | some i =>
    obtain ⟨k1, k2, k3⟩ := pkz_lt k
    have k2 : i < 4 := k2
    have hx := hr_pk k
    have i4 : i = 0 ∨ i = 1 ∨ i = 2 ∨ i = 3 := by omega
    rcases i4 with rfl | rfl | rfl | rfl
    · have hx : hrS Z T p = 99 := hx
      have hz : Z p = nI 99 := k3.symm
      rw [if_pos hx]
      obtain ⟨c1, c2⟩ := cs_ok [111, 115, 116, 32] (Or.inl rfl)
      obtain ⟨h1, h2, e1, e2, r2⟩ := wordR (c0 := 99) st_14 (by omega) c1 c2 rbh k1 hz w.2.1.rf
      obtain ⟨m1, m2, m3, m4⟩ := amS_ok (Z := Z) (cs := [111, 115, 116, 32]) (show p + 1 ≤ T by omega)
      unfold prS
      simp only [e1, ob_s, e2]
      generalize amS Z T [111, 115, 116, 32] (p + 1) = am at *
      have errs : ∀ {q : Nat} {g : HT} {v : Int32} {B : Ac}, RF h q true g → Rs (RLz m (false, q, B)) (Option.bind (fX12_some (fX12_factor 8) g) fun z6 => Option.bind (fX12_emits ((-10 : Int32) - v) z6.2) fun z7 => some (0, z7.2)) 0 := by
        intro q g v B rf
        rw [someX (factX 7) g rf.2.2]
        simp only [ob_s]
        rw [emitX rf.2.2]
        simp only [ob_s]
        exact Rs.ok (RLz.f (w.fail rf))
      cases y : am.1
      · rw [y] at r2
        obtain ⟨h3, e3, r3⟩ := mustX (m := h2) ⟨fun _ _ _ => rfl, r2.2⟩ 32
        simp only [e3, ob_s, Bool.false_eq_true, if_false]
        exact errs (r2.tr r3)
      · rw [y] at r2
        have rb2 : rb Z T h2 := ⟨rbh.1, by rw [r2.1 93 5 (by omega)]; exact rbh.2.1, fun i hi => by rw [r2.1 94 (10 + i) (by omega)]; exact rbh.2.2 i hi⟩
        obtain ⟨h3, e3, r3⟩ := mustE rb2 m1 (m := h2) ⟨fun _ _ _ => rfl, r2.2⟩ (c := 32) (by omega)
        have e3' : fX12_must 32 h2 = some (0, h3) := e3
        simp only [e3', ob_s, if_true]
        by_cases z : am.2.2 < T ∧ Z am.2.2 = 32
        · have z' : am.2.2 < T ∧ Z am.2.2 = nI 32 := z
          rw [if_pos z', decide_eq_true z'] at r3
          have g3 : RGz h (am.2.2 + 1) 0 (flR A.2.2.2) h3 := w.2.1.of (r2.tr r3)
          have sr := someR rbh (sgl_LP Z T 5) (factorR rbh 5 8 0 rfl (by omega))
          obtain ⟨h4, e4, r4⟩ := sr (flR A.2.2.2) (am.2.2 + 1) h3 g3 (by omega) (by have := a.2.2.2.2.2.1; omega)
          rw [if_pos z]
          simp only [e4, ob_s]
          have hL : LPz T (eiS Z T (sglS Z T 5)) := jn_LP (jn_LP (sgl_LP Z T 5))
          have lp := hL (am.2.2 + 1) (by omega)
          generalize eiS Z T (sglS Z T 5) (am.2.2 + 1) = rr at *
          cases y2 : rr.1
          · have er := r4.2 y2
            rw [emitX er.2.2]
            simp only [ob_s, Bool.false_eq_true, if_false]
            exact Rs.ok (RLz.f (w.re er))
          · have gg := r4.1 y2
            obtain ⟨l1, l2, l3⟩ := lp y2
            have a6 := a.2.2.2.2.2.1
            obtain ⟨h5, e5, g5⟩ := emitE gg (by rw [List.length_append, List.length_map]; omega) ((-10 : Int32) - nI am.2.1)
            simp only [e5, ob_s, if_true]
            have eF : flR (A.2.2.2 ++ [(am.2.1, rr.2.2)]) = flR A.2.2.2 ++ rr.2.2.map pk ++ [(-10 : Int32) - nI am.2.1] := flR_s _ _
            refine Rs.ok (RLz.t ⟨fun k j n => by rw [g5.1 k j (by omega)]; exact w.1 k j n, ?_, ?_, ?_, ?_⟩)
            · show RGz h5 rr.2.1 0 (flR (A.2.2.2 ++ [(am.2.1, rr.2.2)])) h5
              rw [eF]; exact g5.self
            · rw [g5.1 97 0 (by omega)]; exact w.2.2.1
            · rw [g5.1 97 1 (by omega)]; exact w.2.2.2.1
            · rw [g5.1 97 2 (by omega)]; exact w.2.2.2.2
        · have z' : ¬ (am.2.2 < T ∧ Z am.2.2 = nI 32) := z
          rw [if_neg z', decide_eq_false z'] at r3
          rw [if_neg z]
          exact errs (r2.tr r3)
    · have hx : hrS Z T p = 119 := hx
      have hz : Z p = nI 119 := k3.symm
      obtain ⟨c1, c2⟩ := cs_ok [111, 114, 100, 32] (Or.inr (Or.inl rfl))
      obtain ⟨h', e1, f1, f2⟩ := tellsR (j := 0) (c0 := 119) st_15 (by omega) c1 c2 r w k1 hz (by omega)
      have e1' : fX12_tells 15 0 h = some (0, h') := e1
      rw [hx, if_neg (by decide), if_neg (by decide), if_neg (by decide), if_pos rfl]
      simp only [e1', ob_s]
      generalize amS Z T [111, 114, 100, 32] (p + 1) = am at *
      cases y : am.1
      · exact Rs.ok (RLz.f (f1 y))
      · obtain ⟨g1, g2, g3⟩ := f2 y
        exact Rs.ok (RLz.t ⟨g1, g2, by rw [g3, if_pos rfl], by rw [g3, if_neg (by omega)]; exact w.2.2.2.1, by rw [g3, if_neg (by omega)]; exact w.2.2.2.2⟩)
    · have hx : hrS Z T p = 108 := hx
      have hz : Z p = nI 108 := k3.symm
      obtain ⟨c1, c2⟩ := cs_ok [101, 115, 115, 32] (Or.inr (Or.inr (Or.inl rfl)))
      obtain ⟨h', e1, f1, f2⟩ := tellsR (j := 1) (c0 := 108) st_16 (by omega) c1 c2 r w k1 hz (by omega)
      have e1' : fX12_tells 16 1 h = some (0, h') := e1
      rw [hx, if_neg (by decide), if_pos rfl]
      simp only [e1', ob_s]
      generalize amS Z T [101, 115, 115, 32] (p + 1) = am at *
      cases y : am.1
      · exact Rs.ok (RLz.f (f1 y))
      · obtain ⟨g1, g2, g3⟩ := f2 y
        exact Rs.ok (RLz.t ⟨g1, g2, by rw [g3, if_neg (by omega)]; exact w.2.2.1, by rw [g3, if_pos rfl], by rw [g3, if_neg (by omega)]; exact w.2.2.2.2⟩)
    · have hx : hrS Z T p = 116 := hx
      have hz : Z p = nI 116 := k3.symm
      obtain ⟨c1, c2⟩ := cs_ok [97, 107, 101, 32] (Or.inr (Or.inr (Or.inr rfl)))
      obtain ⟨h', e1, f1, f2⟩ := tellsR (j := 2) (c0 := 116) st_17 (by omega) c1 c2 r w k1 hz (by omega)
      have e1' : fX12_tells 17 2 h = some (0, h') := e1
      rw [hx, if_neg (by decide), if_neg (by decide), if_pos rfl]
      simp only [e1', ob_s]
      generalize amS Z T [97, 107, 101, 32] (p + 1) = am at *
      cases y : am.1
      · exact Rs.ok (RLz.f (f1 y))
      · obtain ⟨g1, g2, g3⟩ := f2 y
        exact Rs.ok (RLz.t ⟨g1, g2, by rw [g3, if_neg (by omega)]; exact w.2.2.1, by rw [g3, if_neg (by omega)]; exact w.2.2.2.1, by rw [g3, if_pos rfl]⟩)
/-- all clauses -/
def rdS (Z : Nat → Int32) (T : Nat) : Nat → Ac → Nat → Bool × Nat × Ac
  | 0, A, p => if (clS Z T A p).1 = true then (decide ((clS Z T A p).2.1 = T), (clS Z T A p).2.1, (clS Z T A p).2.2) else (false, (clS Z T A p).2.1, A)
  | k + 1, A, p => if (clS Z T A p).1 = true then (if (clS Z T A p).2.1 = T then (true, (clS Z T A p).2.1, (clS Z T A p).2.2) else (if Z (clS Z T A p).2.1 = 59 then rdS Z T k (clS Z T A p).2.2 ((clS Z T A p).2.1 + 1) else (false, (clS Z T A p).2.1, (clS Z T A p).2.2))) else (false, (clS Z T A p).2.1, A)
theorem rdS_ok : ∀ (k : Nat) (A : Ac) (p : Nat), AOK A p → p ≤ T → (rdS Z T k A p).1 = true → AOK (rdS Z T k A p).2.2 T ∧ (rdS Z T k A p).2.1 = T ∧ (rdS Z T k A p).2.2.2.2.2.length ≤ A.2.2.2.length + k + 1
  | 0, A, p, a, hp, e => by
    rw [rdS] at e ⊢
    by_cases y : (clS Z T A p).1 = true
    · rw [if_pos y] at e ⊢
      obtain ⟨c1, c2, c3, c4⟩ := clS_ok a hp y
      have q := of_decide_eq_true e
      refine ⟨?_, q, c4⟩
      rw [q] at c1; exact c1
    · rw [if_neg y] at e; cases e
  | k + 1, A, p, a, hp, e => by
    rw [rdS] at e ⊢
    by_cases y : (clS Z T A p).1 = true
    · rw [if_pos y] at e ⊢
      obtain ⟨c1, c2, c3, c4⟩ := clS_ok a hp y
      by_cases q : (clS Z T A p).2.1 = T
      · rw [if_pos q]
        refine ⟨?_, q, by show (clS Z T A p).2.2.2.2.2.length ≤ _; omega⟩
        rw [q] at c1; exact c1
      · rw [if_neg q] at e ⊢
        by_cases z : Z (clS Z T A p).2.1 = 59
        · rw [if_pos z] at e ⊢
          obtain ⟨i1, i2, i3⟩ := rdS_ok k (clS Z T A p).2.2 ((clS Z T A p).2.1 + 1) (c1.up (by omega)) (by omega) e
          exact ⟨i1, i2, by omega⟩
        · rw [if_neg z] at e; cases e
    · rw [if_neg y] at e; cases e
theorem readC (t : tb Z T b) : ∀ (k : Nat) {n : Nat} {A : Ac} {p : Nat} {h : HT}, k < 10 → k < n → Wst b A p h → p ≤ T → AOK A p → A.2.2.2.length + k + 1 ≤ 10 → ∃ h', fX10_read_32 n (nI (10 - k)) h = some (if (rdS Z T k A p).1 = true then -1 else nI (rdS Z T k A p).2.1, h') ∧ ((rdS Z T k A p).1 = true → Wst b (rdS Z T k A p).2.2 (rdS Z T k A p).2.1 h') ∧ ((rdS Z T k A p).1 = false → WsF b (rdS Z T k A p).2.1 h') := by
  intro k
  induction k with
  | zero =>
    intro n A p h hk hn w hp a hl
    have hT := t.1
    obtain ⟨n, rfl⟩ : ∃ n', n = n' + 1 := ⟨n - 1, by omega⟩
    obtain ⟨h1, e1, r1⟩ := clauseC t w hp a (by omega)
    rw [rdS]
    simp only [fX10_read_32, if_neg (show ¬ (10 : Int32) < nI (10 - 0) by decide), e1, ob_s]
    cases y : (clS Z T A p).1
    · have wf := r1.2 y
      simp only [if_pos bI_f, Bool.false_eq_true, if_false, wf.2]
      exact ⟨h1, rfl, fun e => (by cases e), fun _ => wf⟩
    · obtain ⟨c1, c2, c3, c4⟩ := clS_ok a hp y
      have ws := r1.1 y
      have v1 : h1 21 2 = nI (clS Z T A p).2.1 := ws.1.2
      have v2 : h1 21 1 = nI T := (ws.1.tbw t).2.1
      simp only [ifbt, if_true, v1, v2]
      by_cases q : (clS Z T A p).2.1 = T
      · rw [if_neg (by rw [q]; exact Int32.lt_irrefl), decide_eq_true q, if_pos rfl]
        exact ⟨h1, rfl, fun _ => ws, fun e => by cases e⟩
      · rw [if_pos (nI_lt (show (clS Z T A p).2.1 < T by omega) (by omega)), decide_eq_false q]
        simp only [if_pos (show nI (10 - 0) = 10 from rfl), fX10_read_79, v1, Bool.false_eq_true, if_false]
        exact ⟨h1, rfl, fun e => (by cases e), fun _ => ws.1⟩
  | succ k ih =>
    intro n A p h hk hn w hp a hl
    have hT := t.1
    obtain ⟨n, rfl⟩ : ∃ n', n = n' + 1 := ⟨n - 1, by omega⟩
    obtain ⟨h1, e1, r1⟩ := clauseC t w hp a (by omega)
    have n10 : ¬ (10 : Int32) < nI (10 - (k + 1)) := nI_nlt (b := 10 - (k + 1)) (a := 10) (by omega) (by omega)
    have ne10 : ¬ nI (10 - (k + 1)) = 10 := fun e => by
      have e : nI (10 - (k + 1)) = nI 10 := e
      rw [nI_eq (by omega) (by omega)] at e; omega
    rw [rdS]
    simp only [fX10_read_32, if_neg n10, e1, ob_s]
    cases y : (clS Z T A p).1
    · have wf := r1.2 y
      simp only [if_pos bI_f, Bool.false_eq_true, if_false, wf.2]
      exact ⟨h1, rfl, fun e => (by cases e), fun _ => wf⟩
    · obtain ⟨c1, c2, c3, c4⟩ := clS_ok a hp y
      have ws := r1.1 y
      have v1 : h1 21 2 = nI (clS Z T A p).2.1 := ws.1.2
      have v2 : h1 21 1 = nI T := (ws.1.tbw t).2.1
      simp only [ifbt, if_true, v1, v2]
      by_cases q : (clS Z T A p).2.1 = T
      · rw [if_neg (by rw [q]; exact Int32.lt_irrefl), if_pos q]
        exact ⟨h1, rfl, fun _ => ws, fun e => by cases e⟩
      · rw [if_pos (nI_lt (show (clS Z T A p).2.1 < T by omega) (by omega)), if_neg q]
        have e2 : fX6_pick 13 h1 = match pkS Z T [59] (clS Z T A p).2.1 with
          | none => some (-1, h1)
          | some k => some (nI k, hu h1 21 2 (nI ((clS Z T A p).2.1 + 1))) := pickE st_13 (by decide) (ws.1.tp t c3)
        simp only [if_neg ne10, e2, fX10_read_79]
        cases d : pkS Z T [59] (clS Z T A p).2.1 with
        | none =>
          have no : ¬ ((clS Z T A p).2.1 < T ∧ Z (clS Z T A p).2.1 = 59) := pkz_no (k := 0) d (by decide)
          have no2 : ¬ Z (clS Z T A p).2.1 = 59 := fun z => no ⟨by omega, z⟩
          simp only [ob_s, if_neg (show ¬ (0 : Int32) ≤ -1 by decide), v1, if_neg no2, Bool.false_eq_true, if_false]
          exact ⟨h1, rfl, fun e => (by cases e), fun _ => ws.1⟩
        | some i =>
          obtain ⟨d1, d2, d3⟩ := pkz_lt d
          have d2 : i < 1 := d2
          obtain rfl : i = 0 := by omega
          have d3 : (59 : Int32) = Z (clS Z T A p).2.1 := d3
          simp only [ob_s, if_pos (show (0 : Int32) ≤ nI 0 by decide), if_pos d3.symm, nI_1]
          rw [show 10 - (k + 1) + 1 = 10 - k by omega]
          exact ih (by omega) (by omega) (ws.to (fun k j n => hu_ne n) hu_eq) (by omega) (c1.up (by omega)) (by omega)
end rcl
