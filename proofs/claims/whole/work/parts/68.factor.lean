section rf
variable {Z : Nat → Int32} {T p o : Nat} {h m : HT} {E : List Int32}
def RGz (m : HT) (p o : Nat) (E : List Int32) (h : HT) : Prop := (∀ k j, ¬ (k = 96 ∨ (k = 93 ∧ (j = 4 ∨ j = 6 ∨ j = 7 ∨ j = 10))) → h k j = m k j) ∧ h 93 4 = nI p ∧ h 93 6 = 0 ∧ h 93 7 = nI o ∧ h 93 10 = nI E.length ∧ ∀ i, i < E.length → h 96 i = E.getD i 0
def REz (m : HT) (p : Nat) (h : HT) : Prop := (∀ k j, ¬ (k = 96 ∨ (k = 93 ∧ (j = 4 ∨ j = 6 ∨ j = 7 ∨ j = 10))) → h k j = m k j) ∧ h 93 4 = nI p ∧ h 93 6 = 1
def RRz (m : HT) (o : Nat) (E : List Int32) (r : PRs) (h : HT) : Prop := (r.1 = true → RGz m r.2.1 o (E ++ r.2.2.map pk) h) ∧ (r.1 = false → REz m r.2.1 h)
theorem RRz.t {q : Nat} {S : List Sq} (c : RGz m q o (E ++ S.map pk) h) : RRz m o E (true, q, S) h := ⟨fun _ => c, fun e => by cases e⟩
theorem RRz.f {q : Nat} {S : List Sq} (c : REz m q h) : RRz m o E (false, q, S) h := ⟨fun e => (by cases e), fun _ => c⟩
theorem RGz.rf (g : RGz m p o E h) : RF h p false h := ⟨fun _ _ _ => rfl, g.2.1, g.2.2.1⟩
theorem RGz.rb (g : RGz m p o E h) (b : rb Z T m) : rb Z T h := ⟨b.1, by rw [g.1 93 5 (by omega)]; exact b.2.1, fun i hi => by rw [g.1 94 (10 + i) (by omega)]; exact b.2.2 i hi⟩
theorem REz.rb (g : REz m p h) (b : rb Z T m) : rb Z T h := ⟨b.1, by rw [g.1 93 5 (by omega)]; exact b.2.1, fun i hi => by rw [g.1 94 (10 + i) (by omega)]; exact b.2.2 i hi⟩
theorem RGz.of {q : Nat} {h' : HT} (g : RGz m p o E h) (r : RF h q false h') : RGz m q o E h' := ⟨fun k j n => by rw [r.1 k j (by omega)]; exact g.1 k j n, r.2.1, r.2.2, by rw [r.1 93 7 (by omega)]; exact g.2.2.2.1, by rw [r.1 93 10 (by omega)]; exact g.2.2.2.2.1, fun i hi => by rw [r.1 96 i (by omega)]; exact g.2.2.2.2.2 i hi⟩
theorem RGz.er {q : Nat} {h' : HT} (g : RGz m p o E h) (r : RF h q true h') : REz m q h' := ⟨fun k j n => by rw [r.1 k j (by omega)]; exact g.1 k j n, r.2.1, r.2.2⟩
theorem REz.er {q : Nat} {h' : HT} (g : REz m p h) (r : RF h q true h') : REz m q h' := ⟨fun k j n => by rw [r.1 k j (by omega)]; exact g.1 k j n, r.2.1, r.2.2⟩
theorem REz.rf (g : REz m p h) : RF h p true h := ⟨fun _ _ _ => rfl, g.2.1, g.2.2⟩
theorem RGz.mv {q : Nat} (g : RGz m p o E h) : RGz m q o E (hu h 93 4 (nI q)) := ⟨fun k j n => by rw [hu_ne (by omega)]; exact g.1 k j n, hu_eq, by rw [hu_ne (by omega)]; exact g.2.2.1, by rw [hu_ne (by omega)]; exact g.2.2.2.1, by rw [hu_ne (by omega)]; exact g.2.2.2.2.1, fun i hi => by rw [hu_ne (by omega)]; exact g.2.2.2.2.2 i hi⟩
theorem RGz.dp {o' : Nat} (g : RGz m p o E h) : RGz m p o' E (hu h 93 7 (nI o')) := ⟨fun k j n => by rw [hu_ne (by omega)]; exact g.1 k j n, by rw [hu_ne (by omega)]; exact g.2.1, by rw [hu_ne (by omega)]; exact g.2.2.1, hu_eq, by rw [hu_ne (by omega)]; exact g.2.2.2.2.1, fun i hi => by rw [hu_ne (by omega)]; exact g.2.2.2.2.2 i hi⟩
theorem REz.s7 {v : Int32} (g : REz m p h) : REz m p (hu h 93 7 v) := ⟨fun k j n => by rw [hu_ne (by omega)]; exact g.1 k j n, by rw [hu_ne (by omega)]; exact g.2.1, by rw [hu_ne (by omega)]; exact g.2.2⟩
theorem emitE (g : RGz m p o E h) (hl : E.length < 140) (x : Int32) : Rs (RGz m p o (E ++ [x])) (fX12_emits x h) 0 := by
  have c : ck 140 (nI E.length) = some E.length := ckI rfl hl
  have f : hu h 96 E.length x 93 10 = nI E.length := by rw [hu_ne (by omega)]; exact g.2.2.2.2.1
  simp only [fX12_emits, g.2.2.1, if_true, g.2.2.2.2.1, c, ob_s, f, fX12_emits_27, nI_1]
  refine Rs.ok ⟨fun k j n => by rw [hu_ne (by omega), hu_ne (by omega)]; exact g.1 k j n, by rw [hu_ne (by omega), hu_ne (by omega)]; exact g.2.1, by rw [hu_ne (by omega), hu_ne (by omega)]; exact g.2.2.1, by rw [hu_ne (by omega), hu_ne (by omega)]; exact g.2.2.2.1, by rw [hu_eq, List.length_append, List.length_singleton], fun i hi => ?_⟩
  rw [List.length_append, List.length_singleton] at hi
  rw [hu_ne (by omega)]
  by_cases z : i = E.length
  · subst z
    rw [hu_eq, List.getD_eq_getElem?_getD, List.getElem?_append_right (Nat.le_refl _), Nat.sub_self]; rfl
  · rw [hu_ne (by omega), g.2.2.2.2.2 i (by omega), List.getD_eq_getElem?_getD, List.getD_eq_getElem?_getD, List.getElem?_append_left (by omega)]
theorem emitX (e : h 93 6 = 1) (x : Int32) : fX12_emits x h = some (0, h) := by
  simp only [fX12_emits, e, if10, fX12_emits_27]
def XE (F : HT → Option (Int32 × HT)) : Prop := ∀ h : HT, h 93 6 = 1 → F h = some (0, h)
theorem factX (n : Nat) : XE (fX12_factor (n + 1)) := fun h e => by
  show fX12_factorb (fX12_factor n) h = _
  simp only [fX12_factorb, e, if10]
def SRl (T : Nat) (m : HT) (o : Nat) (sg : Nat → PRs) (F : HT → Option (Int32 × HT)) : Prop := ∀ (E : List Int32) (p : Nat) (h : HT), RGz m p o E h → p ≤ T → E.length ≤ p → Rs (RRz m o E (sg p)) (F h) 0
theorem loopR {sg : Nat → PRs} {rec : HT → Option (Int32 × HT)} (b : rb Z T m) (hs : LPz T sg) (hR : SRl T m o sg rec) : ∀ (f : Nat) {n p : Nat} {S : List Sq} {h : HT}, f < n → RGz m p o (E ++ S.map pk) h → p ≤ T → 120 ≤ p + f → E.length + S.length ≤ p → Rs (RRz m o E (lpS Z T 38 5 sg f p S)) (fX12_every_4 rec n h) 0
  | 0, n, p, S, h, hn, g, hp, hf, hl => by
    have hT := b.1
    obtain ⟨n, rfl⟩ : ∃ n', n = n' + 1 := ⟨n - 1, by omega⟩
    have rp := g.rf.rp (g.rb b) hp
    have ne : ¬ hrS Z T p = nI 38 := fun e => by have := (hr_eq (by omega)).mp e; omega
    have ne : ¬ hrS Z T p = 38 := ne
    simp only [fX12_every_4, g.2.2.1, if_true, hereE rp, ob_s, if_neg ne, fX12_every_43, lpS]
    exact Rs.ok (RRz.t g)
  | f + 1, n, p, S, h, hn, g, hp, hf, hl => by
    have hT := b.1
    obtain ⟨n, rfl⟩ : ∃ n', n = n' + 1 := ⟨n - 1, by omega⟩
    have rp := g.rf.rp (g.rb b) hp
    have q : (hrS Z T p = 38) ↔ (p < T ∧ Z p = 38) := hr_eq (k := 38) (by omega)
    rw [lpS]
    simp only [fX12_every_4, g.2.2.1, if_true, hereE rp, ob_s, q, g.2.1, nI_1, fX12_every_43]
    by_cases z : p < T ∧ Z p = 38
    · rw [if_pos z, if_pos z]
      have g1 : RGz m (p + 1) o (E ++ S.map pk) (hu h 93 4 (nI (p + 1))) := g.mv
      obtain ⟨h2, e2, r2⟩ := hR _ (p + 1) _ g1 (by omega) (by rw [List.length_append, List.length_map]; omega)
      simp only [e2, ob_s]
      cases y : (sg (p + 1)).1
      · simp only [Bool.false_eq_true, if_false]
        have er := r2.2 y
        rw [emitX er.2.2]
        simp only [ob_s]
        obtain ⟨n, rfl⟩ : ∃ n', n = n' + 1 := ⟨n - 1, by omega⟩
        simp only [fX12_every_4, er.2.2, if10, fX12_every_43]
        exact Rs.ok (RRz.f er)
      · simp only [if_true]
        obtain ⟨l1, l2', l3⟩ := hs (p + 1) (by omega) y
        obtain ⟨h3, e3, g3⟩ := emitE (r2.1 y) (by rw [List.length_append, List.length_append, List.length_map, List.length_map]; omega) (-2)
        simp only [e3, ob_s]
        have g3' : RGz m (sg (p + 1)).2.1 o (E ++ (S ++ (sg (p + 1)).2.2 ++ [(5, 0, 0)]).map pk) h3 := by
          have e : E ++ (S ++ (sg (p + 1)).2.2 ++ [(5, 0, 0)]).map pk = E ++ S.map pk ++ (sg (p + 1)).2.2.map pk ++ [-2] := by
            rw [List.map_append, List.map_append]
            show E ++ (S.map pk ++ (sg (p + 1)).2.2.map pk ++ [-2]) = _
            simp
          rw [e]; exact g3
        exact loopR b hs hR f (by omega) g3' l3 (by omega) (by rw [List.length_append, List.length_append, List.length_singleton]; omega)
    · rw [if_neg z, if_neg z]
      exact Rs.ok (RRz.t g)
theorem every4X {rec : HT → Option (Int32 × HT)} {n : Nat} (e : h 93 6 = 1) : fX12_every_4 rec (n + 1) h = some (0, h) := by
  rw [fX12_every_4, e, if_neg (by decide)]; rfl
theorem some4X {rec : HT → Option (Int32 × HT)} {n : Nat} (e : h 93 6 = 1) : fX12_some_4 rec (n + 1) h = some (0, h) := by
  rw [fX12_some_4, e, if_neg (by decide)]; rfl
theorem everyR {sg : Nat → PRs} {rec : HT → Option (Int32 × HT)} (b : rb Z T m) (hs : LPz T sg) (hR : SRl T m o sg rec) : SRl T m o (jnS Z T 38 5 sg) (fX12_every rec) := by
  intro E p h g hp hl
  obtain ⟨h1, e1, r1⟩ := hR E p h g hp hl
  unfold jnS
  simp only [fX12_every, e1, ob_s]
  cases y : (sg p).1
  · simp only [Bool.false_eq_true, if_false]
    have er := r1.2 y
    have e5 : fX12_every_4 rec 1000 h1 = _ := every4X (n := 999) er.2.2
    rw [e5]
    exact Rs.ok (RRz.f er)
  · simp only [if_true]
    obtain ⟨l1, l2', l3⟩ := hs p hp y
    exact loopR b hs hR 120 (n := 1000) (by omega) (r1.1 y) l3 (by omega) (by omega)
theorem everyX {rec : HT → Option (Int32 × HT)} (x : XE rec) : XE (fX12_every rec) := fun h e => by
  simp only [fX12_every, x h e, ob_s]
  exact every4X (n := 999) e
theorem loopQ {sg : Nat → PRs} {rec : HT → Option (Int32 × HT)} (b : rb Z T m) (hs : LPz T sg) (hR : SRl T m o sg (fX12_every rec)) : ∀ (f : Nat) {n p : Nat} {S : List Sq} {h : HT}, f < n → RGz m p o (E ++ S.map pk) h → p ≤ T → 120 ≤ p + f → E.length + S.length ≤ p → Rs (RRz m o E (lpS Z T 124 6 sg f p S)) (fX12_some_4 rec n h) 0
  | 0, n, p, S, h, hn, g, hp, hf, hl => by
    have hT := b.1
    obtain ⟨n, rfl⟩ : ∃ n', n = n' + 1 := ⟨n - 1, by omega⟩
    have rp := g.rf.rp (g.rb b) hp
    have ne : ¬ hrS Z T p = nI 124 := fun e => by have := (hr_eq (by omega)).mp e; omega
    have ne : ¬ hrS Z T p = 124 := ne
    simp only [fX12_some_4, g.2.2.1, if_true, hereE rp, ob_s, if_neg ne, fX12_some_43, lpS]
    exact Rs.ok (RRz.t g)
  | f + 1, n, p, S, h, hn, g, hp, hf, hl => by
    have hT := b.1
    obtain ⟨n, rfl⟩ : ∃ n', n = n' + 1 := ⟨n - 1, by omega⟩
    have rp := g.rf.rp (g.rb b) hp
    have q : (hrS Z T p = 124) ↔ (p < T ∧ Z p = 124) := hr_eq (k := 124) (by omega)
    rw [lpS]
    simp only [fX12_some_4, g.2.2.1, if_true, hereE rp, ob_s, q, g.2.1, nI_1, fX12_some_43]
    by_cases z : p < T ∧ Z p = 124
    · rw [if_pos z, if_pos z]
      have g1 : RGz m (p + 1) o (E ++ S.map pk) (hu h 93 4 (nI (p + 1))) := g.mv
      obtain ⟨h2, e2, r2⟩ := hR _ (p + 1) _ g1 (by omega) (by rw [List.length_append, List.length_map]; omega)
      simp only [e2, ob_s]
      cases y : (sg (p + 1)).1
      · simp only [Bool.false_eq_true, if_false]
        have er := r2.2 y
        rw [emitX er.2.2]
        simp only [ob_s]
        obtain ⟨n, rfl⟩ : ∃ n', n = n' + 1 := ⟨n - 1, by omega⟩
        simp only [fX12_some_4, er.2.2, if10, fX12_some_43]
        exact Rs.ok (RRz.f er)
      · simp only [if_true]
        obtain ⟨l1, l2', l3⟩ := hs (p + 1) (by omega) y
        obtain ⟨h3, e3, g3⟩ := emitE (r2.1 y) (by rw [List.length_append, List.length_append, List.length_map, List.length_map]; omega) (-3)
        simp only [e3, ob_s]
        have g3' : RGz m (sg (p + 1)).2.1 o (E ++ (S ++ (sg (p + 1)).2.2 ++ [(6, 0, 0)]).map pk) h3 := by
          have e : E ++ (S ++ (sg (p + 1)).2.2 ++ [(6, 0, 0)]).map pk = E ++ S.map pk ++ (sg (p + 1)).2.2.map pk ++ [-3] := by
            rw [List.map_append, List.map_append]
            show E ++ (S.map pk ++ (sg (p + 1)).2.2.map pk ++ [-3]) = _
            simp
          rw [e]; exact g3
        exact loopQ b hs hR f (by omega) g3' l3 (by omega) (by rw [List.length_append, List.length_append, List.length_singleton]; omega)
    · rw [if_neg z, if_neg z]
      exact Rs.ok (RRz.t g)
theorem someR {sg : Nat → PRs} {rec : HT → Option (Int32 × HT)} (b : rb Z T m) (hs : LPz T sg) (hR : SRl T m o sg rec) : SRl T m o (eiS Z T sg) (fX12_some rec) := by
  intro E p h g hp hl
  have hB := everyR b hs hR
  have hL : LPz T (jnS Z T 38 5 sg) := jn_LP hs
  obtain ⟨h1, e1, r1⟩ := hB E p h g hp hl
  unfold eiS
  generalize jnS Z T 38 5 sg = sg2 at *
  unfold jnS
  simp only [fX12_some, e1, ob_s]
  cases y : (sg2 p).1
  · simp only [Bool.false_eq_true, if_false]
    have er := r1.2 y
    have e5 : fX12_some_4 rec 1000 h1 = _ := some4X (n := 999) er.2.2
    rw [e5]
    exact Rs.ok (RRz.f er)
  · simp only [if_true]
    obtain ⟨l1, l2', l3⟩ := hL p hp y
    exact loopQ b hL hB 120 (n := 1000) (by omega) (r1.1 y) l3 (by omega) (by omega)
theorem someX {rec : HT → Option (Int32 × HT)} (x : XE rec) : XE (fX12_some rec) := fun h e => by
  simp only [fX12_some, everyX x h e, ob_s]
  exact some4X (n := 999) e
theorem hr_pk {k : Nat} {cs : List Int32} (e : pkS Z T cs p = some k) : hrS Z T p = cs.getD k 0 := by
  obtain ⟨a1, a2, a3⟩ := pkz_lt e
  unfold hrS
  rw [if_pos a1, a3]
theorem RGz.ok6 (g : RGz m p o E h) : hu h 93 6 0 = h := by
  funext k j
  unfold hu
  by_cases z : k = 93 ∧ j = 6
  · rw [if_pos z, z.1, z.2, g.2.2.1]
  · rw [if_neg z]
/-- a test, by the reference -/
theorem testR (b : rb Z T m) (rec : HT → Option (Int32 × HT)) (g : RGz m p o E h) (hp : p ≤ T) (hl : E.length ≤ p) (h33 : ¬ hrS Z T p = 33) (h40 : ¬ hrS Z T p = 40) : Rs (RRz m o E (tstS Z T p)) (fX12_factorb rec h) 0 := by
  have hT := b.1
  have rp := g.rf.rp (g.rb b) hp
  unfold tstS
  -- the fault beside a letter
  have bad : ∀ (q : Nat) (h1 : HT) (l1 l2 : Int32), RGz m q o E h1 → Rs (REz m q) (fX12_factorb_202 rec l1 l2 1 h1) 0 := by
    intro q h1 l1 l2 g1
    have e1 : REz m q (hu (hu h1 93 6 1) 93 4 (nI q)) := ⟨fun k j n => by rw [hu_ne (by omega), hu_ne (by omega)]; exact g1.1 k j n, hu_eq, by rw [hu_ne (by omega), hu_eq]⟩
    have f4 : hu h1 93 6 1 93 4 = nI q := by rw [hu_ne (by omega)]; exact g1.2.1
    obtain ⟨h2, e2, r2⟩ := figX e1.rf
    have e3 := e1.er r2
    simp only [fX12_factorb_202, cb_1, ob_s, hu_eq, if10, f4, fX12_factorb_222, Int32.add_zero, e2]
    have fin : ∀ y, Rs (REz m q) (fX12_factorb_263 rec l2 0 y h2) 0 := by
      intro y
      simp only [fX12_factorb_263, fX12_factorb_285, emitX e3.2.2, ob_s]
      split
      · exact Rs.ok e3
      · split <;> exact Rs.ok e3
    split
    · exact fin 0
    · split
      · exact fin 1
      · split
        · exact fin 2
        · exact fin 3
  have other : (∀ k, k < 4 → ¬ hrS Z T p = ([109, 115, 111, 107] : List Int32).getD k 0) → Rs (REz m p) (fX12_factorb rec h) 0 := by
    intro no
    have n0 : ¬ hrS Z T p = 109 := no 0 (by omega)
    have n1 : ¬ hrS Z T p = 115 := no 1 (by omega)
    have n2 : ¬ hrS Z T p = 111 := no 2 (by omega)
    have n3 : ¬ hrS Z T p = 107 := no 3 (by omega)
    simp only [fX12_factorb, g.2.2.1, if_true, hereE rp, ob_s, if_neg h33, if_neg h40, if_neg n0, if_neg n1, if_neg n2, if_neg n3, fX12_factorb_142, cb_1, hu_eq, if10]
    have f4 : hu h 93 6 1 93 4 = nI p := by rw [hu_ne (by omega)]; exact g.2.1
    have e1 : REz m p (hu (hu h 93 6 1) 93 4 (nI p)) := ⟨fun k j n => by rw [hu_ne (by omega), hu_ne (by omega)]; exact g.1 k j n, hu_eq, by rw [hu_ne (by omega), hu_eq]⟩
    rw [f4]
    have rp1 : RP Z T p (hu (hu h 93 6 1) 93 4 (nI p)) := e1.rf.rp (e1.rb b) hp
    simp only [fX12_factorb_162, Int32.add_zero, hereE rp1, ob_s, e1.2.2, if10, fX12_factorb_197]
    -- as at a wrong sign
    have f4' : hu (hu (hu h 93 6 1) 93 4 (nI p)) 93 6 1 93 4 = nI p := by rw [hu_ne (by omega)]; exact hu_eq
    have e2 : REz m p (hu (hu (hu (hu h 93 6 1) 93 4 (nI p)) 93 6 1) 93 4 (nI p)) := ⟨fun k j n => by rw [hu_ne (by omega), hu_ne (by omega)]; exact e1.1 k j n, hu_eq, by rw [hu_ne (by omega), hu_eq]⟩
    obtain ⟨h2, e3, r3⟩ := figX e2.rf
    have e4 := e2.er r3
    simp only [fX12_factorb_202, cb_1, ob_s, hu_eq, if10, f4', fX12_factorb_222, Int32.add_zero, e3, if_neg n0, if_neg n1, if_neg n2, fX12_factorb_263, fX12_factorb_285, emitX e4.2.2]
    split
    · exact Rs.ok e4
    · split <;> exact Rs.ok e4
  cases a : pkS Z T [109, 115, 111, 107] p with
  | none =>
    obtain ⟨h1, e1, r1⟩ := other fun k hk e => by
      have hk' : k < ([109, 115, 111, 107] : List Int32).length := hk
      have no := pkz_no a hk'
      unfold hrS at e
      by_cases z : p < T
      · rw [if_pos z] at e; exact no ⟨z, e⟩
      · rw [if_neg z] at e
        have : k = 0 ∨ k = 1 ∨ k = 2 ∨ k = 3 := by omega
        rcases this with rfl | rfl | rfl | rfl <;> exact absurd e (by decide)
    exact ⟨h1, e1, RRz.f r1⟩
  | some i =>
    obtain ⟨a1, a2, a3⟩ := pkz_lt a
    have a2 : i < 4 := a2
    have hx := hr_pk a
    have c1 : ([109, 115, 111, 107] : List Int32).getD i 0 = 109 ∨ ([109, 115, 111, 107] : List Int32).getD i 0 = 115 ∨ ([109, 115, 111, 107] : List Int32).getD i 0 = 111 ∨ ([109, 115, 111, 107] : List Int32).getD i 0 = 107 := by
      have : i = 0 ∨ i = 1 ∨ i = 2 ∨ i = 3 := by omega
      rcases this with rfl | rfl | rfl | rfl
      · exact Or.inl rfl
      · exact Or.inr (Or.inl rfl)
      · exact Or.inr (Or.inr (Or.inl rfl))
      · exact Or.inr (Or.inr (Or.inr rfl))
    have start : fX12_factorb rec h = fX12_factorb_162 rec (([109, 115, 111, 107] : List Int32).getD i 0) 1 (nI p) h := by
      simp only [fX12_factorb, g.2.2.1, if_true, hereE rp, ob_s, if_neg h33, if_neg h40, fX12_factorb_141, fX12_factorb_142, cb_0, g.ok6, g.2.1]
      rw [hx]
      rcases c1 with c | c | c | c
      · rw [c, if_pos rfl]
      · rw [c, if_neg (by decide), if_pos rfl]
      · rw [c, if_neg (by decide), if_neg (by decide), if_pos rfl]
      · rw [c, if_neg (by decide), if_neg (by decide), if_neg (by decide), if_pos rfl]
    rw [start]
    have g1 : RGz m (p + 1) o E (hu h 93 4 (nI (p + 1))) := g.mv
    have rp1 := g1.rf.rp (g1.rb b) (show p + 1 ≤ T by omega)
    simp only [fX12_factorb_162, nI_1, hereE rp1, ob_s, g1.2.2.1, if_true, fX12_factorb_197, fX12_factorb_201]
    cases d : pkS Z T [60, 61, 62] (p + 1) with
    | none =>
      have no : ∀ k, k < 3 → ¬ hrS Z T (p + 1) = ([60, 61, 62] : List Int32).getD k 0 := fun k hk e => by
        have hk' : k < ([60, 61, 62] : List Int32).length := hk
        have no := pkz_no d hk'
        unfold hrS at e
        by_cases z : p + 1 < T
        · rw [if_pos z] at e; exact no ⟨z, e⟩
        · rw [if_neg z] at e
          have : k = 0 ∨ k = 1 ∨ k = 2 := by omega
          rcases this with rfl | rfl | rfl <;> exact absurd e (by decide)
      have n0 : ¬ hrS Z T (p + 1) = 60 := no 0 (by omega)
      have n1 : ¬ hrS Z T (p + 1) = 61 := no 1 (by omega)
      have n2 : ¬ hrS Z T (p + 1) = 62 := no 2 (by omega)
      rw [if_neg n0, if_neg n1, if_neg n2]
      obtain ⟨h2, e2, r2⟩ := bad (p + 1) _ _ (hrS Z T (p + 1)) g1
      exact ⟨h2, e2, RRz.f r2⟩
    | some j =>
      obtain ⟨d1, d2, d3⟩ := pkz_lt d
      have d2 : j < 3 := d2
      have hy := hr_pk d
      have c2 : ([60, 61, 62] : List Int32).getD j 0 = 60 ∧ j = 0 ∨ ([60, 61, 62] : List Int32).getD j 0 = 61 ∧ j = 1 ∨ ([60, 61, 62] : List Int32).getD j 0 = 62 ∧ j = 2 := by
        have : j = 0 ∨ j = 1 ∨ j = 2 := by omega
        rcases this with rfl | rfl | rfl
        · exact Or.inl ⟨rfl, rfl⟩
        · exact Or.inr (Or.inl ⟨rfl, rfl⟩)
        · exact Or.inr (Or.inr ⟨rfl, rfl⟩)
      have to202 : ∀ X : Option (Int32 × HT), (if hrS Z T (p + 1) = 60 then fX12_factorb_202 rec (([109, 115, 111, 107] : List Int32).getD i 0) (hrS Z T (p + 1)) 0 (hu h 93 4 (nI (p + 1))) else if hrS Z T (p + 1) = 61 then fX12_factorb_202 rec (([109, 115, 111, 107] : List Int32).getD i 0) (hrS Z T (p + 1)) 0 (hu h 93 4 (nI (p + 1))) else if hrS Z T (p + 1) = 62 then fX12_factorb_202 rec (([109, 115, 111, 107] : List Int32).getD i 0) (hrS Z T (p + 1)) 0 (hu h 93 4 (nI (p + 1))) else X) = fX12_factorb_202 rec (([109, 115, 111, 107] : List Int32).getD i 0) (hrS Z T (p + 1)) 0 (hu h 93 4 (nI (p + 1))) := by
        intro X
        rw [hy]
        rcases c2 with ⟨c, _⟩ | ⟨c, _⟩ | ⟨c, _⟩
        · rw [c, if_pos rfl]
        · rw [c, if_neg (by decide), if_pos rfl]
        · rw [c, if_neg (by decide), if_neg (by decide), if_pos rfl]
      rw [to202]
      have g2 : RGz m (p + 2) o E (hu h 93 4 (nI (p + 2))) := g.mv
      have f4 : hu h 93 4 (nI (p + 1)) 93 4 = nI (p + 1) := hu_eq
      simp only [fX12_factorb_202, cb_0, ob_s, g1.ok6, g1.2.2.1, if_true, f4, fX12_factorb_222, nI_1, hu_two]
      have letter : ∀ (v : Int32) (h3 : HT), (if ([109, 115, 111, 107] : List Int32).getD i 0 = 109 then fX12_factorb_263 rec (hrS Z T (p + 1)) v 0 h3 else if ([109, 115, 111, 107] : List Int32).getD i 0 = 115 then fX12_factorb_263 rec (hrS Z T (p + 1)) v 1 h3 else if ([109, 115, 111, 107] : List Int32).getD i 0 = 111 then fX12_factorb_263 rec (hrS Z T (p + 1)) v 2 h3 else fX12_factorb_263 rec (hrS Z T (p + 1)) v 3 h3) = Option.bind (fX12_emits ((nI i + (4 : Int32) * nI j) + (16 : Int32) * v) h3) fun z26 => some (0, z26.2) := by
        intro v h3
        have i4 : i = 0 ∨ i = 1 ∨ i = 2 ∨ i = 3 := by omega
        have f63 : ∀ s0 : Int32, fX12_factorb_263 rec (hrS Z T (p + 1)) v s0 h3 = Option.bind (fX12_emits ((s0 + (4 : Int32) * nI j) + (16 : Int32) * v) h3) fun z26 => some (0, z26.2) := by
          intro s0
          simp only [fX12_factorb_263, fX12_factorb_285]
          rw [hy]
          rcases c2 with ⟨c, rfl⟩ | ⟨c, rfl⟩ | ⟨c, rfl⟩
          · rw [c, if_pos rfl]; rfl
          · rw [c, if_neg (by decide), if_pos rfl]; rfl
          · rw [c, if_neg (by decide), if_neg (by decide)]; rfl
        rcases i4 with rfl | rfl | rfl | rfl
        · rw [if_pos (by decide), f63]; rfl
        · rw [if_neg (by decide), if_pos (by decide), f63]; rfl
        · rw [if_neg (by decide), if_neg (by decide), if_pos (by decide), f63]; rfl
        · rw [if_neg (by decide), if_neg (by decide), if_neg (by decide), f63]; rfl
      rcases figE (g2.rb b) (show p + 2 ≤ T by omega) g2.rf with ⟨v, q, h3, n1, e3, r3⟩ | ⟨n1, h3, e3, r3⟩
      · have nl := numS_le n1
        rw [n1]
        simp only [e3, ob_s, letter]
        have g3 := g2.of r3
        have v16 : (nI i + (4 : Int32) * nI j) + (16 : Int32) * nI v = nI (i + 4 * j + 16 * v) := by
          have e1 : (4 : Int32) * nI j = nI (4 * j) := nI_mul 4 j
          have e2 : (16 : Int32) * nI v = nI (16 * v) := nI_mul 16 v
          rw [e1, e2, nI_add, nI_add]
        obtain ⟨h4, e4, g4⟩ := emitE g3 (by omega) (nI (i + 4 * j + 16 * v))
        rw [v16, e4]
        simp only [ob_s]
        refine Rs.ok (RRz.t ?_)
        have ep : [((i, j, v) : Sq)].map pk = [nI (i + 4 * j + 16 * v)] := by
          show [pk (i, j, v)] = _
          unfold pk
          dsimp only
          rw [if_neg (by omega), if_neg (by omega), if_neg (by omega)]
        rw [ep]; exact g4
      · rw [n1]
        have e5 := g2.er r3
        simp only [e3, ob_s, letter, emitX e5.2.2]
        exact Rs.ok (RRz.f e5)
theorem tst_no (e : hrS Z T p = 33 ∨ hrS Z T p = 40) : tstS Z T p = (false, p, []) := by
  unfold tstS
  cases a : pkS Z T [109, 115, 111, 107] p with
  | none => rfl
  | some i =>
    exfalso
    obtain ⟨a1, a2, a3⟩ := pkz_lt a
    have a2 : i < 4 := a2
    have hx := hr_pk a
    rw [hx] at e
    have : i = 0 ∨ i = 1 ∨ i = 2 ∨ i = 3 := by omega
    rcases this with rfl | rfl | rfl | rfl <;> rcases e with e | e <;> exact absurd e (by decide)
theorem after69 {rec : HT → Option (Int32 × HT)} (x : XE rec) (e : REz m p h) (l1 : Int32) : ∃ v, (if l1 = 33 then (Option.bind (rec h) fun z10 => Option.bind (fX12_emits (-1) z10.2) fun z11 => fX12_factorb_101 rec z11.2) else (Option.bind (fX12_some rec h) fun z8 => Option.bind (fX12_must 41 z8.2) fun z9 => fX12_factorb_101 rec z9.2)) = some (0, v) ∧ REz m p v := by
  by_cases z : l1 = 33
  · rw [if_pos z, x h e.2.2]
    simp only [ob_s, emitX e.2.2, fX12_factorb_101]
    exact ⟨_, rfl, e.s7⟩
  · rw [if_neg z, someX x h e.2.2]
    obtain ⟨h2, e2, r2⟩ := mustX e.rf 41
    simp only [ob_s, e2, fX12_factorb_101]
    exact ⟨_, rfl, (e.er r2).s7⟩
theorem factorR (b : rb Z T m) : ∀ (d n o : Nat), o + d = 5 → d + 1 < n → SRl T m o (sglS Z T d) (fX12_factor n)
  | 0, n, o, ho, hn => by
    obtain ⟨n, rfl⟩ : ∃ n', n = n' + 1 + 1 := ⟨n - 2, by omega⟩
    obtain rfl : o = 5 := by omega
    intro E p h g hp hl
    have rp := g.rf.rp (g.rb b) hp
    rw [sglS]
    show Rs _ (fX12_factorb (fX12_factor (n + 1)) h) 0
    have deep : ∀ l1 : Int32, Rs (REz m p) (fX12_factorb_25 (fX12_factor (n + 1)) l1 h) 0 := by
      intro l1
      have f6 : ∀ u : Int32, hu (hu h 93 6 1) 93 7 u 93 6 = 1 := fun u => by rw [hu_ne (by omega), hu_eq]
      have f4 : ∀ u : Int32, hu (hu h 93 6 1) 93 7 u 93 4 = nI p := fun u => by rw [hu_ne (by omega), hu_ne (by omega)]; exact g.2.1
      simp only [fX12_factorb_25, g.2.2.2.1, if_pos (show nI 5 = 5 from rfl), fX12_factorb_39, cb_1, ob_s, f6, if10, f4, fX12_factorb_69, Int32.add_zero]
      have e0 : ∀ u : Int32, REz m p (hu (hu (hu h 93 6 1) 93 7 u) 93 4 (nI p)) := fun u => ⟨fun k j n => by rw [hu_ne (by omega), hu_ne (by omega), hu_ne (by omega)]; exact g.1 k j n, hu_eq, by rw [hu_ne (by omega), hu_ne (by omega), hu_eq]⟩
      obtain ⟨v, e1, r1⟩ := after69 (factX n) (e0 (hu h 93 6 1 93 7 + 1)) l1
      rw [e1]
      exact Rs.ok r1
    by_cases h33 : hrS Z T p = 33
    · rw [tst_no (Or.inl h33)]
      obtain ⟨h1, e1, r1⟩ := deep (hrS Z T p)
      simp only [fX12_factorb, g.2.2.1, if_true, hereE rp, ob_s, if_pos h33, e1]
      exact Rs.ok (RRz.f r1)
    · by_cases h40 : hrS Z T p = 40
      · rw [tst_no (Or.inr h40)]
        obtain ⟨h1, e1, r1⟩ := deep (hrS Z T p)
        simp only [fX12_factorb, g.2.2.1, if_true, hereE rp, ob_s, if_neg h33, if_pos h40, e1]
        exact Rs.ok (RRz.f r1)
      · exact testR b _ g hp hl h33 h40
  | d + 1, n, o, ho, hn => by
    obtain ⟨n, rfl⟩ : ∃ n', n = n' + 1 + 1 := ⟨n - 2, by omega⟩
    intro E p h g hp hl
    have hT := b.1
    have ih := factorR b d (n + 1) (o + 1) (by omega) (by omega)
    have rp := g.rf.rp (g.rb b) hp
    rw [sglS]
    show Rs _ (fX12_factorb (fX12_factor (n + 1)) h) 0
    have no5 : ¬ nI o = 5 := fun e => by
      have e : nI o = nI 5 := e
      rw [nI_eq (by omega) (by omega)] at e; omega
    have g1 : RGz m (p + 1) (o + 1) E (hu (hu h 93 7 (nI (o + 1))) 93 4 (nI (p + 1))) := (g.dp (o' := o + 1)).mv
    have f4 : hu h 93 7 (nI (o + 1)) 93 4 = nI p := by rw [hu_ne (by omega)]; exact g.2.1
    have f6 : hu h 93 7 (nI (o + 1)) 93 6 = 0 := by rw [hu_ne (by omega)]; exact g.2.2.1
    have to69 : ∀ l1 : Int32, fX12_factorb_25 (fX12_factor (n + 1)) l1 h = if l1 = 33 then (Option.bind (fX12_factor (n + 1) (hu (hu h 93 7 (nI (o + 1))) 93 4 (nI (p + 1)))) fun z10 => Option.bind (fX12_emits (-1) z10.2) fun z11 => fX12_factorb_101 (fX12_factor (n + 1)) z11.2) else (Option.bind (fX12_some (fX12_factor (n + 1)) (hu (hu h 93 7 (nI (o + 1))) 93 4 (nI (p + 1)))) fun z8 => Option.bind (fX12_must 41 z8.2) fun z9 => fX12_factorb_101 (fX12_factor (n + 1)) z9.2) := by
      intro l1
      simp only [fX12_factorb_25, g.2.2.2.1, if_neg no5, fX12_factorb_39, cb_0, ob_s, g.ok6, nI_1, f6, if_true, f4, fX12_factorb_69]
    have back : ∀ {q : Nat} {E' : List Int32} {h' : HT}, RGz m q (o + 1) E' h' → hu h' 93 7 (h' 93 7 - 1) = hu h' 93 7 (nI o) := fun g' => by rw [g'.2.2.2.1, nI_pred]
    cases a : pkS Z T [33, 40] p with
    | none =>
      have no : ∀ k, k < 2 → ¬ hrS Z T p = ([33, 40] : List Int32).getD k 0 := fun k hk e => by
        have hk' : k < ([33, 40] : List Int32).length := hk
        have no := pkz_no a hk'
        unfold hrS at e
        by_cases z : p < T
        · rw [if_pos z] at e; exact no ⟨z, e⟩
        · rw [if_neg z] at e
          have : k = 0 ∨ k = 1 := by omega
          rcases this with rfl | rfl <;> exact absurd e (by decide)
      exact testR b _ g hp hl (no 0 (by omega)) (no 1 (by omega))
    | some i =>
      obtain ⟨a1, a2, a3⟩ := pkz_lt a
      have a2 : i < 2 := a2
      have hx := hr_pk a
      cases i with
      | zero =>
        have h33 : hrS Z T p = 33 := hx
        simp only [fX12_factorb, g.2.2.1, if_true, hereE rp, ob_s, if_pos h33, to69]
        obtain ⟨h2, e2, r2⟩ := ih E (p + 1) _ g1 (by omega) (by omega)
        simp only [e2, ob_s]
        cases y : (sglS Z T d (p + 1)).1
        · have er := r2.2 y
          simp only [Bool.false_eq_true, if_false, emitX er.2.2, ob_s, fX12_factorb_101]
          exact Rs.ok (RRz.f er.s7)
        · simp only [if_true]
          obtain ⟨l1, l2', l3⟩ := sgl_LP Z T d (p + 1) (by omega) y
          obtain ⟨h3, e3, g3⟩ := emitE (r2.1 y) (by rw [List.length_append, List.length_map]; omega) (-1)
          simp only [e3, ob_s, fX12_factorb_101, back g3]
          refine Rs.ok (RRz.t ?_)
          have e : E ++ ((sglS Z T d (p + 1)).2.2 ++ [(4, 0, 0)]).map pk = E ++ (sglS Z T d (p + 1)).2.2.map pk ++ [-1] := by
            rw [List.map_append, ← List.append_assoc]; rfl
          rw [e]
          exact g3.dp
      | succ i =>
        obtain rfl : i = 0 := by omega
        have h40 : hrS Z T p = 40 := hx
        have h33 : ¬ hrS Z T p = 33 := by rw [h40]; decide
        simp only [fX12_factorb, g.2.2.1, if_true, hereE rp, ob_s, if_neg h33, if_pos h40, to69]
        obtain ⟨h2, e2, r2⟩ := someR b (sgl_LP Z T d) ih E (p + 1) _ g1 (by omega) (by omega)
        simp only [e2, ob_s]
        cases y : (eiS Z T (sglS Z T d) (p + 1)).1
        · have er := r2.2 y
          obtain ⟨h3, e3, r3⟩ := mustX er.rf 41
          simp only [Bool.false_eq_true, if_false, e3, ob_s, fX12_factorb_101]
          exact Rs.ok (RRz.f (er.er r3).s7)
        · simp only [if_true]
          have hL : LPz T (eiS Z T (sglS Z T d)) := jn_LP (jn_LP (sgl_LP Z T d))
          obtain ⟨l1, l2', l3⟩ := hL (p + 1) (by omega) y
          have gg := r2.1 y
          obtain ⟨h3, e3, r3⟩ := mustE (gg.rb b) l3 gg.rf (c := 41) (by omega)
          have e3' : fX12_must 41 h2 = some (0, h3) := e3
          simp only [e3', ob_s, fX12_factorb_101]
          by_cases z : (eiS Z T (sglS Z T d) (p + 1)).2.1 < T ∧ Z (eiS Z T (sglS Z T d) (p + 1)).2.1 = 41
          · have z' : (eiS Z T (sglS Z T d) (p + 1)).2.1 < T ∧ Z (eiS Z T (sglS Z T d) (p + 1)).2.1 = nI 41 := z
            rw [if_pos z', decide_eq_true z'] at r3
            have g3 := gg.of r3
            rw [if_pos z, back g3]
            exact Rs.ok (RRz.t g3.dp)
          · have z' : ¬ ((eiS Z T (sglS Z T d) (p + 1)).2.1 < T ∧ Z (eiS Z T (sglS Z T d) (p + 1)).2.1 = nI 41) := z
            rw [if_neg z', decide_eq_false z'] at r3
            rw [if_neg z]
            exact Rs.ok (RRz.f (gg.er r3).s7)
end rf
