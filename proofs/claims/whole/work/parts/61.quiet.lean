/-! quiet ways and such that hold -/
section qu
variable {P : PT} {n : Nat} {K : Nat} {s : RT} {L : Wld} {b g h : HT} {w : Nat → Nat} {blk blk' : Nat → Int32}
theorem toA_c {a c k : Nat} (v v' : Int32) (ha : blk a = blk' a) (hc : blk c = blk' c) (hk : blk k = blk' k) : toA 2 v blk K s L a c k = toA 2 v' blk' K s L a c k := by
  unfold toA
  rw [if_neg (by decide), if_neg (by decide), if_pos (Or.inl rfl), if_neg (by decide), if_neg (by decide), if_pos (Or.inl rfl), ha, hc, hk]
theorem toB_c {a c k : Nat} (v v' : Int32) (ha : blk a = blk' a) (hc : blk c = blk' c) (hk : blk k = blk' k) : toB 2 v blk K s L a c k = toB 2 v' blk' K s L a c k := by
  unfold toB
  rw [if_neg (by decide), if_neg (by decide), if_neg (fun z => absurd z.1 (by decide)), if_pos (Or.inl rfl), if_neg (by decide), if_neg (by decide), if_neg (fun z => absurd z.1 (by decide)), if_pos (Or.inl rfl), ha, hc, hk]
theorem drC (v v' : Int32) (e : ∀ k, k < K → lv s k = true → blk k = blk' k) {a c : Nat} (ha : a < K) (hc : c < K) : dr 2 v blk K s L a c = dr 2 v' blk' K s L a c := by
  unfold dr
  cases la : lv s a
  · simp
  · cases lc : lv s c
    · simp
    · have ea := e a ha la
      have ec := e c hc lc
      have hA : fA 2 v blk K s L a c = fA 2 v' blk' K s L a c := by
        unfold fA
        refine sumW_c fun k hk => Or.inl ?_
        unfold mA
        exact cA_c fun hl => toA_c v v' ea ec (e k hk hl)
      have hB : fB 2 v blk K s L a c = fB 2 v' blk' K s L a c := by
        unfold fB
        refine sumW_c fun k hk => Or.inl ?_
        unfold mB
        exact cA_c fun hl => toB_c v v' ea ec (e k hk hl)
      unfold gn
      rw [hA, hB]
theorem fw2_c {p q : Nat → Bool} : ∀ (m : Nat) {j : Nat}, (∀ k, k < j + m → p k = q k) → fw2 p m j = fw2 q m j
  | 0, _, _ => rfl
  | m + 1, j, h => by rw [fw2, fw2, h j (by omega), fw2_c m (fun k hk => h k (by omega))]
theorem fw1_c {d d' : Nat → Nat → Bool} : ∀ (m : Nat) {i : Nat}, (∀ a c, a < i + m → c < K → d a c = d' a c) → fw1 d K m i = fw1 d' K m i
  | 0, _, _ => rfl
  | m + 1, i, h => by
    rw [fw1, fw1, fw2_c K (p := d i) (q := d' i) (fun k hk => h i k (by omega) (by omega)), fw1_c m (fun a c h1 h2 => h a c (by omega) h2)]
theorem firstC (v v' : Int32) (e : ∀ k, k < K → lv s k = true → blk k = blk' k) : firstS (dr 2 v blk K s L) K = firstS (dr 2 v' blk' K s L) K := by
  unfold firstS
  rw [fw1_c K (fun a c ha hc => drC v v' e (by omega) hc)]
theorem anyB_c {p q : Nat → Bool} : ∀ {m : Nat}, (∀ k, k < m → p k = q k) → anyB p m = anyB q m
  | 0, _ => rfl
  | m + 1, h => by rw [anyB, anyB, anyB_c (fun k hk => h k (by omega)), h m (by omega)]
theorem anyB_f {p : Nat → Bool} : ∀ {m : Nat}, anyB p m = false ↔ ∀ k, k < m → p k = false
  | 0 => ⟨fun _ k hk => absurd hk (Nat.not_lt_zero k), fun _ => rfl⟩
  | m + 1 => by
    rw [anyB, Bool.or_eq_false_iff, anyB_f]
    constructor
    · rintro ⟨a, c⟩ k hk
      by_cases z : k = m
      · rw [z]; exact c
      · exact a k (by omega)
    · intro a
      exact ⟨fun k hk => a k (by omega), a m (by omega)⟩
/-- the row as blocks; quiet; holding -/
def wb (w : Nat → Nat) : Nat → Int32 := fun k => nI (w k)
def quiS (K : Nat) (s : RT) (L : Wld) (w : Nat → Nat) : Bool := decide (firstS (dr 2 0 (wb w) K s L) K = -5)
def tmpS (K : Nat) (s : RT) (L : Wld) (w : Nat → Nat) (k v : Nat) : Bool := anyB (dr 2 0 (wb (pset w k v)) K s L k) K
def holS (K : Nat) (s : RT) (L : Wld) (x : Way) : Bool := !anyB (fun k => lv s k && anyB (tmpS K s L x.1 k) (x.2 + 1)) K
theorem quiet_no (hK : K ≤ 7) {d : Nat → Nat → Bool} (h : firstS d K = -5) : ∀ a c, a < K → c < K → d a c = false := by
  have key : ∀ m i, i + m = K → fw1 d K m i = none → ∀ a c, i ≤ a → a < K → c < K → d a c = false := by
    have key2 : ∀ (p : Nat → Bool) m j, fw2 p m j = none → ∀ k, j ≤ k → k < j + m → p k = false := by
      intro p m
      induction m with
      | zero => intro j _ k h1 h2; omega
      | succ m ih =>
        intro j e k h1 h2
        rw [fw2] at e
        by_cases z : p j = true
        · rw [if_pos z] at e; cases e
        · rw [if_neg z] at e
          by_cases zk : k = j
          · rw [zk]; simpa using z
          · exact ih (j + 1) e k (by omega) (by omega)
    intro m
    induction m with
    | zero => intro i hi _ a c h1 h2; omega
    | succ m ih =>
      intro i hi e a c h1 h2 h3
      rw [fw1] at e
      cases q : fw2 (d i) K 0 with
      | some j => rw [q] at e; cases e
      | none =>
        rw [q] at e
        by_cases z : a = i
        · rw [z]; exact key2 (d i) K 0 q c (by omega) (by omega)
        · exact ih (i + 1) (by omega) e a c (by omega) h2 h3
  intro a c ha hc
  refine key K 0 (by omega) ?_ a c (by omega) ha hc
  cases q : fw1 d K K 0 with
  | none => rfl
  | some p =>
    exfalso
    obtain ⟨x, y⟩ := p
    have z := fw1_lt K q
    unfold firstS at h
    rw [q] at h
    have e2 : (10 : Int32) * nI x = nI (10 * x) := nI_mul 10 x
    have e6 : nI (10 * x + y) = -5 := by rw [← nI_add, ← e2]; exact h
    have z2 := nI_pos (n := 10 * x + y) (by omega)
    rw [e6] at z2
    exact z2 (by decide)
/-- the class of ways' own standing over the cells -/
theorem spC (X : Ix P K L n b) (q : Qw b g) : HC 2 0 (g 40) K (b 94) L (4, 8, 0) g := ⟨X.ok, X.rc q, ⟨rfl, fun e => absurd e (by decide), fun _ => ⟨8, by omega, rfl, fun _ _ => rfl⟩⟩, by omega⟩
theorem wc_e (c : WC K b w g) : ∀ k, k < K → lv (b 94) k = true → g 40 k = wb w k := c.2.2.2.1
theorem fwW (X : Ix P K L n b) (c : WC K b w g) : Rs (WC K b w) (fX5_firstWar (4, 8, 0) g) (firstS (dr 2 0 (wb w) K (b 94) L) K) := by
  have h := fwC (spC X c.1) Qs.rfl'
  rw [firstC 0 0 (wc_e c)] at h
  exact h.mono fun _ q => c.q q
theorem preyW (X : Ix P K L n b) (c : WC K b w g) {k : Nat} (hk : k < K) : Rs (WC K b w) (fX5_prey (4, 8, 0) (nI k) g) (mk (dr 2 0 (wb w) K (b 94) L k) K) := by
  have h := preyE (spC X c.1) Qs.rfl' hk
  rw [mk_cong (fun y hy => drC 0 0 (wc_e c) hk hy)] at h
  exact h.mono fun _ q => c.q q
theorem mk_any {p : Nat → Bool} (hK : K ≤ 7) : (mk p K = 0) ↔ anyB p K = false := by
  rw [mk_z (by omega), anyB_f]
theorem pset_same (w : Nat → Nat) (k : Nat) : pset w k (w k) = w := by
  funext j
  unfold pset
  by_cases z : j = k
  · rw [if_pos z, z]
  · rw [if_neg z]
theorem pset_two (w : Nat → Nat) (k u v : Nat) : pset (pset w k u) k v = pset w k v := by
  funext j
  unfold pset
  by_cases z : j = k
  · rw [if_pos z, if_pos z]
  · rw [if_neg z, if_neg z, if_neg z]
/-- one king tries all blocks -/
theorem tryE (X : Ix P K L n b) {k : Nat} (hk : k < K) (hl : lv (b 94) k = true) (hq : quiS K (b 94) L w = true) (k23 : Int32 → Int32 → HT → Option (Int32 × HT)) (l4 : Int32) {M : Nat} (hM : M ≤ 7) (hw7 : ∀ j, w j ≤ 7) : ∀ (m : Nat) {f u : Nat} {g : HT}, u + m = M + 1 → m < f → (∃ v, v ≤ 7 ∧ WC K b (pset w k v) g) → anyB (tmpS K (b 94) L w k) u = false →
    ∃ g', WC K b w g' ∧ fX8_steady_53 k23 f (nI M) l4 (nI k) (nI (w k)) 0 (nI u) g = if anyB (tmpS K (b 94) L w k) (M + 1) = true then some (0, g') else k23 (nI M) (l4 + 1) g'
  | 0, n, u, g, hu', hn, ⟨v, hv, hg⟩, an => by
    have hK := X.K7
    obtain ⟨n, rfl⟩ : ∃ n', n = n' + 1 := ⟨n - 1, by omega⟩
    obtain rfl : u = M + 1 := by omega
    have c7 : ck 7 (nI k) = some k := ckI rfl (by omega)
    have st := hg.set (i := k) (v := w k) (hw7 k)
    rw [pset_two, pset_same] at st
    refine ⟨_, st, ?_⟩
    rw [an, if_neg (by decide)]
    simp only [fX8_steady_53, if_pos (nI_lt (show M < M + 1 by omega) (by omega)), fX8_steady_103, c7, ob_s, if_true]
  | m + 1, n, u, g, hu', hn, ⟨v, hv, hg⟩, an => by
    have hK := X.K7
    obtain ⟨n, rfl⟩ : ∃ n', n = n' + 1 := ⟨n - 1, by omega⟩
    have c7 : ck 7 (nI k) = some k := ckI rfl (by omega)
    have n1 : ¬ nI M < nI u := nI_nlt (by omega) (by omega)
    have st := hg.set (i := k) (v := u) (by omega)
    rw [pset_two] at st
    have wk7 := hw7 k
    have eu : (nI u = nI (w k)) ↔ u = w k := nI_eq (by omega) (by omega)
    simp only [fX8_steady_53, if_neg n1, if_true, c7, ob_s, eu, fX8_steady_94, fX8_steady_95, nI_1]
    have nx : ∀ {g1 : HT}, WC K b (pset w k u) g1 → tmpS K (b 94) L w k u = false → ∃ g', WC K b w g' ∧ fX8_steady_53 k23 n (nI M) l4 (nI k) (nI (w k)) 0 (nI (u + 1)) g1 = if anyB (tmpS K (b 94) L w k) (M + 1) = true then some (0, g') else k23 (nI M) (l4 + 1) g' := fun c1 z =>
      tryE X hk hl hq k23 l4 hM hw7 m (by omega) (by omega) ⟨u, by omega, c1⟩ (by show (anyB (tmpS K (b 94) L w k) u || tmpS K (b 94) L w k u) = false; rw [an, z]; rfl)
    by_cases z : u = w k
    · rw [if_pos z]
      refine nx st ?_
      unfold tmpS
      rw [z, pset_same]
      have q := quiet_no hK (of_decide_eq_true hq)
      exact anyB_f.mpr fun y hy => q k y hk hy
    · rw [if_neg z]
      obtain ⟨g1, e1, c1⟩ := preyW X st hk
      simp only [e1, ob_s]
      by_cases z2 : mk (dr 2 0 (wb (pset w k u)) K (b 94) L k) K = 0
      · rw [if_pos z2]
        exact nx c1 ((mk_any hK).mp z2)
      · rw [if_neg z2]
        have t1 : tmpS K (b 94) L w k u = true := by
          unfold tmpS
          cases q : anyB (dr 2 0 (wb (pset w k u)) K (b 94) L k) K
          · exact absurd ((mk_any hK).mpr q) z2
          · rfl
        have t : anyB (tmpS K (b 94) L w k) (u + 1) = true := by
          show (anyB (tmpS K (b 94) L w k) u || tmpS K (b 94) L w k u) = true
          rw [t1, Bool.or_true]
        obtain ⟨d, hd⟩ : ∃ d, M + 1 = u + 1 + d := ⟨M - u, by omega⟩
        have t2 : anyB (tmpS K (b 94) L w k) (M + 1) = true := by rw [hd]; exact anyB_up t d
        rw [t2]
        simp only [if_true]
        have st2 := c1.set (i := k) (v := w k) (hw7 k)
        rw [pset_two, pset_same] at st2
        refine ⟨_, st2, ?_⟩
        obtain ⟨n, rfl⟩ : ∃ n', n = n' + 1 := ⟨n - 1, by omega⟩
        have i10 : ¬ (1 : Int32) = 0 := by decide
        rw [fX8_steady_53]
        by_cases cc : nI M < nI (u + 1)
        · rw [if_pos cc]
          simp only [fX8_steady_103, c7, ob_s, if_neg i10]
        · rw [if_neg cc, if_neg i10]
          simp only [fX8_steady_103, c7, ob_s, if_neg i10]
theorem steadyE (X : Ix P K L n b) (c : WC K b w g) (hq : quiS K (b 94) L w = true) (hm : mxr (b 94) w K ≤ 7) : Rs (WC K b w) (fX8_steady g) (bI (holS K (b 94) L (w, mxr (b 94) w K))) := by
  have hK := X.K7
  have e1 := highE hK c (Nat.le_refl K)
  have c7K := cnt_7 (b 94) hK
  simp only [fX8_steady, c.2.1, e1, ob_s, nI_1]
  -- the living, one after another
  have go : ∀ (m : Nat) {n k : Nat} {g : HT}, k + m = K → m < n → WC K b w g → anyB (fun k => lv (b 94) k && anyB (tmpS K (b 94) L w k) (mxr (b 94) w K + 1)) k = false → Rs (WC K b w) (fX8_steady_23 n (nI (mxr (b 94) w K - 1 + 1)) (nI (cnt (b 94) k)) g) (bI (holS K (b 94) L (w, mxr (b 94) w K))) := by
    intro m
    induction m with
    | zero =>
      intro n k g hk hn c an
      obtain ⟨n, rfl⟩ : ∃ n', n = n' + 1 := ⟨n - 1, by omega⟩
      obtain rfl : k = K := by omega
      simp only [fX8_steady_23, c.2.1, if_pos (Int32.le_refl _)]
      unfold holS
      rw [an]
      exact Rs.ok c
    | succ m ih =>
      intro n k g hk hn c an
      obtain ⟨n, rfl⟩ : ∃ n', n = n' + 1 := ⟨n - 1, by omega⟩
      have c1 := cnt_s (b 94) k
      cases l : lv (b 94) k
      · rw [l] at c1
        have c1 : cnt (b 94) (k + 1) = cnt (b 94) k := by simpa using c1
        have := ih (n := n + 1) (k := k + 1) (by omega) (by omega) c (by
          show (anyB _ k || (lv (b 94) k && _)) = false
          rw [an, l]; rfl)
        rw [c1] at this
        exact this
      · rw [l] at c1
        have c1 : cnt (b 94) (k + 1) = cnt (b 94) k + 1 := by simpa using c1
        have lt := cnt_lt (s := b 94) (show k < K by omega) l
        have k90 := c.2.2.1 k (by omega) l
        have k40 := c.2.2.2.1 k (by omega) l
        have d1 : ck 7 (nI (cnt (b 94) k)) = some (cnt (b 94) k) := ckI rfl (by omega)
        have d2 : ck 7 (nI k) = some k := ckI rfl (by omega)
        have n1 : ¬ nI (cnt (b 94) K) ≤ nI (cnt (b 94) k) := nI_ge lt (by omega)
        have mpos := mxr_1 (s := b 94) (w := w) K (by omega)
        have mE : mxr (b 94) w K - 1 + 1 = mxr (b 94) w K := by omega
        rw [mE] at ih ⊢
        have ps : WC K b (pset w k (w k)) g := by rw [pset_same]; exact c
        obtain ⟨g1, w1, e2⟩ := tryE X (show k < K by omega) l hq (fX8_steady_23 n) (nI (cnt (b 94) k)) (M := mxr (b 94) w K) hm c.2.2.2.2 (mxr (b 94) w K + 1) (f := 1000) (u := 0) (g := g) (by omega) (by omega) ⟨w k, c.2.2.2.2 k, ps⟩ rfl
        have e2' : fX8_steady_53 (fX8_steady_23 n) 1000 (nI (mxr (b 94) w K)) (nI (cnt (b 94) k)) (nI k) (nI (w k)) 0 0 g = _ := e2
        simp only [fX8_steady_23, c.2.1, if_neg n1, d1, ob_s, k90, d2, k40, e2']
        cases r : anyB (tmpS K (b 94) L w k) (mxr (b 94) w K + 1)
        · rw [if_neg (by decide)]
          have := ih (n := n) (k := k + 1) (g := g1) (by omega) (by omega) w1 (by
            show (anyB _ k || (lv (b 94) k && _)) = false
            rw [an, l, r]; rfl)
          rw [c1, ← nI_1] at this
          exact this
        · rw [if_pos rfl]
          have t : anyB (fun k => lv (b 94) k && anyB (tmpS K (b 94) L w k) (mxr (b 94) w K + 1)) (k + 1) = true := by
            show (anyB _ k || (lv (b 94) k && _)) = true
            rw [l, r]; simp
          obtain ⟨d, hd⟩ : ∃ d, K = k + 1 + d := ⟨K - (k + 1), by omega⟩
          have t2 : holS K (b 94) L (w, mxr (b 94) w K) = false := by
            unfold holS
            have t3 := anyB_up t d
            rw [← hd] at t3
            show (!anyB (fun k => lv (b 94) k && anyB (tmpS K (b 94) L w k) (mxr (b 94) w K + 1)) K) = false
            rw [t3]; rfl
          rw [t2]
          exact Rs.ok w1
  exact go K (n := 1000) (k := 0) (by omega) (by omega) c rfl
end qu
