/-! calls that change: how both sides stay alike -/
def Mu (P : PT) (b : HT) (f1 f2 : HT → Option (Int32 × HT)) : Prop := ∃ w h1 h2, f1 b = some (w, h1) ∧ f2 h1 = some (w, h2) ∧ Inv P h2
theorem Bo.mu {P : PT} {K : Nat} {L : Wld} {n : Nat} {b : HT} {f1 f2 : HT → Option (Int32 × HT)} (x : Ix P K L n b) (a : Bo b f1 f2) : Mu P b f1 f2 := by
  obtain ⟨w, a1, a2⟩ := a
  obtain ⟨h1, e1, q1⟩ := a1 b Qw.rfl'
  obtain ⟨h2, e2, q2⟩ := a2 h1 q1
  exact ⟨w, h1, h2, e1, e2, K, L, n, x.w q2⟩
theorem Ix.upd {P : PT} {K : Nat} {L : Wld} {n : Nat} {b h : HT} {s' : RT} (x : Ix P K L n b) (hq : ∀ k j, ¬ scr k j → k ≠ 1 → k ≠ 2 → k ≠ 4 → k ≠ 94 → h k j = b k j) (h10 : h 1 0 = b 1 0) (h12 : h 1 2 = b 1 2) (h13 : h 1 3 = b 1 3) (h14 : h 1 4 = s' 4) (h94 : h 94 = s') (e : ∀ i, ¬ chg i → s' i = b 94 i) (ok : OKs K s' L) (al : h 1 1 = mk (lv s') K) (hk : ∀ k, k < K → h 2 k = s' (270 + k) ∧ h 4 k = s' (300 + k)) (h4 : ∀ k, K ≤ k → k < 7 → h 4 k = b 4 k) : Ix P K L n h := by
  have hrow : ∀ k, k ≠ 29 ∧ k ≠ 40 ∧ (k < 80 ∨ k = 91 ∨ k = 95 ∨ 101 ≤ k) → k ≠ 1 → k ≠ 2 → k ≠ 4 → h k = b k := fun k hk n1 n2 n4 => funext fun j => hq k j (by unfold scr; omega) n1 n2 n4 (by omega)
  obtain ⟨x1, x2, x3, x4, c, c1, c2, c3, c4⟩ := x
  have e93 : h 93 3 = b 93 3 := hq 93 3 (by unfold scr; omega) (by omega) (by omega) (by omega) (by omega)
  have e28 : h 93 28 = b 93 28 := hq 93 28 (by unfold scr; omega) (by omega) (by omega) (by omega) (by omega)
  refine ⟨?_, ⟨x2.1, x2.2.e (hrow 30 (by omega) (by omega) (by omega) (by omega)) (hrow 70 (by omega) (by omega) (by omega) (by omega))⟩, by rw [hrow 0 (by omega) (by omega) (by omega) (by omega), e93]; exact x3, ?_, c, c1, by rw [hrow 91 (by omega) (by omega) (by omega) (by omega)]; exact c2, by rw [e28]; exact c3, by rw [hrow 91 (by omega) (by omega) (by omega) (by omega), hrow 101 (by omega) (by omega) (by omega) (by omega)]; exact c4⟩
  · rw [h94]
    have hK := ok.1
    obtain ⟨a0, ⟨b0, b1, b2, b3, b4, b5, b6, b7, b8, b9, b10⟩, a2, a3, a4, a5, a6, a7, a8, a9, a10, a11, a12, T, t1, t2, t3, t4⟩ := x1
    have n8 := a2
    have hr : ∀ k, k ≠ 29 ∧ k ≠ 40 ∧ k < 80 → k ≠ 1 → k ≠ 2 → k ≠ 4 → h k = b k := fun k hk n1 n2 n4 => hrow k (by omega) n1 n2 n4
    refine ⟨ok, ⟨b0, ?_, al, ?_, ?_, ?_, ?_, ?_, ?_⟩, a2, ?_, ?_, ?_, h14, ?_, ?_, ?_, ?_, ?_, ?_, T, t1, ?_, ?_, ?_⟩
    · show h 1 0 = _
      rw [h10]; exact b1
    · intro k hk'
      refine ⟨(hk k hk').1, ?_, (hk k hk').2⟩
      rw [hr (0 + 3) (by omega) (by omega) (by omega) (by omega), e _ (by unfold chg; omega)]; exact (b3 k hk').2.1
    · intro k j hk' hj
      rw [hr (0 + 6 + k) (by omega) (by omega) (by omega) (by omega), hr (0 + 14 + k) (by omega) (by omega) (by omega) (by omega), e (310 + 7 * k + j) (by unfold chg; omega), e (360 + 7 * k + j) (by unfold chg; omega)]
      exact b4 k j hk' hj
    · rw [hr (0 + 23) (by omega) (by omega) (by omega) (by omega), e 6 (by unfold chg; omega)]; exact b5
    · rw [hr (0 + 23) (by omega) (by omega) (by omega) (by omega), e 7 (by unfold chg; omega)]; exact b6
    · rw [hr (0 + 23) (by omega) (by omega) (by omega) (by omega), e 8 (by unfold chg; omega)]; exact b7
    · unfold WRow
      rw [hr (0 + 23) (by omega) (by omega) (by omega) (by omega), hr (0 + 24) (by omega) (by omega) (by omega) (by omega), hr (0 + 24 + 1) (by omega) (by omega) (by omega) (by omega), hr (0 + 24 + 2) (by omega) (by omega) (by omega) (by omega), hr (0 + 24 + 3) (by omega) (by omega) (by omega) (by omega), hr (0 + 24 + 4) (by omega) (by omega) (by omega) (by omega)]
      exact ⟨b8, b9, b10⟩
    · rw [e 2 (by unfold chg; omega)]; exact a3
    · show h 1 3 = _
      rw [h13]; exact a4
    · show h 1 2 = _
      rw [h12, e 1 (by unfold chg; omega)]; exact a5
    · intro t ht
      rw [hr (0 + 30) (by omega) (by omega) (by omega) (by omega), e (410 + t) (by unfold chg; omega), e (420 + t) (by unfold chg; omega)]
      exact a7 t ht
    · intro t k ht hk'
      rw [hr (0 + 32 + t) (by omega) (by omega) (by omega) (by omega), e (430 + 7 * t + k) (by unfold chg; omega)]
      exact a8 t k ht hk'
    · intro t k ht ht8 hk'
      rw [hr (0 + 32 + t) (by omega) (by omega) (by omega) (by omega)]
      exact a9 t k ht ht8 hk'
    · intro t ht
      rw [hr (0 + 30) (by omega) (by omega) (by omega) (by omega)]; exact a10 t ht
    · intro k j hk' hj
      rw [hr (0 + 6 + k) (by omega) (by omega) (by omega) (by omega), hr (0 + 14 + k) (by omega) (by omega) (by omega) (by omega), e (310 + 7 * k + j) (by unfold chg; omega), e (360 + 7 * k + j) (by unfold chg; omega)]
      exact a11 k j hk' hj
    · intro k j h1 h2 hj
      rw [hr (0 + 6 + k) (by omega) (by omega) (by omega) (by omega), hr (0 + 14 + k) (by omega) (by omega) (by omega) (by omega)]
      refine ⟨(a12 k j h1 h2 hj).1, (a12 k j h1 h2 hj).2.1, ?_⟩
      show h 4 k = _
      rw [h4 k h1 h2]; exact (a12 k j h1 h2 hj).2.2
    · rw [e 3 (by unfold chg; omega)]; exact t2
    · rw [hr (0 + 21) (by omega) (by omega) (by omega) (by omega)]; exact t3
    · intro i hi
      rw [hr (0 + 22) (by omega) (by omega) (by omega) (by omega), e (10 + i) (by unfold chg; omega)]
      exact t4 i hi
  · rw [e93, hrow 95 (by omega) (by omega) (by omega) (by omega)]
    rcases x4 with x4 | ⟨x4, K', L', n', y⟩
    · exact Or.inl x4
    · exact Or.inr ⟨x4, K', L', n', y.e fun r h1 h2 h3 => hrow _ (by omega) (by omega) (by omega) (by omega)⟩
/-- alike but for the scratch and one row -/
def D1 (c : Nat) (b h : HT) : Prop := ∀ k j, ¬ (k = 29 ∨ k = 98 ∨ (k = 93 ∧ 15 ≤ j ∧ j ≤ 18)) → k ≠ c → h k j = b k j
theorem D1.rfl' {c : Nat} {b : HT} : D1 c b b := fun _ _ _ _ => rfl
theorem D1.q {c : Nat} {b g h : HT} (d : D1 c b g) (q : Qs g h) : D1 c b h := fun k j n nc => (q k j n).trans (d k j n nc)
theorem D1.hu {c : Nat} {b h : HT} {j : Nat} {w : Int32} (d : D1 c b h) : D1 c b (hu h c j w) := fun k' j' n nc => by rw [hu_ne (by omega)]; exact d k' j' n nc
theorem isStdG {n : Nat} {g : HT} (n8 : n ≤ 8) (e : g 94 2 = nI n) {t : Nat} (ht : t < n) : fX12_isStanding (nI t) g = some (1, g) := by
  have n0 : ¬ nI t < 0 := nI_pos (by omega)
  have n1 : ¬ nI n - (1 : Int32) < nI t := by rw [nm1 n8 n0]; exact nI_ge ht (by omega)
  simp only [fX12_isStanding, fX12_in, fX12_in_15, e, if_neg n0, if_neg n1, cb_1, ob_s]
theorem takesG {P : PT} {K : Nat} {s : RT} {L : Wld} {t N : Nat} {v : Int32} {blk : Nat → Int32} {h : HT} (ok : OKs K s L) (t8 : t < 8) (hN : N ≤ 6) (e3 : s (410 + t) = nI N) (e4 : s (420 + t) = v) (hb : (fun k => s (430 + 7 * t + k)) = blk) (e94 : h 94 = s) :
    Rs (fun g' => (∀ k j, ¬ (k = 99 ∨ (k = 93 ∧ (j = 13 ∨ j = 14))) → g' k j = h k j) ∧ HR N v blk K s L g') (fX12_takes (nI t) h) 0 := by
  have c1 : ck 490 ((410 : Int32) + nI t) = some (410 + t) := ckO 410 (by omega)
  have c2 : ck 490 ((420 : Int32) + nI t) = some (420 + t) := ckO 420 (by omega)
  simp only [fX12_takes, c1, c2, ob_s]
  have f94 : ∀ (u : Int32) (k : Nat), hu h 93 13 u 94 k = s k := fun u k => by rw [hu_ne (by omega), e94]
  rw [f94, e94, e3, e4]
  have bE : ∀ j, s (430 + 7 * t + j) = blk j := fun j => by rw [← hb]
  refine loop0 (K := 7) (F := fun n k h => fX12_takes_30 n (nI t) (nI k) h) (fun k g => (∀ k j, ¬ (k = 99 ∨ (k = 93 ∧ (j = 13 ∨ j = 14))) → g k j = h k j) ∧ g 93 13 = nI N ∧ g 93 14 = v ∧ ∀ j, j < k → g 99 j = blk j) (n := 1000) (by omega) ⟨fun k j n => by rw [hu_ne (by omega), hu_ne (by omega)], by rw [hu_ne (by decide), hu_eq], hu_eq, fun j hj => absurd hj (Nat.not_lt_zero j)⟩ ?_ ?_
  · intro n k g hk ⟨q1, q2, q3, q4⟩
    left
    have c3 : ck 490 (((430 : Int32) + ((7 : Int32) * nI t)) + nI k) = some (430 + 7 * t + k) := ckW 430 (by omega)
    have c4 : ck 7 (nI k) = some k := ckI rfl (by omega)
    have n7 : ¬ (7 : Int32) ≤ nI k := nI_ge (b := 7) hk (by omega)
    have g94 : g 94 = s := by rw [← e94]; exact funext fun j => q1 94 j (by omega)
    refine ⟨hu g 99 k (blk k), ⟨fun k' j n => by rw [hu_ne (by omega)]; exact q1 k' j n, by rw [hu_ne (by omega)]; exact q2, by rw [hu_ne (by omega)]; exact q3, ?_⟩, ?_⟩
    · intro j hj
      by_cases e : j = k
      · subst e; rw [hu_eq]
      · rw [hu_ne (by omega)]; exact q4 j (by omega)
    · show fX12_takes_30 (n + 1) (nI t) (nI k) g = fX12_takes_30 n (nI t) (nI (k + 1)) _
      simp only [fX12_takes_30, if_neg n7, c3, c4, ob_s, g94, bE, nI_1]
  · intro n g ⟨q1, q2, q3, q4⟩
    show Rs _ (fX12_takes_30 (n + 1) (nI t) (nI 7) g) 0
    have g94 : g 94 = s := by rw [← e94]; exact funext fun j => q1 94 j (by omega)
    simp only [fX12_takes_30, if_pos (show (7 : Int32) ≤ nI 7 from Int32.le_refl _)]
    exact Rs.ok ⟨q1, ok, g94, ⟨q2, q3, q4⟩, hN⟩
section race
variable {P : PT} {n : Nat} {N : Nat} {v : Int32} {blk : Nat → Int32} {K : Nat} {s s' : RT} {L : Wld} {r : SR} {b h : HT}
def armC (N : Nat) (v : Int32) (blk : Nat → Int32) (K : Nat) (L : Wld) (s : RT) (k : Nat) : Bool := !decide (99 ≤ s (270 + k)) && !decide (mk (fun x => dr N v blk K s L x k) K = 0)
def arm (N : Nat) (v : Int32) (blk : Nat → Int32) (K : Nat) (L : Wld) (s : RT) (k : Nat) : RT := if armC N v blk K L s k = true then ups s (270 + k) (s (270 + k) + 1) else s
def rnd (N : Nat) (v : Int32) (blk : Nat → Int32) (K : Nat) (L : Wld) (s : RT) : Nat → RT × Bool
  | 0 => (s, false)
  | k + 1 => (arm N v blk K L (rnd N v blk K L s k).1 k, (rnd N v blk K L s k).2 || armC N v blk K L (rnd N v blk K L s k).1 k)
theorem armC_lv (hK : K ≤ 7) {k : Nat} (h : armC N v blk K L s k = true) : lv s k = true := by
  unfold armC at h
  rw [Bool.and_eq_true] at h
  cases lk : lv s k
  · exfalso
    have z : mk (fun x => dr N v blk K s L x k) K = 0 := (mk_z (by omega)).mpr fun x _ => by unfold dr; rw [lk]; simp
    rw [decide_eq_true z] at h
    exact absurd h.2 (by decide)
  · rfl
theorem armC_bd (ok : OKs K s L) {k : Nat} (hk : k < 7) (h : armC N v blk K L s k = true) : bd (s (270 + k) + 1) 99 := by
  unfold armC at h
  rw [Bool.and_eq_true] at h
  have h1 : ¬ 99 ≤ s (270 + k) := by
    intro z; rw [decide_eq_true z] at h; exact absurd h.1 (by decide)
  have a := (ok.k7 k hk).1
  have e9 : (99 : Int32).toInt = 99 := by decide
  have e1 : (1 : Int32).toInt = 1 := by decide
  rw [fa_le, e9] at h1
  unfold bd at *
  rw [fb_addI (by omega) (by omega), e1]
  omega
theorem arm_ok (ok : OKs K s L) {k : Nat} (hk : k < K) : OKs K (arm N v blk K L s k) L := by
  have hK := ok.1
  unfold arm
  by_cases c : armC N v blk K L s k = true
  · rw [if_pos c]; exact ok.str (armC_lv hK c) (armC_bd ok (by omega) c) (by omega)
  · rw [if_neg c]; exact ok
theorem arm_n {k i : Nat} (hk : k < 7) (h : i < 270 ∨ 277 ≤ i) : arm N v blk K L s k i = s i := by
  unfold arm
  by_cases c : armC N v blk K L s k = true
  · rw [if_pos c, ups_ne (by omega)]
  · rw [if_neg c]
theorem rnd_n : ∀ (k : Nat) {i : Nat}, k ≤ 7 → (i < 270 ∨ 277 ≤ i) → (rnd N v blk K L s k).1 i = s i
  | 0, _, _, _ => rfl
  | k + 1, i, hk, h => by
    show arm N v blk K L (rnd N v blk K L s k).1 k i = s i
    rw [arm_n (by omega) h, rnd_n k (by omega) h]
theorem rnd_ok (ok : OKs K s L) : ∀ (k : Nat), k ≤ K → OKs K (rnd N v blk K L s k).1 L
  | 0, _ => ok
  | k + 1, hk => arm_ok (rnd_ok ok k (by omega)) (by omega)
theorem roundC (hc : HC N v blk K s L r b) : Rs (fun h => HC N v blk K (rnd N v blk K L s K).1 L r h ∧ D1 2 b h) (fX11_armedInRound r b) (bI (rnd N v blk K L s K).2) := by
  have hK := hc.K7
  refine loop0 (K := K) (F := fun n k h => fX11_armedInRound_4 r n (bI (rnd N v blk K L s k).2) (nI k) h) (fun k h => HC N v blk K (rnd N v blk K L s k).1 L r h ∧ D1 2 b h) (n := 1000) (by omega) ⟨hc, D1.rfl'⟩ ?_ ?_
  · intro n k g hk ⟨hg, dg⟩
    left
    show ∃ h', (HC N v blk K (arm N v blk K L (rnd N v blk K L s k).1 k) L r h' ∧ D1 2 b h') ∧ fX11_armedInRound_4 r (n + 1) (bI (rnd N v blk K L s k).2) (nI k) g = fX11_armedInRound_4 r n (bI ((rnd N v blk K L s k).2 || armC N v blk K L (rnd N v blk K L s k).1 k)) (nI (k + 1)) h'
    generalize (rnd N v blk K L s k).2 = fl
    generalize (rnd N v blk K L s k).1 = s1 at *
    have c7 : ck 7 (nI k) = some k := ckI rfl (by omega)
    have eC : armC N v blk K L s1 k = (!decide (99 ≤ s1 (270 + k)) && !decide (mk (fun x => dr N v blk K s1 L x k) K = 0)) := rfl
    unfold arm
    simp only [fX11_armedInRound_4, if_neg (hg.2.1.go hk), c7, ob_s, hg.2.1.str hk, fX11_armedInRound_56, nI_1]
    by_cases z1 : 99 ≤ s1 (270 + k)
    · have e0 : armC N v blk K L s1 k = false := by rw [eC, decide_eq_true z1]; rfl
      rw [if_pos z1, e0, if_neg (by decide), Bool.or_false]
      exact ⟨g, ⟨hg, dg⟩, rfl⟩
    · obtain ⟨h1, e1, q1⟩ := huntersE hg Qs.rfl' hk
      rw [if_neg z1]
      simp only [e1, ob_s]
      by_cases z2 : mk (fun x => dr N v blk K s1 L x k) K = 0
      · have e0 : armC N v blk K L s1 k = false := by rw [eC, decide_eq_true z2, Bool.not_true, Bool.and_false]
        rw [if_pos z2, e0, if_neg (by decide), Bool.or_false]
        exact ⟨h1, ⟨hg.q q1, dg.q q1⟩, rfl⟩
      · have e0 : armC N v blk K L s1 k = true := by rw [eC, decide_eq_false z1, decide_eq_false z2]; rfl
        rw [if_neg z2, e0, if_pos rfl, Bool.or_true]
        have hq := hg.q q1
        refine ⟨hu h1 2 k (s1 (270 + k) + 1), ⟨hq.str hk (armC_lv hK e0) (armC_bd hg.1 (by omega) e0), (dg.q q1).hu⟩, ?_⟩
        rw [hq.2.1.str hk]
        rfl
  · intro n g j
    simp only [fX11_armedInRound_4, if_pos j.1.2.1.ex, bI_cb, ob_s]
    exact Rs.ok j
def raceS (N : Nat) (v : Int32) (blk : Nat → Int32) (K : Nat) (L : Wld) : Nat → RT → Nat → RT × Nat
  | 0, s, i => (s, i)
  | m + 1, s, i => if (rnd N v blk K L s K).2 = true then raceS N v blk K L m (rnd N v blk K L s K).1 (i + 1) else ((rnd N v blk K L s K).1, i)
theorem D1.tr {c : Nat} {b g h : HT} (d : D1 c b g) (e : D1 c g h) : D1 c b h := fun k j n nc => (e k j n nc).trans (d k j n nc)
theorem raceC : ∀ (m : Nat) {s : RT} {n i : Nat} {b : HT}, i + m = 30 → m < n → HC N v blk K s L r b → Rs (fun h => HC N v blk K (raceS N v blk K L m s i).1 L r h ∧ D1 2 b h) (fX11_race_17 P n r (nI i) b) (nI (raceS N v blk K L m s i).2)
  | 0, s, n, i, b, hi, hn, hc => by
    obtain ⟨n, rfl⟩ : ∃ n', n = n' + 1 := ⟨n - 1, by omega⟩
    obtain rfl : i = 30 := by omega
    simp only [fX11_race_17, if_pos (show (30 : Int32) ≤ nI 30 from Int32.le_refl _)]
    exact Rs.ok ⟨hc, D1.rfl'⟩
  | m + 1, s, n, i, b, hi, hn, hc => by
    obtain ⟨n, rfl⟩ : ∃ n', n = n' + 1 := ⟨n - 1, by omega⟩
    have n30 : ¬ (30 : Int32) ≤ nI i := nI_ge (a := i) (b := 30) (by omega) (by omega)
    obtain ⟨h1, e1, j1⟩ := roundC hc
    simp only [fX11_race_17, if_neg n30, e1, ob_s, raceS, nI_1]
    cases c : (rnd N v blk K L s K).2
    · simp only [ifbf, Bool.false_eq_true, if_false]
      exact Rs.ok j1
    · simp only [ifbt, if_true]
      exact (raceC m (by omega) (by omega) j1.1).mono fun h2 j2 => ⟨j2.1, j1.2.tr j2.2⟩
theorem race28 (k17 : Int32 → HT → Option (Int32 × HT)) (l2 : Int32) : ∀ (m : Nat) {n k : Nat} {b h : HT}, k + m = K → m < n → HR N v blk K (rnd N v blk K L s k).1 L h → D1 94 b h → ∃ h', (HR N v blk K (rnd N v blk K L s K).1 L h' ∧ D1 94 b h') ∧ fX12_race_28 k17 n l2 (bI (rnd N v blk K L s k).2) (nI k) h = if (rnd N v blk K L s K).2 = true then k17 (l2 + 1) h' else some (l2, h')
  | 0, n, k, b, h, hk, hn, hr, d => by
    obtain ⟨n, rfl⟩ : ∃ n', n = n' + 1 := ⟨n - 1, by omega⟩
    obtain rfl : k = K := by omega
    refine ⟨h, ⟨hr, d⟩, ?_⟩
    simp only [fX12_race_28, if_pos (rex hr.e0)]
    cases (rnd N v blk k L s k).2
    · rw [ifbf, if_neg (by decide)]
    · rw [ifbt, if_pos rfl]
  | m + 1, n, k, b, h, hk, hn, hr, d => by
    have hK := hr.K7
    obtain ⟨n, rfl⟩ : ∃ n', n = n' + 1 := ⟨n - 1, by omega⟩
    have hkK : k < K := by omega
    have nx : ∀ {g : HT}, HR N v blk K (arm N v blk K L (rnd N v blk K L s k).1 k) L g → D1 94 b g → ∃ h', (HR N v blk K (rnd N v blk K L s K).1 L h' ∧ D1 94 b h') ∧ fX12_race_28 k17 n l2 (bI ((rnd N v blk K L s k).2 || armC N v blk K L (rnd N v blk K L s k).1 k)) (nI (k + 1)) g = if (rnd N v blk K L s K).2 = true then k17 (l2 + 1) h' else some (l2, h') :=
      fun hg dg => race28 k17 l2 m (k := k + 1) (by omega) (by omega) hg dg
    have c1 : ck 490 ((270 : Int32) + nI k) = some (270 + k) := ckO 270 (by omega)
    generalize (rnd N v blk K L s k).2 = fl at *
    generalize (rnd N v blk K L s k).1 = s1 at *
    have eC : armC N v blk K L s1 k = (!decide (99 ≤ s1 (270 + k)) && !decide (mk (fun x => dr N v blk K s1 L x k) K = 0)) := rfl
    have same : ∀ {g : HT}, HR N v blk K s1 L g → hu g 94 (270 + k) (s1 (270 + k) + 0) = g := by
      intro g hg
      funext k' j'
      unfold hu
      by_cases e : k' = 94 ∧ j' = 270 + k
      · rw [if_pos e, e.1, e.2, Int32.add_zero, hg.2.1]
      · rw [if_neg e]
    have f69 : ∀ {g : HT}, HR N v blk K s1 L g → D1 94 b g → armC N v blk K L s1 k = false → ∃ h', (HR N v blk K (rnd N v blk K L s K).1 L h' ∧ D1 94 b h') ∧ fX12_race_69 k17 (fX12_race_28 k17 n) l2 (bI fl) (nI k) 0 g = if (rnd N v blk K L s K).2 = true then k17 (l2 + 1) h' else some (l2, h') := by
      intro g hg dg e0
      simp only [fX12_race_69, c1, ob_s, if_true, fX12_race_93, hg.2.1, same hg, fX12_race_104, fX12_race_109, nI_1]
      unfold arm at nx
      rw [e0, if_neg (by decide), Bool.or_false] at nx
      cases fl
      · rw [ifbf]; exact nx hg dg
      · rw [ifbt]; exact nx hg dg
    simp only [fX12_race_28, if_neg (rgs hK hr.1.2.1 hkK), c1, ob_s, hr.2.1, fX12_race_68]
    by_cases z1 : 99 ≤ s1 (270 + k)
    · have e0 : armC N v blk K L s1 k = false := by rw [eC, decide_eq_true z1]; rfl
      rw [if_pos z1]; exact f69 hr d e0
    · obtain ⟨h1, e1, q1⟩ := darersE hr Qs.rfl' hkK
      rw [if_neg z1]
      simp only [e1, ob_s]
      by_cases z2 : mk (fun x => dr N v blk K s1 L x k) K = 0
      · have e0 : armC N v blk K L s1 k = false := by rw [eC, decide_eq_true z2, Bool.not_true, Bool.and_false]
        rw [if_pos z2]; exact f69 (hr.q q1) (d.q q1) e0
      · have e0 : armC N v blk K L s1 k = true := by rw [eC, decide_eq_false z1, decide_eq_false z2]; rfl
        rw [if_neg z2]
        have hq := hr.q q1
        simp only [fX12_race_69, c1, ob_s, if10, fX12_race_93, hq.2.1, fX12_race_104, fX12_race_109, nI_1]
        unfold arm at nx
        rw [e0, if_pos rfl, Bool.or_true] at nx
        have h3 := hq.str hkK (armC_lv hK e0) (armC_bd hr.1 (by omega) e0)
        cases fl
        · rw [ifbf]; exact nx h3 (d.q q1).hu
        · rw [ifbt]; exact nx h3 (d.q q1).hu
theorem raceR : ∀ (m : Nat) {s : RT} {n i : Nat} {b : HT}, i + m = 30 → m < n → HR N v blk K s L b → Rs (fun h => HR N v blk K (raceS N v blk K L m s i).1 L h ∧ D1 94 b h) (fX12_race_17 n (nI i) b) (nI (raceS N v blk K L m s i).2)
  | 0, s, n, i, b, hi, hn, hr => by
    obtain ⟨n, rfl⟩ : ∃ n', n = n' + 1 := ⟨n - 1, by omega⟩
    obtain rfl : i = 30 := by omega
    simp only [fX12_race_17, if_pos (show (30 : Int32) ≤ nI 30 from Int32.le_refl _)]
    exact Rs.ok ⟨hr, D1.rfl'⟩
  | m + 1, s, n, i, b, hi, hn, hr => by
    obtain ⟨n, rfl⟩ : ∃ n', n = n' + 1 := ⟨n - 1, by omega⟩
    have n30 : ¬ (30 : Int32) ≤ nI i := nI_ge (a := i) (b := 30) (by omega) (by omega)
    have hK := hr.K7
    obtain ⟨h1, j1, e1⟩ := race28 (s := s) (fX12_race_17 n) (nI i) K (n := 1000) (k := 0) (b := b) (h := b) (by omega) (by omega) hr D1.rfl'
    have e1' : fX12_race_28 (fX12_race_17 n) 1000 (nI i) 0 0 b = _ := e1
    simp only [fX12_race_17, if_neg n30, e1', raceS, nI_1]
    cases c : (rnd N v blk K L s K).2
    · simp only [Bool.false_eq_true, if_false]
      exact Rs.ok j1
    · simp only [if_true]
      exact (raceR m (by omega) (by omega) j1.1).mono fun h2 j2 => ⟨j2.1, j1.2.tr j2.2⟩
theorem raceS_n (hK : K ≤ 7) : ∀ (m : Nat) {s : RT} {i j : Nat}, (j < 270 ∨ 277 ≤ j) → (raceS N v blk K L m s i).1 j = s j
  | 0, _, _, _, _ => rfl
  | m + 1, s, i, j, h => by
    rw [raceS]
    cases (rnd N v blk K L s K).2
    · exact rnd_n K hK h
    · rw [if_pos rfl, raceS_n hK m h, rnd_n K hK h]
theorem m_race (x : Ix P K L n b) (l1 : Int32) : Mu P b (fX11_race P l1) (fX12_race l1) := by
  have hK := x.K7
  rcases isn x.n8 l1 with ⟨t, ht, rfl⟩ | hn
  · obtain ⟨N, p, v, r, d1, d2, d3, d4, hN, hv, hr0, ht8, hc, hr⟩ := x.sd ht
    generalize hblk : (fun k => b 94 (430 + 7 * t + k)) = blk at *
    obtain ⟨h1, e1, c1, dd1⟩ := raceC (P := P) (N := N) (v := v) (blk := blk) (K := K) (L := L) (r := r) 30 (n := 1000) (i := 0) (by omega) (by omega) (hc b Qw.rfl')
    have w1 : ∀ k j, ¬ scr k j → k ≠ 2 → h1 k j = b k j := fun k j n n2 => dd1 k j (by unfold scr at n; omega) n2
    have x1r : h1 94 = b 94 := funext fun j => w1 94 j (by unfold scr; omega) (by omega)
    obtain ⟨g1, e2, tk, r1⟩ := takesG (P := P) x.ok ht8 hN d3 d4 hblk x1r
    obtain ⟨h2, e3, c2, dd2⟩ := raceR (N := N) (v := v) (blk := blk) (K := K) (L := L) 30 (n := 1000) (i := 0) (by omega) (by omega) r1
    refine ⟨_, h1, h2, by simp only [fX11_race, stdAtE x Qw.rfl' ht, d1, onq_s, d2, ob_s]; exact e1, ?_, K, L, n, ?_⟩
    · have s2 : h1 94 2 = nI n := by rw [x1r]; exact x.1.2.2.2.1
      simp only [fX12_race, isStdG x.n8 s2 ht, ob_s, if10, e2]
      exact e3
    · have w2 : ∀ k j, ¬ scr k j → k ≠ 2 → k ≠ 94 → h2 k j = b k j := fun k j n n2 n94 => by
        rw [dd2 k j (by unfold scr at n; omega) n94, tk k j (by unfold scr at n; omega)]
        exact w1 k j n n2
      have k2 : ∀ j, h2 2 j = h1 2 j := fun j => by rw [dd2 2 j (by omega) (by omega), tk 2 j (by omega)]
      refine x.upd (s' := (raceS N v blk K L 30 (b 94) 0).1) (fun k j n n1 n2 n4 n94 => w2 k j n n2 n94) (w2 1 0 (by unfold scr; omega) (by omega) (by omega)) (w2 1 2 (by unfold scr; omega) (by omega) (by omega)) (w2 1 3 (by unfold scr; omega) (by omega) (by omega)) ?_ c2.2.1 (fun i hi => raceS_n hK 30 (by unfold chg at hi; omega)) c2.1 ?_ ?_ (fun k h1' h2' => w2 4 k (by unfold scr; omega) (by omega) (by omega))
      · rw [w2 1 4 (by unfold scr; omega) (by omega) (by omega), raceS_n hK 30 (by omega)]
        exact x.1.2.2.2.2.2.2.1
      · rw [w2 1 1 (by unfold scr; omega) (by omega) (by omega)]
        have := (x.rc Qw.rfl').alive
        rw [this]
        exact mk_cong fun k hk => by unfold lv; rw [raceS_n hK 30 (by omega)]
      · intro k hk
        refine ⟨?_, ?_⟩
        · rw [k2 k]; exact c1.2.1.str hk
        · rw [w2 4 k (by unfold scr; omega) (by omega) (by omega), raceS_n hK 30 (by omega)]
          exact (x.rc Qw.rfl').own hk
  · refine Bo.mu x ⟨-1, fun g q => ?_, fun g q => ?_⟩
    · simp only [fX11_race, stdAtN x q hn, ob_s, onq_0]; exact Rs.ok q
    · simp only [fX12_race, isStdN x q hn, ob_s, if_true]; exact Rs.ok q
end race
