/-! what holds between two calls -/
def scr (k j : Nat) : Prop := k = 29 ∨ k = 40 ∨ (80 ≤ k ∧ k ≤ 90) ∨ k = 92 ∨ (96 ≤ k ∧ k ≤ 100) ∨ (k = 93 ∧ j ≠ 3 ∧ j ≠ 28)
def Qw (b h : HT) : Prop := ∀ k j, ¬ scr k j → h k j = b k j
theorem Qw.rfl' {b : HT} : Qw b b := fun _ _ _ => rfl
theorem Qw.tr {a b c : HT} (q : Qw a b) (r : Qw b c) : Qw a c := fun k j n => (r k j n).trans (q k j n)
theorem Qs.w {b h : HT} (q : Qs b h) : Qw b h := fun k j n => q k j (by unfold scr at n; omega)
theorem Qw.row {b h : HT} {k : Nat} (q : Qw b h) (hk : k ≠ 29 ∧ k ≠ 40 ∧ (k < 80 ∨ k = 91 ∨ k = 94 ∨ k = 95 ∨ 101 ≤ k)) : h k = b k := funext fun j => q k j (by unfold scr; omega)
theorem Qw.pu {b h : HT} {k j : Nat} {v : Int32} (q : Qw b h) (hk : scr k j) : Qw b (hu h k j v) := by
  intro k' j' n
  show (if k' = k ∧ j' = j then v else h k' j') = b k' j'
  rw [if_neg (by rintro ⟨rfl, rfl⟩; exact n hk)]
  exact q k' j' n
theorem Rs.w {b h : HT} {o : Option (Int32 × HT)} {v : Int32} (q : Qw b h) (a : Rs (Qs h) o v) : Rs (Qw b) o v := a.mono fun _ r => q.tr r.w
/-- a Realm and its row -/
def RX (o : Nat) (s : RT) (P : PT) (K : Nat) (L : Wld) (n : Nat) (h : HT) : Prop :=
  OKs K s L ∧ RC o K s L h ∧ n ≤ 8 ∧ s 2 = nI n ∧ h (o + 1) 3 = nI n ∧ h (o + 1) 2 = s 1 ∧ h (o + 1) 4 = s 4 ∧
  (∀ t, t < n → ∃ p N, dq (h (o + 30) t) = some p ∧ N ≤ 6 ∧ s (410 + t) = nI N ∧ P[p]? = some (kcl N, nI t, s (420 + t)) ∧ bd (s (420 + t)) 9) ∧
  (∀ t k, t < n → k < 7 → h (o + 32 + t) k = s (430 + 7 * t + k) ∧ bd (s (430 + 7 * t + k)) 6) ∧
  (∀ t k, n ≤ t → t < 8 → k < 7 → h (o + 32 + t) k = nI k) ∧
  (∀ t, t < 8 → okq P (h (o + 30) t) = some ()) ∧
  (∀ k j, k < K → j < 7 → h (o + 6 + k) j = s (310 + 7 * k + j) ∧ h (o + 14 + k) j = s (360 + 7 * k + j) ∧ bd (s (310 + 7 * k + j)) 99 ∧ bd (s (360 + 7 * k + j)) 3) ∧
  (∀ k j, K ≤ k → k < 7 → j < 7 → h (o + 6 + k) j = 10 ∧ h (o + 14 + k) j = 0 ∧ h (o + 4) k = nI k) ∧
  (∃ T, T ≤ 120 ∧ s 3 = nI T ∧ h (o + 21) 1 = nI T ∧ ∀ i, i < T → h (o + 22) i = s (10 + i))
def RR (o : Nat) (s : RT) (P : PT) (h : HT) : Prop := ∃ K L n, RX o s P K L n h
/-- what both rows of standings hold lies in the pool -/
def PRf (P : PT) (h : HT) : Prop := ∀ j, okq P (h 30 j) = some () ∧ okq P (h 70 j) = some ()
theorem PRf.e {P : PT} {b h : HT} (x : PRf P b) (h1 : h 30 = b 30) (h2 : h 70 = b 70) : PRf P h := fun j => by rw [h1, h2]; exact x j
/-- the image and the trace -/
def IT (P : PT) (h : HT) : Prop := (PoolOK P ∧ PRf P h) ∧ h 0 2 = h 93 3 ∧ (h 93 3 = 0 ∨ (h 93 3 = 1 ∧ RR 40 (h 95) P h)) ∧ (∃ c, c ≤ 100 ∧ h 91 0 = nI c ∧ h 93 28 = nI c ∧ ∀ i, i < c → i < 20 → h 91 (i + 1) = h 101 i)
def Ix (P : PT) (K : Nat) (L : Wld) (n : Nat) (h : HT) : Prop := RX 0 (h 94) P K L n h ∧ IT P h
def Inv (P : PT) (h : HT) : Prop := ∃ K L n, Ix P K L n h
theorem RX.e {o : Nat} {s : RT} {P : PT} {K : Nat} {L : Wld} {n : Nat} {b h : HT} (x : RX o s P K L n b) (e : ∀ r, 1 ≤ r → r ≤ 39 → r ≠ 29 → h (o + r) = b (o + r)) : RX o s P K L n h := by
  unfold RX RC WRow at x ⊢
  obtain ⟨a0, ⟨b0, b1, b2, b3, b4, b5, b6, b7, b8, b9, b10⟩, a2, a3, a4, a5, a6, a7, a8, a9, a10, a11, a12, a13⟩ := x
  have K7 := b0
  have e6 : ∀ k, k < 7 → h (o + 6 + k) = b (o + 6 + k) := fun k hk => by rw [show o + 6 + k = o + (6 + k) by omega]; exact e _ (by omega) (by omega) (by omega)
  have e14 : ∀ k, k < 7 → h (o + 14 + k) = b (o + 14 + k) := fun k hk => by rw [show o + 14 + k = o + (14 + k) by omega]; exact e _ (by omega) (by omega) (by omega)
  have e32 : ∀ k, k < 8 → h (o + 32 + k) = b (o + 32 + k) := fun k hk => by rw [show o + 32 + k = o + (32 + k) by omega]; exact e _ (by omega) (by omega) (by omega)
  have f1 : h (o + 24 + 1) = b (o + 24 + 1) := e 25 (by omega) (by omega) (by omega)
  have f2 : h (o + 24 + 2) = b (o + 24 + 2) := e 26 (by omega) (by omega) (by omega)
  have f3 : h (o + 24 + 3) = b (o + 24 + 3) := e 27 (by omega) (by omega) (by omega)
  have f4 : h (o + 24 + 4) = b (o + 24 + 4) := e 28 (by omega) (by omega) (by omega)
  rw [f1, f2, f3, f4, e 1 (by omega) (by omega) (by omega), e 2 (by omega) (by omega) (by omega), e 3 (by omega) (by omega) (by omega), e 4 (by omega) (by omega) (by omega), e 21 (by omega) (by omega) (by omega), e 22 (by omega) (by omega) (by omega), e 23 (by omega) (by omega) (by omega), e 24 (by omega) (by omega) (by omega), e 30 (by omega) (by omega) (by omega)]
  refine ⟨a0, ⟨b0, b1, b2, b3, ?_, b5, b6, b7, b8, b9, b10⟩, a2, a3, a4, a5, a6, a7, ?_, ?_, a10, ?_, ?_, a13⟩
  · intro k j hk hj
    rw [e6 k (by omega), e14 k (by omega)]; exact b4 k j hk hj
  · intro t k ht hk
    rw [e32 t (by omega)]; exact a8 t k ht hk
  · intro t k h1 h2 hk
    rw [e32 t h2]; exact a9 t k h1 h2 hk
  · intro k j hk hj
    rw [e6 k (by omega), e14 k (by omega)]; exact a11 k j hk hj
  · intro k j h1 h2 hj
    rw [e6 k h2, e14 k h2]; exact a12 k j h1 h2 hj
theorem Qw.rows {b h : HT} (q : Qw b h) (r : Nat) (h1 : 1 ≤ r) (h2 : r ≤ 39) (h3 : r ≠ 29) : h (0 + r) = b (0 + r) := q.row (by omega)
theorem Ix.w {P : PT} {K : Nat} {L : Wld} {n : Nat} {b h : HT} (x : Ix P K L n b) (q : Qw b h) : Ix P K L n h := by
  obtain ⟨x1, x2, x3, x4, c, c1, c2, c3, c4⟩ := x
  have e93 : h 93 3 = b 93 3 := q 93 3 (by unfold scr; omega)
  have e28 : h 93 28 = b 93 28 := q 93 28 (by unfold scr; omega)
  have r94 : h 94 = b 94 := q.row (by omega)
  have r95 : h 95 = b 95 := q.row (by omega)
  have r91 : h 91 = b 91 := q.row (by omega)
  have r101 : h 101 = b 101 := q.row (by omega)
  have r0 : h 0 = b 0 := q.row (by omega)
  refine ⟨by rw [r94]; exact x1.e q.rows, ⟨x2.1, x2.2.e (q.row (by omega)) (q.row (by omega))⟩, by rw [r0, e93]; exact x3, ?_, c, c1, by rw [r91]; exact c2, by rw [e28]; exact c3, by rw [r91, r101]; exact c4⟩
  rw [e93, r95]
  rcases x4 with x4 | ⟨x4, K', L', n', y⟩
  · exact Or.inl x4
  · refine Or.inr ⟨x4, K', L', n', y.e fun r h1 h2 h3 => q.row (by omega)⟩
theorem if10 {α : Type} {a b : α} : (if (1 : Int32) = 0 then a else b) = b := if_neg (by decide)
theorem if00 {α : Type} {a b : α} : (if (0 : Int32) = 0 then a else b) = a := if_pos rfl
theorem ifbt {α : Type} {a b : α} : (if bI true = 0 then a else b) = b := if_neg (by decide)
theorem ifbf {α : Type} {a b : α} : (if bI false = 0 then a else b) = a := if_pos rfl
theorem onq_s {α : Type} {A : α} {B : Nat → α} {t : Nat} : onq (some t) A B = B t := by simp [onq]
theorem onq_0 {α : Type} {A : α} {B : Nat → α} : onq (dq 0) A B = A := by simp [onq, dq]
def out (x m : Int32) : Bool := decide (x < 0) || decide (m < x)
theorem outE (x m : Int32) (h : HT) : fX11_outside x m h = some (bI (out x m), h) := by
  simp only [fX11_outside, fX11_outside_9, fX11_outside_14, cb_0, cb_1, ob_s]
  unfold out
  by_cases c : x < 0
  · rw [if_pos c]; simp [c, bI]
  · rw [if_neg c]
    by_cases d : x ≤ m
    · rw [if_pos d]; simp [c, Int32.not_lt.mpr d, bI]
    · rw [if_neg d]; simp [c, Int32.not_le.mp d, bI]
theorem inE (x m : Int32) (h : HT) : fX12_in x 0 m h = some (bI (!out x m), h) := by
  simp only [fX12_in, fX12_in_14, fX12_in_15, cb_0, cb_1, ob_s]
  unfold out
  by_cases c : x < 0
  · rw [if_pos c]; simp [c, bI]
  · rw [if_neg c]
    by_cases d : m < x
    · rw [if_pos d]; simp [d, bI]
    · rw [if_neg d]; simp [c, d, bI]
def Bo (b : HT) (f1 f2 : HT → Option (Int32 × HT)) : Prop := ∃ w, (∀ g, Qw b g → Rs (Qw b) (f1 g) w) ∧ (∀ g, Qw b g → Rs (Qw b) (f2 g) w)
section ixs
variable {P : PT} {K : Nat} {L : Wld} {n : Nat} {b g : HT}
theorem Ix.ok (x : Ix P K L n b) : OKs K (b 94) L := x.1.1
theorem Ix.K7 (x : Ix P K L n b) : K ≤ 7 := x.1.1.1
theorem Ix.s0 (x : Ix P K L n b) : b 94 0 = nI K := x.1.1.2.1
theorem Ix.rc (x : Ix P K L n b) (q : Qw b g) : RC 0 K (b 94) L g := by
  have e : g 94 = b 94 := q.row (by omega)
  rw [← e]; exact (x.w q).1.2.1
theorem Ix.r94 (_ : Ix P K L n b) (q : Qw b g) : g 94 = b 94 := q.row (by omega)
theorem Ix.e0 (x : Ix P K L n b) (q : Qw b g) : g 94 0 = nI K := by rw [x.r94 q]; exact x.s0
theorem Ix.n8 (x : Ix P K L n b) : n ≤ 8 := x.1.2.2.1
theorem isn (hn : n ≤ 8) (x : Int32) : (∃ k, k < n ∧ x = nI k) ∨ (x < 0 ∨ nI n ≤ x) := by
  by_cases h : x < 0
  · exact Or.inr (Or.inl h)
  · obtain ⟨j, hj, rfl⟩ := nI_of h
    by_cases c : j < n
    · exact Or.inl ⟨j, c, rfl⟩
    · exact Or.inr (Or.inr (nI_le (by omega) hj))
theorem nm1 (hn : n ≤ 8) {x : Int32} (h0 : ¬ x < 0) : nI n - (1 : Int32) < x ↔ nI n ≤ x := by
  obtain ⟨j, hj, rfl⟩ := nI_of h0
  have e1 : (1 : Int32).toInt = 1 := by decide
  rw [fa_lt, fa_le, fb_subI, nI_toInt (show n < 2 ^ 31 by omega), nI_toInt hj, e1]
  · omega
  · rw [nI_toInt (show n < 2 ^ 31 by omega), e1]; omega
  · rw [nI_toInt (show n < 2 ^ 31 by omega), e1]; omega
theorem Ix.s2 (x : Ix P K L n b) (q : Qw b g) : g 94 2 = nI n := by rw [x.r94 q]; exact x.1.2.2.2.1
theorem Ix.c3 (x : Ix P K L n b) (q : Qw b g) : g 1 3 = nI n := by rw [show g 1 = b 1 from q.row (by omega)]; exact x.1.2.2.2.2.1
theorem isStdE (x : Ix P K L n b) (q : Qw b g) {t : Nat} (ht : t < n) : fX12_isStanding (nI t) g = some (1, g) := by
  have n8 := x.n8
  have n0 : ¬ nI t < 0 := nI_pos (by omega)
  have n1 : ¬ nI n - (1 : Int32) < nI t := by rw [nm1 n8 n0]; exact nI_ge ht (by omega)
  simp only [fX12_isStanding, fX12_in, fX12_in_15, x.s2 q, if_neg n0, if_neg n1, cb_1, ob_s]
theorem isStdN (x : Ix P K L n b) (q : Qw b g) {y : Int32} (hy : y < 0 ∨ nI n ≤ y) : fX12_isStanding y g = some (0, g) := by
  have n8 := x.n8
  simp only [fX12_isStanding, fX12_in, fX12_in_14, fX12_in_15, x.s2 q, cb_0, ob_s]
  by_cases c : y < 0
  · simp only [if_pos c, ob_s, cb_0]
  · have n1 : nI n - (1 : Int32) < y := (nm1 n8 c).mpr (hy.resolve_left c)
    simp only [if_neg c, if_pos n1, ob_s, cb_0]
theorem stdAtE (x : Ix P K L n b) (q : Qw b g) {t : Nat} (ht : t < n) : fX3_standingAt (nI t) g = some (b 30 t, g) := by
  have n8 := x.n8
  have c : ck 8 (nI t) = some t := ckI rfl (by omega)
  have e : g 30 = b 30 := q.row (by omega)
  simp only [fX3_standingAt, x.c3 q, if_neg (nI_pos (show t < 2 ^ 31 by omega)), if_neg (nI_ge ht (show n < 2 ^ 31 by omega)), c, ob_s, fX3_standingAt_22, e]
theorem stdAtN (x : Ix P K L n b) (q : Qw b g) {y : Int32} (hy : y < 0 ∨ nI n ≤ y) : fX3_standingAt y g = some (0, g) := by
  simp only [fX3_standingAt, x.c3 q, fX3_standingAt_21, fX3_standingAt_22]
  by_cases c : y < 0
  · rw [if_pos c]
  · rw [if_neg c, if_pos (hy.resolve_left c)]
/-- what stands behind a number -/
def Sd (P : PT) (K : Nat) (L : Wld) (b : HT) (t N p : Nat) (v : Int32) (r : SR) : Prop :=
  dq (b 30 t) = some p ∧ P[p]? = some r ∧ b 94 (410 + t) = nI N ∧ b 94 (420 + t) = v ∧ N ≤ 6 ∧ bd v 9 ∧ r = (kcl N, nI t, v) ∧ t < 8 ∧
  (∀ g, Qw b g → HC N v (fun k => b 94 (430 + 7 * t + k)) K (b 94) L r g) ∧
  (∀ g, Qw b g → Rs (fun g' => Qw b g' ∧ HR N v (fun k => b 94 (430 + 7 * t + k)) K (b 94) L g') (fX12_takes (nI t) g) 0)
theorem Ix.sd (x : Ix P K L n b) {t : Nat} (ht : t < n) : ∃ N p v r, Sd P K L b t N p v r := by
  have n8 := x.n8
  have hK := x.K7
  obtain ⟨p, N, e1, e2, e3, e4, e5⟩ := x.1.2.2.2.2.2.2.2.1 t ht
  have bl := x.1.2.2.2.2.2.2.2.2.1
  refine ⟨N, p, b 94 (420 + t), _, e1, e4, e3, rfl, e2, e5, rfl, by omega, ?_, ?_⟩
  · intro g q
    refine ⟨x.ok, x.rc q, ⟨rfl, fun _ => rfl, fun _ => ⟨t, by omega, rfl, fun k hk => ?_⟩⟩, e2⟩
    rw [show g (32 + t) = b (32 + t) from q.row (by omega)]
    have := (bl t k ht hk).1
    rwa [show 0 + 32 + t = 32 + t by omega] at this
  · intro g q
    have c1 : ck 490 ((410 : Int32) + nI t) = some (410 + t) := ckO 410 (by omega)
    have c2 : ck 490 ((420 : Int32) + nI t) = some (420 + t) := ckO 420 (by omega)
    simp only [fX12_takes, c1, c2, ob_s]
    have f94 : ∀ (u : Int32) (k : Nat), hu g 93 13 u 94 k = b 94 k := fun u k => by rw [hu_ne (by omega), x.r94 q]
    rw [f94, x.r94 q, e3]
    refine loop0 (K := 7) (F := fun n k h => fX12_takes_30 n (nI t) (nI k) h) (fun k g => Qw b g ∧ g 93 13 = nI N ∧ g 93 14 = b 94 (420 + t) ∧ ∀ j, j < k → g 99 j = b 94 (430 + 7 * t + j)) (n := 1000) (by omega) ⟨(q.pu (by unfold scr; omega)).pu (by unfold scr; omega), by rw [hu_ne (by decide), hu_eq], hu_eq, fun j hj => absurd hj (Nat.not_lt_zero j)⟩ ?_ ?_
    · intro n k g hk ⟨q1, q2, q3, q4⟩
      left
      have c3 : ck 490 (((430 : Int32) + ((7 : Int32) * nI t)) + nI k) = some (430 + 7 * t + k) := ckW 430 (by omega)
      have c4 : ck 7 (nI k) = some k := ckI rfl (by omega)
      have n7 : ¬ (7 : Int32) ≤ nI k := nI_ge (b := 7) hk (by omega)
      refine ⟨hu g 99 k (b 94 (430 + 7 * t + k)), ⟨q1.pu (by unfold scr; omega), by rw [hu_ne (by omega)]; exact q2, by rw [hu_ne (by omega)]; exact q3, ?_⟩, ?_⟩
      · intro j hj
        by_cases e : j = k
        · subst e; rw [hu_eq]
        · rw [hu_ne (by omega)]; exact q4 j (by omega)
      · show fX12_takes_30 (n + 1) (nI t) (nI k) g = fX12_takes_30 n (nI t) (nI (k + 1)) _
        simp only [fX12_takes_30, if_neg n7, c3, c4, ob_s, x.r94 q1, nI_1]
    · intro n g ⟨q1, q2, q3, q4⟩
      show Rs _ (fX12_takes_30 (n + 1) (nI t) (nI 7) g) 0
      simp only [fX12_takes_30, if_pos (show (7 : Int32) ≤ nI 7 from Int32.le_refl _)]
      exact Rs.ok ⟨q1, x.ok, x.r94 q1, ⟨q2, q3, q4⟩, e2⟩
def prv (s : RT) (a c : Nat) : Int32 := if a = c then -2 else if (lv s a && lv s c) = true then 0 else -3
theorem prE (x : Ix P K L n b) (q : Qw b g) {a c : Nat} (ha : a < K) (hc : c < K) : fX11_pairRefusal (nI a) (nI c) g = some (prv (b 94) a c, g) := by
  have hK := x.K7
  have rc := x.rc q
  simp only [fX11_pairRefusal, hasE rc ha, hasE rc hc, ob_s, if10, nIx (show a < 7 by omega) (show c < 7 by omega), livesE rc ha, livesE rc hc, fX11_pairRefusal_58, fX11_pairRefusal_60]
  unfold prv
  by_cases e : a = c
  · rw [if_pos e, if_pos e]
  · rw [if_neg e, if_neg e]
    cases lv (b 94) a
    · simp only [ifbf, Bool.false_and, Bool.false_eq_true, if_false]
    · cases lv (b 94) c
      · simp only [ifbf, ifbt, Bool.and_false, Bool.false_eq_true, if_false]
      · simp only [ifbt, Bool.and_true, if_true]
theorem prN1 (x : Ix P K L n b) (q : Qw b g) {y z : Int32} (hy : y < 0 ∨ nI K ≤ y) : fX11_pairRefusal y z g = some (-1, g) := by
  simp only [fX11_pairRefusal, hasN (x.rc q) hy, ob_s, if_true, fX11_pairRefusal_22]
theorem prN2 (x : Ix P K L n b) (q : Qw b g) {a : Nat} {z : Int32} (ha : a < K) (hz : z < 0 ∨ nI K ≤ z) : fX11_pairRefusal (nI a) z g = some (-1, g) := by
  simp only [fX11_pairRefusal, hasE (x.rc q) ha, hasN (x.rc q) hz, ob_s, if_true, if10, fX11_pairRefusal_22]
end ixs
