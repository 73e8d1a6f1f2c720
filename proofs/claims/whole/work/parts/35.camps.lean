/-! who comes: both sides -/
def kcl (N : Nat) : Nat := if N = 0 then 5 else if N = 1 then 0 else if N = 2 then 4 else if N = 3 then 9 else if N = 4 then 2 else if N = 5 then 1 else 7
def StC (N : Nat) (v : Int32) (blk : Nat → Int32) (r : SR) (b : HT) : Prop := r.1 = kcl N ∧ (N = 5 → r.2.2 = v) ∧ (N = 2 ∨ N = 4 → ∃ t, t < 9 ∧ r.2.1 = nI t ∧ ∀ k, k < 7 → b (32 + t) k = blk k)
def StR (N : Nat) (v : Int32) (blk : Nat → Int32) (b : HT) : Prop := b 93 13 = nI N ∧ b 93 14 = v ∧ ∀ k, k < 7 → b 99 k = blk k
def pc (s : RT) (k j : Nat) : Int32 := s (360 + 7 * k + j)
def wA (x y : Int32) : Bool := !decide (x = 3) && !decide (y = 3) && decide (x = 2) && !(decide (y = 1) || decide (y = 2))
def wB (x y : Int32) : Bool := !decide (x = 3) && !decide (y = 3) && !decide (x = 2) && (decide (y = 1) || decide (y = 2))
def sb (s : RT) (blk : Nat → Int32) (K a : Nat) : Int32 := sumW (fun k => decide (blk k = blk a)) (fun k => s (270 + k)) K
def tt (s : RT) (K : Nat) : Int32 := sumW (lv s) (fun k => s (270 + k)) K
def maj (s : RT) (blk : Nat → Int32) (K a : Nat) : Bool := decide (tt s K < 2 * sb s blk K a)
def toA (N : Nat) (v : Int32) (blk : Nat → Int32) (K : Nat) (s : RT) (L : Wld) (a b k : Nat) : Bool :=
  if N = 0 then decide (k % 2 = 0) else if N = 1 then false else if N = 2 ∨ N = 4 then !decide (blk b = blk a) && decide (blk k = blk a)
  else if N = 3 then wA (pc s k a) (pc s k b) else if N = 5 then !decide (nI b = v) && wA (pc s k a) (pc s k b) else wA (pc s k a) (pc s k b) && decide (costS s L k b ≤ s 6)
def toB (N : Nat) (v : Int32) (blk : Nat → Int32) (K : Nat) (s : RT) (L : Wld) (a b k : Nat) : Bool :=
  if N = 0 then decide (k % 2 = 1) else if N = 1 then false else if N = 4 ∧ maj s blk K a = true then !decide (blk k = blk a) else if N = 2 ∨ N = 4 then !decide (blk b = blk a) && decide (blk k = blk b)
  else if N = 3 then wB (pc s k a) (pc s k b) else if N = 5 then decide (nI b = v) || wB (pc s k a) (pc s k b) else wB (pc s k a) (pc s k b) && decide (costS s L k a ≤ s 6)
def mA (N : Nat) (v : Int32) (blk : Nat → Int32) (K : Nat) (s : RT) (L : Wld) (a b k : Nat) : Bool := cA (toA N v blk K s L a b) s a b k
def mB (N : Nat) (v : Int32) (blk : Nat → Int32) (K : Nat) (s : RT) (L : Wld) (a b k : Nat) : Bool := cA (toB N v blk K s L a b) s b a k
theorem cA_c {p p' : Nat → Bool} {s : RT} {a b k : Nat} (h : lv s k = true → p k = p' k) : cA p s a b k = cA p' s a b k := by
  unfold cA
  cases q : lv s k
  · simp
  · rw [h q]
theorem pact4 {K : Nat} {s : RT} {L : Wld} (ok : OKs K s L) {k j : Nat} (hk : k < K) (hj : j < K) : pc s k j = 0 ∨ pc s k j = 1 ∨ pc s k j = 2 ∨ pc s k j = 3 := by
  obtain ⟨K7, s0, w, b6, b7, b8, sk, sw, _⟩ := ok
  have h := (sw k j hk hj).2
  unfold pc
  generalize s (360 + 7 * k + j) = x at *
  unfold bd at h
  have e0 : (0 : Int32).toInt = 0 := by decide
  have e1 : (1 : Int32).toInt = 1 := by decide
  have e2 : (2 : Int32).toInt = 2 := by decide
  have e3 : (3 : Int32).toInt = 3 := by decide
  rw [fa_eq, fa_eq, fa_eq, fa_eq, e0, e1, e2, e3]
  omega
theorem cA_f (p g : Nat → Bool) {s : RT} {a b k : Nat} : cA (fun k => cA p s a b k && g k) s a b k = cA (fun k => p k && g k) s a b k := by
  unfold cA
  by_cases e1 : k = a
  · simp [e1]
  · by_cases e2 : k = b
    · simp [e2]
    · cases hl : lv s k <;> simp [e1, e2, hl]
theorem ob_s {α β : Type} {x : α} {f : α → Option β} : Option.bind (some x) f = f x := by simp
section cC
variable {K : Nat} {s : RT} {L : Wld} {b h : HT} {N : Nat} {v : Int32} {blk : Nat → Int32} {r : SR} {x y : Nat}
def jn (p p' : Nat → Bool) (K : Nat) : Int32 := mk p K ||| (mk p' K <<< ((8 : Int32) &&& 31))
theorem jn_c {p p' q q' : Nat → Bool} (h1 : ∀ k, k < K → p k = q k) (h2 : ∀ k, k < K → p' k = q' k) : jn p p' K = jn q q' K := by
  unfold jn; rw [mk_cong h1, mk_cong h2]
theorem attJ (hK : K ≤ 7) (p q : Nat → Bool) : fX5_attackers (jn p q K) h = some (mk p K, h) := attE hK p q
theorem defJ (hK : K ≤ 7) (p q : Nat → Bool) : fX5_defenders (jn p q K) h = some (mk q K, h) := defE hK p q
theorem joinedJ (rc : RC 0 K s L h) {a b : Nat} (ha : a < K) (hb : b < K) {x y : Int32} {toA toB : Nat → Bool} (hx : ∀ k, k < K → bt x k = toA k) (hy : ∀ k, k < K → bt y k = toB k) : fX5_joined (nI a) (nI b) x y h = some (jn (cA toA s a b) (cA toB s b a) K, h) := joinedE rc ha hb hx hy
theorem camps9 (ok : OKs K s L) (rc : RC 0 K s L h) (r : SR) (hx : x < K) (hy : y < K) : fX9_camps r (nI x) (nI y) h = some (jn (cA (fun k => wA (pc s k x) (pc s k y)) s x y) (cA (fun k => wB (pc s k x) (pc s k y)) s y x) K, h) := by
  have hK := rc.K7
  refine loopE (K := K) (F := fun n k => fX9_camps_9 r n (nI x) (nI y) (mk (fun k => wA (pc s k x) (pc s k y)) k) (mk (fun k => wB (pc s k x) (pc s k y)) k) (nI k) h) ?_ ?_ K (n := 1000) (i := 0) (by omega) (by omega)
  · intro n k hk
    show fX9_camps_9 r (n + 1) (nI x) (nI y) _ _ (nI k) h = fX9_camps_9 r n (nI x) (nI y) (mk (fun k => wA (pc s k x) (pc s k y)) (k + 1)) (mk (fun k => wB (pc s k x) (pc s k y)) (k + 1)) (nI (k + 1)) h
    have c : ck 7 (nI k) = some k := ckI rfl (by omega)
    have cx : ck 7 (nI x) = some x := ckI rfl (by omega)
    have cy : ck 7 (nI y) = some y := ckI rfl (by omega)
    have p1 : h (14 + k) x = pc s k x := rc.pac hk hx
    have p2 : h (14 + k) y = pc s k y := rc.pac hk hy
    have e1 := pact4 ok hk hx
    have e2 := pact4 ok hk hy
    rw [mk, mk]
    simp only [fX9_camps_9, if_neg (rc.go hk), c, cx, cy, ob_some, p1, p2, ← nI_1]
    generalize pc s k x = u at *
    generalize pc s k y = w at *
    rcases e1 with rfl | rfl | rfl | rfl <;> rcases e2 with rfl | rfl | rfl | rfl <;> rfl
  · intro n
    simp only [fX9_camps_9, if_pos rc.ex, joinedJ rc hx hy (b_mkK hK) (b_mkK hK), ob_some]
theorem blockBitsE (rc : RC 0 K s L h) (r : SR) {t : Nat} (ht : t < 9) (hr : r.2.1 = nI t) (hb : ∀ k, k < 7 → h (32 + t) k = blk k) (hx : x < K) : fX4_blockBits r (nI x) h = some (mk (fun k => decide (blk k = blk x)) K, h) := by
  have hK := rc.K7
  have c9 : ck 9 r.2.1 = some t := ckI hr ht
  simp only [fX4_blockBits, c9, ob_some]
  refine loopE (K := K) (F := fun n k => fX4_blockBits_16 r n (nI x) t (mk (fun k => decide (blk k = blk x)) k) (nI k) h) ?_ ?_ K (n := 1000) (i := 0) (by omega) (by omega)
  · intro n k hk
    show fX4_blockBits_16 r (n + 1) (nI x) t _ (nI k) h = fX4_blockBits_16 r n (nI x) t (mk (fun k => decide (blk k = blk x)) (k + 1)) (nI (k + 1)) h
    have c : ck 7 (nI k) = some k := ckI rfl (by omega)
    have cx : ck 7 (nI x) = some x := ckI rfl (by omega)
    rw [mk]
    simp only [fX4_blockBits_16, if_neg (rc.go hk), c, cx, ob_some, hb k (by omega), hb x (by omega), ← nI_1, fX4_blockBits_44]
    by_cases q : blk k = blk x
    · rw [if_pos q, if_pos (decide_eq_true q)]
    · rw [if_neg q, if_neg (by simp [q])]
  · intro n
    simp only [fX4_blockBits_16, if_pos rc.ex]
theorem camps4 (rc : RC 0 K s L h) (r : SR) {t : Nat} (ht : t < 9) (hr : r.2.1 = nI t) (hb : ∀ k, k < 7 → h (32 + t) k = blk k) (hx : x < K) (hy : y < K) : fX4_camps r (nI x) (nI y) h = some (jn (cA (fun k => !decide (blk y = blk x) && decide (blk k = blk x)) s x y) (cA (fun k => !decide (blk y = blk x) && decide (blk k = blk y)) s y x) K, h) := by
  have hK := rc.K7
  have b1 := blockBitsE rc r ht hr hb hx
  have b2 := blockBitsE rc r ht hr hb hy
  have e := b_mkK (K := K) (p := fun k => decide (blk k = blk x)) hK y hy
  simp only [fX4_camps, b1, b2, ob_some, fX4_camps_42]
  by_cases q : blk y = blk x
  · rw [if_neg (b_n0 (by omega) (by rw [e]; exact decide_eq_true q))]
    rw [joinedJ rc hx hy (toA := fun _ => false) (toB := fun _ => false) (fun k _ => b_0 k) (fun k _ => b_0 k)]
    simp only [ob_some, decide_eq_true q, Bool.not_true, Bool.false_and]
  · rw [if_pos (b_t0 (by omega) (by rw [e]; exact decide_eq_false q))]
    rw [joinedJ rc hx hy (b_mkK hK) (b_mkK hK)]
    simp only [ob_some, decide_eq_false q, Bool.not_false, Bool.true_and]
theorem b_notK {p : Nat → Bool} (hK : K ≤ 7) : ∀ k, k < K → bt (mk p K ^^^ (-1 : Int32)) k = !p k := fun k hk => by
  rw [b_not _ (by omega), b_mkK hK k hk]
theorem camps2 (rc : RC 0 K s L h) (r : SR) {t : Nat} (ht : t < 9) (hr : r.2.1 = nI t) (hb : ∀ k, k < 7 → h (32 + t) k = blk k) (hx : x < K) (hy : y < K) : fX2_camps r (nI x) (nI y) h = some (jn (cA (fun k => !decide (blk y = blk x) && decide (blk k = blk x)) s x y) (cA (fun k => if maj s blk K x = true then !decide (blk k = blk x) else !decide (blk y = blk x) && decide (blk k = blk y)) s y x) K, h) := by
  have hK := rc.K7
  have b1 := blockBitsE rc r ht hr hb hx
  have e := b_mkK (K := K) (p := fun k => decide (blk k = blk x)) hK y hy
  have s1 := strengthOfE rc (fun k => decide (blk k = blk x)) _ (b_mkK hK)
  have s2 := strengthOfE rc (lv s) _ (b_mkK hK)
  rw [← rc.alive] at s2
  simp only [fX2_camps, b1, ob_some, s1, s2, fX2_camps_53]
  unfold maj tt sb
  by_cases q : sumW (lv s) (fun k => s (270 + k)) K < 2 * sumW (fun k => decide (blk k = blk x)) (fun k => s (270 + k)) K
  · simp only [if_pos q, decide_eq_true q, if_true]
    by_cases c : blk y = blk x
    · rw [if_neg (b_n0 (by omega) (by rw [e]; exact decide_eq_true c))]
      rw [joinedJ rc hx hy (toA := fun _ => false) (fun k _ => b_0 k) (b_notK hK)]
      simp only [ob_some, decide_eq_true c, Bool.not_true, Bool.false_and]
    · rw [if_pos (b_t0 (by omega) (by rw [e]; exact decide_eq_false c))]
      rw [joinedJ rc hx hy (b_mkK hK) (b_notK hK)]
      simp only [ob_some, decide_eq_false c, Bool.not_false, Bool.true_and]
  · rw [if_neg q, camps4 rc r ht hr hb hx hy]
    simp only [ob_some, decide_eq_false q, Bool.false_eq_true, if_false]
theorem keepersE (ok : OKs K s L) (rc : RC 0 K s L b) (q : Qs b h) (p : Nat → Bool) {o : Nat} (ho : o < K) : Rs (Qs b) (fX7_keepers (mk p K) (nI o) h) (mk (fun k => p k && decide (costS s L k o ≤ s 6)) K) := by
  have hK := rc.K7
  refine loop0 (K := K) (F := fun n k h => fX7_keepers_5 n (mk p K) (nI o) (mk (fun k => p k && decide (costS s L k o ≤ s 6)) k) (nI k) h) (fun _ h => Qs b h) (n := 1000) (by omega) q ?_ ?_
  · intro n k h hk q
    refine Or.inl ?_
    show ∃ h', Qs b h' ∧ fX7_keepers_5 (n + 1) (mk p K) (nI o) _ (nI k) h = fX7_keepers_5 n (mk p K) (nI o) (mk (fun k => p k && decide (costS s L k o ≤ s 6)) (k + 1)) (nI (k + 1)) h'
    have e := b_mkK (K := K) (p := p) hK k hk
    rw [mk]
    simp only [fX7_keepers_5, if_neg ((rc.q q).go hk), fX7_keepers_51, nI_1]
    cases c : p k
    · rw [c] at e
      rw [if_pos (b_t0 (by omega) e)]
      exact ⟨h, q, by rw [Bool.false_and, if_neg (by decide)]⟩
    · rw [c] at e
      rw [if_neg (b_n0 (by omega) e)]
      obtain ⟨h', e', q'⟩ := costC ok rc q hk ho
      refine ⟨h', q', ?_⟩
      rw [e']
      simp only [ob_some, (rc.q q').wd, Bool.true_and]
      by_cases u : s 6 < costS s L k o
      · rw [if_pos u, if_neg (by simp [Int32.not_le.mpr u])]
      · rw [if_neg u, if_pos (decide_eq_true (Int32.not_lt.mp u))]
  · intro n h q
    simp only [fX7_keepers_5, if_pos (rc.q q).ex]
    exact Rs.ok q
theorem camps7 (ok : OKs K s L) (rc : RC 0 K s L b) (q : Qs b h) (r : SR) (hx : x < K) (hy : y < K) : Rs (Qs b) (fX7_camps r (nI x) (nI y) h) (jn (cA (fun k => wA (pc s k x) (pc s k y) && decide (costS s L k y ≤ s 6)) s x y) (cA (fun k => wB (pc s k x) (pc s k y) && decide (costS s L k x ≤ s 6)) s y x) K) := by
  have hK := rc.K7
  obtain ⟨h1, e1, q1⟩ := keepersE ok rc q (cA (fun k => wA (pc s k x) (pc s k y)) s x y) hy
  obtain ⟨h2, e2, q2⟩ := keepersE ok rc q1 (cA (fun k => wB (pc s k x) (pc s k y)) s y x) hx
  have e3 := joinedJ (rc.q q2) hx hy (b_mkK (K := K) (p := fun k => cA (fun k => wA (pc s k x) (pc s k y)) s x y k && decide (costS s L k y ≤ s 6)) hK) (b_mkK (K := K) (p := fun k => cA (fun k => wB (pc s k x) (pc s k y)) s y x k && decide (costS s L k x ≤ s 6)) hK)
  have e4 := camps9 ok (rc.q q) r hx hy
  simp only [fX7_camps, e4, ob_s, attJ hK, e1, defJ hK, e2, e3]
  exact Rs.to (Rs.ok q2) (jn_c (fun k _ => cA_f _ _) (fun k _ => cA_f _ _))
theorem b_85 : ∀ i, i < 7 → bt 85 i = decide (i % 2 = 0) := by decide +kernel
theorem b_42 : ∀ i, i < 7 → bt 42 i = decide (i % 2 = 1) := by decide +kernel
theorem campsE (ok : OKs K s L) (rc : RC 0 K s L b) (st : StC N v blk r b) (hN : N ≤ 6) (q : Qs b h) (hx : x < K) (hy : y < K) : Rs (Qs b) (fv_camps r (nI x) (nI y) h) (jn (mA N v blk K s L x y) (mB N v blk K s L x y) K) := by
  have hK := rc.K7
  have rh := rc.q q
  obtain ⟨r1, r2, r3⟩ := st
  have r3' : N = 2 ∨ N = 4 → ∃ t, t < 9 ∧ r.2.1 = nI t ∧ ∀ k, k < 7 → h (32 + t) k = blk k := by
    intro hn
    obtain ⟨t, t9, e, f⟩ := r3 hn
    exact ⟨t, t9, e, fun k hk => by rw [q.row (by omega)]; exact f k hk⟩
  have hN' : N = 0 ∨ N = 1 ∨ N = 2 ∨ N = 3 ∨ N = 4 ∨ N = 5 ∨ N = 6 := by omega
  rcases hN' with rfl | rfl | rfl | rfl | rfl | rfl | rfl
  · have e : fv_camps r (nI x) (nI y) h = fX5_camps r (nI x) (nI y) h := by unfold fv_camps; rw [r1]; rfl
    rw [e, fX5_camps, joinedJ rh hx hy (fun k hk => b_85 k (by omega)) (fun k hk => b_42 k (by omega))]
    exact Rs.ok q
  · have e : fv_camps r (nI x) (nI y) h = fX0_camps r (nI x) (nI y) h := by unfold fv_camps; rw [r1]; rfl
    rw [e, fX0_camps, joinedJ rh hx hy (toA := fun _ => false) (toB := fun _ => false) (fun k _ => b_0 k) (fun k _ => b_0 k)]
    exact Rs.ok q
  · have e : fv_camps r (nI x) (nI y) h = fX4_camps r (nI x) (nI y) h := by unfold fv_camps; rw [r1]; rfl
    obtain ⟨t, t9, et, f⟩ := r3' (Or.inl rfl)
    rw [e, camps4 rh r t9 et f hx hy]
    exact Rs.ok q
  · have e : fv_camps r (nI x) (nI y) h = fX9_camps r (nI x) (nI y) h := by unfold fv_camps; rw [r1]; rfl
    rw [e, camps9 ok rh r hx hy]
    exact Rs.ok q
  · have e : fv_camps r (nI x) (nI y) h = fX2_camps r (nI x) (nI y) h := by unfold fv_camps; rw [r1]; rfl
    obtain ⟨t, t9, et, f⟩ := r3' (Or.inr rfl)
    rw [e, camps2 rh r t9 et f hx hy]
    refine Rs.to (Rs.ok q) (jn_c (fun k hk => rfl) (fun k hk => ?_))
    unfold mB
    apply cA_c
    intro _
    unfold toB
    rw [if_neg (show ¬ (4 : Nat) = 0 by decide), if_neg (show ¬ (4 : Nat) = 1 by decide)]
    cases maj s blk K x <;> rfl
  · have e : fv_camps r (nI x) (nI y) h = fX1_camps r (nI x) (nI y) h := by unfold fv_camps; rw [r1]; rfl
    rw [e]
    simp only [fX1_camps, r2 rfl, fX1_camps_29, rh.alive]
    by_cases c : nI y = v
    · rw [if_pos c, joinedJ rh hx hy (toA := fun _ => false) (fun k _ => b_0 k) (b_mkK hK)]
      simp only [ob_some]
      refine Rs.to (Rs.ok q) (jn_c (fun k hk => ?_) (fun k hk => ?_))
      · exact cA_c fun _ => by unfold toA; simp [c]
      · exact cA_c fun hl => by unfold toB; simp [c, hl]
    · rw [if_neg c, camps9 ok rh r hx hy]
      simp only [ob_some]
      refine Rs.to (Rs.ok q) (jn_c (fun k hk => ?_) (fun k hk => ?_))
      · exact cA_c fun _ => by unfold toA; simp [c]
      · exact cA_c fun hl => by unfold toB; simp [c]
  · have e : fv_camps r (nI x) (nI y) h = fX7_camps r (nI x) (nI y) h := by unfold fv_camps; rw [r1]; rfl
    rw [e]
    exact camps7 ok rc q r hx hy
end cC
