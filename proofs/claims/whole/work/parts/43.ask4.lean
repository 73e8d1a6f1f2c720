section ask4
variable {P : PT} {K : Nat} {L : Wld} {n : Nat} {b h : HT} {s : RT}
def sw (s : RT) (k d : Nat) : Bool := decide (pc s k d = 1) || decide (pc s k d = 2)
def br (s : RT) (L : Wld) (k e : Nat) : Bool := decide (costS s L k e ≤ s 6)
theorem standsE (rc : RC 0 K s L h) {a c : Nat} (ha : a < K) (hc : c < K) : fX3_standsWith (nI a) (nI c) h = some (bI (sw s a c), h) := by
  have hK := rc.K7
  have c1 : ck 7 (nI a) = some a := ckI rfl (by omega)
  have c2 : ck 7 (nI c) = some c := ckI rfl (by omega)
  have e : h (14 + a) c = pc s a c := rc.pac ha hc
  simp only [fX3_standsWith, c1, c2, ob_s, e, fX3_standsWith_24, fX3_standsWith_29, cb_0, cb_1]
  unfold sw
  by_cases e1 : pc s a c = 1
  · rw [if_pos e1, decide_eq_true e1]; rfl
  · rw [if_neg e1, decide_eq_false e1]
    by_cases e2 : pc s a c = 2
    · rw [if_pos e2, decide_eq_true e2]; rfl
    · rw [if_neg e2, decide_eq_false e2]; rfl
theorem bearsE (ok : OKs K s L) (rc : RC 0 K s L b) (q : Qs b h) {a c : Nat} (ha : a < K) (hc : c < K) : Rs (Qs b) (fX3_bears (nI a) (nI c) h) (bI (br s L a c)) := by
  obtain ⟨h1, e1, q1⟩ := costC ok rc q ha hc
  simp only [fX3_bears, e1, ob_s, (rc.q q1).wd, fX3_bears_25, cb_0, cb_1]
  unfold br
  by_cases u : s 6 < costS s L a c
  · rw [if_pos u, decide_eq_false (Int32.not_le.mpr u)]; exact Rs.ok q1
  · rw [if_neg u, decide_eq_true (Int32.not_lt.mp u)]; exact Rs.ok q1
def kp (s : RT) (L : Wld) (k d e : Nat) : Bool := sw s k d && br s L k e
theorem doesKeepE (ok : OKs K s L) (e94 : h 94 = s) {a c e : Nat} (ha : a < K) (hc : c < K) (he : e < K) : Rs (Q8 h) (fX12_doesKeep (nI a) (nI c) (nI e) h) (bI (kp s L a c e)) := by
  have hK := ok.1
  have c1 : ck 490 (((360 : Int32) + ((7 : Int32) * nI a)) + nI c) = some (360 + 7 * a + c) := ckW 360 (by omega)
  have p1 : s (360 + 7 * a + c) = pc s a c := rfl
  obtain ⟨h1, e1, q1⟩ := costR ok e94 Q8.rfl' ha he
  have w : h1 94 6 = s 6 := by rw [q1 94 (by decide), e94]
  simp only [fX12_doesKeep, fX12_pactOf, c1, ob_s, e94, p1, fX12_doesKeep_20, e1, w, fX12_doesKeep_40, fX12_doesKeep_41, cb_0, cb_1]
  unfold kp sw br
  by_cases a1 : pc s a c = 1
  · rw [if_pos a1, decide_eq_true a1, Bool.true_or, Bool.true_and]
    by_cases u : s 6 < costS s L a e
    · rw [if_pos u, decide_eq_false (Int32.not_le.mpr u)]; exact Rs.ok q1
    · rw [if_neg u, decide_eq_true (Int32.not_lt.mp u)]; exact Rs.ok q1
  · rw [if_neg a1, decide_eq_false a1, Bool.false_or]
    by_cases a2 : pc s a c = 2
    · rw [if_pos a2, decide_eq_true a2, Bool.true_and]
      by_cases u : s 6 < costS s L a e
      · rw [if_pos u, decide_eq_false (Int32.not_le.mpr u)]; exact Rs.ok q1
      · rw [if_neg u, decide_eq_true (Int32.not_lt.mp u)]; exact Rs.ok q1
    · rw [if_neg a2, decide_eq_false a2]; exact Rs.ok Q8.rfl'
theorem b_keeps (x : Ix P K L n b) (l1 l2 l3 : Int32) : Bo b (fX11_keeps l1 l2 l3) (fX12_keeps l1 l2 l3) := by
  have hK := x.K7
  rcases isk K hK l1 with ⟨a, ha, rfl⟩ | n1
  · rcases isk K hK l2 with ⟨c, hc, rfl⟩ | n2
    · rcases isk K hK l3 with ⟨e, he, rfl⟩ | n3
      · have i1 := fun (g : HT) (q : Qw b g) => hasE (x.rc q) ha
        have i2 := fun (g : HT) (q : Qw b g) => hasE (x.rc q) hc
        have i3 := fun (g : HT) (q : Qw b g) => hasE (x.rc q) he
        have j1 := fun (g : HT) (q : Qw b g) => isKingE hK (x.e0 q) ha
        have j2 := fun (g : HT) (q : Qw b g) => isKingE hK (x.e0 q) hc
        have j3 := fun (g : HT) (q : Qw b g) => isKingE hK (x.e0 q) he
        have k1 := nIx (show a < 7 by omega) (show c < 7 by omega)
        have k2 := nIx (show a < 7 by omega) (show e < 7 by omega)
        have k3 := nIx (show c < 7 by omega) (show e < 7 by omega)
        by_cases e1 : a = c ∨ a = e ∨ c = e
        · refine ⟨-2, fun g q => ?_, fun g q => ?_⟩
          · simp only [fX11_keeps, i1 g q, i2 g q, i3 g q, ob_s, if10, k1, k2, k3, fX11_keeps_50]
            by_cases z1 : a = c
            · rw [if_pos z1]; exact Rs.ok q
            · rw [if_neg z1]
              by_cases z2 : a = e
              · rw [if_pos z2]; exact Rs.ok q
              · rw [if_neg z2, if_pos (by omega)]; exact Rs.ok q
          · simp only [fX12_keeps, j1 g q, j2 g q, j3 g q, ob_s, if10, k1, k2, k3, fX12_keeps_41]
            by_cases z1 : a = c
            · rw [if_pos z1]; exact Rs.ok q
            · rw [if_neg z1]
              by_cases z2 : a = e
              · rw [if_pos z2]; exact Rs.ok q
              · rw [if_neg z2, if_pos (by omega)]; exact Rs.ok q
        · have z1 : ¬ a = c := fun z => e1 (Or.inl z)
          have z2 : ¬ a = e := fun z => e1 (Or.inr (Or.inl z))
          have z3 : ¬ c = e := fun z => e1 (Or.inr (Or.inr z))
          have m1 := fun (g : HT) (q : Qw b g) => livesE (x.rc q) ha
          have m2 := fun (g : HT) (q : Qw b g) => livesE (x.rc q) hc
          have m3 := fun (g : HT) (q : Qw b g) => livesE (x.rc q) he
          have o1 := fun (g : HT) (q : Qw b g) => isAliveE hK (x.r94 q) x.s0 ha
          have o2 := fun (g : HT) (q : Qw b g) => isAliveE hK (x.r94 q) x.s0 hc
          have o3 := fun (g : HT) (q : Qw b g) => isAliveE hK (x.r94 q) x.s0 he
          by_cases al : (lv (b 94) a && lv (b 94) c && lv (b 94) e) = true
          · rw [Bool.and_eq_true, Bool.and_eq_true] at al
            obtain ⟨⟨la, lc⟩, le⟩ := al
            refine ⟨bI (kp (b 94) L a c e), fun g q => ?_, fun g q => ?_⟩
            · obtain ⟨h1, e1, q1⟩ := bearsE x.ok (x.rc q) Qs.rfl' ha he
              simp only [fX11_keeps, i1 g q, i2 g q, i3 g q, ob_s, if10, k1, k2, k3, if_neg z1, if_neg z2, if_neg z3, m1 g q, m2 g q, m3 g q, la, lc, le, ifbt, standsE (x.rc q) ha hc, e1, fX11_keeps_117, fX11_keeps_118]
              unfold kp
              cases sw (b 94) a c
              · rw [ifbf]; exact Rs.ok q
              · rw [ifbt, Bool.true_and]
                cases br (b 94) L a e
                · rw [ifbf]; exact Rs.ok (q.tr q1.w)
                · rw [ifbt]; exact Rs.ok (q.tr q1.w)
            · obtain ⟨h1, e1, q1⟩ := doesKeepE x.ok (x.r94 q) ha hc he
              simp only [fX12_keeps, j1 g q, j2 g q, j3 g q, ob_s, if10, k1, k2, k3, if_neg z1, if_neg z2, if_neg z3, o1 g q, o2 g q, o3 g q, la, lc, le, ifbt, e1, fX12_keeps_86]
              cases kp (b 94) L a c e
              · rw [ifbf]; exact Rs.ok (q.tr (Q8.s Qs.rfl' q1).w)
              · rw [ifbt]; exact Rs.ok (q.tr (Q8.s Qs.rfl' q1).w)
          · refine ⟨-3, fun g q => ?_, fun g q => ?_⟩
            · simp only [fX11_keeps, i1 g q, i2 g q, i3 g q, ob_s, if10, k1, k2, k3, if_neg z1, if_neg z2, if_neg z3, m1 g q, m2 g q, m3 g q, fX11_keeps_86]
              cases la : lv (b 94) a
              · rw [ifbf]; exact Rs.ok q
              · rw [ifbt]
                cases lc : lv (b 94) c
                · rw [ifbf]; exact Rs.ok q
                · rw [ifbt]
                  cases le : lv (b 94) e
                  · rw [ifbf]; exact Rs.ok q
                  · rw [la, lc, le] at al; exact absurd rfl al
            · simp only [fX12_keeps, j1 g q, j2 g q, j3 g q, ob_s, if10, k1, k2, k3, if_neg z1, if_neg z2, if_neg z3, o1 g q, o2 g q, o3 g q, fX12_keeps_68]
              cases la : lv (b 94) a
              · rw [ifbf]; exact Rs.ok q
              · rw [ifbt]
                cases lc : lv (b 94) c
                · rw [ifbf]; exact Rs.ok q
                · rw [ifbt]
                  cases le : lv (b 94) e
                  · rw [ifbf]; exact Rs.ok q
                  · rw [la, lc, le] at al; exact absurd rfl al
      · refine ⟨-1, fun g q => ?_, fun g q => ?_⟩
        · simp only [fX11_keeps, hasE (x.rc q) ha, hasE (x.rc q) hc, hasN (x.rc q) n3, ob_s, if10, if_true, fX11_keeps_33]; exact Rs.ok q
        · simp only [fX12_keeps, isKingE hK (x.e0 q) ha, isKingE hK (x.e0 q) hc, isKingN hK (x.e0 q) n3, ob_s, if10, if_true, fX12_keeps_24]; exact Rs.ok q
    · refine ⟨-1, fun g q => ?_, fun g q => ?_⟩
      · simp only [fX11_keeps, hasE (x.rc q) ha, hasN (x.rc q) n2, ob_s, if10, if_true, fX11_keeps_33]; exact Rs.ok q
      · simp only [fX12_keeps, isKingE hK (x.e0 q) ha, isKingN hK (x.e0 q) n2, ob_s, if10, if_true, fX12_keeps_24]; exact Rs.ok q
  · refine ⟨-1, fun g q => ?_, fun g q => ?_⟩
    · simp only [fX11_keeps, hasN (x.rc q) n1, ob_s, if_true, fX11_keeps_33]; exact Rs.ok q
    · simp only [fX12_keeps, isKingN hK (x.e0 q) n1, ob_s, if_true, fX12_keeps_24]; exact Rs.ok q
/-- whom he would still keep his word with -/
def eo (s : RT) (L : Wld) (k d e : Nat) : Bool := lv s e && !decide (e = k) && !decide (e = d) && br s L k e
def emp (s : RT) (L : Wld) (K k d : Nat) : Bool := !decide (d = k) && lv s d && sw s k d && !anyB (eo s L k d) K
theorem bearsOneE (ok : OKs K s L) (rc : RC 0 K s L b) (q : Qs b h) {a c : Nat} (ha : a < K) (hc : c < K) : Rs (Qs b) (fX3_bearsOneBut (nI a) (nI c) h) (bI (anyB (eo s L a c) K)) := by
  have hK := rc.K7
  simp only [fX3_bearsOneBut, (rc.q q).alive]
  have hx : ∀ k, k < K → bt (mk (lv s) K &&& ((((1 : Int32) <<< (nI a &&& 31)) ||| ((1 : Int32) <<< (nI c &&& 31))) ^^^ (-1 : Int32))) k = (lv s k && !decide (k = a) && !decide (k = c)) := by
    intro k hk
    have e := b_two (a := a) (b := c) (i := k) (by omega) (by omega) (by omega)
    unfold two at e
    rw [b_and, e, b_mkK hK k hk]
    cases lv s k <;> simp
  generalize mk (lv s) K &&& ((((1 : Int32) <<< (nI a &&& 31)) ||| ((1 : Int32) <<< (nI c &&& 31))) ^^^ (-1 : Int32)) = X at hx
  refine loop0 (K := K) (F := fun n k h => fX3_bearsOneBut_18 n (nI a) X (nI k) h) (fun k h => Qs b h ∧ anyB (eo s L a c) k = false) (n := 1000) (by omega) ⟨q, rfl⟩ ?_ ?_
  · intro n k g hk ⟨qg, an⟩
    show (∃ h', (Qs b h' ∧ (anyB (eo s L a c) k || eo s L a c k) = false) ∧ fX3_bearsOneBut_18 (n + 1) (nI a) X (nI k) g = fX3_bearsOneBut_18 n (nI a) X (nI (k + 1)) h') ∨ Rs (Qs b) (fX3_bearsOneBut_18 (n + 1) (nI a) X (nI k) g) _
    have e := hx k hk
    have eE : eo s L a c k = (lv s k && !decide (k = a) && !decide (k = c) && br s L a k) := rfl
    simp only [fX3_bearsOneBut_18, if_neg ((rc.q qg).go hk), fX3_bearsOneBut_48, nI_1]
    rw [eE, an]
    cases c0 : (lv s k && !decide (k = a) && !decide (k = c))
    · rw [c0] at e
      rw [if_pos (b_t0 (by omega) e)]
      exact Or.inl ⟨g, ⟨qg, rfl⟩, rfl⟩
    · rw [c0] at e
      rw [if_neg (b_n0 (by omega) e)]
      obtain ⟨h1, e1, q1⟩ := bearsE ok rc qg ha hk
      simp only [e1, ob_s]
      cases c1 : br s L a k
      · rw [ifbf]; exact Or.inl ⟨h1, ⟨q1, rfl⟩, rfl⟩
      · rw [ifbt]
        right
        have t : anyB (eo s L a c) (k + 1) = true := by
          show (anyB (eo s L a c) k || eo s L a c k) = true
          rw [eE, c0, c1, an]; rfl
        obtain ⟨d, hd⟩ : ∃ d, K = k + 1 + d := ⟨K - (k + 1), by omega⟩
        have t2 : anyB (eo s L a c) K = true := by rw [hd]; exact anyB_up t d
        rw [t2]
        exact Rs.ok q1
  · intro n g ⟨qg, an⟩
    simp only [fX3_bearsOneBut_18, if_pos (rc.q qg).ex]
    rw [an]
    exact Rs.ok qg
theorem emp75 (ok : OKs K s L) (e94 : b 94 = s) {a c : Nat} (ha : a < K) (hc : c < K) (hsw : sw s a c = true) (k14 : Int32 → Int32 → Int32 → HT → Option (Int32 × HT)) (l2 : Int32) : ∀ (m : Nat) {n e : Nat} {h : HT}, e + m = K → m < n → Qs b h → anyB (eo s L a c) e = false → ∃ h', Qs b h' ∧ fX12_empty_75 k14 n (nI a) l2 (nI c) 1 (nI e) h = fX12_empty_136 k14 (nI a) l2 (nI c) (bI (!anyB (eo s L a c) K)) h'
  | 0, n, e, h, he, hn, q, an => by
    obtain ⟨n, rfl⟩ : ∃ n', n = n' + 1 := ⟨n - 1, by omega⟩
    obtain rfl : e = K := by omega
    refine ⟨h, q, ?_⟩
    simp only [fX12_empty_75, (q.row (show 94 ≠ 29 ∧ 94 ≠ 98 ∧ 94 ≠ 93 by decide)).trans e94, if_pos (rxs ok.2.1), an]
    rfl
  | m + 1, n, e, h, he, hn, q, an => by
    have hK := ok.1
    obtain ⟨n, rfl⟩ : ∃ n', n = n' + 1 := ⟨n - 1, by omega⟩
    have heK : e < K := by omega
    have h94 : h 94 = s := (q.row (by decide)).trans e94
    have st : eo s L a c e = false → ∃ h', Qs b h' ∧ fX12_empty_75 k14 n (nI a) l2 (nI c) 1 (nI (e + 1)) h = fX12_empty_136 k14 (nI a) l2 (nI c) (bI (!anyB (eo s L a c) K)) h' := fun z =>
      emp75 ok e94 ha hc hsw k14 l2 m (by omega) (by omega) q (by show (anyB (eo s L a c) e || eo s L a c e) = false; rw [an, z]; rfl)
    have eE : eo s L a c e = (lv s e && !decide (e = a) && !decide (e = c) && br s L a e) := rfl
    simp only [fX12_empty_75, h94, if_neg (rgs hK ok.2.1 heK), if10, nIx (show e < 7 by omega) (show a < 7 by omega), nIx (show e < 7 by omega) (show c < 7 by omega), fX12_empty_123, fX12_empty_128, isAliveE hK h94 ok.2.1 heK, ob_s, nI_1]
    by_cases z1 : e = a
    · rw [if_pos z1]; exact st (by rw [eE]; simp [z1])
    · rw [if_neg z1]
      by_cases z2 : e = c
      · rw [if_pos z2]; exact st (by rw [eE]; simp [z2])
      · rw [if_neg z2]
        cases z3 : lv s e
        · rw [ifbf]; exact st (by rw [eE, z3]; rfl)
        · rw [ifbt]
          obtain ⟨h1, e1, q1⟩ := doesKeepE ok h94 ha hc heK
          have kk : kp s L a c e = br s L a e := by unfold kp; rw [hsw, Bool.true_and]
          simp only [e1, ob_s, kk]
          have q2 : Qs b h1 := Q8.s q q1
          cases z4 : br s L a e
          · rw [ifbf]
            exact emp75 ok e94 ha hc hsw k14 l2 m (by omega) (by omega) q2 (by show (anyB (eo s L a c) e || eo s L a c e) = false; rw [an, eE, z4]; simp)
          · rw [ifbt]
            have t : anyB (eo s L a c) (e + 1) = true := by
              show (anyB (eo s L a c) e || eo s L a c e) = true
              rw [eE, z3, z4, an]; simp [z1, z2]
            obtain ⟨d, hd⟩ : ∃ d, K = e + 1 + d := ⟨K - (e + 1), by omega⟩
            have t2 : anyB (eo s L a c) K = true := by rw [hd]; exact anyB_up t d
            rw [t2]
            refine ⟨h1, q2, ?_⟩
            obtain ⟨n, rfl⟩ : ∃ n', n = n' + 1 := ⟨n - 1, by omega⟩
            have h194 : h1 94 = s := (q2.row (by decide)).trans e94
            rw [fX12_empty_75]
            by_cases cc : h1 94 0 ≤ nI (e + 1)
            · rw [if_pos cc]; rfl
            · rw [if_neg cc, if_pos rfl]; rfl
theorem emp0 {k14 : Int32 → Int32 → Int32 → HT → Option (Int32 × HT)} {l1 l2 l3 l6 : Int32} {n : Nat} : fX12_empty_75 k14 (n + 1) l1 l2 l3 0 l6 h = fX12_empty_136 k14 l1 l2 l3 0 h := by
  rw [fX12_empty_75]
  by_cases cc : h 94 0 ≤ l6
  · rw [if_pos cc]
  · rw [if_neg cc, if_pos rfl]
theorem b_empty (x : Ix P K L n b) (l1 : Int32) : Bo b (fX11_empty l1) (fX12_empty l1) := by
  have hK := x.K7
  rcases isk K hK l1 with ⟨a, ha, rfl⟩ | n1
  · refine ⟨if lv (b 94) a = true then mk (emp (b 94) L K a) K else 0, fun g q => ?_, fun g q => ?_⟩
    · simp only [fX11_empty, hasE (x.rc q) ha, livesE (x.rc q) ha, ob_s, if10]
      cases la : lv (b 94) a
      · rw [ifbf, if_neg (by decide)]; exact Rs.ok q
      · rw [ifbt, if_pos rfl]
        refine Rs.w q (loop0 (K := K) (F := fun n k h => fX11_empty_30 n (nI a) (mk (emp (b 94) L K a) k) (nI k) h) (fun _ h => Qs g h) (n := 1000) (by omega) Qs.rfl' ?_ ?_)
        · intro n k h hk qh
          refine Or.inl ?_
          show ∃ h', Qs g h' ∧ fX11_empty_30 (n + 1) (nI a) _ (nI k) h = fX11_empty_30 n (nI a) (mk (emp (b 94) L K a) (k + 1)) (nI (k + 1)) h'
          have rh := (x.rc q).q qh
          have eE : emp (b 94) L K a k = (!decide (k = a) && lv (b 94) k && sw (b 94) a k && !anyB (eo (b 94) L a k) K) := rfl
          rw [mk, eE]
          simp only [fX11_empty_30, if_neg (rh.go hk), nIx (show k < 7 by omega) (show a < 7 by omega), livesE rh hk, standsE rh ha hk, ob_s, fX11_empty_87, nI_1]
          by_cases z1 : k = a
          · rw [if_pos z1, decide_eq_true z1]; exact ⟨h, qh, rfl⟩
          · rw [if_neg z1, decide_eq_false z1]
            cases lv (b 94) k
            · rw [ifbf]; exact ⟨h, qh, rfl⟩
            · rw [ifbt]
              cases sw (b 94) a k
              · rw [ifbf]; exact ⟨h, qh, rfl⟩
              · rw [ifbt]
                obtain ⟨h1, e1, q1⟩ := bearsOneE x.ok (x.rc q) qh ha hk
                simp only [e1, ob_s]
                cases anyB (eo (b 94) L a k) K
                · rw [ifbf]; exact ⟨h1, q1, rfl⟩
                · rw [ifbt]; exact ⟨h1, q1, rfl⟩
        · intro n h qh
          simp only [fX11_empty_30, if_pos ((x.rc q).q qh).ex]
          exact Rs.ok qh
    · simp only [fX12_empty, isKingE hK (x.e0 q) ha, ob_s, if10]
      have vE : (if lv (b 94) a = true then mk (emp (b 94) L K a) K else 0) = mk (fun d => lv (b 94) a && emp (b 94) L K a d) K := by
        cases lv (b 94) a
        · rw [if_neg (by decide)]; exact (mk_f K hK).symm
        · rw [if_pos rfl]; exact mk_cong fun k _ => by rw [Bool.true_and]
      rw [vE]
      refine Rs.w q (loop0 (K := K) (F := fun n k h => fX12_empty_14 n (nI a) (mk (fun d => lv (b 94) a && emp (b 94) L K a d) k) (nI k) h) (fun _ h => Qs g h) (n := 1000) (by omega) Qs.rfl' ?_ ?_)
      · intro n k h hk qh
        refine Or.inl ?_
        show ∃ h', Qs g h' ∧ fX12_empty_14 (n + 1) (nI a) _ (nI k) h = fX12_empty_14 n (nI a) (mk (fun d => lv (b 94) a && emp (b 94) L K a d) (k + 1)) (nI (k + 1)) h'
        have h94 : h 94 = b 94 := (qh.row (by decide)).trans (x.r94 q)
        have c1 : ck 490 (((360 : Int32) + ((7 : Int32) * nI a)) + nI k) = some (360 + 7 * a + k) := ckW 360 (by omega)
        have p1 : b 94 (360 + 7 * a + k) = pc (b 94) a k := rfl
        have eE : emp (b 94) L K a k = (!decide (k = a) && lv (b 94) k && sw (b 94) a k && !anyB (eo (b 94) L a k) K) := rfl
        have zero : ∃ h', Qs g h' ∧ fX12_empty_75 (fX12_empty_14 n) 1000 (nI a) (mk (fun d => lv (b 94) a && emp (b 94) L K a d) k) (nI k) 0 0 h = fX12_empty_14 n (nI a) (mk (fun d => lv (b 94) a && emp (b 94) L K a d) k) (nI (k + 1)) h' := by
          refine ⟨h, qh, ?_⟩
          generalize mk (fun d => lv (b 94) a && emp (b 94) L K a d) k = X
          have e : fX12_empty_75 (fX12_empty_14 n) 1000 (nI a) X (nI k) 0 0 h = _ := emp0 (n := 999)
          rw [e]
          simp only [fX12_empty_136, if_true, fX12_empty_149, nI_1, Int32.or_zero]
        rw [mk, eE]
        simp only [fX12_empty_14, h94, if_neg (rgs hK x.s0 hk), fX12_pactOf, c1, p1, ob_s, nIx (show k < 7 by omega) (show a < 7 by omega), fX12_empty_69, fX12_empty_65, fX12_empty_70, isAliveE hK h94 x.s0 ha, isAliveE hK h94 x.s0 hk]
        by_cases z1 : k = a
        · rw [if_pos z1, decide_eq_true z1]
          simp only [Bool.not_true, Bool.false_and, Bool.and_false, Bool.false_eq_true, if_false]
          exact zero
        · rw [if_neg z1, decide_eq_false z1]
          cases la : lv (b 94) a
          · rw [ifbf]
            rw [la] at zero
            simp only [Bool.false_and, Bool.false_eq_true, if_false] at zero ⊢
            exact zero
          · rw [ifbt]
            rw [la] at zero
            cases lk : lv (b 94) k
            · rw [ifbf]
              simp only [Bool.false_and, Bool.and_false, Bool.not_false, Bool.true_and, Bool.false_eq_true, if_false] at zero ⊢
              exact zero
            · rw [ifbt]
              simp only [Bool.not_false, Bool.true_and] at zero ⊢
              have yes : sw (b 94) a k = true → ∃ h', Qs g h' ∧ fX12_empty_75 (fX12_empty_14 n) 1000 (nI a) (mk (emp (b 94) L K a) k) (nI k) 1 0 h = fX12_empty_14 n (nI a) (if (!anyB (eo (b 94) L a k) K) = true then mk (emp (b 94) L K a) k ||| ((1 : Int32) <<< (nI k &&& 31)) else mk (emp (b 94) L K a) k) (nI (k + 1)) h' := by
                intro hs
                obtain ⟨h1, q1, e1⟩ := emp75 x.ok (x.r94 q) ha hk hs (fX12_empty_14 n) (mk (emp (b 94) L K a) k) K (n := 1000) (e := 0) (by omega) (by omega) qh rfl
                refine ⟨h1, q1, ?_⟩
                have e1' : fX12_empty_75 (fX12_empty_14 n) 1000 (nI a) (mk (emp (b 94) L K a) k) (nI k) 1 0 h = _ := e1
                rw [e1']
                simp only [fX12_empty_136, fX12_empty_149, nI_1, Int32.or_zero]
                cases anyB (eo (b 94) L a k) K
                · rw [Bool.not_false, ifbt, if_pos rfl]
                · rw [Bool.not_true, ifbf, if_neg (by decide)]
              unfold sw at yes ⊢
              by_cases p1 : pc (b 94) a k = 1
              · rw [if_pos p1]
                rw [decide_eq_true p1, Bool.true_or] at yes ⊢
                rw [Bool.true_and]
                exact yes rfl
              · rw [if_neg p1]
                rw [decide_eq_false p1, Bool.false_or] at yes ⊢
                by_cases p2 : pc (b 94) a k = 2
                · rw [if_pos p2]
                  rw [decide_eq_true p2] at yes ⊢
                  rw [Bool.true_and]
                  exact yes rfl
                · rw [if_neg p2, decide_eq_false p2, Bool.false_and, if_neg (by decide)]
                  exact zero
      · intro n h qh
        have h94 : h 94 = b 94 := (qh.row (by decide)).trans (x.r94 q)
        simp only [fX12_empty_14, h94, if_pos (rxs x.s0)]
        exact Rs.ok qh
  · refine ⟨-1, fun g q => ?_, fun g q => ?_⟩
    · simp only [fX11_empty, hasN (x.rc q) n1, ob_s, if_true]; exact Rs.ok q
    · simp only [fX12_empty, isKingN hK (x.e0 q) n1, ob_s, if_true]; exact Rs.ok q
end ask4
