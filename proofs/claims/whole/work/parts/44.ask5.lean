section ask5
variable {P : PT} {K : Nat} {L : Wld} {n : Nat} {b h : HT} {s : RT}
def shr (s : RT) (K k : Nat) : Int32 := if s (270 + k) ≤ 0 then 0 else (tuV s K k * (100 : Int32)) / s (270 + k)
def crt (s : RT) (K : Nat) : Nat → Int32 × Int32
  | 0 => (-5, -1)
  | k + 1 => if lv s k = true then (if shr s K k ≤ (crt s K k).2 then crt s K k else (nI k, shr s K k)) else crt s K k
theorem shr_ge (ok : OKs K s L) {k : Nat} (hk : k < K) : 0 ≤ shr s K k := by
  have hK := ok.1
  have b0 := (ok.2.2.2.2.2.2.1 k (by omega)).1
  obtain ⟨c, hc, ec⟩ := tuV_le s hK k
  unfold shr
  by_cases z : s (270 + k) ≤ 0
  · rw [if_pos z]; exact Int32.le_refl _
  · rw [if_neg z, ec]
    have e0 : (0 : Int32).toInt = 0 := by decide
    rw [fa_le, e0] at z
    unfold bd at b0
    obtain ⟨u, hu, eu⟩ := nI_of (x := s (270 + k)) (by rw [fa_lt, e0]; omega)
    have e1 : nI c * (100 : Int32) = nI (c * 100) := nI_mul c 100
    rw [eu, e1, nI_div (by omega) hu]
    exact nI_pos' (Nat.lt_of_le_of_lt (Nat.div_le_self _ _) (by omega))
theorem crt_inv (ok : OKs K s L) : ∀ k, k ≤ K → ((crt s K k).1 = -5 ∧ (crt s K k).2 = -1) ∨ ((crt s K k).1 ≠ -5 ∧ 0 ≤ (crt s K k).2)
  | 0, _ => Or.inl ⟨rfl, rfl⟩
  | k + 1, hk => by
    have ih := crt_inv ok k (by omega)
    have hK := ok.1
    have g := shr_ge ok (show k < K by omega)
    rw [crt]
    cases lv s k
    · rw [if_neg (by decide)]; exact ih
    · rw [if_pos rfl]
      by_cases z : shr s K k ≤ (crt s K k).2
      · rw [if_pos z]; exact ih
      · rw [if_neg z]
        refine Or.inr ⟨?_, g⟩
        intro e
        have e : nI k = -5 := e
        have h0 := nI_pos' (n := k) (by omega)
        rw [e] at h0
        exact absurd h0 (by decide)
theorem b_courted (x : Ix P K L n b) : Bo b fX11_courted fX12_courted := by
  have hK := x.K7
  have ok := x.ok
  generalize hs : b 94 = s at ok
  refine ⟨(crt s K K).1, fun g q => ?_, fun g q => ?_⟩
  · have rc := x.rc q
    rw [hs] at rc
    have e : fX11_courted g = some ((crt s K K).1, g) := by
      refine loopE (K := K) (F := fun n k => fX11_courted_7 n (crt s K k).1 (crt s K k).2 (nI k) g) ?_ ?_ K (n := 1000) (i := 0) (by omega) (by omega)
      · intro n k hk
        show fX11_courted_7 (n + 1) (crt s K k).1 (crt s K k).2 (nI k) g = fX11_courted_7 n (crt s K (k + 1)).1 (crt s K (k + 1)).2 (nI (k + 1)) g
        have c7 : ck 7 (nI k) = some k := ckI rfl (by omega)
        rw [crt]
        simp only [fX11_courted_7, if_neg (rc.go hk), livesE rc hk, ob_s, c7, rc.str hk, turnsC rc hk, fX11_courted_79, fX11_courted_66, nI_1]
        cases lv s k
        · rw [ifbf, if_neg (by decide)]
        · rw [ifbt, if_pos rfl]
          unfold shr
          by_cases z : s (270 + k) ≤ 0
          · rw [if_pos z, if_pos z]
            by_cases z2 : 0 ≤ (crt s K k).2
            · rw [if_pos z2, if_pos z2]
            · rw [if_neg z2, if_neg z2]
          · have nzE : nz (s (270 + k)) = some () := by
              unfold nz; rw [if_neg (fun e => z (by rw [e]; exact Int32.le_refl _))]
            rw [if_neg z, if_neg z, nzE]
            simp only [ob_s]
            by_cases z2 : tuV s K k * (100 : Int32) / s (270 + k) ≤ (crt s K k).2
            · rw [if_pos z2, if_pos z2]
            · rw [if_neg z2, if_neg z2]
      · intro n
        simp only [fX11_courted_7, if_pos rc.ex]
    rw [e]; exact Rs.ok q
  · have h94 : g 94 = s := by rw [x.r94 q, hs]
    have s0 := ok.2.1
    have e : fX12_courted g = some ((crt s K K).1, g) := by
      refine loopE (K := K) (F := fun n k => fX12_courted_7 n (crt s K k).1 (if (crt s K k).1 = -5 then 0 else (crt s K k).2) (nI k) g) ?_ ?_ K (n := 1000) (i := 0) (by omega) (by omega)
      · intro n k hk
        show fX12_courted_7 (n + 1) (crt s K k).1 (if (crt s K k).1 = -5 then 0 else (crt s K k).2) (nI k) g = fX12_courted_7 n (crt s K (k + 1)).1 (if (crt s K (k + 1)).1 = -5 then 0 else (crt s K (k + 1)).2) (nI (k + 1)) g
        have c7 : ck 490 ((270 : Int32) + nI k) = some (270 + k) := ckO 270 (by omega)
        have inv := crt_inv ok k (Nat.le_of_lt hk)
        have gg := shr_ge ok hk
        have nk5 : ¬ nI k = -5 := by
          intro e
          have h0 := nI_pos' (n := k) (by omega)
          rw [e] at h0
          exact absurd h0 (by decide)
        rw [crt]
        simp only [fX12_courted_7, h94, if_neg (rgs hK s0 hk), isAliveE hK h94 s0 hk, ob_s, c7, turnsR hK h94 s0 hk, fX12_courted_105, nI_1]
        cases lv s k
        · simp only [ifbf, Bool.false_eq_true, if_false]
        · rw [ifbt, if_pos rfl]
          have key : ∀ w, w = shr s K k → fX12_courted_61 (fX12_courted_7 n) (crt s K k).1 (if (crt s K k).1 = -5 then 0 else (crt s K k).2) (nI k) w g = fX12_courted_7 n (if shr s K k ≤ (crt s K k).2 then crt s K k else (nI k, shr s K k)).1 (if (if shr s K k ≤ (crt s K k).2 then crt s K k else (nI k, shr s K k)).1 = -5 then 0 else (if shr s K k ≤ (crt s K k).2 then crt s K k else (nI k, shr s K k)).2) (nI (k + 1)) g := by
            intro w hw
            subst hw
            simp only [fX12_courted_61, fX12_courted_75, fX12_courted_80, fX12_courted_92, fX12_courted_104, fX12_courted_105, nI_1, if10, if_true]
            rcases inv with ⟨i1, i2⟩ | ⟨i1, i2⟩
            · rw [if_pos i1]
              have z : ¬ shr s K k ≤ (crt s K k).2 := by
                rw [i2]
                intro z
                have e0 : (0 : Int32).toInt = 0 := by decide
                have e1 : (-1 : Int32).toInt = -1 := by decide
                rw [fa_le, e0] at gg
                rw [fa_le, e1] at z
                omega
              rw [if_neg z]
              simp only [if_neg nk5]
            · rw [if_neg i1, if_neg i1]
              by_cases z : shr s K k ≤ (crt s K k).2
              · simp only [if_pos z, if_neg i1]
              · simp only [if_neg z, if_neg nk5]
          have b0 := (ok.2.2.2.2.2.2.1 k (by omega)).1
          by_cases z : s (270 + k) = 0
          · rw [if_pos z]
            exact key 0 (by unfold shr; rw [z, if_pos (Int32.le_refl _)])
          · rw [if_neg z]
            have nzE : nz (s (270 + k)) = some () := by unfold nz; rw [if_neg z]
            simp only [nzE, ob_s]
            refine key _ ?_
            unfold shr
            rw [if_neg, Int32.mul_comm]
            intro z2
            have e0 : (0 : Int32).toInt = 0 := by decide
            unfold bd at b0
            rw [fa_le, e0] at z2
            exact z ((fa_eq _ _).mpr (by rw [e0]; omega))
      · intro n
        simp only [fX12_courted_7, h94, if_pos (rxs s0)]
    rw [e]; exact Rs.ok q
theorem b_trace (x : Ix P K L n b) (l1 : Int32) : Bo b (fX11_trace l1) (fX12_trace l1) := by
  obtain ⟨c, c1, c2, c3, c4⟩ := x.2.2.2.2
  have r91 : ∀ g, Qw b g → g 91 = b 91 := fun g q => q.row (by omega)
  have r101 : ∀ g, Qw b g → g 101 = b 101 := fun g q => q.row (by omega)
  have r28 : ∀ g, Qw b g → g 93 28 = nI c := fun g q => by rw [q 93 28 (by unfold scr; omega)]; exact c3
  have e1 : (20 : Int32) - 1 = 19 := by decide
  by_cases ng : l1 < 0
  · refine ⟨-1, fun g q => ?_, fun g q => ?_⟩
    · simp only [fX11_trace, if_pos ng, fX11_trace_20]; exact Rs.ok q
    · simp only [fX12_trace, fX12_trace_20, fX12_in, if_pos ng, fX12_in_14, fX12_in_15, cb_0, ob_s, if_true, fX12_trace_38, ite_self]; exact Rs.ok q
  · obtain ⟨i, hi, rfl⟩ := nI_of ng
    by_cases z : i < c ∧ i < 20
    · have cc : ck 21 (nI i + (1 : Int32)) = some (i + 1) := ckI (nI_1 i) (by omega)
      have cr : ck 20 (nI i) = some i := ckI rfl (by omega)
      refine ⟨b 101 i, fun g q => ?_, fun g q => ?_⟩
      · have z1 : ¬ nI c ≤ nI i := nI_ge z.1 (by omega)
        have z2 : nI i < 20 := nI_lt (b := 20) z.2 (by omega)
        simp only [fX11_trace, if_neg ng, r91 g q, c2, if_neg z1, if_pos z2, cc, ob_s, c4 i z.1 z.2]; exact Rs.ok q
      · have k1 : ¬ (19 : Int32) < nI i := nI_nlt (b := i) (a := 19) (by omega) (by omega)
        have k2 : ¬ nI c - (1 : Int32) < nI i := by
          obtain ⟨d, rfl⟩ : ∃ d, c = d + 1 := ⟨c - 1, by omega⟩
          rw [nI_pred]; exact nI_nlt (by omega) (by omega)
        simp only [fX12_trace, fX12_trace_20, fX12_in, if_neg ng, e1, if_neg k1, r28 g q, if_neg k2, fX12_in_15, cb_1, ob_s, if10, cr, fX12_trace_38, r101 g q, ite_self]
        exact Rs.ok q
    · refine ⟨-1, fun g q => ?_, fun g q => ?_⟩
      · simp only [fX11_trace, if_neg ng, r91 g q, c2, fX11_trace_20]
        by_cases z1 : nI c ≤ nI i
        · rw [if_pos z1]; exact Rs.ok q
        · have z2 : ¬ nI i < 20 := by
            intro z2
            rw [nI_leI (by omega) hi] at z1
            have z2 : nI i < nI 20 := z2
            rw [nI_ltI hi (by omega)] at z2
            omega
          rw [if_neg z1, if_neg z2]; exact Rs.ok q
      · simp only [fX12_trace, fX12_trace_20, fX12_in, if_neg ng, e1, r28 g q, fX12_in_14, fX12_in_15, cb_0, cb_1, ob_s, fX12_trace_38]
        by_cases w : (20 : Int32) ≤ nI c
        · have w' : nI 20 ≤ nI c := w
          rw [nI_leI (by omega) (by omega)] at w'
          have k1 : (19 : Int32) < nI i := nI_lt (a := 19) (by omega) hi
          simp only [if_pos w, if_pos k1, ob_s, if_true]
          exact Rs.ok q
        · have w' : ¬ nI 20 ≤ nI c := w
          rw [nI_leI (by omega) (by omega)] at w'
          have k1 : nI c - (1 : Int32) < nI i := by
            have e : (1 : Int32).toInt = 1 := by decide
            rw [fa_lt, fb_subI, nI_toInt (show c < 2 ^ 31 by omega), nI_toInt hi, e]
            · omega
            · rw [nI_toInt (show c < 2 ^ 31 by omega), e]; omega
            · rw [nI_toInt (show c < 2 ^ 31 by omega), e]; omega
          simp only [if_neg w, if_pos k1, ob_s, if_true]
          exact Rs.ok q
theorem b_count (x : Ix P K L n b) (l1 : Int32) : Bo b (fX11_count l1) (fX12_count l1) := by
  have hK := x.K7
  obtain ⟨c, c1, c2, c3, c4⟩ := x.2.2.2.2
  obtain ⟨T, t1, t2, t3, t4⟩ := x.1.2.2.2.2.2.2.2.2.2.2.2.2.2
  have r91 : ∀ g, Qw b g → g 91 = b 91 := fun g q => q.row (by omega)
  have r21 : ∀ g, Qw b g → g 21 = b 21 := fun g q => q.row (by omega)
  have r1 : ∀ g, Qw b g → g 1 = b 1 := fun g q => q.row (by omega)
  have r28 : ∀ g, Qw b g → g 93 28 = nI c := fun g q => by rw [q 93 28 (by unfold scr; omega)]; exact c3
  have m2 : b 1 2 = b 94 1 := x.1.2.2.2.2.2.1
  have m4 : b 1 4 = b 94 4 := x.1.2.2.2.2.2.2.1
  by_cases e0 : l1 = 0
  · refine ⟨nI K, fun g q => ?_, fun g q => ?_⟩
    · simp only [fX11_count, if_pos e0, (x.rc q).kings]; exact Rs.ok q
    · simp only [fX12_count, if_pos e0, x.e0 q]; exact Rs.ok q
  · by_cases e1 : l1 = 1
    · refine ⟨nI (fb_ct (lv (b 94)) K), fun g q => ?_, fun g q => ?_⟩
      · simp only [fX11_count, if_neg e0, if_pos e1, (x.rc q).alive, bcE hK, ob_s]; exact Rs.ok q
      · simp only [fX12_count, if_neg e0, if_pos e1, aliveE hK (x.r94 q) x.s0, count1E hK, ob_s]; exact Rs.ok q
    · by_cases e2 : l1 = 2
      · refine ⟨b 94 1, fun g q => ?_, fun g q => ?_⟩
        · simp only [fX11_count, if_neg e0, if_neg e1, if_pos e2, r1 g q, m2]; exact Rs.ok q
        · simp only [fX12_count, if_neg e0, if_neg e1, if_pos e2, x.r94 q]; exact Rs.ok q
      · by_cases e3 : l1 = 3
        · refine ⟨nI n, fun g q => ?_, fun g q => ?_⟩
          · simp only [fX11_count, if_neg e0, if_neg e1, if_neg e2, if_pos e3, x.c3 q]; exact Rs.ok q
          · simp only [fX12_count, if_neg e0, if_neg e1, if_neg e2, if_pos e3, x.s2 q]; exact Rs.ok q
        · by_cases e4 : l1 = 4
          · refine ⟨nI T, fun g q => ?_, fun g q => ?_⟩
            · simp only [fX11_count, if_neg e0, if_neg e1, if_neg e2, if_neg e3, if_pos e4, r21 g q]
              rw [show b 21 1 = nI T from t3]; exact Rs.ok q
            · simp only [fX12_count, if_neg e0, if_neg e1, if_neg e2, if_neg e3, if_pos e4, x.r94 q, t2]; exact Rs.ok q
          · by_cases e5 : l1 = 5
            · refine ⟨nI c, fun g q => ?_, fun g q => ?_⟩
              · simp only [fX11_count, if_neg e0, if_neg e1, if_neg e2, if_neg e3, if_neg e4, if_pos e5, r91 g q, c2]; exact Rs.ok q
              · simp only [fX12_count, if_neg e0, if_neg e1, if_neg e2, if_neg e3, if_neg e4, if_pos e5, r28 g q]; exact Rs.ok q
            · by_cases e6 : l1 = 6
              · refine ⟨b 94 4, fun g q => ?_, fun g q => ?_⟩
                · simp only [fX11_count, if_neg e0, if_neg e1, if_neg e2, if_neg e3, if_neg e4, if_neg e5, if_pos e6, r1 g q, m4]; exact Rs.ok q
                · simp only [fX12_count, if_neg e0, if_neg e1, if_neg e2, if_neg e3, if_neg e4, if_neg e5, if_pos e6, x.r94 q]; exact Rs.ok q
              · refine ⟨-1, fun g q => ?_, fun g q => ?_⟩
                · simp only [fX11_count, if_neg e0, if_neg e1, if_neg e2, if_neg e3, if_neg e4, if_neg e5, if_neg e6]; exact Rs.ok q
                · simp only [fX12_count, if_neg e0, if_neg e1, if_neg e2, if_neg e3, if_neg e4, if_neg e5, if_neg e6]; exact Rs.ok q
/-- the same for longs -/
def RsL (Q : HT → Prop) (o : Option (Int64 × HT)) (v : Int64) : Prop := ∃ h', o = some (v, h') ∧ Q h'
theorem RsL.ok {Q : HT → Prop} {v : Int64} {h : HT} (q : Q h) : RsL Q (some (v, h)) v := ⟨h, rfl, q⟩
def BoL (b : HT) (f1 f2 : HT → Option (Int64 × HT)) : Prop := ∃ w, (∀ g, Qw b g → RsL (Qw b) (f1 g) w) ∧ (∀ g, Qw b g → RsL (Qw b) (f2 g) w)
theorem out2 {x : Int32} (h : out x 2 = false) : x = 0 ∨ x = 1 ∨ x = 2 := by
  unfold out at h
  rw [Bool.or_eq_false_iff, decide_eq_false_iff_not, decide_eq_false_iff_not] at h
  obtain ⟨j, hj, rfl⟩ := nI_of h.1
  have h1 : ¬ nI 2 < nI j := h.2
  rw [nI_ltI (by omega) hj] at h1
  have : j = 0 ∨ j = 1 ∨ j = 2 := by omega
  rcases this with rfl | rfl | rfl
  · exact Or.inl rfl
  · exact Or.inr (Or.inl rfl)
  · exact Or.inr (Or.inr rfl)
theorem in2 {x : Int32} (h : out x 2 = true) : ¬ x = 0 ∧ ¬ x = 1 ∧ ¬ x = 2 := by
  refine ⟨?_, ?_, ?_⟩ <;> rintro rfl <;> exact absurd h (by decide)
theorem isAliveS (x : Ix P K L n b) {g : HT} (q : Qw b g) (l : Int32) : (∃ a, a < K ∧ l = nI a ∧ lv (b 94) a = true ∧ fX12_isAlive l g = some (1, g)) ∨ ((∀ a, a < K → l = nI a → lv (b 94) a = false) ∧ fX12_isAlive l g = some (0, g)) := by
  have hK := x.K7
  rcases isk K hK l with ⟨a, ha, rfl⟩ | n1
  · have e := isAliveE hK (x.r94 q) x.s0 ha
    cases la : lv (b 94) a
    · right
      rw [la] at e
      refine ⟨fun c hc ec => ?_, e⟩
      rw [nIx (by omega) (by omega)] at ec
      subst ec
      exact la
    · left
      rw [la] at e
      exact ⟨a, ha, rfl, la, e⟩
  · right
    refine ⟨fun c hc ec => ?_, isAliveN hK (x.e0 q) n1⟩
    subst ec
    exact absurd n1 (notk hK hc)
theorem b_war (x : Ix P K L n b) (l1 l2 l3 l4 : Int32) : BoL b (fX11_war P l1 l2 l3 l4) (fX12_war l1 l2 l3 l4) := by
  have hK := x.K7
  rcases isn x.n8 l1 with ⟨t, ht, rfl⟩ | hn
  · obtain ⟨N, p, v, r, d1, d2, d3, d4, hN, hv, hr0, ht8, hc, hr⟩ := x.sd ht
    generalize hblk : (fun k => b 94 (430 + 7 * t + k)) = blk at *
    by_cases yes : ∃ a c, a < K ∧ c < K ∧ l2 = nI a ∧ l3 = nI c ∧ a ≠ c ∧ lv (b 94) a = true ∧ lv (b 94) c = true
    · obtain ⟨a, c, ha, hcK, rfl, rfl, hne, la, lc⟩ := yes
      have cc : ck 7 (nI c) = some c := ckI rfl (by omega)
      have ca : ck 7 (nI a) = some a := ckI rfl (by omega)
      have prv0 : prv (b 94) a c = 0 := by unfold prv; rw [if_neg hne, la, lc]; rfl
      cases ho : out l4 2
      · refine ⟨if l4 = 0 then (fA N v blk K (b 94) L a c).toInt64 else if l4 = 1 then (fB N v blk K (b 94) L a c).toInt64 else (gainS N v blk K (b 94) L a c).toInt64, fun g q => ?_, fun g q => ?_⟩
        · obtain ⟨ok, rc, st, _⟩ := hc g q
          obtain ⟨h1, e1, q1⟩ := campsE ok rc st hN Qs.rfl' ha hcK
          have r1 := rc.q q1
          obtain ⟨h2, e2, q2⟩ := costC ok rc q1 ha hcK
          have s1 := forcesAtE r1 (mA N v blk K (b 94) L a c) _ (b 94 (280 + c)) (b_mkK hK)
          have s2 := forcesAtE r1 (mB N v blk K (b 94) L a c) _ (b 94 (280 + c)) (b_mkK hK)
          have w1 : h1 (6 + a) c = wor (b 94) a c := r1.wor ha hcK
          have w2 : h1 (6 + c) a = wor (b 94) c a := r1.wor hcK ha
          simp only [fX11_war, stdAtE x q ht, d1, onq_s, d2, ob_s, prE x q ha hcK, prv0, if_true, e1, attJ hK, defJ hK, cc, ca, r1.plc hcK, s1, s2, w1, w2, fX11_war_157, e2]
          rcases out2 ho with rfl | rfl | rfl
          · rw [if_pos rfl, if_pos rfl]; exact RsL.ok (q.tr q1.w)
          · rw [if_neg (by decide), if_pos rfl, if_neg (by decide), if_pos rfl]; exact RsL.ok (q.tr q1.w)
          · rw [if_neg (show ¬ (2 : Int32) = 0 by decide), if_neg (show ¬ (2 : Int32) = 1 by decide), if_pos (show (2 : Int32) = 2 from rfl), if_neg (show ¬ (2 : Int32) = 0 by decide), if_neg (show ¬ (2 : Int32) = 1 by decide)]
            unfold gainS fA fB
            by_cases u : sumW (mA N v blk K (b 94) L a c) (fun k => frc (b 94) k (b 94 (280 + c))) K ≤ sumW (mB N v blk K (b 94) L a c) (fun k => frc (b 94) k (b 94 (280 + c))) K
            · rw [if_pos u, if_pos u]
              rw [show -wor (b 94) a c - costS (b 94) L a c = -costS (b 94) L a c - wor (b 94) a c by rw [Int32.sub_eq_add_neg, Int32.sub_eq_add_neg, Int32.add_comm]]
              exact RsL.ok (q.tr q2.w)
            · rw [if_neg u, if_neg u]; exact RsL.ok (q.tr q2.w)
        · obtain ⟨g1, e1, q1, r1⟩ := hr g q
          obtain ⟨g2, e2, m⟩ := gainOfE r1 Qs.rfl' ha hcK
          have o1 := isAliveE hK (x.r94 q) x.s0 ha
          have o2 := isAliveE hK (x.r94 q) x.s0 hcK
          rw [la] at o1
          rw [lc] at o2
          simp only [fX12_war, isStdE x q ht, ob_s, if10, o1, o2, ifbt, nIx (show a < 7 by omega) (show c < 7 by omega), if_neg hne, inE, ho, Bool.not_false, e1, e2, m.2.2.1, m.2.2.2, fX12_war_86]
          rcases out2 ho with rfl | rfl | rfl
          · rw [if_pos rfl, if_pos rfl]; exact RsL.ok (q1.tr m.1.w)
          · rw [if_neg (by decide), if_pos rfl, if_neg (by decide), if_pos rfl]; exact RsL.ok (q1.tr m.1.w)
          · rw [if_neg (by decide), if_neg (by decide), if_neg (by decide), if_neg (by decide)]; exact RsL.ok (q1.tr m.1.w)
      · obtain ⟨z0, z1, z2⟩ := in2 ho
        refine ⟨-9223372036854775808, fun g q => ?_, fun g q => ?_⟩
        rotate_left
        · have o1 := isAliveE hK (x.r94 q) x.s0 ha
          have o2 := isAliveE hK (x.r94 q) x.s0 hcK
          rw [la] at o1
          rw [lc] at o2
          simp only [fX12_war, isStdE x q ht, ob_s, if10, o1, o2, ifbt, nIx (show a < 7 by omega) (show c < 7 by omega), if_neg hne, inE, ho, Bool.not_true, ifbf, fX12_war_39]
          exact RsL.ok q
        · obtain ⟨ok, rc, st, _⟩ := hc g q
          obtain ⟨h1, e1, q1⟩ := campsE ok rc st hN Qs.rfl' ha hcK
          have r1 := rc.q q1
          have s1 := forcesAtE r1 (mA N v blk K (b 94) L a c) _ (b 94 (280 + c)) (b_mkK hK)
          have s2 := forcesAtE r1 (mB N v blk K (b 94) L a c) _ (b 94 (280 + c)) (b_mkK hK)
          simp only [fX11_war, stdAtE x q ht, d1, onq_s, d2, ob_s, prE x q ha hcK, prv0, if_true, e1, attJ hK, defJ hK, cc, ca, r1.plc hcK, s1, s2, if_neg z0, if_neg z1, if_neg z2]
          exact RsL.ok (q.tr q1.w)
    · refine ⟨-9223372036854775808, fun g q => ?_, fun g q => ?_⟩
      rotate_left
      · simp only [fX12_war, isStdE x q ht, ob_s, if10, fX12_war_39]
        rcases isAliveS x q l2 with ⟨a, ha, rfl, la, e1⟩ | ⟨_, e1⟩
        · simp only [e1, ob_s, if10]
          rcases isAliveS x q l3 with ⟨c, hcK, rfl, lc, e2⟩ | ⟨_, e2⟩
          · simp only [e2, ob_s, if10, nIx (show a < 7 by omega) (show c < 7 by omega)]
            have e : a = c := Classical.byContradiction fun ne => yes ⟨a, c, ha, hcK, rfl, rfl, ne, la, lc⟩
            rw [if_pos e]; exact RsL.ok q
          · simp only [e2, ob_s, if_true]; exact RsL.ok q
        · simp only [e1, ob_s, if_true]; exact RsL.ok q
      · have hp : ∃ w, ¬ w = 0 ∧ fX11_pairRefusal l2 l3 g = some (w, g) := by
          rcases isk K hK l2 with ⟨a, ha, rfl⟩ | n1
          · rcases isk K hK l3 with ⟨c, hcK, rfl⟩ | n2
            · refine ⟨_, ?_, prE x q ha hcK⟩
              unfold prv
              by_cases e : a = c
              · rw [if_pos e]; decide
              · rw [if_neg e]
                by_cases z : (lv (b 94) a && lv (b 94) c) = true
                · rw [Bool.and_eq_true] at z
                  exact absurd ⟨a, c, ha, hcK, rfl, rfl, e, z.1, z.2⟩ yes
                · rw [if_neg z]; decide
            · exact ⟨-1, by decide, prN2 x q ha n2⟩
          · exact ⟨-1, by decide, prN1 x q n1⟩
        obtain ⟨w, w0, e⟩ := hp
        simp only [fX11_war, stdAtE x q ht, d1, onq_s, d2, ob_s, e, if_neg w0, fX11_war_24]
        exact RsL.ok q
  · refine ⟨-9223372036854775808, fun g q => ?_, fun g q => ?_⟩
    rotate_left
    · simp only [fX12_war, isStdN x q hn, ob_s, if_true, fX12_war_39]; exact RsL.ok q
    · simp only [fX11_war, stdAtN x q hn, ob_s, onq_0, fX11_war_24]; exact RsL.ok q
end ask5
