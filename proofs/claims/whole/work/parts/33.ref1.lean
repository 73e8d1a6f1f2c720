/-! the reference's cost of a war -/
def bI (t : Bool) : Int32 := if t = true then 1 else 0
theorem bI_t : bI true = 1 := rfl
theorem bI_f : bI false = 0 := rfl
theorem bI_cb (t : Bool) : cb (bI t) = some () := by cases t <;> rfl
theorem nI_div {a b : Nat} (ha : a < 2 ^ 31) (hb : b < 2 ^ 31) : nI a / nI b = nI (a / b) := by
  apply Int32.toInt_inj.mp
  have hd : a / b ≤ a := Nat.div_le_self a b
  rw [Int32.toInt_div, nI_toInt ha, nI_toInt hb, nI_toInt (show a / b < 2 ^ 31 by omega), ← Int.ofNat_tdiv]
  generalize a / b = w at *
  exact fb_bmod (by omega) (by omega)
theorem nI_sub {a b : Nat} (h : b ≤ a) : nI a - nI b = nI (a - b) := by
  have e : nI a = nI (a - b) + nI b := by rw [nI_add, Nat.sub_add_cancel h]
  rw [e, Int32.add_sub_cancel]
theorem nI_m1 (a : Nat) : nI (a + 1) + (-1 : Int32) = nI a := by rw [← nI_pred a, Int32.sub_eq_add_neg]
theorem pk_4 {x y z : Nat} (hx : x < 4) (hy : y < 4) (hz : z ≤ 999) : nI (x + 4 * y + 16 * z) / (4 : Int32) = nI (y + 4 * z) := by
  have e := nI_div (a := x + 4 * y + 16 * z) (b := 4) (by omega) (by omega)
  rw [show (x + 4 * y + 16 * z) / 4 = y + 4 * z by omega] at e
  exact e
theorem pk_16 {x y z : Nat} (hx : x < 4) (hy : y < 4) (hz : z ≤ 999) : nI (x + 4 * y + 16 * z) / (16 : Int32) = nI z := by
  have e := nI_div (a := x + 4 * y + 16 * z) (b := 16) (by omega) (by omega)
  rw [show (x + 4 * y + 16 * z) / 16 = z by omega] at e
  exact e
theorem nI_mul (a b : Nat) : nI a * nI b = nI (a * b) := (Int32.ofNat_mul a b).symm
theorem pk_r {x w : Nat} : nI (x + 4 * w) - nI w * (4 : Int32) = nI x := by
  have e : nI w * (4 : Int32) = nI (w * 4) := nI_mul w 4
  rw [e, nI_sub (by omega), show x + 4 * w - w * 4 = x by omega]
def TS (st : List Bool) (h : HT) : Prop := ∀ j, j < st.length → h 98 j = bI (st.getD (st.length - 1 - j) false)
theorem TS.pop {t : Bool} {st : List Bool} {h : HT} (a : TS (t :: st) h) : TS st h := by
  intro j hj
  have := a j (by rw [List.length_cons]; omega)
  rw [List.length_cons, show st.length + 1 - 1 - j = (st.length - 1 - j) + 1 by omega, List.getD_cons_succ] at this
  exact this
theorem TS.top {t : Bool} {st : List Bool} {h : HT} (a : TS (t :: st) h) : h 98 st.length = bI t := by
  have := a st.length (by rw [List.length_cons]; omega)
  rwa [List.length_cons, show st.length + 1 - 1 - st.length = 0 by omega, List.getD_cons_zero] at this
theorem TS.push {t : Bool} {st : List Bool} {h : HT} (a : TS st h) : TS (t :: st) (hu h 98 st.length (bI t)) := by
  intro j hj
  rw [List.length_cons] at hj ⊢
  by_cases e : j = st.length
  · subst e
    rw [hu_eq, show st.length + 1 - 1 - st.length = 0 by omega, List.getD_cons_zero]
  · rw [hu_ne (by omega), a j (by omega), show st.length + 1 - 1 - j = (st.length - 1 - j) + 1 by omega, List.getD_cons_succ]
theorem TS.nil {h : HT} : TS [] h := fun j hj => absurd hj (Nat.not_lt_zero j)
/-- loops whose cells change: from 0 to K -/
theorem goesN {α : Type} {K : Nat} {F : Nat → Nat → HT → α} {J : Nat → HT → Prop} (hs : ∀ n i h, i < K → J i h → ∃ h', J (i + 1) h' ∧ F (n + 1) i h = F n (i + 1) h') : ∀ (m : Nat) {n i : Nat} {h : HT}, i + m = K → J i h → ∃ h', J K h' ∧ F (n + m) i h = F n K h'
  | 0, n, i, h, hi, hj => by
    obtain rfl : i = K := by omega
    exact ⟨h, hj, rfl⟩
  | m + 1, n, i, h, hi, hj => by
    obtain ⟨h1, j1, e1⟩ := hs (n + m) i h (by omega) hj
    obtain ⟨h2, j2, e2⟩ := goesN hs m (n := n) (i := i + 1) (h := h1) (by omega) j1
    exact ⟨h2, j2, by rw [show n + (m + 1) = (n + m) + 1 by omega, e1, e2]⟩
theorem m10_lt {p : Nat} (hp : p ≤ 999) : ((-10 : Int32) - nI p).toInt = -10 - (p : Int) := by
  have e : (nI p).toInt = (p : Int) := nI_toInt (by omega)
  have e2 : ((-10 : Int32)).toInt = -10 := by decide
  rw [fb_subI, e, e2] <;> rw [e, e2] <;> omega
theorem m10_m10 {p : Nat} (hp : p ≤ 999) : (-10 : Int32) - ((-10 : Int32) - nI p) = nI p := by
  have e1 := m10_lt hp
  have e2 : ((-10 : Int32)).toInt = -10 := by decide
  apply Int32.toInt_inj.mp
  rw [fb_subI, e1, e2, nI_toInt (show p < 2 ^ 31 by omega)]
  · omega
  · rw [e1, e2]; omega
  · rw [e1, e2]; omega
theorem m10_c {p : Nat} (hp : p ≤ 999) : (-10 : Int32) - nI p < 0 ∧ ¬ (-10 : Int32) - nI p = -1 ∧ (-10 : Int32) - nI p ≤ -10 := by
  have e1 := m10_lt hp
  have e0 : ((0 : Int32)).toInt = 0 := by decide
  have e2 : ((-10 : Int32)).toInt = -10 := by decide
  have e3 : ((-1 : Int32)).toInt = -1 := by decide
  generalize (-10 : Int32) - nI p = w at *
  rw [fa_lt, fa_eq, fa_le, e0, e2, e3, e1]
  omega
/-- cells alike but for the truths -/
def Q8 (b h : HT) : Prop := ∀ k, k ≠ 98 → h k = b k
theorem Q8.rfl' {b : HT} : Q8 b b := fun _ _ => rfl
theorem Q8.pu {b h : HT} {j : Nat} {v : Int32} (q : Q8 b h) : Q8 b (hu h 98 j v) := fun k hk => (hu_r hk).trans (q k hk)
theorem Q8.tr {a b c : HT} (q : Q8 a b) (r : Q8 b c) : Q8 a c := fun k hk => (r k hk).trans (q k hk)
theorem Q8.s {a b c : HT} (q : Qs a b) (r : Q8 b c) : Qs a c := fun k j n => by rw [r k (by omega)]; exact q k j n
theorem costRin {K : Nat} {s : RT} {L : Wld} {b : HT} {k o : Nat} {T : Int32} {c : Nat} (ok : OKs K s L) (e94 : b 94 = s) (hk : k < K) (ho : o < K) (hc : c < L.length) (n : Nat) (h : HT) (q : Q8 b h) :
    ∃ h', (TS (ev (fct s k o) (cl L c).2 (cl L c).2.length) h' ∧ Q8 b h') ∧ fX12_costOf_10 (n + (cl L c).2.length) (nI k) (nI o) 0 T (nI (130 + (ln L c + c))) h = fX12_costOf_10 n (nI k) (nI o) (nI (dpt (cl L c).2 (cl L c).2.length)) T (nI (130 + (ln L c + c + (cl L c).2.length))) h' := by
  obtain ⟨K7, s0, ⟨w1, w2, w3⟩, b6, b7, b8, sk, sw, s5, sL⟩ := ok
  have wl := (w3 c hc).2
  obtain ⟨_, r6⟩ := sL c hc
  have hle : ln L (c + 1) ≤ ln L L.length := ln_le L (show c + 1 ≤ L.length by omega)
  have hln : ln L (c + 1) = ln L c + (cl L c).2.length := rfl
  refine goesN (K := (cl L c).2.length) (F := fun n i h => fX12_costOf_10 n (nI k) (nI o) (nI (dpt (cl L c).2 i)) T (nI (130 + (ln L c + c + i))) h) (J := fun i h => TS (ev (fct s k o) (cl L c).2 i) h ∧ Q8 b h) ?_ (cl L c).2.length (i := 0) (by omega) ⟨TS.nil, q⟩
  intro n i h hi hj
  show ∃ h', (TS (ev (fct s k o) (cl L c).2 (i + 1)) h' ∧ Q8 b h') ∧ fX12_costOf_10 (n + 1) (nI k) (nI o) (nI (dpt (cl L c).2 i)) T (nI (130 + (ln L c + c + i))) h = fX12_costOf_10 n (nI k) (nI o) (nI (dpt (cl L c).2 (i + 1))) T (nI (130 + (ln L c + c + (i + 1)))) h'
  obtain ⟨ts, q⟩ := hj
  have h94 : h 94 = s := (q 94 (by decide)).trans e94
  have ck0 : ck 490 (nI (130 + (ln L c + c + i))) = some (130 + (ln L c + c + i)) := ckI rfl (by omega)
  have n1 : ¬ (130 : Int32) + nI (ln L L.length + L.length) ≤ nI (130 + (ln L c + c + i)) := by
    have e : (130 : Int32) + nI (ln L L.length + L.length) = nI (130 + (ln L L.length + L.length)) := nI_add 130 _
    rw [e]
    exact nI_ge (by omega) (by omega)
  have q1 := r6 i hi
  have ol := wl.2 i hi
  have hlen := ev_len (f := fct s k o) wl.2 i (Nat.le_of_lt hi)
  have hd := dpt_le wl.2 i (Nat.le_of_lt hi)
  have es : ev (fct s k o) (cl L c).2 (i + 1) = stp (fct s k o) (sp (cl L c).2 i) (ev (fct s k o) (cl L c).2 i) := rfl
  have ed : dpt (cl L c).2 (i + 1) = if (sp (cl L c).2 i).1 = 4 then dpt (cl L c).2 i else if (sp (cl L c).2 i).1 = 5 ∨ (sp (cl L c).2 i).1 = 6 then dpt (cl L c).2 i - 1 else dpt (cl L c).2 i + 1 := rfl
  rw [es, ed]
  have l4 : nI (130 + (ln L c + c + i)) + 1 = nI (130 + (ln L c + c + (i + 1))) := nI_1 _
  generalize sp (cl L c).2 i = y at *
  generalize ev (fct s k o) (cl L c).2 i = st at *
  generalize dpt (cl L c).2 i = d at *
  generalize hI : 130 + (ln L c + c + i) = I at *
  obtain ⟨y1, y2, y3⟩ := y
  simp only [fX12_costOf_10, h94, s5, if_neg n1, ck0, ob_some, q1]
  unfold okst at ol
  dsimp only at ol
  by_cases h4 : y1 = 4
  · subst h4
    obtain ⟨t, r, rfl⟩ : ∃ t r, st = t :: r := by
      cases st with
      | nil => simp at hlen; omega
      | cons t r => exact ⟨t, r, rfl⟩
    obtain rfl : d = r.length + 1 := by rw [← hlen, List.length_cons]
    have p1 : pk (4, y2, y3) = -1 := rfl
    have c1 : ck 64 (nI r.length) = some r.length := ckI rfl (by omega)
    refine ⟨hu h 98 r.length (bI (!t)), ⟨ts.pop.push, q.pu⟩, ?_⟩
    rw [if_pos rfl]
    simp only [p1, if_pos (show (-1 : Int32) < 0 by decide), if_pos (show (-1 : Int32) = -1 from rfl), nI_pred, c1, ob_some, ts.top, fX12_costOf_227, fX12_costOf_337, cb_1, cb_0, l4]
    cases t <;> rfl
  · by_cases h56 : y1 = 5 ∨ y1 = 6
    · obtain ⟨t, u, r, rfl⟩ : ∃ t u r, st = t :: u :: r := by
        cases st with
        | nil => simp at hlen; omega
        | cons t r =>
          cases r with
          | nil => simp at hlen; omega
          | cons u r => exact ⟨t, u, r, rfl⟩
      obtain rfl : d = r.length + 1 + 1 := by rw [← hlen, List.length_cons, List.length_cons]
      have c1 : ck 64 (nI r.length) = some r.length := ckI rfl (by omega)
      have c2 : ck 64 (nI (r.length + 1)) = some (r.length + 1) := ckI rfl (by omega)
      have t1 : h 98 (r.length + 1) = bI t := ts.top
      have t2 : h 98 r.length = bI u := ts.pop.top
      rcases h56 with rfl | rfl
      · have p1 : pk (5, y2, y3) = -2 := rfl
        refine ⟨hu h 98 r.length (bI (u && t)), ⟨ts.pop.pop.push, q.pu⟩, ?_⟩
        simp only [p1, if_pos (show (-2 : Int32) < 0 by decide), if_neg (show ¬ (-2 : Int32) = -1 by decide), if_neg (show ¬ (-2 : Int32) ≤ -10 by decide), if_pos (show (-2 : Int32) = -2 from rfl), nI_m1, nI_pred, c1, c2, ob_some, t1, t2, fX12_costOf_279, fX12_costOf_308, fX12_costOf_337, cb_1, cb_0, l4]
        cases t <;> cases u <;> rfl
      · have p1 : pk (6, y2, y3) = -3 := rfl
        refine ⟨hu h 98 r.length (bI (u || t)), ⟨ts.pop.pop.push, q.pu⟩, ?_⟩
        simp only [p1, if_pos (show (-3 : Int32) < 0 by decide), if_neg (show ¬ (-3 : Int32) = -1 by decide), if_neg (show ¬ (-3 : Int32) ≤ -10 by decide), if_neg (show ¬ (-3 : Int32) = -2 by decide), nI_m1, nI_pred, c1, c2, ob_some, t1, t2, fX12_costOf_303, fX12_costOf_308, fX12_costOf_337, cb_1, cb_0, l4]
        cases t <;> cases u <;> rfl
    · have ol' : y1 < 4 ∧ y2 < 3 ∧ y3 ≤ 999 ∧ d ≤ 20 := by omega
      have p1 : pk (y1, y2, y3) = nI (y1 + 4 * y2 + 16 * y3) := by
        unfold pk; dsimp only; rw [if_neg h4, if_neg (by omega), if_neg (by omega)]
      have es2 : stp (fct s k o) (y1, y2, y3) st = tst (fct s k o) (y1, y2, y3) :: st := by
        unfold stp; dsimp only; rw [if_neg h4, if_neg (by omega), if_neg (by omega)]
      subst hlen
      refine ⟨hu h 98 st.length (bI (tst (fct s k o) (y1, y2, y3))), ⟨by rw [es2]; exact ts.push, q.pu⟩, ?_⟩
      have c1 : ck 64 (nI st.length) = some st.length := ckI rfl (by omega)
      have v0 : ¬ nI (y1 + 4 * y2 + 16 * y3) < 0 := nI_pos (by omega)
      have v4 := pk_4 (x := y1) (y := y2) (z := y3) ol'.1 (by omega) ol'.2.2.1
      have v16 := pk_16 (x := y1) (y := y2) (z := y3) ol'.1 (by omega) ol'.2.2.1
      have vr : nI (y1 + 4 * y2 + 16 * y3) - nI (y2 + 4 * y3) * (4 : Int32) = nI y1 := by
        rw [show y1 + 4 * y2 + 16 * y3 = y1 + 4 * (y2 + 4 * y3) by omega]; exact pk_r
      have v44 : nI (y2 + 4 * y3) / (4 : Int32) = nI y3 := by
        have e := nI_div (a := y2 + 4 * y3) (b := 4) (by omega) (by omega)
        rw [show (y2 + 4 * y3) / 4 = y3 by omega] at e
        exact e
      have vr2 : nI (y2 + 4 * y3) - nI y3 * (4 : Int32) = nI y2 := pk_r
      have g1 : ck 490 ((280 : Int32) + nI k) = some (280 + k) := ckO 280 (by omega)
      have g2 : ck 490 ((280 : Int32) + nI o) = some (280 + o) := ckO 280 (by omega)
      have g3 : ck 490 ((270 : Int32) + nI k) = some (270 + k) := ckO 270 (by omega)
      have g4 : ck 490 ((270 : Int32) + nI o) = some (270 + o) := ckO 270 (by omega)
      rw [if_neg h4, if_neg h56]
      have last : ∀ x : Int32, x = fct s k o y1 → fX12_costOf_116 (fX12_costOf_10 n) (nI k) (nI o) (nI st.length) T (nI I) (nI (y1 + 4 * y2 + 16 * y3)) x h = fX12_costOf_10 n (nI k) (nI o) (nI (st.length + 1)) T (nI (130 + (ln L c + c + (i + 1)))) (hu h 98 st.length (bI (tst (fct s k o) (y1, y2, y3)))) := by
        intro x hx
        simp only [fX12_costOf_116, v4, v16, v44, vr2, fX12_costOf_191, c1, ob_some, cb_0, cb_1, fX12_costOf_337, l4, nI_1]
        unfold tst
        dsimp only
        rw [← hx]
        have hy2 : y2 = 0 ∨ y2 = 1 ∨ y2 = 2 := by omega
        rcases hy2 with rfl | rfl | rfl
        · rw [if_pos (show nI 0 = 0 from rfl), if_pos rfl]
          by_cases u : nI y3 ≤ x
          · rw [if_pos u, decide_eq_false (Int32.not_lt.mpr u)]; rfl
          · rw [if_neg u, decide_eq_true (Int32.not_le.mp u)]; rfl
        · rw [if_neg (show ¬ nI 1 = 0 by decide), if_pos (show nI 1 = 1 from rfl), if_neg (show ¬ (1 : Nat) = 0 by decide), if_pos (show (1 : Nat) = 1 from rfl)]
          by_cases u : x = nI y3
          · rw [if_pos u, decide_eq_true u]; rfl
          · rw [if_neg u, decide_eq_false u]; rfl
        · rw [if_neg (show ¬ nI 2 = 0 by decide), if_neg (show ¬ nI 2 = 1 by decide), if_neg (show ¬ (2 : Nat) = 0 by decide), if_neg (show ¬ (2 : Nat) = 1 by decide)]
          by_cases u : x ≤ nI y3
          · rw [if_pos u, decide_eq_false (Int32.not_lt.mpr u)]; rfl
          · rw [if_neg u, decide_eq_true (Int32.not_le.mp u)]; rfl
      simp only [p1, if_neg v0, v4, vr, g1, g2, g3, g4, ob_some, h94]
      have hy1 : y1 = 0 ∨ y1 = 1 ∨ y1 = 2 ∨ y1 = 3 := by omega
      rcases hy1 with rfl | rfl | rfl | rfl
      · rw [if_pos (show nI 0 = 0 from rfl)]
        simp only [fX12_size, fX12_size_10]
        by_cases u : 0 ≤ s (280 + k) - s (280 + o)
        · simp only [if_pos u, ob_some]
          exact last _ (by unfold fct absd; rw [if_pos rfl, if_pos u])
        · simp only [if_neg u, ob_some]
          exact last _ (by unfold fct absd; rw [if_pos rfl, if_neg u]; exact (Int32.zero_sub _).symm)
      · rw [if_neg (show ¬ nI 1 = 0 by decide), if_pos (show nI 1 = 1 from rfl)]
        exact last _ rfl
      · rw [if_neg (show ¬ nI 2 = 0 by decide), if_neg (show ¬ nI 2 = 1 by decide), if_pos (show nI 2 = 2 from rfl)]
        exact last _ rfl
      · rw [if_neg (show ¬ nI 3 = 0 by decide), if_neg (show ¬ nI 3 = 1 by decide), if_neg (show ¬ nI 3 = 2 by decide)]
        exact last _ rfl
theorem costR {K : Nat} {s : RT} {L : Wld} {b h : HT} {k o : Nat} (ok : OKs K s L) (e94 : b 94 = s) (q : Q8 b h) (hk : k < K) (ho : o < K) : Rs (Q8 b) (fX12_costOf (nI k) (nI o) h) (costS s L k o) := by
  have ok0 := ok
  obtain ⟨K7, s0, ⟨w1, w2, w3⟩, b6, b7, b8, sk, sw, s5, sL⟩ := ok
  have big : ∀ c, ln L c + c = 0 + (ln L c + c) := fun c => (Nat.zero_add _).symm
  have go : ∀ (m : Nat) {n c : Nat} {h : HT}, c + m = L.length → Q8 b h → ∃ h', Q8 b h' ∧ fX12_costOf_10 (n + (ln L L.length - ln L c + m)) (nI k) (nI o) 0 (sumW (fun c => tru (fct s k o) (cl L c).2) (fun c => nI (cl L c).1) c) (nI (130 + (ln L c + c))) h = fX12_costOf_10 n (nI k) (nI o) 0 (costS s L k o) (nI (130 + (ln L L.length + L.length))) h' := by
    intro m
    induction m with
    | zero =>
      intro n c h hc q
      obtain rfl : c = L.length := by omega
      exact ⟨h, q, by rw [Nat.sub_self]; rfl⟩
    | succ m ih =>
      intro n c h hc q
      have hc' : c < L.length := by omega
      have hle : ln L (c + 1) ≤ ln L L.length := ln_le L (show c + 1 ≤ L.length by omega)
      have hln : ln L (c + 1) = ln L c + (cl L c).2.length := rfl
      obtain ⟨h1, ⟨ts, q1⟩, e1⟩ := costRin (T := sumW (fun c => tru (fct s k o) (cl L c).2) (fun c => nI (cl L c).1) c) ok0 e94 hk ho hc' (n + (ln L L.length - ln L (c + 1) + m) + 1) h q
      have h94 : h1 94 = s := (q1 94 (by decide)).trans e94
      have wl := (w3 c hc').2
      have hp := (w3 c hc').1
      obtain ⟨sc, _⟩ := sL c hc'
      have hlen := ev_len (f := fct s k o) wl.2 _ (Nat.le_refl _)
      rw [wl.1] at hlen e1
      obtain ⟨h2, q2, e2⟩ := ih (n := n) (c := c + 1) (h := h1) (by omega) q1
      refine ⟨h2, q2, ?_⟩
      rw [show n + (ln L L.length - ln L c + (m + 1)) = n + (ln L L.length - ln L (c + 1) + m) + 1 + (cl L c).2.length by omega, e1, ← e2]
      have ck0 : ck 490 (nI (130 + (ln L (c + 1) + c))) = some (130 + (ln L (c + 1) + c)) := ckI rfl (by omega)
      have n1 : ¬ (130 : Int32) + nI (ln L L.length + L.length) ≤ nI (130 + (ln L (c + 1) + c)) := by
        have e : (130 : Int32) + nI (ln L L.length + L.length) = nI (130 + (ln L L.length + L.length)) := nI_add 130 _
        rw [e]
        exact nI_ge (by omega) (by omega)
      rw [show 130 + (ln L c + c + (cl L c).2.length) = 130 + (ln L (c + 1) + c) by omega]
      obtain ⟨x1, x2, x3⟩ := m10_c hp
      have l4 : nI (130 + (ln L (c + 1) + c)) + 1 = nI (130 + (ln L (c + 1) + (c + 1))) := nI_1 _
      have t0 : h1 98 0 = bI (tru (fct s k o) (cl L c).2) := by
        have := ts 0 (by omega)
        rw [hlen] at this
        exact this
      simp only [fX12_costOf_10, h94, s5, if_neg n1, ck0, ob_some, sc, if_pos x1, if_neg x2, if_pos x3, t0, fX12_costOf_334, fX12_costOf_337, m10_m10 hp, l4]
      rw [sumW]
      cases tru (fct s k o) (cl L c).2
      · rw [if_pos bI_f, if_neg (by decide), Int32.add_zero]
      · rw [if_neg (by decide), if_pos rfl]
  unfold fX12_costOf
  generalize hM : 1000 = M
  obtain ⟨h1, q1, e1⟩ := go L.length (n := M - (ln L L.length + L.length)) (c := 0) (h := h) (by omega) q
  have l0 : ln L 0 = 0 := rfl
  rw [l0, show M - (ln L L.length + L.length) + (ln L L.length - 0 + L.length) = M by omega] at e1
  have e3 : fX12_costOf_10 M (nI k) (nI o) 0 0 130 h = _ := e1
  rw [e3]
  obtain ⟨n, hn⟩ : ∃ n, M - (ln L L.length + L.length) = n + 1 := ⟨M - 1 - (ln L L.length + L.length), by omega⟩
  have h94 : h1 94 = s := (q1 94 (by decide)).trans e94
  have n1 : (130 : Int32) + nI (ln L L.length + L.length) ≤ nI (130 + (ln L L.length + L.length)) := by
    have e : (130 : Int32) + nI (ln L L.length + L.length) = nI (130 + (ln L L.length + L.length)) := nI_add 130 _
    rw [e]; exact Int32.le_refl _
  rw [hn]
  simp only [fX12_costOf_10, h94, s5, if_pos n1]
  exact Rs.ok q1
