/-! the ways to part the living, in their order -/
def cnt (s : RT) (i : Nat) : Nat := fb_ct (lv s) i
def mxr (s : RT) (w : Nat → Nat) : Nat → Nat
  | 0 => 0
  | i + 1 => if lv s i = true then max (mxr s w i) (w i + 1) else mxr s w i
def pset (w : Nat → Nat) (i v : Nat) : Nat → Nat := fun k => if k = i then v else w k
abbrev Way : Type := (Nat → Nat) × Nat
def lvs (s : RT) : Nat → Nat → Nat → (Nat → Nat) → List Way
  | 0, _, mx, w => [(w, mx)]
  | d + 1, i, mx, w => if lv s i = true then (List.range' 0 (mx + 1)).flatMap (fun v => lvs s d (i + 1) (if v = mx then mx + 1 else mx) (pset w i v)) else lvs s d (i + 1) mx w
def NB : Nat → Nat → Nat
  | 0, _ => 1
  | d + 1, mx => mx * NB d mx + NB d (mx + 1)
theorem NB_6 : ∀ m, m ≤ 6 → NB m 0 ≤ 203 := by decide +kernel
theorem cnt_s (s : RT) (i : Nat) : cnt s (i + 1) = cnt s i + (if lv s i then 1 else 0) := rfl
theorem cnt_le (s : RT) {i j : Nat} (h : i ≤ j) : cnt s i ≤ cnt s j := fb_ct_mono _ h
theorem lvs_len (s : RT) : ∀ (d i mx : Nat) (w : Nat → Nat), (lvs s d i mx w).length = NB (cnt s (i + d) - cnt s i) mx
  | 0, i, mx, w => by rw [lvs, Nat.add_zero, Nat.sub_self]; rfl
  | d + 1, i, mx, w => by
    have e : i + (d + 1) = i + 1 + d := by omega
    rw [lvs, e]
    have c1 := cnt_s s i
    have c2 := cnt_le s (show i + 1 ≤ i + 1 + d by omega)
    cases l : lv s i
    · rw [if_neg (by decide), lvs_len s d (i + 1) mx w]
      rw [l] at c1
      rw [show cnt s (i + 1) = cnt s i by simpa using c1]
    · rw [if_pos rfl]
      rw [l] at c1
      have c1 : cnt s (i + 1) = cnt s i + 1 := by simpa using c1
      have inner : ∀ k v, v + k = mx + 1 → 0 < k → ((List.range' v k).flatMap (fun v => lvs s d (i + 1) (if v = mx then mx + 1 else mx) (pset w i v))).length = (k - 1) * NB (cnt s (i + 1 + d) - cnt s (i + 1)) mx + NB (cnt s (i + 1 + d) - cnt s (i + 1)) (mx + 1) := by
        intro k
        induction k with
        | zero => intro v _ h; omega
        | succ k ih =>
          intro v hv _
          rw [List.range'_succ, List.flatMap_cons, List.length_append, lvs_len s d (i + 1)]
          by_cases z : v = mx
          · obtain rfl : k = 0 := by omega
            rw [if_pos z]
            simp
          · rw [if_neg z, ih (v + 1) (by omega) (by omega)]
            obtain ⟨k', rfl⟩ : ∃ k', k = k' + 1 := ⟨k - 1, by omega⟩
            rw [show k' + 1 + 1 - 1 = k' + 1 by omega, show k' + 1 - 1 = k' by omega, Nat.succ_mul]
            omega
      rw [inner (mx + 1) 0 (by omega) (by omega)]
      obtain ⟨m, hm⟩ : ∃ m, cnt s (i + 1 + d) - cnt s i = m + 1 := ⟨cnt s (i + 1 + d) - cnt s i - 1, by omega⟩
      rw [hm, show cnt s (i + 1 + d) - cnt s (i + 1) = m by omega]
      rfl
def run {A E : Type} (leaf : Way → A → A ⊕ E) : List Way → A → A ⊕ E
  | [], a => .inl a
  | x :: l, a => match leaf x a with
    | .inl a' => run leaf l a'
    | .inr w => .inr w
theorem run_app {A E : Type} (leaf : Way → A → A ⊕ E) : ∀ (l1 l2 : List Way) (a : A), run leaf (l1 ++ l2) a = match run leaf l1 a with
    | .inl a' => run leaf l2 a'
    | .inr w => .inr w
  | [], l2, a => rfl
  | x :: l1, l2, a => by
    show (match leaf x a with | .inl a' => run leaf (l1 ++ l2) a' | .inr w => .inr w) = match (match leaf x a with | .inl a' => run leaf l1 a' | .inr w => .inr w) with | .inl a' => run leaf l2 a' | .inr w => .inr w
    cases leaf x a with
    | inl a' => exact run_app leaf l1 l2 a'
    | inr w => rfl
theorem mxr_c {s : RT} {w w' : Nat → Nat} : ∀ {i : Nat}, (∀ k, k < i → w k = w' k) → mxr s w i = mxr s w' i
  | 0, _ => rfl
  | i + 1, h => by rw [mxr, mxr, mxr_c (fun k hk => h k (by omega)), h i (by omega)]
theorem mxr_8 {s : RT} {w : Nat → Nat} (h : ∀ k, w k ≤ 7) : ∀ i, mxr s w i ≤ 8
  | 0 => Nat.zero_le _
  | i + 1 => by
    have := mxr_8 (s := s) h i
    have := h i
    rw [mxr]
    split
    · omega
    · assumption
theorem mxr_1 {s : RT} {w : Nat → Nat} : ∀ i, 0 < cnt s i → 0 < mxr s w i
  | 0, h => by exact absurd h (by unfold cnt; exact Nat.lt_irrefl 0)
  | i + 1, h => by
    rw [cnt_s] at h
    rw [mxr]
    cases l : lv s i
    · rw [l] at h
      rw [if_neg (by decide)]
      exact mxr_1 i (by simpa using h)
    · rw [if_pos rfl]; omega
section wy
variable {P : PT} {n : Nat} {K : Nat} {L : Wld} {b g h : HT} {w : Nat → Nat}
def WC (K : Nat) (b : HT) (w : Nat → Nat) (g : HT) : Prop := Qw b g ∧ g 88 2 = nI (cnt (b 94) K) ∧ (∀ k, k < K → lv (b 94) k = true → g 90 (cnt (b 94) k) = nI k) ∧ (∀ k, k < K → lv (b 94) k = true → g 40 k = nI (w k)) ∧ ∀ k, w k ≤ 7
theorem WC.q (c : WC K b w g) (q : Qs g h) : WC K b w h := ⟨c.1.tr q.w, by rw [q.row (by decide)]; exact c.2.1, fun k hk hl => by rw [q.row (by decide)]; exact c.2.2.1 k hk hl, fun k hk hl => by rw [q.row (by decide)]; exact c.2.2.2.1 k hk hl, c.2.2.2.2⟩
theorem WC.set (c : WC K b w g) {i v : Nat} (hv : v ≤ 7) : WC K b (pset w i v) (hu g 40 i (nI v)) := by
  refine ⟨c.1.pu (by unfold scr; omega), by rw [hu_ne (by omega)]; exact c.2.1, fun k hk hl => by rw [hu_ne (by omega)]; exact c.2.2.1 k hk hl, fun k hk hl => ?_, fun k => ?_⟩
  · unfold pset
    by_cases z : k = i
    · subst z; rw [hu_eq, if_pos rfl]
    · rw [hu_ne (by omega), if_neg z]; exact c.2.2.2.1 k hk hl
  · unfold pset
    by_cases z : k = i
    · rw [if_pos z]; exact hv
    · rw [if_neg z]; exact c.2.2.2.2 k
theorem cnt_lt {s : RT} {i K : Nat} (hi : i < K) (hl : lv s i = true) : cnt s i < cnt s K := by
  have h := cnt_le s (show i + 1 ≤ K by omega)
  rw [cnt_s, hl] at h
  simp at h
  omega
theorem cnt_7 (s : RT) {i : Nat} (hi : i ≤ 7) : cnt s i ≤ 7 := Nat.le_trans (fb_ct_le _ _) hi
theorem highE (hK : K ≤ 7) (c : WC K b w g) {i : Nat} (hi : i ≤ K) : fX8_highest (nI (cnt (b 94) i)) g = some (nI (mxr (b 94) w i - 1), g) := by
  have go : ∀ (m : Nat) {n k : Nat}, k + m = i → m < n → fX8_highest_5 n (nI (cnt (b 94) i)) (nI (mxr (b 94) w k - 1)) (nI (cnt (b 94) k)) g = some (nI (mxr (b 94) w i - 1), g) := by
    intro m
    induction m with
    | zero =>
      intro n k hk hn
      obtain ⟨n, rfl⟩ : ∃ n', n = n' + 1 := ⟨n - 1, by omega⟩
      obtain rfl : k = i := by omega
      simp only [fX8_highest_5, if_pos (Int32.le_refl _)]
    | succ m ih =>
      intro n k hk hn
      obtain ⟨n, rfl⟩ : ∃ n', n = n' + 1 := ⟨n - 1, by omega⟩
      have c1 := cnt_s (b 94) k
      have e : mxr (b 94) w (k + 1) = if lv (b 94) k = true then max (mxr (b 94) w k) (w k + 1) else mxr (b 94) w k := rfl
      cases l : lv (b 94) k
      · rw [l] at c1 e
        have c1 : cnt (b 94) (k + 1) = cnt (b 94) k := by simpa using c1
        have e : mxr (b 94) w (k + 1) = mxr (b 94) w k := by simpa using e
        have := ih (n := n + 1) (k := k + 1) (by omega) (by omega)
        rw [c1, e] at this
        exact this
      · rw [l] at c1 e
        have c1 : cnt (b 94) (k + 1) = cnt (b 94) k + 1 := by simpa using c1
        have e : mxr (b 94) w (k + 1) = max (mxr (b 94) w k) (w k + 1) := by simpa using e
        have lt := cnt_lt (s := b 94) (show k < i by omega) l
        have l7 := cnt_7 (b 94) (show i ≤ 7 by omega)
        have k90 := c.2.2.1 k (by omega) l
        have k40 := c.2.2.2.1 k (by omega) l
        have w7 := c.2.2.2.2 k
        have m8 := mxr_8 (s := b 94) c.2.2.2.2 k
        have d1 : ck 7 (nI (cnt (b 94) k)) = some (cnt (b 94) k) := ckI rfl (by omega)
        have d2 : ck 7 (nI k) = some k := ckI rfl (by omega)
        have n1 : ¬ nI (cnt (b 94) i) ≤ nI (cnt (b 94) k) := nI_ge lt (by omega)
        have := ih (n := n) (k := k + 1) (by omega) (by omega)
        rw [c1, e] at this
        simp only [fX8_highest_5, if_neg n1, d1, ob_s, k90, d2, k40, nI_1]
        have m : (if nI (mxr (b 94) w k - 1) < nI (w k) then nI (w k) else nI (mxr (b 94) w k - 1)) = nI (max (mxr (b 94) w k) (w k + 1) - 1) := by
          by_cases z : nI (mxr (b 94) w k - 1) < nI (w k)
          · rw [if_pos z]
            rw [nI_ltI (by omega) (by omega)] at z
            rw [show max (mxr (b 94) w k) (w k + 1) - 1 = w k by omega]
          · rw [if_neg z]
            rw [nI_ltI (by omega) (by omega)] at z
            rw [show max (mxr (b 94) w k) (w k + 1) - 1 = mxr (b 94) w k - 1 by omega]
        rw [m]
        exact this
  exact go i (n := 1000) (k := 0) (by omega) (by omega)
theorem adv0 {f : Nat} {l : Int32} (hl : l ≤ 0) : fX8_advance_7 (f + 1) l g = some (0, g) := by rw [fX8_advance_7, if_pos hl]
theorem adv1 (hK : K ≤ 7) (c : WC K b w g) {i : Nat} (hi : i < K) (hl : lv (b 94) i = true) (h0 : 0 < cnt (b 94) i) (hv : w i ≤ mxr (b 94) w i) (f : Nat) : fX8_advance_7 (f + 1) (nI (cnt (b 94) i)) g = if w i = mxr (b 94) w i then fX8_advance_7 f (nI (cnt (b 94) i - 1)) (hu g 40 i 0) else some (1, hu g 40 i (nI (w i + 1))) := by
  have lt := cnt_lt (s := b 94) hi hl
  have l7 := cnt_7 (b 94) (show K ≤ 7 by omega)
  have k90 := c.2.2.1 i hi hl
  have k40 := c.2.2.2.1 i hi hl
  have w7 := c.2.2.2.2 i
  have m8 := mxr_8 (s := b 94) c.2.2.2.2 i
  have m1 := mxr_1 (w := w) i h0
  have d1 : ck 7 (nI (cnt (b 94) i)) = some (cnt (b 94) i) := ckI rfl (by omega)
  have d2 : ck 7 (nI i) = some i := ckI rfl (by omega)
  have n1 : ¬ nI (cnt (b 94) i) ≤ 0 := nI_nle h0 (by omega)
  obtain ⟨j, hj⟩ : ∃ j, cnt (b 94) i = j + 1 := ⟨cnt (b 94) i - 1, by omega⟩
  have e1 : nI (cnt (b 94) i) + (-1) = nI (cnt (b 94) i - 1) := by rw [hj, nI_m1, Nat.add_sub_cancel]
  simp only [fX8_advance_7, if_neg n1, d1, ob_s, k90, d2, highE hK c (show i ≤ K by omega), k40, nI_1, e1]
  by_cases z : w i = mxr (b 94) w i
  · rw [if_pos z, if_pos (nI_lt (by omega) (by omega))]
  · rw [if_neg z, if_neg (nI_nlt (by omega) (by omega))]
/-- the loop over all ways -/
theorem wayC {A E : Type} {B : E → Option (Int32 × HT) → Prop} (hK : K ≤ 7) {leaf : Way → A → A ⊕ E} {F : Nat → A → Nat → HT → Option (Int32 × HT)} {fin : A → HT → Option (Int32 × HT)}
    (hb : ∀ n a c g w, WC K b w g → mxr (b 94) w K ≤ K → c < 203 → match leaf (w, mxr (b 94) w K) a with
      | .inl a' => ∃ g', WC K b w g' ∧ F (n + 1) a c g = Option.bind (fX8_advance g') fun z => if z.1 = 0 then fin a' z.2 else F n a' (c + 1) z.2
      | .inr u => B u (F (n + 1) a c g)) :
    ∀ (d i : Nat) (w : Nat → Nat) (n : Nat) (a : A) (c : Nat) (g : HT), i + d = K → mxr (b 94) w i ≤ i → WC K b w g → (∀ k, i ≤ k → k < K → lv (b 94) k = true → w k = 0) → c + (lvs (b 94) d i (mxr (b 94) w i) w).length ≤ 203 → (lvs (b 94) d i (mxr (b 94) w i) w).length ≤ n →
      match run leaf (lvs (b 94) d i (mxr (b 94) w i) w) a with
      | .inr u => B u (F n a c g)
      | .inl a' => ∃ g' f, WC K b w g' ∧ cnt (b 94) i < f ∧ F n a c g = Option.bind (fX8_advance_7 f (nI (cnt (b 94) i) - 1) g') fun z => if z.1 = 0 then fin a' z.2 else F (n - (lvs (b 94) d i (mxr (b 94) w i) w).length) a' (c + (lvs (b 94) d i (mxr (b 94) w i) w).length) z.2
  | 0, i, w, n, a, c, g, hi, hm, hw, h0, hc, hn => by
    obtain rfl : i = K := by omega
    rw [lvs] at hc hn ⊢
    have hc : c + 1 ≤ 203 := hc
    have hn : 1 ≤ n := hn
    obtain ⟨n, rfl⟩ : ∃ n', n = n' + 1 := ⟨n - 1, by omega⟩
    have h := hb n a c g w hw hm (by omega)
    show (match (match leaf (w, mxr (b 94) w i) a with | .inl a' => run leaf [] a' | .inr u => .inr u) with | .inr u => B u (F (n + 1) a c g) | .inl a' => ∃ g' f, WC i b w g' ∧ cnt (b 94) i < f ∧ F (n + 1) a c g = Option.bind (fX8_advance_7 f (nI (cnt (b 94) i) - 1) g') fun z => if z.1 = 0 then fin a' z.2 else F (n + 1 - 1) a' (c + 1) z.2)
    cases e : leaf (w, mxr (b 94) w i) a with
    | inl a' =>
      rw [e] at h
      obtain ⟨g', w', e'⟩ := h
      refine ⟨g', 1000, w', ?_, ?_⟩
      · have := cnt_7 (b 94) (show i ≤ 7 by omega); omega
      · rw [e', fX8_advance, w'.2.1, Nat.add_sub_cancel]
    | inr u =>
      rw [e] at h
      exact h
  | d + 1, i, w, n, a, c, g, hi, hm, hw, h0, hc, hn => by
    have c1 := cnt_s (b 94) i
    have em : ∀ w : Nat → Nat, mxr (b 94) w (i + 1) = if lv (b 94) i = true then max (mxr (b 94) w i) (w i + 1) else mxr (b 94) w i := fun w => rfl
    rw [lvs] at hc hn ⊢
    cases l : lv (b 94) i
    · rw [l] at c1 hc hn
      simp only [Bool.false_eq_true, if_false] at hc hn ⊢
      have c1 : cnt (b 94) (i + 1) = cnt (b 94) i := by simpa using c1
      have em1 := em w
      rw [l] at em1
      have em1 : mxr (b 94) w (i + 1) = mxr (b 94) w i := by simpa using em1
      have ih := wayC hK hb d (i + 1) w n a c g (by omega) (by rw [em1]; omega) hw (fun k h1 h2 h3 => h0 k (by omega) h2 h3) (by rw [em1]; exact hc) (by rw [em1]; exact hn)
      rw [em1, c1] at ih
      exact ih
    · rw [l] at c1 hc hn
      simp only [if_true] at hc hn ⊢
      have c1 : cnt (b 94) (i + 1) = cnt (b 94) i + 1 := by simpa using c1
      have w0 : pset w i 0 = w := by
        funext k
        unfold pset
        by_cases z : k = i
        · rw [if_pos z, z, h0 i (Nat.le_refl _) (by omega) l]
        · rw [if_neg z]
      have mE : ∀ v, mxr (b 94) (pset w i v) i = mxr (b 94) w i := fun v => mxr_c fun k hk => by unfold pset; rw [if_neg (by omega)]
      have inner : ∀ k v (n : Nat) (a : A) (c : Nat) (g : HT), v + (k + 1) = mxr (b 94) w i + 1 → WC K b (pset w i v) g → c + ((List.range' v (k + 1)).flatMap (fun v => lvs (b 94) d (i + 1) (if v = mxr (b 94) w i then mxr (b 94) w i + 1 else mxr (b 94) w i) (pset w i v))).length ≤ 203 → ((List.range' v (k + 1)).flatMap (fun v => lvs (b 94) d (i + 1) (if v = mxr (b 94) w i then mxr (b 94) w i + 1 else mxr (b 94) w i) (pset w i v))).length ≤ n →
          match run leaf ((List.range' v (k + 1)).flatMap (fun v => lvs (b 94) d (i + 1) (if v = mxr (b 94) w i then mxr (b 94) w i + 1 else mxr (b 94) w i) (pset w i v))) a with
          | .inr u => B u (F n a c g)
          | .inl a' => ∃ g' f, WC K b w g' ∧ cnt (b 94) i < f ∧ F n a c g = Option.bind (fX8_advance_7 f (nI (cnt (b 94) i) - 1) g') fun z => if z.1 = 0 then fin a' z.2 else F (n - ((List.range' v (k + 1)).flatMap (fun v => lvs (b 94) d (i + 1) (if v = mxr (b 94) w i then mxr (b 94) w i + 1 else mxr (b 94) w i) (pset w i v))).length) a' (c + ((List.range' v (k + 1)).flatMap (fun v => lvs (b 94) d (i + 1) (if v = mxr (b 94) w i then mxr (b 94) w i + 1 else mxr (b 94) w i) (pset w i v))).length) z.2 := by
        intro k
        induction k with
        | zero =>
          intro v n a c g hv hg hc hn
          have hv : v = mxr (b 94) w i := by omega
          rw [List.range'_succ, List.flatMap_cons, if_pos hv] at hc hn ⊢
          simp only [List.range'_zero, List.flatMap_nil, List.append_nil] at hc hn ⊢
          have e1 : mxr (b 94) (pset w i v) (i + 1) = mxr (b 94) w i + 1 := by
            rw [em, l, if_pos rfl, mE]
            show max _ ((if i = i then v else w i) + 1) = _
            rw [if_pos rfl]; omega
          have ih := wayC hK hb d (i + 1) (pset w i v) n a c g (by omega) (by rw [e1]; omega) hg (fun k h1 h2 h3 => by unfold pset; rw [if_neg (by omega)]; exact h0 k (by omega) h2 h3) (by rw [e1]; exact hc) (by rw [e1]; exact hn)
          rw [e1] at ih
          cases r : run leaf (lvs (b 94) d (i + 1) (mxr (b 94) w i + 1) (pset w i v)) a with
          | inr u => rw [r] at ih; exact ih
          | inl a' =>
            rw [r] at ih
            obtain ⟨g1, f, c1', f1, e2⟩ := ih
            obtain ⟨f, rfl⟩ : ∃ f', f = f' + 1 := ⟨f - 1, by omega⟩
            rw [c1, nI_pred] at e2
            by_cases z0 : cnt (b 94) i = 0
            · have v0 : v = 0 := by
                rw [hv]
                have q : ∀ j, j ≤ i → mxr (b 94) w j = 0 := by
                  intro j
                  induction j with
                  | zero => intro _; rfl
                  | succ j ihj =>
                    intro hj
                    have hl : lv (b 94) j = false := by
                      have := (fb_ct_zero (p := lv (b 94)) (n := i)).mp z0 j (by omega)
                      exact this
                    rw [mxr, hl, if_neg (by decide)]
                    exact ihj (by omega)
                exact q i (Nat.le_refl _)
              subst v0
              rw [w0] at c1'
              refine ⟨g1, f + 1, c1', by omega, ?_⟩
              rw [e2, z0, adv0 (by decide), adv0 (by decide)]
            · have wi : pset w i v i = v := if_pos rfl
              rw [adv1 hK c1' (show i < K by omega) l (by omega) (by rw [wi, mE]; omega), wi, mE, if_pos hv] at e2
              refine ⟨hu g1 40 i 0, f, ?_, by omega, ?_⟩
              · have := c1'.set (i := i) (v := 0) (by omega)
                have e : pset (pset w i v) i 0 = w := by
                  rw [← w0]
                  funext q
                  unfold pset
                  by_cases z : q = i
                  · rw [if_pos z, if_pos z]
                  · rw [if_neg z, if_neg z, if_neg z]
                rw [e] at this
                exact this
              · obtain ⟨j, hj⟩ : ∃ j, cnt (b 94) i = j + 1 := ⟨cnt (b 94) i - 1, by omega⟩
                rw [e2, hj, nI_pred, Nat.add_sub_cancel]
        | succ k ihk =>
          intro v n a c g hv hg hc hn
          have hvn : ¬ v = mxr (b 94) w i := by omega
          rw [List.range'_succ, List.flatMap_cons, if_neg hvn] at hc hn ⊢
          rw [List.length_append] at hc hn ⊢
          rw [run_app]
          have e1 : mxr (b 94) (pset w i v) (i + 1) = mxr (b 94) w i := by
            rw [em, l, if_pos rfl, mE]
            show max _ ((if i = i then v else w i) + 1) = _
            rw [if_pos rfl]; omega
          have ih := wayC hK hb d (i + 1) (pset w i v) n a c g (by omega) (by rw [e1]; omega) hg (fun k h1 h2 h3 => by unfold pset; rw [if_neg (by omega)]; exact h0 k (by omega) h2 h3) (by rw [e1]; omega) (by rw [e1]; omega)
          rw [e1] at ih
          cases r : run leaf (lvs (b 94) d (i + 1) (mxr (b 94) w i) (pset w i v)) a with
          | inr u => rw [r] at ih; exact ih
          | inl a' =>
            rw [r] at ih
            obtain ⟨g1, f, c1', f1, e2⟩ := ih
            obtain ⟨f, rfl⟩ : ∃ f', f = f' + 1 := ⟨f - 1, by omega⟩
            rw [c1, nI_pred] at e2
            have z0 : 0 < cnt (b 94) i := by
              rcases Nat.eq_zero_or_pos (cnt (b 94) i) with q | q
              · exfalso
                have q2 : ∀ j, j ≤ i → mxr (b 94) w j = 0 := by
                  intro j
                  induction j with
                  | zero => intro _; rfl
                  | succ j ihj =>
                    intro hj
                    have hl : lv (b 94) j = false := (fb_ct_zero (p := lv (b 94)) (n := i)).mp q j (by omega)
                    rw [mxr, hl, if_neg (by decide)]
                    exact ihj (by omega)
                have := q2 i (Nat.le_refl _)
                omega
              · exact q
            have wi : pset w i v i = v := if_pos rfl
            rw [adv1 hK c1' (show i < K by omega) l z0 (by rw [wi, mE]; omega), wi, mE, if_neg hvn] at e2
            have c2' := c1'.set (i := i) (v := v + 1) (by omega)
            have e3 : pset (pset w i v) i (v + 1) = pset w i (v + 1) := by
              funext q
              unfold pset
              by_cases z : q = i
              · rw [if_pos z, if_pos z]
              · rw [if_neg z, if_neg z, if_neg z]
            rw [e3] at c2'
            have r2 := ihk (v + 1) (n - (lvs (b 94) d (i + 1) (mxr (b 94) w i) (pset w i v)).length) a' (c + (lvs (b 94) d (i + 1) (mxr (b 94) w i) (pset w i v)).length) (hu g1 40 i (nI (v + 1))) (by omega) c2' (by omega) (by omega)
            have e4 : F n a c g = F (n - (lvs (b 94) d (i + 1) (mxr (b 94) w i) (pset w i v)).length) a' (c + (lvs (b 94) d (i + 1) (mxr (b 94) w i) (pset w i v)).length) (hu g1 40 i (nI (v + 1))) := by
              rw [e2]
              simp only [ob_s, if10]
            rw [e4]
            cases r3 : run leaf ((List.range' (v + 1) (k + 1)).flatMap (fun v => lvs (b 94) d (i + 1) (if v = mxr (b 94) w i then mxr (b 94) w i + 1 else mxr (b 94) w i) (pset w i v))) a' with
            | inr u =>
              rw [r3] at r2
              simp only [r3]
              exact r2
            | inl a2 =>
              rw [r3] at r2
              simp only [r3]
              obtain ⟨g3, f3, w3, l3, e5⟩ := r2
              refine ⟨g3, f3, w3, l3, ?_⟩
              rw [e5]
              simp only [Nat.sub_sub, Nat.add_assoc]
      exact inner (mxr (b 94) w i) 0 n a c g (by omega) (by rw [w0]; exact hw) hc hn
end wy
