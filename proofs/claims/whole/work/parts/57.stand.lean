section sg
variable {P : PT} {n : Nat} {K : Nat} {s s' : RT} {L : Wld} {b h : HT}
theorem okq_pool {P : PT} {r : SR} {v : Int32} (h : okq P v = some ()) : okq (P ++ [r]) v = some () := by
  unfold okq at *
  cases c : dq v with
  | none => rfl
  | some t =>
    rw [c] at h
    have ht : t < P.length := by
      by_cases z : t < P.length
      · exact z
      · simp [z] at h
    have : t < (P ++ [r]).length := by rw [List.length_append]; omega
    simp; omega
theorem RX.pool {o : Nat} {r : SR} (X : RX o s P K L n h) : RX o s (P ++ [r]) K L n h := by
  obtain ⟨a0, b0, a2, a3, a4, a5, a6, a7, a8, a9, a10, a11, a12, a13⟩ := X
  refine ⟨a0, b0, a2, a3, a4, a5, a6, ?_, a8, a9, fun t ht => okq_pool (a10 t ht), a11, a12, a13⟩
  intro t ht
  obtain ⟨p, N, e1, e2, e3, e4, e5⟩ := a7 t ht
  refine ⟨p, N, e1, e2, e3, ?_, e5⟩
  have hp : p < P.length := (List.getElem?_eq_some_iff.mp e4).1
  rw [List.getElem?_append_left hp]; exact e4
theorem dq_nI' {t : Nat} (h : t < 2 ^ 31 - 1) : dq (nI (t + 1)) = some t := by
  have h0 : ¬ nI (t + 1) = 0 := nI_ne0 (by omega) (by omega)
  unfold dq
  rw [if_neg h0, nI_clamp (by omega)]
  rfl
theorem kc_nI : ∀ N, N < 7 → kc (nI N) = kcl N := by decide +kernel
theorem SC_kcl : ∀ N, N < 7 → SC (kcl N) := by
  intro N hN
  unfold SC
  exact (by decide +kernel : ∀ N, N < 7 → (kcl N = 0 ∨ kcl N = 1 ∨ kcl N = 2 ∨ kcl N = 4 ∨ kcl N = 5 ∨ kcl N = 7 ∨ kcl N = 9)) N hN
/-- the row with a standing more -/
def sgB (s : RT) (n : Nat) (l1 l2 : Int32) (m : Nat) : RT := fun i => if 430 + 7 * n ≤ i ∧ i < 430 + 7 * n + m then nI (i - 430 - 7 * n) else ups (ups s (410 + n) l1) (420 + n) l2 i
theorem standingR (hn : n < 8) (e94 : h 94 = s) (s2 : s 2 = nI n) {l1 l2 : Int32} (o1 : out l1 6 = false) (o2 : out l2 9 = false) : Rs (fun g => g 94 = ups (sgB s n l1 l2 7) 2 (nI (n + 1)) ∧ ∀ q, q ≠ 94 → g q = h q) (fX12_standing l1 l2 h) (nI n) := by
  have e2 : h 94 2 = nI n := by rw [e94, s2]
  have n8 : ¬ nI n = 8 := fun e => by
    have e : nI n = nI 8 := e
    rw [nI_eq (by omega) (by omega)] at e; omega
  have c1 : ck 490 ((410 : Int32) + nI n) = some (410 + n) := ckO 410 (by omega)
  have c2 : ck 490 ((420 : Int32) + nI n) = some (420 + n) := ckO 420 (by omega)
  simp only [fX12_standing, inE, o1, o2, Bool.not_false, ifbt, ob_s, e2, if_neg n8, c1, c2]
  refine loop0 (K := 7) (F := fun m k g => fX12_standing_71 m (nI n) (nI k) g) (fun k g => g 94 = sgB s n l1 l2 k ∧ ∀ q, q ≠ 94 → g q = h q) (n := 1000) (by omega) ⟨?_, fun q hq => by rw [hu_r hq, hu_r hq]⟩ ?_ ?_
  · rw [hu_rw, hu_rw, e94]
    funext i
    unfold sgB
    rw [if_neg (by omega)]
  · intro m k g hk ⟨g1, g2⟩
    left
    have k1 : ck 490 (((430 : Int32) + ((7 : Int32) * nI n)) + nI k) = some (430 + 7 * n + k) := ckW 430 (by omega)
    have m7 : ¬ (7 : Int32) ≤ nI k := nI_ge (b := 7) hk (by omega)
    refine ⟨hu g 94 (430 + 7 * n + k) (nI k), ⟨?_, fun q hq => by rw [hu_r hq]; exact g2 q hq⟩, ?_⟩
    · rw [hu_rw, g1]
      funext i
      show (if i = 430 + 7 * n + k then nI k else sgB s n l1 l2 k i) = sgB s n l1 l2 (k + 1) i
      unfold sgB
      by_cases z1 : i = 430 + 7 * n + k
      · rw [if_pos z1, if_pos (by omega), show i - 430 - 7 * n = k by omega]
      · rw [if_neg z1]
        by_cases z3 : 430 + 7 * n ≤ i ∧ i < 430 + 7 * n + k
        · rw [if_pos z3, if_pos (by omega)]
        · rw [if_neg z3, if_neg (by omega)]
    · show fX12_standing_71 (m + 1) (nI n) (nI k) g = fX12_standing_71 m (nI n) (nI (k + 1)) _
      simp only [fX12_standing_71, if_neg m7, k1, ob_s, nI_1]
  · intro m g ⟨g1, g2⟩
    show Rs _ (fX12_standing_71 (m + 1) (nI n) (nI 7) g) _
    have f0 : g 94 2 = nI n := by
      rw [g1]
      unfold sgB
      rw [if_neg (by omega), ups_ne (by omega), ups_ne (by omega), s2]
    simp only [fX12_standing_71, if_pos (show (7 : Int32) ≤ nI 7 from Int32.le_refl _), f0, nI_1]
    exact Rs.ok ⟨by rw [hu_rw, g1], fun q hq => by rw [hu_r hq]; exact g2 q hq⟩
/-- the same with a pool that may have grown -/
def MuP (P : PT) (b : HT) (f1 : HT → Option ((Int32 × HT) × PT)) (f2 : HT → Option (Int32 × HT)) : Prop := ∃ w h1 h2 P', f1 b = some ((w, h1), P') ∧ f2 h1 = some (w, h2) ∧ Inv P' h2 ∧ (P' = P ∨ ∃ r, SC r.1 ∧ P' = P ++ [r])
theorem m_standing (hP : P.length < 2 ^ 31 - 1) (X : Ix P K L n b) (l1 l2 : Int32) : MuP P b (fX11_standing P l1 l2) (fX12_standing l1 l2) := by
  have hK := X.K7
  have hn8 := X.n8
  have no : ∀ w, (fX11_standing P l1 l2 b = some ((w, b), P)) → (∃ h', fX12_standing l1 l2 b = some (w, h') ∧ Qw b h') → MuP P b (fX11_standing P l1 l2) (fX12_standing l1 l2) := by
    intro w e1 ⟨h', e2, q⟩
    exact ⟨w, b, h', P, e1, e2, ⟨K, L, n, X.w q⟩, Or.inl rfl⟩
  cases o1 : out l1 6
  · cases o2 : out l2 9
    · by_cases z : n = 8
      · subst z
        refine no (-4) ?_ ⟨b, ?_, Qw.rfl'⟩
        · simp only [fX11_standing, outE, o1, o2, ifbf, ob_s, X.c3 Qw.rfl', if_neg (show ¬ nI 8 < 8 by decide)]
        · simp only [fX12_standing, inE, o1, o2, Bool.not_false, ifbt, ob_s, X.s2 Qw.rfl', if_pos (show nI 8 = 8 from rfl)]
      · have hn : n < 8 := by omega
        have l8 : nI n < 8 := nI_lt (b := 8) hn (by omega)
        have c8 : ck 8 (nI n) = some n := ckI rfl hn
        have f13 : hu b 30 n (nI (P.length + 1)) 1 3 = nI n := by rw [hu_ne (by omega)]; exact X.c3 Qw.rfl'
        generalize hH : hu (hu b 30 n (nI (P.length + 1))) 1 3 (nI (n + 1)) = H
        have Hr : ∀ q, q ≠ 1 → q ≠ 30 → H q = b q := fun q h1 h2 => by rw [← hH, hu_r h1, hu_r h2]
        have H94 : H 94 = b 94 := Hr 94 (by omega) (by omega)
        obtain ⟨h2, f2, g1, g2⟩ := standingR hn H94 X.1.2.2.2.1 o1 o2
        obtain ⟨N, hN, e1⟩ := out_n (k := 6) rfl (by omega) o1
        obtain ⟨j2, hj2, e2⟩ := out_n (k := 9) rfl (by omega) o2
        have kE : kc l1 = kcl N := by rw [e1]; exact kc_nI N (by omega)
        have sN : SC (kcl N) := SC_kcl N (by omega)
        have h2r : ∀ q, q ≠ 94 → q ≠ 1 → q ≠ 30 → h2 q = b q := fun q h1 h2' h3 => by rw [g2 q h1, Hr q h2' h3]
        have v30 : ∀ t, h2 30 t = if t = n then nI (P.length + 1) else b 30 t := fun t => by
          rw [g2 30 (by omega), ← hH, hu_ne (by omega)]
          by_cases z : t = n
          · subst z; rw [hu_eq, if_pos rfl]
          · rw [hu_ne (by omega), if_neg z]
        have v1 : ∀ k, h2 1 k = if k = 3 then nI (n + 1) else b 1 k := fun k => by
          rw [g2 1 (by omega), ← hH]
          by_cases z : k = 3
          · subst z; rw [hu_eq, if_pos rfl]
          · rw [hu_ne (by omega), hu_ne (by omega), if_neg z]
        refine ⟨nI n, H, h2, P ++ [(kcl N, nI n, l2)], ?_, f2, ⟨K, L, n + 1, ?_, ?_⟩, Or.inr ⟨_, sN, rfl⟩⟩
        · simp only [fX11_standing, outE, o1, o2, ifbf, ob_s, X.c3 Qw.rfl', if_pos l8, if_true, if00, c8, f13, nI_1, hH, kE]
        · rw [g1]
          have lo : ∀ i, i ≠ 2 → (i < 410 → ups (sgB (b 94) n l1 l2 7) 2 (nI (n + 1)) i = b 94 i) := fun i h1 h2 => by
            rw [ups_ne h1]; unfold sgB
            rw [if_neg (by omega), ups_ne (by omega), ups_ne (by omega)]
          have kd : ∀ t, t < n → ups (sgB (b 94) n l1 l2 7) 2 (nI (n + 1)) (410 + t) = b 94 (410 + t) ∧ ups (sgB (b 94) n l1 l2 7) 2 (nI (n + 1)) (420 + t) = b 94 (420 + t) := fun t ht => by
            rw [ups_ne (by omega), ups_ne (by omega)]; unfold sgB
            rw [if_neg (by omega), if_neg (by omega), ups_ne (by omega), ups_ne (by omega), ups_ne (by omega), ups_ne (by omega)]
            exact ⟨rfl, rfl⟩
          have kdn : ups (sgB (b 94) n l1 l2 7) 2 (nI (n + 1)) (410 + n) = l1 ∧ ups (sgB (b 94) n l1 l2 7) 2 (nI (n + 1)) (420 + n) = l2 := by
            rw [ups_ne (by omega), ups_ne (by omega)]; unfold sgB
            rw [if_neg (by omega), if_neg (by omega), ups_ne (by omega), ups_eq, ups_eq]
            exact ⟨rfl, rfl⟩
          have bk : ∀ t k, t ≤ n → k < 7 → ups (sgB (b 94) n l1 l2 7) 2 (nI (n + 1)) (430 + 7 * t + k) = if t = n then nI k else b 94 (430 + 7 * t + k) := fun t k ht hk => by
            rw [ups_ne (by omega)]; unfold sgB
            by_cases z : t = n
            · subst z; rw [if_pos (by omega), if_pos rfl, show 430 + 7 * t + k - 430 - 7 * t = k by omega]
            · rw [if_neg (by omega), if_neg z, ups_ne (by omega), ups_ne (by omega)]
          have r : ∀ q, 2 ≤ q → q ≤ 39 → q ≠ 30 → h2 (0 + q) = b (0 + q) := fun q h1 h2' h3 => h2r _ (by omega) (by omega) (by omega)
          have lvE : ∀ k, k < 7 → lv (ups (sgB (b 94) n l1 l2 7) 2 (nI (n + 1))) k = lv (b 94) k := fun k hk => by
            unfold lv; rw [lo _ (by omega) (by omega)]
          obtain ⟨a0, ⟨b0, b1, b2, b3, b4, b5, b6, b7, b8, b9, b10⟩, a2, a3, a4, a5, a6, a7, a8, a9, a10, a11, a12, T, t1, t2, t3, t4⟩ := X.1
          have ok' : OKs K (ups (sgB (b 94) n l1 l2 7) 2 (nI (n + 1))) L := by
            obtain ⟨K7, s0, wf, c6, c7, c8, sk, sw, s5, sL⟩ := a0
            have hw := wf.2.1
            have hl := wf.1
            refine ⟨K7, by rw [lo 0 (by omega) (by omega)]; exact s0, wf, by rw [lo 6 (by omega) (by omega)]; exact c6, by rw [lo 7 (by omega) (by omega)]; exact c7, by rw [lo 8 (by omega) (by omega)]; exact c8, ?_, ?_, by rw [lo 5 (by omega) (by omega)]; exact s5, ?_⟩
            · intro k hk
              rw [lo (270 + k) (by omega) (by omega), lo (280 + k) (by omega) (by omega), lo (290 + k) (by omega) (by omega)]; exact sk k hk
            · intro k o hk ho
              rw [lo (310 + 7 * k + o) (by omega) (by omega), lo (360 + 7 * k + o) (by omega) (by omega)]; exact sw k o hk ho
            · intro c hc
              have h1 : ln L (c + 1) ≤ ln L L.length := ln_le L (by omega)
              have h2 : ln L (c + 1) = ln L c + (cl L c).2.length := rfl
              refine ⟨by rw [lo _ (by omega) (by omega)]; exact (sL c hc).1, fun i hi => by rw [lo _ (by omega) (by omega)]; exact (sL c hc).2 i hi⟩
          refine ⟨ok', ⟨b0, ?_, ?_, ?_, ?_, ?_, ?_, ?_, ?_⟩, by omega, by rw [ups_eq], ?_, ?_, ?_, ?_, ?_, ?_, ?_, ?_, ?_, T, t1, by rw [lo 3 (by omega) (by omega)]; exact t2, ?_, ?_⟩
          · show h2 1 0 = _
            rw [v1, if_neg (by omega)]; exact b1
          · show h2 1 1 = _
            have b2' : b 1 1 = mk (lv (b 94)) K := b2
            rw [v1, if_neg (by omega), b2']
            exact mk_cong fun k hk => (lvE k (by omega)).symm
          · intro k hk
            rw [r 2 (by omega) (by omega) (by omega), r 3 (by omega) (by omega) (by omega), r 4 (by omega) (by omega) (by omega), lo (270 + k) (by omega) (by omega), lo (280 + k) (by omega) (by omega), lo (300 + k) (by omega) (by omega)]
            exact b3 k hk
          · intro k j hk hj
            have q6 : h2 (0 + 6 + k) = b (0 + 6 + k) := by rw [show 0 + 6 + k = 0 + (6 + k) by omega]; exact r _ (by omega) (by omega) (by omega)
            have q14 : h2 (0 + 14 + k) = b (0 + 14 + k) := by rw [show 0 + 14 + k = 0 + (14 + k) by omega]; exact r _ (by omega) (by omega) (by omega)
            rw [q6, q14, lo (310 + 7 * k + j) (by omega) (by omega), lo (360 + 7 * k + j) (by omega) (by omega)]; exact b4 k j hk hj
          · rw [r 23 (by omega) (by omega) (by omega), lo 6 (by omega) (by omega)]; exact b5
          · rw [r 23 (by omega) (by omega) (by omega), lo 7 (by omega) (by omega)]; exact b6
          · rw [r 23 (by omega) (by omega) (by omega), lo 8 (by omega) (by omega)]; exact b7
          · have f1 : h2 (0 + 24 + 1) = b (0 + 24 + 1) := r 25 (by omega) (by omega) (by omega)
            have f2 : h2 (0 + 24 + 2) = b (0 + 24 + 2) := r 26 (by omega) (by omega) (by omega)
            have f3 : h2 (0 + 24 + 3) = b (0 + 24 + 3) := r 27 (by omega) (by omega) (by omega)
            have f4 : h2 (0 + 24 + 4) = b (0 + 24 + 4) := r 28 (by omega) (by omega) (by omega)
            unfold WRow
            rw [f1, f2, f3, f4, r 23 (by omega) (by omega) (by omega), r 24 (by omega) (by omega) (by omega)]
            exact ⟨b8, b9, b10⟩
          · show h2 1 3 = _
            rw [v1, if_pos rfl]
          · show h2 1 2 = _
            rw [v1, if_neg (by omega), lo 1 (by omega) (by omega)]; exact a5
          · show h2 1 4 = _
            rw [v1, if_neg (by omega), lo 4 (by omega) (by omega)]; exact a6
          · intro t ht
            by_cases z : t = n
            · subst z
              refine ⟨P.length, N, ?_, hN, ?_, ?_, ?_⟩
              · show dq (h2 30 t) = _
                rw [v30, if_pos rfl]; exact dq_nI' hP
              · rw [kdn.1, e1]
              · rw [kdn.2]
                rw [List.getElem?_append_right (Nat.le_refl _), Nat.sub_self]; rfl
              · rw [kdn.2, e2]; exact nI_bd (by omega) (by omega)
            · obtain ⟨p, N', q1, q2, q3, q4, q5⟩ := a7 t (by omega)
              have hp : p < P.length := (List.getElem?_eq_some_iff.mp q4).1
              refine ⟨p, N', ?_, q2, by rw [(kd t (by omega)).1]; exact q3, by rw [List.getElem?_append_left hp, (kd t (by omega)).2]; exact q4, by rw [(kd t (by omega)).2]; exact q5⟩
              show dq (h2 30 t) = _
              rw [v30, if_neg z]; exact q1
          · intro t k ht hk
            have q : h2 (0 + 32 + t) = b (0 + 32 + t) := by rw [show 0 + 32 + t = 0 + (32 + t) by omega]; exact r _ (by omega) (by omega) (by omega)
            rw [q, bk t k (by omega) hk]
            by_cases z : t = n
            · subst z; rw [if_pos rfl]; exact ⟨a9 t k (Nat.le_refl _) hn hk, nI_bd (by omega) (by omega)⟩
            · rw [if_neg z]; exact a8 t k (by omega) hk
          · intro t k h1 h2' hk
            have q : h2 (0 + 32 + t) = b (0 + 32 + t) := by rw [show 0 + 32 + t = 0 + (32 + t) by omega]; exact r _ (by omega) (by omega) (by omega)
            rw [q]; exact a9 t k (by omega) h2' hk
          · intro t ht
            show okq _ (h2 30 t) = _
            rw [v30]
            by_cases z : t = n
            · rw [if_pos z]
              unfold okq
              rw [dq_nI' hP]
              simp
            · rw [if_neg z]; exact okq_pool (a10 t ht)
          · intro k j hk hj
            have q6 : h2 (0 + 6 + k) = b (0 + 6 + k) := by rw [show 0 + 6 + k = 0 + (6 + k) by omega]; exact r _ (by omega) (by omega) (by omega)
            have q14 : h2 (0 + 14 + k) = b (0 + 14 + k) := by rw [show 0 + 14 + k = 0 + (14 + k) by omega]; exact r _ (by omega) (by omega) (by omega)
            rw [q6, q14, lo (310 + 7 * k + j) (by omega) (by omega), lo (360 + 7 * k + j) (by omega) (by omega)]; exact a11 k j hk hj
          · intro k j h1 h2' hj
            have q6 : h2 (0 + 6 + k) = b (0 + 6 + k) := by rw [show 0 + 6 + k = 0 + (6 + k) by omega]; exact r _ (by omega) (by omega) (by omega)
            have q14 : h2 (0 + 14 + k) = b (0 + 14 + k) := by rw [show 0 + 14 + k = 0 + (14 + k) by omega]; exact r _ (by omega) (by omega) (by omega)
            rw [q6, q14, r 4 (by omega) (by omega) (by omega)]; exact a12 k j h1 h2' hj
          · rw [r 21 (by omega) (by omega) (by omega)]; exact t3
          · intro i hi'
            rw [r 22 (by omega) (by omega) (by omega), lo (10 + i) (by omega) (by omega)]; exact t4 i hi'
        · obtain ⟨x2, x3, x4, c, d1, d2, d3, d4⟩ := X.2
          have e93 : h2 93 = b 93 := h2r 93 (by omega) (by omega) (by omega)
          refine ⟨⟨?_, fun j => ⟨?_, ?_⟩⟩, by rw [h2r 0 (by omega) (by omega) (by omega), e93]; exact x3, ?_, c, d1, by rw [h2r 91 (by omega) (by omega) (by omega)]; exact d2, by rw [e93]; exact d3, by rw [h2r 91 (by omega) (by omega) (by omega), h2r 101 (by omega) (by omega) (by omega)]; exact d4⟩
          · intro t r ht
            by_cases z : t < P.length
            · rw [List.getElem?_append_left z] at ht; exact x2.1 t r ht
            · rw [List.getElem?_append_right (by omega)] at ht
              have : t - P.length = 0 := by
                have := (List.getElem?_eq_some_iff.mp ht).1
                simp at this; omega
              rw [this] at ht
              have ht := Option.some.inj ht
              rw [← ht]; exact sN
          · show okq _ (h2 30 j) = _
            rw [v30]
            by_cases z : j = n
            · rw [if_pos z]
              unfold okq
              rw [dq_nI' hP]
              simp
            · rw [if_neg z]; exact okq_pool (x2.2 j).1
          · rw [h2r 70 (by omega) (by omega) (by omega)]; exact okq_pool (x2.2 j).2
          · rw [e93, h2r 95 (by omega) (by omega) (by omega)]
            rcases x4 with x4 | ⟨x4, K', L', n', y⟩
            · exact Or.inl x4
            · exact Or.inr ⟨x4, K', L', n', (y.e fun q h1 h2 h3 => h2r _ (by omega) (by omega) (by omega)).pool⟩
    · refine no (-2) ?_ ⟨b, ?_, Qw.rfl'⟩
      · simp only [fX11_standing, outE, o1, o2, ifbf, ifbt, ob_s]
      · simp only [fX12_standing, inE, o1, o2, Bool.not_false, Bool.not_true, ifbt, ifbf, ob_s]
  · refine no (-1) ?_ ⟨b, ?_, Qw.rfl'⟩
    · simp only [fX11_standing, outE, o1, ifbt, ob_s]
    · simp only [fX12_standing, inE, o1, Bool.not_true, ifbf, ob_s]
end sg
