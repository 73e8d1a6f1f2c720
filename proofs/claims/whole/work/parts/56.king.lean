section kg
variable {P : PT} {n : Nat} {K : Nat} {s s' : RT} {L : Wld} {b h : HT}
/-- the row with a king more -/
def kgB (s : RT) (K : Nat) (l1 l2 : Int32) : RT := ups (ups (ups (ups s (270 + K) l1) (280 + K) l2) (290 + K) 0) (300 + K) (nI K)
def kgL (s : RT) (K : Nat) (l1 l2 : Int32) (m : Nat) : RT := fun i => if 310 + 7 * K ≤ i ∧ i < 310 + 7 * K + m then 10 else if 360 + 7 * K ≤ i ∧ i < 360 + 7 * K + m then 0 else kgB s K l1 l2 i
theorem kingR (hK : K < 7) (e94 : h 94 = s) (s0 : s 0 = nI K) {l1 l2 : Int32} (o1 : out l1 99 = false) (o2 : out l2 40 = false) : Rs (fun g => g 94 = ups (kgL s K l1 l2 7) 0 (nI (K + 1)) ∧ ∀ q, q ≠ 94 → g q = h q) (fX12_king l1 l2 h) (nI K) := by
  have e0 : h 94 0 = nI K := by rw [e94, s0]
  have n7 : ¬ nI K = 7 := fun e => by
    have e : nI K = nI 7 := e
    rw [nI_eq (by omega) (by omega)] at e; omega
  have c1 : ck 490 ((270 : Int32) + nI K) = some (270 + K) := ckO 270 (by omega)
  have c2 : ck 490 ((280 : Int32) + nI K) = some (280 + K) := ckO 280 (by omega)
  have c3 : ck 490 ((290 : Int32) + nI K) = some (290 + K) := ckO 290 (by omega)
  have c4 : ck 490 ((300 : Int32) + nI K) = some (300 + K) := ckO 300 (by omega)
  simp only [fX12_king, inE, o1, o2, Bool.not_false, ifbt, ob_s, e0, if_neg n7, c1, c2, c3, c4]
  refine loop0 (K := 7) (F := fun n k g => fX12_king_91 n (nI K) (nI k) g) (fun k g => g 94 = kgL s K l1 l2 k ∧ ∀ q, q ≠ 94 → g q = h q) (n := 1000) (by omega) ⟨?_, fun q hq => by rw [hu_r hq, hu_r hq, hu_r hq, hu_r hq]⟩ ?_ ?_
  · rw [hu_rw, hu_rw, hu_rw, hu_rw, e94]
    funext i
    unfold kgL kgB
    rw [if_neg (by omega), if_neg (by omega)]
  · intro n k g hk ⟨g1, g2⟩
    left
    have k1 : ck 490 (((310 : Int32) + ((7 : Int32) * nI K)) + nI k) = some (310 + 7 * K + k) := ckW 310 (by omega)
    have k2 : ck 490 (((360 : Int32) + ((7 : Int32) * nI K)) + nI k) = some (360 + 7 * K + k) := ckW 360 (by omega)
    have m7 : ¬ (7 : Int32) ≤ nI k := nI_ge (b := 7) hk (by omega)
    refine ⟨hu (hu g 94 (310 + 7 * K + k) 10) 94 (360 + 7 * K + k) 0, ⟨?_, fun q hq => by rw [hu_r hq, hu_r hq]; exact g2 q hq⟩, ?_⟩
    · rw [hu_rw, hu_rw, g1]
      funext i
      unfold ups kgL
      by_cases z1 : i = 360 + 7 * K + k
      · rw [if_pos z1, if_neg (by omega), if_pos (by omega)]
      · rw [if_neg z1]
        by_cases z2 : i = 310 + 7 * K + k
        · rw [if_pos z2, if_pos (by omega)]
        · rw [if_neg z2]
          by_cases z3 : 310 + 7 * K ≤ i ∧ i < 310 + 7 * K + k
          · rw [if_pos z3, if_pos (by omega)]
          · rw [if_neg z3, if_neg (show ¬ (310 + 7 * K ≤ i ∧ i < 310 + 7 * K + (k + 1)) by omega)]
            by_cases z4 : 360 + 7 * K ≤ i ∧ i < 360 + 7 * K + k
            · rw [if_pos z4, if_pos (by omega)]
            · rw [if_neg z4, if_neg (by omega)]
    · show fX12_king_91 (n + 1) (nI K) (nI k) g = fX12_king_91 n (nI K) (nI (k + 1)) _
      simp only [fX12_king_91, if_neg m7, k1, k2, ob_s, nI_1]
  · intro n g ⟨g1, g2⟩
    show Rs _ (fX12_king_91 (n + 1) (nI K) (nI 7) g) _
    have f0 : g 94 0 = nI K := by
      rw [g1]
      unfold kgL kgB
      rw [if_neg (by omega), if_neg (by omega), ups_ne (by omega), ups_ne (by omega), ups_ne (by omega), ups_ne (by omega), s0]
    simp only [fX12_king_91, if_pos (show (7 : Int32) ≤ nI 7 from Int32.le_refl _), f0, nI_1]
    exact Rs.ok ⟨by rw [hu_rw, g1], fun q hq => by rw [hu_r hq]; exact g2 q hq⟩
theorem kg_ok (ok : OKs K s L) (hK : K < 7) {l1 l2 : Int32} (o1 : bd l1 99) (o2 : bd l2 40) (w : ∀ k j, k < K → j < 7 → bd (s (310 + 7 * k + j)) 99 ∧ bd (s (360 + 7 * k + j)) 3) : OKs (K + 1) (ups (kgL s K l1 l2 7) 0 (nI (K + 1))) L := by
  obtain ⟨K7, s0, wf, b6, b7, b8, sk, sw, s5, sL⟩ := ok
  have hw := wf.2.1
  have hl := wf.1
  have lo : ∀ i, i ≠ 0 → i < 270 → ups (kgL s K l1 l2 7) 0 (nI (K + 1)) i = s i := fun i h1 h2 => by
    rw [ups_ne h1]; unfold kgL kgB
    rw [if_neg (by omega), if_neg (by omega), ups_ne (by omega), ups_ne (by omega), ups_ne (by omega), ups_ne (by omega)]
  have mid : ∀ i, 270 ≤ i → i < 310 → ups (kgL s K l1 l2 7) 0 (nI (K + 1)) i = kgB s K l1 l2 i := fun i h1 h2 => by
    rw [ups_ne (by omega)]; unfold kgL
    rw [if_neg (by omega), if_neg (by omega)]
  refine ⟨by omega, by rw [ups_eq], wf, by rw [lo 6 (by omega) (by omega)]; exact b6, by rw [lo 7 (by omega) (by omega)]; exact b7, by rw [lo 8 (by omega) (by omega)]; exact b8, ?_, ?_, by rw [lo 5 (by omega) (by omega)]; exact s5, ?_⟩
  · intro k hk
    rw [mid (270 + k) (by omega) (by omega), mid (280 + k) (by omega) (by omega), mid (290 + k) (by omega) (by omega)]
    unfold kgB
    rw [ups_ne (j := 270 + k) (by omega), ups_ne (j := 270 + k) (by omega), ups_ne (j := 270 + k) (by omega), ups_ne (j := 280 + k) (i := 300 + K) (by omega), ups_ne (j := 280 + k) (i := 290 + K) (by omega), ups_ne (j := 290 + k) (i := 300 + K) (by omega)]
    by_cases z : k = K
    · subst z
      rw [ups_eq, ups_eq, ups_eq]
      exact ⟨o1, o2, Or.inl rfl, fun a => absurd rfl a⟩
    · rw [ups_ne (by omega), ups_ne (j := 280 + k) (by omega), ups_ne (j := 280 + k) (by omega), ups_ne (j := 290 + k) (by omega), ups_ne (j := 290 + k) (by omega), ups_ne (j := 290 + k) (by omega)]
      exact sk k hk
  · intro k o hk ho
    have w1 : ups (kgL s K l1 l2 7) 0 (nI (K + 1)) (310 + 7 * k + o) = if k = K then 10 else s (310 + 7 * k + o) := by
      rw [ups_ne (by omega)]; unfold kgL
      by_cases z : k = K
      · rw [if_pos z, if_pos (by omega)]
      · rw [if_neg z, if_neg (by omega), if_neg (by omega)]; unfold kgB
        rw [ups_ne (by omega), ups_ne (by omega), ups_ne (by omega), ups_ne (by omega)]
    have w2 : ups (kgL s K l1 l2 7) 0 (nI (K + 1)) (360 + 7 * k + o) = if k = K then 0 else s (360 + 7 * k + o) := by
      rw [ups_ne (by omega)]; unfold kgL
      by_cases z : k = K
      · rw [if_pos z, if_neg (by omega), if_pos (by omega)]
      · rw [if_neg z, if_neg (by omega), if_neg (by omega)]; unfold kgB
        rw [ups_ne (by omega), ups_ne (by omega), ups_ne (by omega), ups_ne (by omega)]
    rw [w1, w2]
    by_cases z : k = K
    · rw [if_pos z, if_pos z]; exact ⟨⟨by decide, by decide⟩, ⟨by decide, by decide⟩⟩
    · rw [if_neg z, if_neg z]; exact w k o (by omega) (by omega)
  · intro c hc
    have h1 : ln L (c + 1) ≤ ln L L.length := ln_le L (by omega)
    have h2 : ln L (c + 1) = ln L c + (cl L c).2.length := rfl
    refine ⟨by rw [lo _ (by omega) (by omega)]; exact (sL c hc).1, fun i hi => by rw [lo _ (by omega) (by omega)]; exact (sL c hc).2 i hi⟩
theorem m_king (X : Ix P K L n b) (l1 l2 : Int32) : Mu P b (fX11_king l1 l2) (fX12_king l1 l2) := by
  have hK := X.K7
  cases o1 : out l1 99
  · cases o2 : out l2 40
    · by_cases z : K = 7
      · subst z
        refine Bo.mu X ⟨-4, fun g q => ?_, fun g q => ?_⟩
        · simp only [fX11_king, outE, o1, o2, ifbf, ob_s, (X.rc q).kings, if_neg (show ¬ nI 7 < 7 by decide)]; exact Rs.ok q
        · simp only [fX12_king, inE, o1, o2, Bool.not_false, ifbt, ob_s, X.e0 q, if_pos (show nI 7 = 7 from rfl)]; exact Rs.ok q
      · have hK7 : K < 7 := by omega
        have l7 : nI K < 7 := nI_lt (b := 7) hK7 (by omega)
        have c7 : ck 7 (nI K) = some K := ckI rfl hK7
        have rc := X.rc Qw.rfl'
        have f10 : (hu (hu b 2 K l1) 3 K l2) 1 1 = mk (lv (b 94)) K := by rw [hu_ne (by omega), hu_ne (by omega)]; exact rc.alive
        generalize hM : mk (lv (b 94)) K ||| ((1 : Int32) <<< (nI K &&& 31)) = M
        have f11 : (hu (hu (hu b 2 K l1) 3 K l2) 1 1 M) 1 0 = nI K := by rw [hu_ne (by omega), hu_ne (by omega), hu_ne (by omega)]; exact rc.kings
        generalize hH : hu (hu (hu (hu b 2 K l1) 3 K l2) 1 1 M) 1 0 (nI (K + 1)) = H
        have Hr : ∀ q, q ≠ 1 → q ≠ 2 → q ≠ 3 → H q = b q := fun q h1 h2 h3 => by rw [← hH, hu_r h1, hu_r h1, hu_r h3, hu_r h2]
        have H94 : H 94 = b 94 := Hr 94 (by omega) (by omega) (by omega)
        obtain ⟨h2, f2, g1, g2⟩ := kingR hK7 H94 X.s0 o1 o2
        obtain ⟨j1, hj1, e1⟩ := out_n (k := 99) rfl (by omega) o1
        obtain ⟨j2, hj2, e2⟩ := out_n (k := 40) rfl (by omega) o2
        have bl := X.1.2.2.2.2.2.2.2.2
        have n8 := X.n8
        have ok' := kg_ok X.ok hK7 (l1 := l1) (l2 := l2) (by rw [e1]; exact nI_bd (by omega) (by omega)) (by rw [e2]; exact nI_bd (by omega) (by omega)) (fun k j hk hj => ⟨(bl.2.2.2.1 k j hk hj).2.2.1, (bl.2.2.2.1 k j hk hj).2.2.2⟩)
        refine ⟨nI K, H, h2, ?_, f2, K + 1, L, n, ?_, ?_⟩
        · simp only [fX11_king, outE, o1, o2, ifbf, ob_s, rc.kings, if_pos l7, fX3_add, c7, f10, hM, f11, nI_1, hH]
        · have h2r : ∀ q, q ≠ 94 → h2 q = H q := g2
          rw [g1]
          have lo : ∀ i, i ≠ 0 → i < 270 → ups (kgL (b 94) K l1 l2 7) 0 (nI (K + 1)) i = b 94 i := fun i h1 h2 => by
            rw [ups_ne h1]; unfold kgL kgB
            rw [if_neg (by omega), if_neg (by omega), ups_ne (by omega), ups_ne (by omega), ups_ne (by omega), ups_ne (by omega)]
          have mid : ∀ i, 270 ≤ i → i < 310 → ups (kgL (b 94) K l1 l2 7) 0 (nI (K + 1)) i = kgB (b 94) K l1 l2 i := fun i h1 h2 => by
            rw [ups_ne (by omega)]; unfold kgL
            rw [if_neg (by omega), if_neg (by omega)]
          have hi : ∀ i, 409 < i → ups (kgL (b 94) K l1 l2 7) 0 (nI (K + 1)) i = b 94 i := fun i h1 => by
            rw [ups_ne (by omega)]; unfold kgL kgB
            rw [if_neg (by omega), if_neg (by omega), ups_ne (by omega), ups_ne (by omega), ups_ne (by omega), ups_ne (by omega)]
          have w1 : ∀ k o, k < 7 → o < 7 → ups (kgL (b 94) K l1 l2 7) 0 (nI (K + 1)) (310 + 7 * k + o) = if k = K then 10 else b 94 (310 + 7 * k + o) := fun k o hk ho => by
            rw [ups_ne (by omega)]; unfold kgL
            by_cases z : k = K
            · rw [if_pos z, if_pos (by omega)]
            · rw [if_neg z, if_neg (by omega), if_neg (by omega)]; unfold kgB
              rw [ups_ne (by omega), ups_ne (by omega), ups_ne (by omega), ups_ne (by omega)]
          have w2 : ∀ k o, k < 7 → o < 7 → ups (kgL (b 94) K l1 l2 7) 0 (nI (K + 1)) (360 + 7 * k + o) = if k = K then 0 else b 94 (360 + 7 * k + o) := fun k o hk ho => by
            rw [ups_ne (by omega)]; unfold kgL
            by_cases z : k = K
            · rw [if_pos z, if_neg (by omega), if_pos (by omega)]
            · rw [if_neg z, if_neg (by omega), if_neg (by omega)]; unfold kgB
              rw [ups_ne (by omega), ups_ne (by omega), ups_ne (by omega), ups_ne (by omega)]
          have r : ∀ q, 4 ≤ q → q ≤ 39 → h2 (0 + q) = b (0 + q) := fun q h1 h2' => by rw [h2r _ (by omega), Hr _ (by omega) (by omega) (by omega)]
          have lvE : ∀ k, k < 7 → lv (ups (kgL (b 94) K l1 l2 7) 0 (nI (K + 1))) k = if k = K then true else lv (b 94) k := fun k hk => by
            unfold lv
            rw [mid _ (by omega) (by omega)]
            unfold kgB
            rw [ups_ne (by omega)]
            by_cases z : k = K
            · subst z; rw [ups_eq, if_pos rfl]; rfl
            · rw [if_neg z, ups_ne (by omega), ups_ne (by omega), ups_ne (by omega)]
          have v2 : ∀ k, h2 2 k = if k = K then l1 else b 2 k := fun k => by
            rw [h2r 2 (by omega), ← hH, hu_ne (by omega), hu_ne (by omega), hu_ne (by omega)]
            by_cases z : k = K
            · subst z; rw [hu_eq, if_pos rfl]
            · rw [hu_ne (by omega), if_neg z]
          have v3 : ∀ k, h2 3 k = if k = K then l2 else b 3 k := fun k => by
            rw [h2r 3 (by omega), ← hH, hu_ne (by omega), hu_ne (by omega)]
            by_cases z : k = K
            · subst z; rw [hu_eq, if_pos rfl]
            · rw [hu_ne (by omega), hu_ne (by omega), if_neg z]
          have v1 : ∀ k, h2 1 k = if k = 0 then nI (K + 1) else if k = 1 then M else b 1 k := fun k => by
            rw [h2r 1 (by omega), ← hH]
            by_cases z : k = 0
            · subst z; rw [hu_eq, if_pos rfl]
            · rw [hu_ne (by omega), if_neg z]
              by_cases z2 : k = 1
              · subst z2; rw [hu_eq, if_pos rfl]
              · rw [hu_ne (by omega), hu_ne (by omega), hu_ne (by omega), if_neg z2]
          obtain ⟨a0, ⟨b0, b1, b2, b3, b4, b5, b6, b7, b8, b9, b10⟩, a2, a3, a4, a5, a6, a7, a8, a9, a10, a11, a12, T, t1, t2, t3, t4⟩ := X.1
          refine ⟨ok', ⟨by omega, ?_, ?_, ?_, ?_, ?_, ?_, ?_, ?_⟩, a2, by rw [lo 2 (by omega) (by omega)]; exact a3, ?_, ?_, ?_, ?_, ?_, ?_, ?_, ?_, ?_, T, t1, by rw [lo 3 (by omega) (by omega)]; exact t2, ?_, ?_⟩
          · show h2 1 0 = _
            rw [v1, if_pos rfl]
          · show h2 1 1 = _
            rw [v1, if_neg (by omega), if_pos rfl, ← hM, mk, lvE K hK7, if_pos rfl, if_pos rfl]
            rw [mk_cong (p := lv (b 94)) (q := lv (ups (kgL (b 94) K l1 l2 7) 0 (nI (K + 1)))) (fun k hk => by rw [lvE k (by omega), if_neg (by omega)])]
          · intro k hk
            rw [r 4 (by omega) (by omega), mid (270 + k) (by omega) (by omega), mid (280 + k) (by omega) (by omega), mid (300 + k) (by omega) (by omega)]
            show h2 2 k = _ ∧ h2 3 k = _ ∧ b 4 k = _
            rw [v2, v3]
            unfold kgB
            rw [ups_ne (j := 270 + k) (by omega), ups_ne (j := 270 + k) (by omega), ups_ne (j := 270 + k) (by omega), ups_ne (j := 280 + k) (i := 300 + K) (by omega), ups_ne (j := 280 + k) (i := 290 + K) (by omega)]
            by_cases z : k = K
            · subst z
              rw [if_pos rfl, if_pos rfl, ups_eq, ups_eq, ups_eq]
              exact ⟨rfl, rfl, (a12 k 0 (Nat.le_refl _) hK7 (by omega)).2.2⟩
            · rw [if_neg z, if_neg z, ups_ne (by omega), ups_ne (by omega), ups_ne (by omega), ups_ne (by omega), ups_ne (by omega), ups_ne (by omega), ups_ne (by omega)]
              exact b3 k (by omega)
          · intro k j hk hj
            have q6 : h2 (0 + 6 + k) = b (0 + 6 + k) := by rw [show 0 + 6 + k = 0 + (6 + k) by omega]; exact r _ (by omega) (by omega)
            have q14 : h2 (0 + 14 + k) = b (0 + 14 + k) := by rw [show 0 + 14 + k = 0 + (14 + k) by omega]; exact r _ (by omega) (by omega)
            rw [q6, q14, w1 k j (by omega) (by omega), w2 k j (by omega) (by omega)]
            by_cases z : k = K
            · subst z
              rw [if_pos rfl, if_pos rfl]
              exact ⟨(a12 k j (Nat.le_refl _) hK7 (by omega)).1, (a12 k j (Nat.le_refl _) hK7 (by omega)).2.1⟩
            · rw [if_neg z, if_neg z]
              exact ⟨(a11 k j (by omega) (by omega)).1, (a11 k j (by omega) (by omega)).2.1⟩
          · rw [r 23 (by omega) (by omega), lo 6 (by omega) (by omega)]; exact b5
          · rw [r 23 (by omega) (by omega), lo 7 (by omega) (by omega)]; exact b6
          · rw [r 23 (by omega) (by omega), lo 8 (by omega) (by omega)]; exact b7
          · have f1 : h2 (0 + 24 + 1) = b (0 + 24 + 1) := r 25 (by omega) (by omega)
            have f2 : h2 (0 + 24 + 2) = b (0 + 24 + 2) := r 26 (by omega) (by omega)
            have f3 : h2 (0 + 24 + 3) = b (0 + 24 + 3) := r 27 (by omega) (by omega)
            have f4 : h2 (0 + 24 + 4) = b (0 + 24 + 4) := r 28 (by omega) (by omega)
            unfold WRow
            rw [f1, f2, f3, f4, r 23 (by omega) (by omega), r 24 (by omega) (by omega)]
            exact ⟨b8, b9, b10⟩
          · show h2 1 3 = _
            rw [v1, if_neg (by omega), if_neg (by omega)]; exact a4
          · show h2 1 2 = _
            rw [v1, if_neg (by omega), if_neg (by omega), lo 1 (by omega) (by omega)]; exact a5
          · show h2 1 4 = _
            rw [v1, if_neg (by omega), if_neg (by omega), lo 4 (by omega) (by omega)]; exact a6
          · intro t ht
            rw [r 30 (by omega) (by omega), hi (410 + t) (by omega), hi (420 + t) (by omega)]
            exact a7 t ht
          · intro t k ht hk
            have q : h2 (0 + 32 + t) = b (0 + 32 + t) := by rw [show 0 + 32 + t = 0 + (32 + t) by omega]; exact r _ (by omega) (by omega)
            rw [q, hi (430 + 7 * t + k) (by omega)]
            exact a8 t k ht hk
          · intro t k h1 h2' hk
            have q : h2 (0 + 32 + t) = b (0 + 32 + t) := by rw [show 0 + 32 + t = 0 + (32 + t) by omega]; exact r _ (by omega) (by omega)
            rw [q]; exact a9 t k h1 h2' hk
          · intro t ht
            rw [r 30 (by omega) (by omega)]; exact a10 t ht
          · intro k j hk hj
            have q6 : h2 (0 + 6 + k) = b (0 + 6 + k) := by rw [show 0 + 6 + k = 0 + (6 + k) by omega]; exact r _ (by omega) (by omega)
            have q14 : h2 (0 + 14 + k) = b (0 + 14 + k) := by rw [show 0 + 14 + k = 0 + (14 + k) by omega]; exact r _ (by omega) (by omega)
            rw [q6, q14, w1 k j (by omega) (by omega), w2 k j (by omega) (by omega)]
            by_cases z : k = K
            · subst z
              rw [if_pos rfl, if_pos rfl]
              exact ⟨(a12 k j (Nat.le_refl _) hK7 (by omega)).1, (a12 k j (Nat.le_refl _) hK7 (by omega)).2.1, ⟨by decide, by decide⟩, ⟨by decide, by decide⟩⟩
            · rw [if_neg z, if_neg z]; exact a11 k j (by omega) (by omega)
          · intro k j h1 h2' hj
            have q6 : h2 (0 + 6 + k) = b (0 + 6 + k) := by rw [show 0 + 6 + k = 0 + (6 + k) by omega]; exact r _ (by omega) (by omega)
            have q14 : h2 (0 + 14 + k) = b (0 + 14 + k) := by rw [show 0 + 14 + k = 0 + (14 + k) by omega]; exact r _ (by omega) (by omega)
            rw [q6, q14, r 4 (by omega) (by omega)]; exact a12 k j (by omega) h2' hj
          · rw [r 21 (by omega) (by omega)]; exact t3
          · intro i hi'
            rw [r 22 (by omega) (by omega), lo (10 + i) (by omega) (by omega)]; exact t4 i hi'
        · exact X.2.e (fun k hk => by rw [g2 k (by omega), Hr k (by omega) (by omega) (by omega)]) (by rw [g2 93 (by omega), Hr 93 (by omega) (by omega) (by omega)]) (by rw [g2 93 (by omega), Hr 93 (by omega) (by omega) (by omega)])
    · refine Bo.mu X ⟨-2, fun g q => ?_, fun g q => ?_⟩
      · simp only [fX11_king, outE, o1, o2, ifbf, ifbt, ob_s, fX11_king_18]; exact Rs.ok q
      · simp only [fX12_king, inE, o1, o2, Bool.not_false, Bool.not_true, ifbt, ifbf, ob_s, fX12_king_20]; exact Rs.ok q
  · refine Bo.mu X ⟨-2, fun g q => ?_, fun g q => ?_⟩
    · simp only [fX11_king, outE, o1, ifbt, ob_s, fX11_king_18]; exact Rs.ok q
    · simp only [fX12_king, inE, o1, Bool.not_true, ifbf, ob_s, fX12_king_20]; exact Rs.ok q
end kg
