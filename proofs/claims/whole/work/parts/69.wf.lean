/-! what is read is well formed -/
theorem dpt_app {E S : List Sq} : ∀ {i : Nat}, i ≤ E.length → dpt (E ++ S) i = dpt E i
  | 0, _ => rfl
  | i + 1, h => by rw [dpt, dpt, sp_app (by omega), dpt_app (by omega)]
def VSz (k : Nat) (S : List Sq) : Prop := ∀ (E : List Sq), dpt E E.length + k ≤ 20 → dpt (E ++ S) (E ++ S).length = dpt E E.length + 1 ∧ ∀ i, E.length ≤ i → i < (E ++ S).length → okst (sp (E ++ S) i) (dpt (E ++ S) i)
theorem VSz.mono {k k' : Nat} {S : List Sq} (v : VSz k S) (h : k ≤ k') : VSz k' S := fun E he => v E (by omega)
theorem VSz.tst {a c v : Nat} (ha : a < 4) (hc : c < 3) (hv : v ≤ 999) : VSz 0 [(a, c, v)] := by
  intro E he
  have hl : (E ++ [((a, c, v) : Sq)]).length = E.length + 1 := by rw [List.length_append, List.length_singleton]
  have d0 : dpt (E ++ [((a, c, v) : Sq)]) E.length = dpt E E.length := dpt_app (Nat.le_refl _)
  refine ⟨?_, fun i h1 h2 => ?_⟩
  · rw [hl, dpt, sp_last, d0, if_neg (by show ¬ a = 4; omega), if_neg (by show ¬ (a = 5 ∨ a = 6); omega)]
  · obtain rfl : i = E.length := by omega
    rw [sp_last, d0]
    exact Or.inr (Or.inr ⟨ha, hc, hv, by omega⟩)
theorem VSz.one {k : Nat} {S : List Sq} (v : VSz k S) : VSz k (S ++ [(4, 0, 0)]) := by
  intro E he
  obtain ⟨h1, h2⟩ := v E he
  rw [← List.append_assoc]
  generalize E ++ S = F at *
  have hl : (F ++ [((4, 0, 0) : Sq)]).length = F.length + 1 := by rw [List.length_append, List.length_singleton]
  have d0 : dpt (F ++ [((4, 0, 0) : Sq)]) F.length = dpt F F.length := dpt_app (Nat.le_refl _)
  refine ⟨?_, fun i h3 h4 => ?_⟩
  · rw [hl, dpt, sp_last, d0, if_pos rfl]; exact h1
  · by_cases z : i = F.length
    · rw [z, sp_last, d0]
      exact Or.inl ⟨rfl, by omega⟩
    · rw [sp_app (by omega), dpt_app (by omega)]
      exact h2 i h3 (by omega)
theorem VSz.two {k k2 : Nat} {S S2 : List Sq} {op : Nat} (v : VSz k S) (v2 : VSz k2 S2) (ho : op = 5 ∨ op = 6) (hk : k2 + 1 ≤ k) : VSz k (S ++ S2 ++ [(op, 0, 0)]) := by
  intro E he
  obtain ⟨h1, h2⟩ := v E he
  rw [← List.append_assoc, ← List.append_assoc]
  obtain ⟨h3, h4⟩ := v2 (E ++ S) (by omega)
  have hEF : E.length ≤ (E ++ S).length := by rw [List.length_append]; omega
  generalize E ++ S = F at *
  generalize hG : F ++ S2 = G at *
  have hFG : F.length ≤ G.length := by rw [← hG, List.length_append]; omega
  have hl : (G ++ [((op, 0, 0) : Sq)]).length = G.length + 1 := by rw [List.length_append, List.length_singleton]
  have d0 : dpt (G ++ [((op, 0, 0) : Sq)]) G.length = dpt G G.length := dpt_app (Nat.le_refl _)
  refine ⟨?_, fun i h5 h6 => ?_⟩
  · rw [hl, dpt, sp_last, d0, if_neg (by show ¬ op = 4; omega), if_pos (by show op = 5 ∨ op = 6; exact ho)]; omega
  · by_cases z : i = G.length
    · rw [z, sp_last, d0]
      exact Or.inr (Or.inl ⟨ho, by omega⟩)
    · rw [sp_app (by omega), dpt_app (by omega)]
      by_cases y : i < F.length
      · rw [← hG, sp_app y, dpt_app (by omega)]
        exact h2 i h5 y
      · exact h4 i (by omega) (by omega)
section wf
variable {Z : Nat → Int32} {T : Nat}
theorem tst_VS {p : Nat} (e : (tstS Z T p).1 = true) : VSz 0 (tstS Z T p).2.2 := by
  unfold tstS at e ⊢
  cases a : pkS Z T [109, 115, 111, 107] p with
  | none => rw [a] at e; cases e
  | some i =>
    rw [a] at e
    simp only at e ⊢
    cases c : pkS Z T [60, 61, 62] (p + 1) with
    | none => rw [c] at e; cases e
    | some j =>
      rw [c] at e
      simp only at e ⊢
      cases d : numS Z T (p + 2) with
      | none => rw [d] at e; cases e
      | some x =>
        obtain ⟨v, q⟩ := x
        exact VSz.tst (pkz_lt a).2.1 (pkz_lt c).2.1 (numS_le d).1
theorem lp_VS {sign : Int32} {op k : Nat} {sg : Nat → PRs} (ho : op = 5 ∨ op = 6) (hs : ∀ p, (sg p).1 = true → VSz k (sg p).2.2) : ∀ (f p : Nat) (S : List Sq), VSz (k + 1) S → (lpS Z T sign op sg f p S).1 = true → VSz (k + 1) (lpS Z T sign op sg f p S).2.2
  | 0, p, S, v, _ => v
  | f + 1, p, S, v, e => by
    rw [lpS] at e ⊢
    by_cases z : p < T ∧ Z p = sign
    · rw [if_pos z] at e ⊢
      by_cases y : (sg (p + 1)).1 = true
      · rw [if_pos y] at e ⊢
        exact lp_VS ho hs f _ _ (v.two (hs _ y) ho (Nat.le_refl _)) e
      · rw [if_neg y] at e; cases e
    · rw [if_neg z]; exact v
theorem jn_VS {sign : Int32} {op k : Nat} {sg : Nat → PRs} (ho : op = 5 ∨ op = 6) (hs : ∀ p, (sg p).1 = true → VSz k (sg p).2.2) (p : Nat) (e : (jnS Z T sign op sg p).1 = true) : VSz (k + 1) (jnS Z T sign op sg p).2.2 := by
  unfold jnS at e ⊢
  by_cases y : (sg p).1 = true
  · rw [if_pos y] at e ⊢
    exact lp_VS ho hs 120 _ _ ((hs p y).mono (by omega)) e
  · rw [if_neg y] at e; cases e
theorem ei_VS {k : Nat} {sg : Nat → PRs} (hs : ∀ p, (sg p).1 = true → VSz k (sg p).2.2) (p : Nat) (e : (eiS Z T sg p).1 = true) : VSz (k + 2) (eiS Z T sg p).2.2 := jn_VS (Or.inr rfl) (jn_VS (Or.inl rfl) hs) p e
theorem sgl_VS : ∀ (d p : Nat), (sglS Z T d p).1 = true → VSz (2 * d) (sglS Z T d p).2.2
  | 0, p, e => tst_VS e
  | d + 1, p, e => by
    rw [sglS] at e ⊢
    cases a : pkS Z T [33, 40] p with
    | none =>
      rw [a] at e
      exact (tst_VS e).mono (Nat.zero_le _)
    | some k =>
      rw [a] at e
      cases k with
      | zero =>
        simp only at e ⊢
        by_cases y : (sglS Z T d (p + 1)).1 = true
        · rw [if_pos y]
          exact ((sgl_VS d (p + 1) y).mono (by omega)).one
        · rw [if_neg y] at e; cases e
      | succ k =>
        simp only at e ⊢
        by_cases y : (eiS Z T (sglS Z T d) (p + 1)).1 = true
        · rw [if_pos y] at e ⊢
          by_cases z : (eiS Z T (sglS Z T d) (p + 1)).2.1 < T ∧ Z (eiS Z T (sglS Z T d) (p + 1)).2.1 = 41
          · rw [if_pos z]
            exact (ei_VS (sgl_VS d) (p + 1) y).mono (by omega)
          · rw [if_neg z] at e; cases e
        · rw [if_neg y] at e; cases e
theorem top_WF {p : Nat} (e : (eiS Z T (sglS Z T 5) p).1 = true) : WFl (eiS Z T (sglS Z T 5) p).2.2 := by
  have v := ei_VS (sgl_VS 5) p e []
  have d0 : dpt [] ([] : List Sq).length = 0 := rfl
  rw [d0] at v
  obtain ⟨h1, h2⟩ := v (by omega)
  exact ⟨h1, fun i hi => h2 i (Nat.zero_le _) hi⟩
end wf
/-- the steps of a world, one after another; and the reference's numbers -/
def flC (L : Wld) : List Sq := L.flatMap fun x => x.2
def flR (L : Wld) : List Int32 := L.flatMap fun x => x.2.map pk ++ [(-10 : Int32) - nI x.1]
theorem flC_s (L : Wld) (x : Nat × List Sq) : flC (L ++ [x]) = flC L ++ x.2 := by unfold flC; rw [List.flatMap_append]; simp
theorem flR_s (L : Wld) (x : Nat × List Sq) : flR (L ++ [x]) = flR L ++ x.2.map pk ++ [(-10 : Int32) - nI x.1] := by unfold flR; rw [List.flatMap_append]; simp
theorem cl_app {L : Wld} {x : Nat × List Sq} {c : Nat} (h : c < L.length) : cl (L ++ [x]) c = cl L c := by
  unfold cl
  rw [List.getD_eq_getElem?_getD, List.getElem?_append_left h, List.getD_eq_getElem?_getD]
theorem cl_last {L : Wld} {x : Nat × List Sq} : cl (L ++ [x]) L.length = x := by
  unfold cl
  rw [List.getD_eq_getElem?_getD, List.getElem?_append_right (Nat.le_refl _), Nat.sub_self]; rfl
theorem ln_app {L : Wld} {x : Nat × List Sq} : ∀ {c : Nat}, c ≤ L.length → ln (L ++ [x]) c = ln L c
  | 0, _ => rfl
  | c + 1, h => by rw [ln, ln, cl_app (by omega), ln_app (by omega)]
theorem ln_last {L : Wld} {x : Nat × List Sq} : ln (L ++ [x]) (L.length + 1) = ln L L.length + x.2.length := by
  rw [ln, cl_last, ln_app (Nat.le_refl _)]
/-- a world that has been read as far as here -/
def WRd (L : Wld) : Prop := (flC L).length = ln L L.length ∧ (flR L).length = ln L L.length + L.length ∧ (∀ c, c < L.length → ∀ i, i < (cl L c).2.length → sp (flC L) (ln L c + i) = sp (cl L c).2 i) ∧ ∀ c, c < L.length → (flR L).getD (ln L (c + 1) + c) 0 = (-10 : Int32) - nI (cl L c).1 ∧ ∀ i, i < (cl L c).2.length → (flR L).getD (ln L c + c + i) 0 = pk (sp (cl L c).2 i)
theorem WRd.nil : WRd [] := ⟨rfl, rfl, fun c hc => absurd hc (Nat.not_lt_zero c), fun c hc => absurd hc (Nat.not_lt_zero c)⟩
theorem WRd.add {L : Wld} (w : WRd L) (x : Nat × List Sq) : WRd (L ++ [x]) := by
  obtain ⟨w1, w2, w3, w4⟩ := w
  have hl : (L ++ [x]).length = L.length + 1 := by rw [List.length_append, List.length_singleton]
  have gl : ∀ {α : Type} {A B : List α} {i : Nat} {d : α}, i < A.length → (A ++ B).getD i d = A.getD i d := fun h => by
    rw [List.getD_eq_getElem?_getD, List.getElem?_append_left h, List.getD_eq_getElem?_getD]
  have gr : ∀ {α : Type} {A B : List α} {i : Nat} {d : α}, (A ++ B).getD (A.length + i) d = B.getD i d := fun {α A B i d} => by
    rw [List.getD_eq_getElem?_getD, List.getElem?_append_right (Nat.le_add_right _ _), Nat.add_sub_cancel_left, List.getD_eq_getElem?_getD]
  refine ⟨?_, ?_, ?_, ?_⟩
  · rw [flC_s, List.length_append, hl, ln_last, w1]
  · rw [flR_s, List.length_append, List.length_append, List.length_map, List.length_singleton, hl, ln_last, w2]; omega
  · intro c hc i hi
    rw [hl] at hc
    by_cases z : c = L.length
    · subst z
      rw [cl_last] at hi ⊢
      rw [ln_app (Nat.le_refl _), flC_s, ← w1]
      exact gr
    · rw [cl_app (by omega)] at hi ⊢
      rw [ln_app (by omega), flC_s, ← w3 c (by omega) i hi]
      have h1 : ln L (c + 1) ≤ ln L L.length := ln_le L (by omega)
      have h2 : ln L (c + 1) = ln L c + (cl L c).2.length := rfl
      exact gl (by omega)
  · intro c hc
    rw [hl] at hc
    rw [flR_s, List.append_assoc]
    by_cases z : c = L.length
    · subst z
      rw [cl_last, ln_last, ln_app (Nat.le_refl _)]
      refine ⟨?_, fun i hi => ?_⟩
      · rw [show ln L L.length + x.2.length + L.length = (flR L).length + ((x.2.map pk).length + 0) by rw [w2, List.length_map]; omega, gr, gr]
        rfl
      · rw [show ln L L.length + L.length + i = (flR L).length + i by omega, gr, gl (by rw [List.length_map]; exact hi)]
        unfold sp
        rw [List.getD_eq_getElem?_getD, List.getElem?_map, List.getD_eq_getElem?_getD, List.getElem?_eq_getElem hi]
        rfl
    · rw [cl_app (by omega), ln_app (show c + 1 ≤ L.length by omega), ln_app (show c ≤ L.length by omega)]
      have h1 : ln L (c + 1) ≤ ln L L.length := ln_le L (by omega)
      have h2 : ln L (c + 1) = ln L c + (cl L c).2.length := rfl
      refine ⟨?_, fun i hi => ?_⟩
      · rw [gl (by omega)]; exact (w4 c (by omega)).1
      · rw [gl (by omega)]; exact (w4 c (by omega)).2 i hi
