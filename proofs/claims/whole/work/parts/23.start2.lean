/-! the start: all 102 cells as WD has them -/
def aS (b : Nat) (a1 a2 : Nat → Nat) (l : List Nat) : Nat → Nat := fun k => if k = 0 then b else if k < 41 then a1 k else if k < 81 then a2 (k - 40) else l.getD (k - 81) 0
def hS0 (h1 h2 : HT) : HT := fun k => if k = 0 then (fun _ => 0) else if k < 41 then h1 k else if k < 81 then h2 (k - 40) else (fun _ => 0)
set_option maxHeartbeats 8000000 in
set_option maxRecDepth 4000 in
theorem WD_start {g : GP} {b b1 b2 b3 cb1 cb2 cb3 cb4 cb5 cb6 b4 db1 db2 b5 b6 m0 eb1 eb2 eb3 eb4 eb5 eb6 eb7 eb8 : Nat} {a1 a2 : Nat → Nat} {h1 h2 : HT} (ha1 : a1 1 = b1) (ha2 : a2 1 = b2) (hs1 : ∀ i, dq (h1 30 i) = none) (hs2 : ∀ i, dq (h2 30 i) = none) :
    (((((((WR g (WR g [(b, .inr (11, [.ref b1, .ref b2, .int 0, .ref b3, .ref b4, .ref b5, .ref b6]))] a1 h1) a2 h2) ++ [(b3, .inr (10, [.int 0, .int 0, .int 0, .int 0, .int 0, .ref cb1, .ref cb2, .ref cb3, .ref cb4, .ref cb5, .ref cb6])), (cb1, .inl (gI g, 10, .inl (fun _ => 0))), (cb2, .inl (gI g, 10, .inl (fun _ => 0))), (cb3, .inl (gI g, 120, .inl (fun _ => 0))), (cb4, .inl (gI g, 120, .inl (fun _ => 0))), (cb5, .inl (gI g, 120, .inl (fun _ => 0))), (cb6, .inl (gI g, 4, .inl (fun _ => 0)))]) ++ [(b4, .inr (8, [.ref db1, .ref db2, .int 0])), (db1, .inr (4, [.int 8, .int 0])), (db2, .inl (gI g, 7, .inl (fun _ => 0)))]) ++ [(b5, .inl (gI g, 21, .inl (fun _ => 0)))]) ++ [(b6, .inl (gI g, 7, .inl (fun _ => 0)))]) ++ [(m0, .inr (12, [.int 0, .ref eb1, .ref eb2, .int 0, .int 0, .int 0, .int 0, .int 0, .ref eb3, .ref eb4, .int 0, .ref eb5, .ref eb6, .int 0, .int 0, .int 0, .int 0, .int 0, .int 0, .int 0, .int 0, .int 0, .int 0, .int 0, .int 0, .int 0, .ref eb7, .ref eb8, .int 0, .int 0, .int 0, .int 0])), (eb1, .inl (gI g, 490, .inl (fun _ => 0))), (eb2, .inl (gI g, 490, .inl (fun _ => 0))), (eb3, .inl (gI g, 140, .inl (fun _ => 0))), (eb4, .inl (gI g, 3, .inl (fun _ => 0))), (eb5, .inl (gZ g, 64, .inl (fun _ => 0))), (eb6, .inl (gI g, 7, .inl (fun _ => 0))), (eb7, .inl (gI g, 7, .inl (fun _ => 0))), (eb8, .inl (gI g, 20, .inl (fun _ => 0)))])) = WD g (aS b a1 a2 [b3, cb1, cb2, cb3, cb4, cb5, cb6, b4, db1, db2, b5, b6, m0, eb1, eb2, eb3, eb4, eb5, eb6, eb7, eb8]) (hS0 h1 h2) [] := by
  subst ha1; subst ha2
  generalize hA : aS b a1 a2 [b3, cb1, cb2, cb3, cb4, cb5, cb6, b4, db1, db2, b5, b6, m0, eb1, eb2, eb3, eb4, eb5, eb6, eb7, eb8] = A
  have e1 : ∀ i, 1 ≤ i → i < 41 → a1 i = A (0 + i) := by
    intro i h h'
    rw [← hA]
    unfold aS
    rw [if_neg (by omega), if_pos (by omega), Nat.zero_add]
  have e2 : ∀ i, 1 ≤ i → i < 41 → a2 i = A (40 + i) := by
    intro i h h'
    rw [← hA]
    unfold aS
    rw [if_neg (by omega), if_neg (by omega), if_pos (by omega), Nat.add_sub_cancel_left]
  unfold WR
  rw [xr_all e1 hs1, xs_all e2 hs2]
  have hR1 : (List.range 40).map (fun k => (A (0 + (1 + k)), xE g A (0 + (1 + k)) (h1 (1 + k)))) = ((List.range 40).map (fun k => 0 + (1 + k))).map (fun k => (A k, xE g A k (hS0 h1 h2 k))) := by
    rw [List.map_map]
    refine List.map_congr_left fun k hk => ?_
    have hk := List.mem_range.mp hk
    have eh : hS0 h1 h2 (0 + (1 + k)) = h1 (1 + k) := by
      unfold hS0
      rw [if_neg (by omega), if_pos (by omega), Nat.zero_add]
    show _ = (A (0 + (1 + k)), xE g A (0 + (1 + k)) (hS0 h1 h2 (0 + (1 + k))))
    rw [eh]
  have hR2 : (List.range 40).map (fun k => (A (40 + (1 + k)), xE g A (40 + (1 + k)) (h2 (1 + k)))) = ((List.range 40).map (fun k => 40 + (1 + k))).map (fun k => (A k, xE g A k (hS0 h1 h2 k))) := by
    rw [List.map_map]
    refine List.map_congr_left fun k hk => ?_
    have hk := List.mem_range.mp hk
    have eh : hS0 h1 h2 (40 + (1 + k)) = h2 (1 + k) := by
      unfold hS0
      rw [if_neg (by omega), if_neg (by omega), if_pos (by omega), Nat.add_sub_cancel_left]
    show _ = (A (40 + (1 + k)), xE g A (40 + (1 + k)) (hS0 h1 h2 (40 + (1 + k))))
    rw [eh]
  rw [hR1, hR2]
  unfold WD
  rw [show List.range 102 = [0] ++ ((List.range 40).map (fun k => 0 + (1 + k)) ++ ((List.range 40).map (fun k => 40 + (1 + k)) ++ [81, 82, 83, 84, 85, 86, 87, 88, 89, 90, 91, 92, 93, 94, 95, 96, 97, 98, 99, 100, 101])) from by decide +kernel]
  rw [List.map_append, List.map_append, List.map_append]
  generalize ((List.range 40).map (fun k => 0 + (1 + k))).map (fun k => (A k, xE g A k (hS0 h1 h2 k))) = X1
  generalize ((List.range 40).map (fun k => 40 + (1 + k))).map (fun k => (A k, xE g A k (hS0 h1 h2 k))) = X2
  subst hA
  simp only [List.append_assoc]
  rfl
