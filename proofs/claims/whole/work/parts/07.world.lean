/-! THE WORLD: 102 cells that stay (the class 0..92, the reference 93..101), and the Standings that are made; h: what each cell holds; a: their addresses -/
/-- a reference to a Standing, as a number: 0 for null, else its place in the pool and 1 -/
def dq (v : Int32) : Option Nat := if v = 0 then none else some (v.toNatClampNeg - 1)
def xSh (g : GP) (a : Nat → Nat) : List ((Nat → Int32) → va_E) := [
  fun f => .inr (11, [.ref (a 1), .ref (a 41), .int (f 2), .ref (a 81), .ref (a 88), .ref (a 91), .ref (a 92)]),
  fun f => .inr (3, [.int (f 0), .int (f 1), .int (f 2), .int (f 3), .int (f 4), .ref (a 2), .ref (a 3), .ref (a 4), .ref (a 5), .ref (a 13), .ref (a 21), .ref (a 23), .ref (a 30), .ref (a 31)]),
  fun f => .inl (gI g, 7, .inl (f)),
  fun f => .inl (gI g, 7, .inl (f)),
  fun f => .inl (gI g, 7, .inl (f)),
  fun f => .inl (gII g, 7, .inr (.inr (.inr (.inr (fun i => if i < 7 then some (a (6 + i)) else none))))),
  fun f => .inl (gI g, 7, .inl (f)),
  fun f => .inl (gI g, 7, .inl (f)),
  fun f => .inl (gI g, 7, .inl (f)),
  fun f => .inl (gI g, 7, .inl (f)),
  fun f => .inl (gI g, 7, .inl (f)),
  fun f => .inl (gI g, 7, .inl (f)),
  fun f => .inl (gI g, 7, .inl (f)),
  fun f => .inl (gII g, 7, .inr (.inr (.inr (.inr (fun i => if i < 7 then some (a (14 + i)) else none))))),
  fun f => .inl (gI g, 7, .inl (f)),
  fun f => .inl (gI g, 7, .inl (f)),
  fun f => .inl (gI g, 7, .inl (f)),
  fun f => .inl (gI g, 7, .inl (f)),
  fun f => .inl (gI g, 7, .inl (f)),
  fun f => .inl (gI g, 7, .inl (f)),
  fun f => .inl (gI g, 7, .inl (f)),
  fun f => .inr (6, [.ref (a 22), .int (f 1), .int (f 2)]),
  fun f => .inl (gI g, 120, .inl (f)),
  fun f => .inr (10, [.int (f 0), .int (f 1), .int (f 2), .int (f 3), .int (f 4), .ref (a 24), .ref (a 25), .ref (a 26), .ref (a 27), .ref (a 28), .ref (a 29)]),
  fun f => .inl (gI g, 10, .inl (f)),
  fun f => .inl (gI g, 10, .inl (f)),
  fun f => .inl (gI g, 120, .inl (f)),
  fun f => .inl (gI g, 120, .inl (f)),
  fun f => .inl (gI g, 120, .inl (f)),
  fun f => .inl (gI g, 4, .inl (f)),
  fun f => .inl (gS g, 8, .inr (.inr (.inr (.inr (fun i => (dq (f i)).map (fun t => a (102 + t))))))),
  fun f => .inl (gII g, 9, .inr (.inr (.inr (.inr (fun i => if i < 9 then some (a (32 + i)) else none))))),
  fun f => .inl (gI g, 7, .inl (f)),
  fun f => .inl (gI g, 7, .inl (f)),
  fun f => .inl (gI g, 7, .inl (f)),
  fun f => .inl (gI g, 7, .inl (f)),
  fun f => .inl (gI g, 7, .inl (f)),
  fun f => .inl (gI g, 7, .inl (f)),
  fun f => .inl (gI g, 7, .inl (f)),
  fun f => .inl (gI g, 7, .inl (f)),
  fun f => .inl (gI g, 7, .inl (f)),
  fun f => .inr (3, [.int (f 0), .int (f 1), .int (f 2), .int (f 3), .int (f 4), .ref (a 42), .ref (a 43), .ref (a 44), .ref (a 45), .ref (a 53), .ref (a 61), .ref (a 63), .ref (a 70), .ref (a 71)]),
  fun f => .inl (gI g, 7, .inl (f)),
  fun f => .inl (gI g, 7, .inl (f)),
  fun f => .inl (gI g, 7, .inl (f)),
  fun f => .inl (gII g, 7, .inr (.inr (.inr (.inr (fun i => if i < 7 then some (a (46 + i)) else none))))),
  fun f => .inl (gI g, 7, .inl (f)),
  fun f => .inl (gI g, 7, .inl (f)),
  fun f => .inl (gI g, 7, .inl (f)),
  fun f => .inl (gI g, 7, .inl (f)),
  fun f => .inl (gI g, 7, .inl (f)),
  fun f => .inl (gI g, 7, .inl (f)),
  fun f => .inl (gI g, 7, .inl (f)),
  fun f => .inl (gII g, 7, .inr (.inr (.inr (.inr (fun i => if i < 7 then some (a (54 + i)) else none))))),
  fun f => .inl (gI g, 7, .inl (f)),
  fun f => .inl (gI g, 7, .inl (f)),
  fun f => .inl (gI g, 7, .inl (f)),
  fun f => .inl (gI g, 7, .inl (f)),
  fun f => .inl (gI g, 7, .inl (f)),
  fun f => .inl (gI g, 7, .inl (f)),
  fun f => .inl (gI g, 7, .inl (f)),
  fun f => .inr (6, [.ref (a 62), .int (f 1), .int (f 2)]),
  fun f => .inl (gI g, 120, .inl (f)),
  fun f => .inr (10, [.int (f 0), .int (f 1), .int (f 2), .int (f 3), .int (f 4), .ref (a 64), .ref (a 65), .ref (a 66), .ref (a 67), .ref (a 68), .ref (a 69)]),
  fun f => .inl (gI g, 10, .inl (f)),
  fun f => .inl (gI g, 10, .inl (f)),
  fun f => .inl (gI g, 120, .inl (f)),
  fun f => .inl (gI g, 120, .inl (f)),
  fun f => .inl (gI g, 120, .inl (f)),
  fun f => .inl (gI g, 4, .inl (f)),
  fun f => .inl (gS g, 8, .inr (.inr (.inr (.inr (fun i => (dq (f i)).map (fun t => a (102 + t))))))),
  fun f => .inl (gII g, 9, .inr (.inr (.inr (.inr (fun i => if i < 9 then some (a (72 + i)) else none))))),
  fun f => .inl (gI g, 7, .inl (f)),
  fun f => .inl (gI g, 7, .inl (f)),
  fun f => .inl (gI g, 7, .inl (f)),
  fun f => .inl (gI g, 7, .inl (f)),
  fun f => .inl (gI g, 7, .inl (f)),
  fun f => .inl (gI g, 7, .inl (f)),
  fun f => .inl (gI g, 7, .inl (f)),
  fun f => .inl (gI g, 7, .inl (f)),
  fun f => .inl (gI g, 7, .inl (f)),
  fun f => .inr (10, [.int (f 0), .int (f 1), .int (f 2), .int (f 3), .int (f 4), .ref (a 82), .ref (a 83), .ref (a 84), .ref (a 85), .ref (a 86), .ref (a 87)]),
  fun f => .inl (gI g, 10, .inl (f)),
  fun f => .inl (gI g, 10, .inl (f)),
  fun f => .inl (gI g, 120, .inl (f)),
  fun f => .inl (gI g, 120, .inl (f)),
  fun f => .inl (gI g, 120, .inl (f)),
  fun f => .inl (gI g, 4, .inl (f)),
  fun f => .inr (8, [.ref (a 89), .ref (a 90), .int (f 2)]),
  fun f => .inr (4, [.int 8, .int 0]),
  fun f => .inl (gI g, 7, .inl (f)),
  fun f => .inl (gI g, 21, .inl (f)),
  fun f => .inl (gI g, 7, .inl (f)),
  fun f => .inr (12, [.int (f 0), .ref (a 94), .ref (a 95), .int (f 3), .int (f 4), .int (f 5), .int (f 6), .int (f 7), .ref (a 96), .ref (a 97), .int (f 10), .ref (a 98), .ref (a 99), .int (f 13), .int (f 14), .int (f 15), .int (f 16), .int (f 17), .int (f 18), .int (f 19), .int (f 20), .int (f 21), .int (f 22), .int (f 23), .int (f 24), .int (f 25), .ref (a 100), .ref (a 101), .int (f 28), .int (f 29), .int (f 30), .int (f 31)]),
  fun f => .inl (gI g, 490, .inl (f)),
  fun f => .inl (gI g, 490, .inl (f)),
  fun f => .inl (gI g, 140, .inl (f)),
  fun f => .inl (gI g, 3, .inl (f)),
  fun f => .inl (gZ g, 64, .inl (f)),
  fun f => .inl (gI g, 7, .inl (f)),
  fun f => .inl (gI g, 7, .inl (f)),
  fun f => .inl (gI g, 20, .inl (f))]
def xE (g : GP) (a : Nat → Nat) (k : Nat) : (Nat → Int32) → va_E := (xSh g a).getD k (fun _ => .inr (0, []))
abbrev PT : Type := List (Nat × Int32 × Int32)
def WD (g : GP) (a : Nat → Nat) (h : Nat → Nat → Int32) (P : PT) : va_W := (List.range 102).map (fun k => (a k, xE g a k (h k))) ++ P.mapIdx (fun i r => (a (102 + i), .inr (r.1, [.int r.2.1, .int r.2.2])))
def hu (h : Nat → Nat → Int32) (k j : Nat) (v : Int32) : Nat → Nat → Int32 := fun k' j' => if k' = k ∧ j' = j then v else h k' j'
theorem hu_row (h : Nat → Nat → Int32) (k j : Nat) (v : Int32) : hu h k j v k = upd (h k) j v := by
  funext j'
  by_cases e : j' = j
  · simp [hu, upd, e]
  · simp [hu, upd, e]
theorem hu_off {h : Nat → Nat → Int32} {k j k' : Nat} {v : Int32} (e : k' ≠ k) : hu h k j v k' = h k' := by
  funext j'
  simp [hu, e]
section WDS
variable {g : GP} {a : Nat → Nat} {h : Nat → Nat → Int32} {P : PT}
theorem WD_len : ((List.range 102).map (fun k => (a k, xE g a k (h k)))).length = 102 := by simp
theorem WD_get {k : Nat} (hk : k < 102) : (WD g a h P)[k]? = some (a k, xE g a k (h k)) := by
  unfold WD
  rw [List.getElem?_append_left (by rw [WD_len]; exact hk), List.getElem?_map, List.getElem?_range hk]
  rfl
theorem WD_pool {i : Nat} {r : Nat × Int32 × Int32} (hi : P[i]? = some r) : (WD g a h P)[102 + i]? = some (a (102 + i), .inr (r.1, [.int r.2.1, .int r.2.2])) := by
  unfold WD
  rw [List.getElem?_append_right (by rw [WD_len]; omega), WD_len, Nat.add_sub_cancel_left, List.getElem?_mapIdx, hi]
  rfl
theorem WD_set {k : Nat} {f' : Nat → Int32} {h' : Nat → Nat → Int32} (hk : k < 102) (hh : ∀ j, j ≠ k → h' j = h j) (e1 : h' k = f') : (WD g a h P).set k (a k, xE g a k f') = WD g a h' P := by
  subst e1
  unfold WD
  rw [List.set_append_left _ _ (by rw [WD_len]; exact hk)]
  congr 1
  apply List.ext_getElem?
  intro i
  rw [List.getElem?_map]
  by_cases hi : i = k
  · subst hi
    rw [List.getElem?_set_self (by rw [WD_len]; exact hk), List.getElem?_range hk]
    rfl
  · rw [List.getElem?_set_ne (Ne.symm hi), List.getElem?_map]
    cases hx : (List.range 102)[i]? with
    | none => rfl
    | some z =>
      have hz : z = i := by
        obtain ⟨h1, h2⟩ := List.getElem?_eq_some_iff.mp hx
        rw [List.getElem_range] at h2
        exact h2.symm
      subst hz
      simp only [Option.map_some]
      rw [hh z hi]
theorem WD_setI {k j : Nat} {v : Int32} {e : va_E} (hk : k < 102) (he : xE g a k (upd (h k) j v) = e) : (WD g a h P).set k (a k, e) = WD g a (hu h k j v) P := by
  subst he
  exact WD_set hk (fun j' hj => hu_off hj) (hu_row h k j v)
/-- a whole row at once -/
def hr (h : Nat → Nat → Int32) (k : Nat) (f : Nat → Int32) : Nat → Nat → Int32 := fun k' => if k' = k then f else h k'
theorem WD_setR {k : Nat} {f : Nat → Int32} {e : va_E} (hk : k < 102) (he : xE g a k f = e) : (WD g a h P).set k (a k, e) = WD g a (hr h k f) P := by
  subst he
  exact WD_set hk (fun j' hj => by simp [hr, hj]) (by simp [hr])
theorem W0 : (WD g a h P)[0]? = some (a 0, .inr (11, [.ref (a 1), .ref (a 41), .int (h 0 2), .ref (a 81), .ref (a 88), .ref (a 91), .ref (a 92)])) := WD_get (by decide)
theorem W1 : (WD g a h P)[1]? = some (a 1, .inr (3, [.int (h 1 0), .int (h 1 1), .int (h 1 2), .int (h 1 3), .int (h 1 4), .ref (a 2), .ref (a 3), .ref (a 4), .ref (a 5), .ref (a 13), .ref (a 21), .ref (a 23), .ref (a 30), .ref (a 31)])) := WD_get (by decide)
theorem W2 : (WD g a h P)[2]? = some (a 2, .inl (gI g, 7, .inl (h 2))) := WD_get (by decide)
theorem W3 : (WD g a h P)[3]? = some (a 3, .inl (gI g, 7, .inl (h 3))) := WD_get (by decide)
theorem W4 : (WD g a h P)[4]? = some (a 4, .inl (gI g, 7, .inl (h 4))) := WD_get (by decide)
theorem W5 : (WD g a h P)[5]? = some (a 5, .inl (gII g, 7, .inr (.inr (.inr (.inr (fun i => if i < 7 then some (a (6 + i)) else none)))))) := WD_get (by decide)
theorem W6 : (WD g a h P)[6]? = some (a 6, .inl (gI g, 7, .inl (h 6))) := WD_get (by decide)
theorem W7 : (WD g a h P)[7]? = some (a 7, .inl (gI g, 7, .inl (h 7))) := WD_get (by decide)
theorem W8 : (WD g a h P)[8]? = some (a 8, .inl (gI g, 7, .inl (h 8))) := WD_get (by decide)
theorem W9 : (WD g a h P)[9]? = some (a 9, .inl (gI g, 7, .inl (h 9))) := WD_get (by decide)
theorem W10 : (WD g a h P)[10]? = some (a 10, .inl (gI g, 7, .inl (h 10))) := WD_get (by decide)
theorem W11 : (WD g a h P)[11]? = some (a 11, .inl (gI g, 7, .inl (h 11))) := WD_get (by decide)
theorem W12 : (WD g a h P)[12]? = some (a 12, .inl (gI g, 7, .inl (h 12))) := WD_get (by decide)
theorem W13 : (WD g a h P)[13]? = some (a 13, .inl (gII g, 7, .inr (.inr (.inr (.inr (fun i => if i < 7 then some (a (14 + i)) else none)))))) := WD_get (by decide)
theorem W14 : (WD g a h P)[14]? = some (a 14, .inl (gI g, 7, .inl (h 14))) := WD_get (by decide)
theorem W15 : (WD g a h P)[15]? = some (a 15, .inl (gI g, 7, .inl (h 15))) := WD_get (by decide)
theorem W16 : (WD g a h P)[16]? = some (a 16, .inl (gI g, 7, .inl (h 16))) := WD_get (by decide)
theorem W17 : (WD g a h P)[17]? = some (a 17, .inl (gI g, 7, .inl (h 17))) := WD_get (by decide)
theorem W18 : (WD g a h P)[18]? = some (a 18, .inl (gI g, 7, .inl (h 18))) := WD_get (by decide)
theorem W19 : (WD g a h P)[19]? = some (a 19, .inl (gI g, 7, .inl (h 19))) := WD_get (by decide)
theorem W20 : (WD g a h P)[20]? = some (a 20, .inl (gI g, 7, .inl (h 20))) := WD_get (by decide)
theorem W21 : (WD g a h P)[21]? = some (a 21, .inr (6, [.ref (a 22), .int (h 21 1), .int (h 21 2)])) := WD_get (by decide)
theorem W22 : (WD g a h P)[22]? = some (a 22, .inl (gI g, 120, .inl (h 22))) := WD_get (by decide)
theorem W23 : (WD g a h P)[23]? = some (a 23, .inr (10, [.int (h 23 0), .int (h 23 1), .int (h 23 2), .int (h 23 3), .int (h 23 4), .ref (a 24), .ref (a 25), .ref (a 26), .ref (a 27), .ref (a 28), .ref (a 29)])) := WD_get (by decide)
theorem W24 : (WD g a h P)[24]? = some (a 24, .inl (gI g, 10, .inl (h 24))) := WD_get (by decide)
theorem W25 : (WD g a h P)[25]? = some (a 25, .inl (gI g, 10, .inl (h 25))) := WD_get (by decide)
theorem W26 : (WD g a h P)[26]? = some (a 26, .inl (gI g, 120, .inl (h 26))) := WD_get (by decide)
theorem W27 : (WD g a h P)[27]? = some (a 27, .inl (gI g, 120, .inl (h 27))) := WD_get (by decide)
theorem W28 : (WD g a h P)[28]? = some (a 28, .inl (gI g, 120, .inl (h 28))) := WD_get (by decide)
theorem W29 : (WD g a h P)[29]? = some (a 29, .inl (gI g, 4, .inl (h 29))) := WD_get (by decide)
theorem W30 : (WD g a h P)[30]? = some (a 30, .inl (gS g, 8, .inr (.inr (.inr (.inr (fun i => (dq (h 30 i)).map (fun t => a (102 + t)))))))) := WD_get (by decide)
theorem W31 : (WD g a h P)[31]? = some (a 31, .inl (gII g, 9, .inr (.inr (.inr (.inr (fun i => if i < 9 then some (a (32 + i)) else none)))))) := WD_get (by decide)
theorem W32 : (WD g a h P)[32]? = some (a 32, .inl (gI g, 7, .inl (h 32))) := WD_get (by decide)
theorem W33 : (WD g a h P)[33]? = some (a 33, .inl (gI g, 7, .inl (h 33))) := WD_get (by decide)
theorem W34 : (WD g a h P)[34]? = some (a 34, .inl (gI g, 7, .inl (h 34))) := WD_get (by decide)
theorem W35 : (WD g a h P)[35]? = some (a 35, .inl (gI g, 7, .inl (h 35))) := WD_get (by decide)
theorem W36 : (WD g a h P)[36]? = some (a 36, .inl (gI g, 7, .inl (h 36))) := WD_get (by decide)
theorem W37 : (WD g a h P)[37]? = some (a 37, .inl (gI g, 7, .inl (h 37))) := WD_get (by decide)
theorem W38 : (WD g a h P)[38]? = some (a 38, .inl (gI g, 7, .inl (h 38))) := WD_get (by decide)
theorem W39 : (WD g a h P)[39]? = some (a 39, .inl (gI g, 7, .inl (h 39))) := WD_get (by decide)
theorem W40 : (WD g a h P)[40]? = some (a 40, .inl (gI g, 7, .inl (h 40))) := WD_get (by decide)
theorem W41 : (WD g a h P)[41]? = some (a 41, .inr (3, [.int (h 41 0), .int (h 41 1), .int (h 41 2), .int (h 41 3), .int (h 41 4), .ref (a 42), .ref (a 43), .ref (a 44), .ref (a 45), .ref (a 53), .ref (a 61), .ref (a 63), .ref (a 70), .ref (a 71)])) := WD_get (by decide)
theorem W42 : (WD g a h P)[42]? = some (a 42, .inl (gI g, 7, .inl (h 42))) := WD_get (by decide)
theorem W43 : (WD g a h P)[43]? = some (a 43, .inl (gI g, 7, .inl (h 43))) := WD_get (by decide)
theorem W44 : (WD g a h P)[44]? = some (a 44, .inl (gI g, 7, .inl (h 44))) := WD_get (by decide)
theorem W45 : (WD g a h P)[45]? = some (a 45, .inl (gII g, 7, .inr (.inr (.inr (.inr (fun i => if i < 7 then some (a (46 + i)) else none)))))) := WD_get (by decide)
theorem W46 : (WD g a h P)[46]? = some (a 46, .inl (gI g, 7, .inl (h 46))) := WD_get (by decide)
theorem W47 : (WD g a h P)[47]? = some (a 47, .inl (gI g, 7, .inl (h 47))) := WD_get (by decide)
theorem W48 : (WD g a h P)[48]? = some (a 48, .inl (gI g, 7, .inl (h 48))) := WD_get (by decide)
theorem W49 : (WD g a h P)[49]? = some (a 49, .inl (gI g, 7, .inl (h 49))) := WD_get (by decide)
theorem W50 : (WD g a h P)[50]? = some (a 50, .inl (gI g, 7, .inl (h 50))) := WD_get (by decide)
theorem W51 : (WD g a h P)[51]? = some (a 51, .inl (gI g, 7, .inl (h 51))) := WD_get (by decide)
theorem W52 : (WD g a h P)[52]? = some (a 52, .inl (gI g, 7, .inl (h 52))) := WD_get (by decide)
theorem W53 : (WD g a h P)[53]? = some (a 53, .inl (gII g, 7, .inr (.inr (.inr (.inr (fun i => if i < 7 then some (a (54 + i)) else none)))))) := WD_get (by decide)
theorem W54 : (WD g a h P)[54]? = some (a 54, .inl (gI g, 7, .inl (h 54))) := WD_get (by decide)
theorem W55 : (WD g a h P)[55]? = some (a 55, .inl (gI g, 7, .inl (h 55))) := WD_get (by decide)
theorem W56 : (WD g a h P)[56]? = some (a 56, .inl (gI g, 7, .inl (h 56))) := WD_get (by decide)
theorem W57 : (WD g a h P)[57]? = some (a 57, .inl (gI g, 7, .inl (h 57))) := WD_get (by decide)
theorem W58 : (WD g a h P)[58]? = some (a 58, .inl (gI g, 7, .inl (h 58))) := WD_get (by decide)
theorem W59 : (WD g a h P)[59]? = some (a 59, .inl (gI g, 7, .inl (h 59))) := WD_get (by decide)
theorem W60 : (WD g a h P)[60]? = some (a 60, .inl (gI g, 7, .inl (h 60))) := WD_get (by decide)
theorem W61 : (WD g a h P)[61]? = some (a 61, .inr (6, [.ref (a 62), .int (h 61 1), .int (h 61 2)])) := WD_get (by decide)
theorem W62 : (WD g a h P)[62]? = some (a 62, .inl (gI g, 120, .inl (h 62))) := WD_get (by decide)
theorem W63 : (WD g a h P)[63]? = some (a 63, .inr (10, [.int (h 63 0), .int (h 63 1), .int (h 63 2), .int (h 63 3), .int (h 63 4), .ref (a 64), .ref (a 65), .ref (a 66), .ref (a 67), .ref (a 68), .ref (a 69)])) := WD_get (by decide)
theorem W64 : (WD g a h P)[64]? = some (a 64, .inl (gI g, 10, .inl (h 64))) := WD_get (by decide)
theorem W65 : (WD g a h P)[65]? = some (a 65, .inl (gI g, 10, .inl (h 65))) := WD_get (by decide)
theorem W66 : (WD g a h P)[66]? = some (a 66, .inl (gI g, 120, .inl (h 66))) := WD_get (by decide)
theorem W67 : (WD g a h P)[67]? = some (a 67, .inl (gI g, 120, .inl (h 67))) := WD_get (by decide)
theorem W68 : (WD g a h P)[68]? = some (a 68, .inl (gI g, 120, .inl (h 68))) := WD_get (by decide)
theorem W69 : (WD g a h P)[69]? = some (a 69, .inl (gI g, 4, .inl (h 69))) := WD_get (by decide)
theorem W70 : (WD g a h P)[70]? = some (a 70, .inl (gS g, 8, .inr (.inr (.inr (.inr (fun i => (dq (h 70 i)).map (fun t => a (102 + t)))))))) := WD_get (by decide)
theorem W71 : (WD g a h P)[71]? = some (a 71, .inl (gII g, 9, .inr (.inr (.inr (.inr (fun i => if i < 9 then some (a (72 + i)) else none)))))) := WD_get (by decide)
theorem W72 : (WD g a h P)[72]? = some (a 72, .inl (gI g, 7, .inl (h 72))) := WD_get (by decide)
theorem W73 : (WD g a h P)[73]? = some (a 73, .inl (gI g, 7, .inl (h 73))) := WD_get (by decide)
theorem W74 : (WD g a h P)[74]? = some (a 74, .inl (gI g, 7, .inl (h 74))) := WD_get (by decide)
theorem W75 : (WD g a h P)[75]? = some (a 75, .inl (gI g, 7, .inl (h 75))) := WD_get (by decide)
theorem W76 : (WD g a h P)[76]? = some (a 76, .inl (gI g, 7, .inl (h 76))) := WD_get (by decide)
theorem W77 : (WD g a h P)[77]? = some (a 77, .inl (gI g, 7, .inl (h 77))) := WD_get (by decide)
theorem W78 : (WD g a h P)[78]? = some (a 78, .inl (gI g, 7, .inl (h 78))) := WD_get (by decide)
theorem W79 : (WD g a h P)[79]? = some (a 79, .inl (gI g, 7, .inl (h 79))) := WD_get (by decide)
theorem W80 : (WD g a h P)[80]? = some (a 80, .inl (gI g, 7, .inl (h 80))) := WD_get (by decide)
theorem W81 : (WD g a h P)[81]? = some (a 81, .inr (10, [.int (h 81 0), .int (h 81 1), .int (h 81 2), .int (h 81 3), .int (h 81 4), .ref (a 82), .ref (a 83), .ref (a 84), .ref (a 85), .ref (a 86), .ref (a 87)])) := WD_get (by decide)
theorem W82 : (WD g a h P)[82]? = some (a 82, .inl (gI g, 10, .inl (h 82))) := WD_get (by decide)
theorem W83 : (WD g a h P)[83]? = some (a 83, .inl (gI g, 10, .inl (h 83))) := WD_get (by decide)
theorem W84 : (WD g a h P)[84]? = some (a 84, .inl (gI g, 120, .inl (h 84))) := WD_get (by decide)
theorem W85 : (WD g a h P)[85]? = some (a 85, .inl (gI g, 120, .inl (h 85))) := WD_get (by decide)
theorem W86 : (WD g a h P)[86]? = some (a 86, .inl (gI g, 120, .inl (h 86))) := WD_get (by decide)
theorem W87 : (WD g a h P)[87]? = some (a 87, .inl (gI g, 4, .inl (h 87))) := WD_get (by decide)
theorem W88 : (WD g a h P)[88]? = some (a 88, .inr (8, [.ref (a 89), .ref (a 90), .int (h 88 2)])) := WD_get (by decide)
theorem W89 : (WD g a h P)[89]? = some (a 89, .inr (4, [.int 8, .int 0])) := WD_get (by decide)
theorem W90 : (WD g a h P)[90]? = some (a 90, .inl (gI g, 7, .inl (h 90))) := WD_get (by decide)
theorem W91 : (WD g a h P)[91]? = some (a 91, .inl (gI g, 21, .inl (h 91))) := WD_get (by decide)
theorem W92 : (WD g a h P)[92]? = some (a 92, .inl (gI g, 7, .inl (h 92))) := WD_get (by decide)
theorem W93 : (WD g a h P)[93]? = some (a 93, .inr (12, [.int (h 93 0), .ref (a 94), .ref (a 95), .int (h 93 3), .int (h 93 4), .int (h 93 5), .int (h 93 6), .int (h 93 7), .ref (a 96), .ref (a 97), .int (h 93 10), .ref (a 98), .ref (a 99), .int (h 93 13), .int (h 93 14), .int (h 93 15), .int (h 93 16), .int (h 93 17), .int (h 93 18), .int (h 93 19), .int (h 93 20), .int (h 93 21), .int (h 93 22), .int (h 93 23), .int (h 93 24), .int (h 93 25), .ref (a 100), .ref (a 101), .int (h 93 28), .int (h 93 29), .int (h 93 30), .int (h 93 31)])) := WD_get (by decide)
theorem W94 : (WD g a h P)[94]? = some (a 94, .inl (gI g, 490, .inl (h 94))) := WD_get (by decide)
theorem W95 : (WD g a h P)[95]? = some (a 95, .inl (gI g, 490, .inl (h 95))) := WD_get (by decide)
theorem W96 : (WD g a h P)[96]? = some (a 96, .inl (gI g, 140, .inl (h 96))) := WD_get (by decide)
theorem W97 : (WD g a h P)[97]? = some (a 97, .inl (gI g, 3, .inl (h 97))) := WD_get (by decide)
theorem W98 : (WD g a h P)[98]? = some (a 98, .inl (gZ g, 64, .inl (h 98))) := WD_get (by decide)
theorem W99 : (WD g a h P)[99]? = some (a 99, .inl (gI g, 7, .inl (h 99))) := WD_get (by decide)
theorem W100 : (WD g a h P)[100]? = some (a 100, .inl (gI g, 7, .inl (h 100))) := WD_get (by decide)
theorem W101 : (WD g a h P)[101]? = some (a 101, .inl (gI g, 20, .inl (h 101))) := WD_get (by decide)
theorem xE_S30 {j : Nat} {v : Int32} {f : Nat → Int32} : xE g a 30 (upd f j v) = .inl (gS g, 8, .inr (.inr (.inr (.inr (va_up (fun i => (dq (f i)).map (fun t => a (102 + t))) j ((dq v).map (fun t => a (102 + t)))))))) := by
  have e : (fun i => (dq (upd f j v i)).map (fun t => a (102 + t))) = va_up (fun i => (dq (f i)).map (fun t => a (102 + t))) j ((dq v).map (fun t => a (102 + t))) := by
    funext i
    by_cases hi : i = j <;> simp [va_up, upd, hi]
  exact congrArg (fun F => (Sum.inl (gS g, 8, Sum.inr (Sum.inr (Sum.inr (Sum.inr F)))) : va_E)) e
theorem xE_S70 {j : Nat} {v : Int32} {f : Nat → Int32} : xE g a 70 (upd f j v) = .inl (gS g, 8, .inr (.inr (.inr (.inr (va_up (fun i => (dq (f i)).map (fun t => a (102 + t))) j ((dq v).map (fun t => a (102 + t)))))))) := by
  have e : (fun i => (dq (upd f j v i)).map (fun t => a (102 + t))) = va_up (fun i => (dq (f i)).map (fun t => a (102 + t))) j ((dq v).map (fun t => a (102 + t))) := by
    funext i
    by_cases hi : i = j <;> simp [va_up, upd, hi]
  exact congrArg (fun F => (Sum.inl (gS g, 8, Sum.inr (Sum.inr (Sum.inr (Sum.inr F)))) : va_E)) e
theorem W0s_2 {v : Int32} : (WD g a h P).set 0 (a 0, .inr (11, [.ref (a 1), .ref (a 41), .int v, .ref (a 81), .ref (a 88), .ref (a 91), .ref (a 92)])) = WD g a (hu h 0 2 v) P := WD_setI (by decide) rfl
theorem W1s_0 {v : Int32} : (WD g a h P).set 1 (a 1, .inr (3, [.int v, .int (h 1 1), .int (h 1 2), .int (h 1 3), .int (h 1 4), .ref (a 2), .ref (a 3), .ref (a 4), .ref (a 5), .ref (a 13), .ref (a 21), .ref (a 23), .ref (a 30), .ref (a 31)])) = WD g a (hu h 1 0 v) P := WD_setI (by decide) rfl
theorem W1s_1 {v : Int32} : (WD g a h P).set 1 (a 1, .inr (3, [.int (h 1 0), .int v, .int (h 1 2), .int (h 1 3), .int (h 1 4), .ref (a 2), .ref (a 3), .ref (a 4), .ref (a 5), .ref (a 13), .ref (a 21), .ref (a 23), .ref (a 30), .ref (a 31)])) = WD g a (hu h 1 1 v) P := WD_setI (by decide) rfl
theorem W1s_2 {v : Int32} : (WD g a h P).set 1 (a 1, .inr (3, [.int (h 1 0), .int (h 1 1), .int v, .int (h 1 3), .int (h 1 4), .ref (a 2), .ref (a 3), .ref (a 4), .ref (a 5), .ref (a 13), .ref (a 21), .ref (a 23), .ref (a 30), .ref (a 31)])) = WD g a (hu h 1 2 v) P := WD_setI (by decide) rfl
theorem W1s_3 {v : Int32} : (WD g a h P).set 1 (a 1, .inr (3, [.int (h 1 0), .int (h 1 1), .int (h 1 2), .int v, .int (h 1 4), .ref (a 2), .ref (a 3), .ref (a 4), .ref (a 5), .ref (a 13), .ref (a 21), .ref (a 23), .ref (a 30), .ref (a 31)])) = WD g a (hu h 1 3 v) P := WD_setI (by decide) rfl
theorem W1s_4 {v : Int32} : (WD g a h P).set 1 (a 1, .inr (3, [.int (h 1 0), .int (h 1 1), .int (h 1 2), .int (h 1 3), .int v, .ref (a 2), .ref (a 3), .ref (a 4), .ref (a 5), .ref (a 13), .ref (a 21), .ref (a 23), .ref (a 30), .ref (a 31)])) = WD g a (hu h 1 4 v) P := WD_setI (by decide) rfl
theorem W2s {j : Nat} {v : Int32} : (WD g a h P).set 2 (a 2, .inl (gI g, 7, .inl (upd (h 2) j v))) = WD g a (hu h 2 j v) P := WD_setI (by decide) rfl
theorem W3s {j : Nat} {v : Int32} : (WD g a h P).set 3 (a 3, .inl (gI g, 7, .inl (upd (h 3) j v))) = WD g a (hu h 3 j v) P := WD_setI (by decide) rfl
theorem W4s {j : Nat} {v : Int32} : (WD g a h P).set 4 (a 4, .inl (gI g, 7, .inl (upd (h 4) j v))) = WD g a (hu h 4 j v) P := WD_setI (by decide) rfl
theorem W6s {j : Nat} {v : Int32} : (WD g a h P).set 6 (a 6, .inl (gI g, 7, .inl (upd (h 6) j v))) = WD g a (hu h 6 j v) P := WD_setI (by decide) rfl
theorem W7s {j : Nat} {v : Int32} : (WD g a h P).set 7 (a 7, .inl (gI g, 7, .inl (upd (h 7) j v))) = WD g a (hu h 7 j v) P := WD_setI (by decide) rfl
theorem W8s {j : Nat} {v : Int32} : (WD g a h P).set 8 (a 8, .inl (gI g, 7, .inl (upd (h 8) j v))) = WD g a (hu h 8 j v) P := WD_setI (by decide) rfl
theorem W9s {j : Nat} {v : Int32} : (WD g a h P).set 9 (a 9, .inl (gI g, 7, .inl (upd (h 9) j v))) = WD g a (hu h 9 j v) P := WD_setI (by decide) rfl
theorem W10s {j : Nat} {v : Int32} : (WD g a h P).set 10 (a 10, .inl (gI g, 7, .inl (upd (h 10) j v))) = WD g a (hu h 10 j v) P := WD_setI (by decide) rfl
theorem W11s {j : Nat} {v : Int32} : (WD g a h P).set 11 (a 11, .inl (gI g, 7, .inl (upd (h 11) j v))) = WD g a (hu h 11 j v) P := WD_setI (by decide) rfl
theorem W12s {j : Nat} {v : Int32} : (WD g a h P).set 12 (a 12, .inl (gI g, 7, .inl (upd (h 12) j v))) = WD g a (hu h 12 j v) P := WD_setI (by decide) rfl
theorem W14s {j : Nat} {v : Int32} : (WD g a h P).set 14 (a 14, .inl (gI g, 7, .inl (upd (h 14) j v))) = WD g a (hu h 14 j v) P := WD_setI (by decide) rfl
theorem W15s {j : Nat} {v : Int32} : (WD g a h P).set 15 (a 15, .inl (gI g, 7, .inl (upd (h 15) j v))) = WD g a (hu h 15 j v) P := WD_setI (by decide) rfl
theorem W16s {j : Nat} {v : Int32} : (WD g a h P).set 16 (a 16, .inl (gI g, 7, .inl (upd (h 16) j v))) = WD g a (hu h 16 j v) P := WD_setI (by decide) rfl
theorem W17s {j : Nat} {v : Int32} : (WD g a h P).set 17 (a 17, .inl (gI g, 7, .inl (upd (h 17) j v))) = WD g a (hu h 17 j v) P := WD_setI (by decide) rfl
theorem W18s {j : Nat} {v : Int32} : (WD g a h P).set 18 (a 18, .inl (gI g, 7, .inl (upd (h 18) j v))) = WD g a (hu h 18 j v) P := WD_setI (by decide) rfl
theorem W19s {j : Nat} {v : Int32} : (WD g a h P).set 19 (a 19, .inl (gI g, 7, .inl (upd (h 19) j v))) = WD g a (hu h 19 j v) P := WD_setI (by decide) rfl
theorem W20s {j : Nat} {v : Int32} : (WD g a h P).set 20 (a 20, .inl (gI g, 7, .inl (upd (h 20) j v))) = WD g a (hu h 20 j v) P := WD_setI (by decide) rfl
theorem W21s_1 {v : Int32} : (WD g a h P).set 21 (a 21, .inr (6, [.ref (a 22), .int v, .int (h 21 2)])) = WD g a (hu h 21 1 v) P := WD_setI (by decide) rfl
theorem W21s_2 {v : Int32} : (WD g a h P).set 21 (a 21, .inr (6, [.ref (a 22), .int (h 21 1), .int v])) = WD g a (hu h 21 2 v) P := WD_setI (by decide) rfl
theorem W22s {j : Nat} {v : Int32} : (WD g a h P).set 22 (a 22, .inl (gI g, 120, .inl (upd (h 22) j v))) = WD g a (hu h 22 j v) P := WD_setI (by decide) rfl
theorem W23s_0 {v : Int32} : (WD g a h P).set 23 (a 23, .inr (10, [.int v, .int (h 23 1), .int (h 23 2), .int (h 23 3), .int (h 23 4), .ref (a 24), .ref (a 25), .ref (a 26), .ref (a 27), .ref (a 28), .ref (a 29)])) = WD g a (hu h 23 0 v) P := WD_setI (by decide) rfl
theorem W23s_1 {v : Int32} : (WD g a h P).set 23 (a 23, .inr (10, [.int (h 23 0), .int v, .int (h 23 2), .int (h 23 3), .int (h 23 4), .ref (a 24), .ref (a 25), .ref (a 26), .ref (a 27), .ref (a 28), .ref (a 29)])) = WD g a (hu h 23 1 v) P := WD_setI (by decide) rfl
theorem W23s_2 {v : Int32} : (WD g a h P).set 23 (a 23, .inr (10, [.int (h 23 0), .int (h 23 1), .int v, .int (h 23 3), .int (h 23 4), .ref (a 24), .ref (a 25), .ref (a 26), .ref (a 27), .ref (a 28), .ref (a 29)])) = WD g a (hu h 23 2 v) P := WD_setI (by decide) rfl
theorem W23s_3 {v : Int32} : (WD g a h P).set 23 (a 23, .inr (10, [.int (h 23 0), .int (h 23 1), .int (h 23 2), .int v, .int (h 23 4), .ref (a 24), .ref (a 25), .ref (a 26), .ref (a 27), .ref (a 28), .ref (a 29)])) = WD g a (hu h 23 3 v) P := WD_setI (by decide) rfl
theorem W23s_4 {v : Int32} : (WD g a h P).set 23 (a 23, .inr (10, [.int (h 23 0), .int (h 23 1), .int (h 23 2), .int (h 23 3), .int v, .ref (a 24), .ref (a 25), .ref (a 26), .ref (a 27), .ref (a 28), .ref (a 29)])) = WD g a (hu h 23 4 v) P := WD_setI (by decide) rfl
theorem W24s {j : Nat} {v : Int32} : (WD g a h P).set 24 (a 24, .inl (gI g, 10, .inl (upd (h 24) j v))) = WD g a (hu h 24 j v) P := WD_setI (by decide) rfl
theorem W25s {j : Nat} {v : Int32} : (WD g a h P).set 25 (a 25, .inl (gI g, 10, .inl (upd (h 25) j v))) = WD g a (hu h 25 j v) P := WD_setI (by decide) rfl
theorem W26s {j : Nat} {v : Int32} : (WD g a h P).set 26 (a 26, .inl (gI g, 120, .inl (upd (h 26) j v))) = WD g a (hu h 26 j v) P := WD_setI (by decide) rfl
theorem W27s {j : Nat} {v : Int32} : (WD g a h P).set 27 (a 27, .inl (gI g, 120, .inl (upd (h 27) j v))) = WD g a (hu h 27 j v) P := WD_setI (by decide) rfl
theorem W28s {j : Nat} {v : Int32} : (WD g a h P).set 28 (a 28, .inl (gI g, 120, .inl (upd (h 28) j v))) = WD g a (hu h 28 j v) P := WD_setI (by decide) rfl
theorem W29s {j : Nat} {v : Int32} : (WD g a h P).set 29 (a 29, .inl (gI g, 4, .inl (upd (h 29) j v))) = WD g a (hu h 29 j v) P := WD_setI (by decide) rfl
theorem W30s {j : Nat} {v : Int32} : (WD g a h P).set 30 (a 30, .inl (gS g, 8, .inr (.inr (.inr (.inr (va_up (fun i => (dq (h 30 i)).map (fun t => a (102 + t))) j ((dq v).map (fun t => a (102 + t))))))))) = WD g a (hu h 30 j v) P := WD_setI (by decide) xE_S30
theorem W32s {j : Nat} {v : Int32} : (WD g a h P).set 32 (a 32, .inl (gI g, 7, .inl (upd (h 32) j v))) = WD g a (hu h 32 j v) P := WD_setI (by decide) rfl
theorem W33s {j : Nat} {v : Int32} : (WD g a h P).set 33 (a 33, .inl (gI g, 7, .inl (upd (h 33) j v))) = WD g a (hu h 33 j v) P := WD_setI (by decide) rfl
theorem W34s {j : Nat} {v : Int32} : (WD g a h P).set 34 (a 34, .inl (gI g, 7, .inl (upd (h 34) j v))) = WD g a (hu h 34 j v) P := WD_setI (by decide) rfl
theorem W35s {j : Nat} {v : Int32} : (WD g a h P).set 35 (a 35, .inl (gI g, 7, .inl (upd (h 35) j v))) = WD g a (hu h 35 j v) P := WD_setI (by decide) rfl
theorem W36s {j : Nat} {v : Int32} : (WD g a h P).set 36 (a 36, .inl (gI g, 7, .inl (upd (h 36) j v))) = WD g a (hu h 36 j v) P := WD_setI (by decide) rfl
theorem W37s {j : Nat} {v : Int32} : (WD g a h P).set 37 (a 37, .inl (gI g, 7, .inl (upd (h 37) j v))) = WD g a (hu h 37 j v) P := WD_setI (by decide) rfl
theorem W38s {j : Nat} {v : Int32} : (WD g a h P).set 38 (a 38, .inl (gI g, 7, .inl (upd (h 38) j v))) = WD g a (hu h 38 j v) P := WD_setI (by decide) rfl
theorem W39s {j : Nat} {v : Int32} : (WD g a h P).set 39 (a 39, .inl (gI g, 7, .inl (upd (h 39) j v))) = WD g a (hu h 39 j v) P := WD_setI (by decide) rfl
theorem W40s {j : Nat} {v : Int32} : (WD g a h P).set 40 (a 40, .inl (gI g, 7, .inl (upd (h 40) j v))) = WD g a (hu h 40 j v) P := WD_setI (by decide) rfl
theorem W41s_0 {v : Int32} : (WD g a h P).set 41 (a 41, .inr (3, [.int v, .int (h 41 1), .int (h 41 2), .int (h 41 3), .int (h 41 4), .ref (a 42), .ref (a 43), .ref (a 44), .ref (a 45), .ref (a 53), .ref (a 61), .ref (a 63), .ref (a 70), .ref (a 71)])) = WD g a (hu h 41 0 v) P := WD_setI (by decide) rfl
theorem W41s_1 {v : Int32} : (WD g a h P).set 41 (a 41, .inr (3, [.int (h 41 0), .int v, .int (h 41 2), .int (h 41 3), .int (h 41 4), .ref (a 42), .ref (a 43), .ref (a 44), .ref (a 45), .ref (a 53), .ref (a 61), .ref (a 63), .ref (a 70), .ref (a 71)])) = WD g a (hu h 41 1 v) P := WD_setI (by decide) rfl
theorem W41s_2 {v : Int32} : (WD g a h P).set 41 (a 41, .inr (3, [.int (h 41 0), .int (h 41 1), .int v, .int (h 41 3), .int (h 41 4), .ref (a 42), .ref (a 43), .ref (a 44), .ref (a 45), .ref (a 53), .ref (a 61), .ref (a 63), .ref (a 70), .ref (a 71)])) = WD g a (hu h 41 2 v) P := WD_setI (by decide) rfl
theorem W41s_3 {v : Int32} : (WD g a h P).set 41 (a 41, .inr (3, [.int (h 41 0), .int (h 41 1), .int (h 41 2), .int v, .int (h 41 4), .ref (a 42), .ref (a 43), .ref (a 44), .ref (a 45), .ref (a 53), .ref (a 61), .ref (a 63), .ref (a 70), .ref (a 71)])) = WD g a (hu h 41 3 v) P := WD_setI (by decide) rfl
theorem W41s_4 {v : Int32} : (WD g a h P).set 41 (a 41, .inr (3, [.int (h 41 0), .int (h 41 1), .int (h 41 2), .int (h 41 3), .int v, .ref (a 42), .ref (a 43), .ref (a 44), .ref (a 45), .ref (a 53), .ref (a 61), .ref (a 63), .ref (a 70), .ref (a 71)])) = WD g a (hu h 41 4 v) P := WD_setI (by decide) rfl
theorem W42s {j : Nat} {v : Int32} : (WD g a h P).set 42 (a 42, .inl (gI g, 7, .inl (upd (h 42) j v))) = WD g a (hu h 42 j v) P := WD_setI (by decide) rfl
theorem W43s {j : Nat} {v : Int32} : (WD g a h P).set 43 (a 43, .inl (gI g, 7, .inl (upd (h 43) j v))) = WD g a (hu h 43 j v) P := WD_setI (by decide) rfl
theorem W44s {j : Nat} {v : Int32} : (WD g a h P).set 44 (a 44, .inl (gI g, 7, .inl (upd (h 44) j v))) = WD g a (hu h 44 j v) P := WD_setI (by decide) rfl
theorem W46s {j : Nat} {v : Int32} : (WD g a h P).set 46 (a 46, .inl (gI g, 7, .inl (upd (h 46) j v))) = WD g a (hu h 46 j v) P := WD_setI (by decide) rfl
theorem W47s {j : Nat} {v : Int32} : (WD g a h P).set 47 (a 47, .inl (gI g, 7, .inl (upd (h 47) j v))) = WD g a (hu h 47 j v) P := WD_setI (by decide) rfl
theorem W48s {j : Nat} {v : Int32} : (WD g a h P).set 48 (a 48, .inl (gI g, 7, .inl (upd (h 48) j v))) = WD g a (hu h 48 j v) P := WD_setI (by decide) rfl
theorem W49s {j : Nat} {v : Int32} : (WD g a h P).set 49 (a 49, .inl (gI g, 7, .inl (upd (h 49) j v))) = WD g a (hu h 49 j v) P := WD_setI (by decide) rfl
theorem W50s {j : Nat} {v : Int32} : (WD g a h P).set 50 (a 50, .inl (gI g, 7, .inl (upd (h 50) j v))) = WD g a (hu h 50 j v) P := WD_setI (by decide) rfl
theorem W51s {j : Nat} {v : Int32} : (WD g a h P).set 51 (a 51, .inl (gI g, 7, .inl (upd (h 51) j v))) = WD g a (hu h 51 j v) P := WD_setI (by decide) rfl
theorem W52s {j : Nat} {v : Int32} : (WD g a h P).set 52 (a 52, .inl (gI g, 7, .inl (upd (h 52) j v))) = WD g a (hu h 52 j v) P := WD_setI (by decide) rfl
theorem W54s {j : Nat} {v : Int32} : (WD g a h P).set 54 (a 54, .inl (gI g, 7, .inl (upd (h 54) j v))) = WD g a (hu h 54 j v) P := WD_setI (by decide) rfl
theorem W55s {j : Nat} {v : Int32} : (WD g a h P).set 55 (a 55, .inl (gI g, 7, .inl (upd (h 55) j v))) = WD g a (hu h 55 j v) P := WD_setI (by decide) rfl
theorem W56s {j : Nat} {v : Int32} : (WD g a h P).set 56 (a 56, .inl (gI g, 7, .inl (upd (h 56) j v))) = WD g a (hu h 56 j v) P := WD_setI (by decide) rfl
theorem W57s {j : Nat} {v : Int32} : (WD g a h P).set 57 (a 57, .inl (gI g, 7, .inl (upd (h 57) j v))) = WD g a (hu h 57 j v) P := WD_setI (by decide) rfl
theorem W58s {j : Nat} {v : Int32} : (WD g a h P).set 58 (a 58, .inl (gI g, 7, .inl (upd (h 58) j v))) = WD g a (hu h 58 j v) P := WD_setI (by decide) rfl
theorem W59s {j : Nat} {v : Int32} : (WD g a h P).set 59 (a 59, .inl (gI g, 7, .inl (upd (h 59) j v))) = WD g a (hu h 59 j v) P := WD_setI (by decide) rfl
theorem W60s {j : Nat} {v : Int32} : (WD g a h P).set 60 (a 60, .inl (gI g, 7, .inl (upd (h 60) j v))) = WD g a (hu h 60 j v) P := WD_setI (by decide) rfl
theorem W61s_1 {v : Int32} : (WD g a h P).set 61 (a 61, .inr (6, [.ref (a 62), .int v, .int (h 61 2)])) = WD g a (hu h 61 1 v) P := WD_setI (by decide) rfl
theorem W61s_2 {v : Int32} : (WD g a h P).set 61 (a 61, .inr (6, [.ref (a 62), .int (h 61 1), .int v])) = WD g a (hu h 61 2 v) P := WD_setI (by decide) rfl
theorem W62s {j : Nat} {v : Int32} : (WD g a h P).set 62 (a 62, .inl (gI g, 120, .inl (upd (h 62) j v))) = WD g a (hu h 62 j v) P := WD_setI (by decide) rfl
theorem W63s_0 {v : Int32} : (WD g a h P).set 63 (a 63, .inr (10, [.int v, .int (h 63 1), .int (h 63 2), .int (h 63 3), .int (h 63 4), .ref (a 64), .ref (a 65), .ref (a 66), .ref (a 67), .ref (a 68), .ref (a 69)])) = WD g a (hu h 63 0 v) P := WD_setI (by decide) rfl
theorem W63s_1 {v : Int32} : (WD g a h P).set 63 (a 63, .inr (10, [.int (h 63 0), .int v, .int (h 63 2), .int (h 63 3), .int (h 63 4), .ref (a 64), .ref (a 65), .ref (a 66), .ref (a 67), .ref (a 68), .ref (a 69)])) = WD g a (hu h 63 1 v) P := WD_setI (by decide) rfl
theorem W63s_2 {v : Int32} : (WD g a h P).set 63 (a 63, .inr (10, [.int (h 63 0), .int (h 63 1), .int v, .int (h 63 3), .int (h 63 4), .ref (a 64), .ref (a 65), .ref (a 66), .ref (a 67), .ref (a 68), .ref (a 69)])) = WD g a (hu h 63 2 v) P := WD_setI (by decide) rfl
theorem W63s_3 {v : Int32} : (WD g a h P).set 63 (a 63, .inr (10, [.int (h 63 0), .int (h 63 1), .int (h 63 2), .int v, .int (h 63 4), .ref (a 64), .ref (a 65), .ref (a 66), .ref (a 67), .ref (a 68), .ref (a 69)])) = WD g a (hu h 63 3 v) P := WD_setI (by decide) rfl
theorem W63s_4 {v : Int32} : (WD g a h P).set 63 (a 63, .inr (10, [.int (h 63 0), .int (h 63 1), .int (h 63 2), .int (h 63 3), .int v, .ref (a 64), .ref (a 65), .ref (a 66), .ref (a 67), .ref (a 68), .ref (a 69)])) = WD g a (hu h 63 4 v) P := WD_setI (by decide) rfl
theorem W64s {j : Nat} {v : Int32} : (WD g a h P).set 64 (a 64, .inl (gI g, 10, .inl (upd (h 64) j v))) = WD g a (hu h 64 j v) P := WD_setI (by decide) rfl
theorem W65s {j : Nat} {v : Int32} : (WD g a h P).set 65 (a 65, .inl (gI g, 10, .inl (upd (h 65) j v))) = WD g a (hu h 65 j v) P := WD_setI (by decide) rfl
theorem W66s {j : Nat} {v : Int32} : (WD g a h P).set 66 (a 66, .inl (gI g, 120, .inl (upd (h 66) j v))) = WD g a (hu h 66 j v) P := WD_setI (by decide) rfl
theorem W67s {j : Nat} {v : Int32} : (WD g a h P).set 67 (a 67, .inl (gI g, 120, .inl (upd (h 67) j v))) = WD g a (hu h 67 j v) P := WD_setI (by decide) rfl
theorem W68s {j : Nat} {v : Int32} : (WD g a h P).set 68 (a 68, .inl (gI g, 120, .inl (upd (h 68) j v))) = WD g a (hu h 68 j v) P := WD_setI (by decide) rfl
theorem W69s {j : Nat} {v : Int32} : (WD g a h P).set 69 (a 69, .inl (gI g, 4, .inl (upd (h 69) j v))) = WD g a (hu h 69 j v) P := WD_setI (by decide) rfl
theorem W70s {j : Nat} {v : Int32} : (WD g a h P).set 70 (a 70, .inl (gS g, 8, .inr (.inr (.inr (.inr (va_up (fun i => (dq (h 70 i)).map (fun t => a (102 + t))) j ((dq v).map (fun t => a (102 + t))))))))) = WD g a (hu h 70 j v) P := WD_setI (by decide) xE_S70
theorem W72s {j : Nat} {v : Int32} : (WD g a h P).set 72 (a 72, .inl (gI g, 7, .inl (upd (h 72) j v))) = WD g a (hu h 72 j v) P := WD_setI (by decide) rfl
theorem W73s {j : Nat} {v : Int32} : (WD g a h P).set 73 (a 73, .inl (gI g, 7, .inl (upd (h 73) j v))) = WD g a (hu h 73 j v) P := WD_setI (by decide) rfl
theorem W74s {j : Nat} {v : Int32} : (WD g a h P).set 74 (a 74, .inl (gI g, 7, .inl (upd (h 74) j v))) = WD g a (hu h 74 j v) P := WD_setI (by decide) rfl
theorem W75s {j : Nat} {v : Int32} : (WD g a h P).set 75 (a 75, .inl (gI g, 7, .inl (upd (h 75) j v))) = WD g a (hu h 75 j v) P := WD_setI (by decide) rfl
theorem W76s {j : Nat} {v : Int32} : (WD g a h P).set 76 (a 76, .inl (gI g, 7, .inl (upd (h 76) j v))) = WD g a (hu h 76 j v) P := WD_setI (by decide) rfl
theorem W77s {j : Nat} {v : Int32} : (WD g a h P).set 77 (a 77, .inl (gI g, 7, .inl (upd (h 77) j v))) = WD g a (hu h 77 j v) P := WD_setI (by decide) rfl
theorem W78s {j : Nat} {v : Int32} : (WD g a h P).set 78 (a 78, .inl (gI g, 7, .inl (upd (h 78) j v))) = WD g a (hu h 78 j v) P := WD_setI (by decide) rfl
theorem W79s {j : Nat} {v : Int32} : (WD g a h P).set 79 (a 79, .inl (gI g, 7, .inl (upd (h 79) j v))) = WD g a (hu h 79 j v) P := WD_setI (by decide) rfl
theorem W80s {j : Nat} {v : Int32} : (WD g a h P).set 80 (a 80, .inl (gI g, 7, .inl (upd (h 80) j v))) = WD g a (hu h 80 j v) P := WD_setI (by decide) rfl
theorem W81s_0 {v : Int32} : (WD g a h P).set 81 (a 81, .inr (10, [.int v, .int (h 81 1), .int (h 81 2), .int (h 81 3), .int (h 81 4), .ref (a 82), .ref (a 83), .ref (a 84), .ref (a 85), .ref (a 86), .ref (a 87)])) = WD g a (hu h 81 0 v) P := WD_setI (by decide) rfl
theorem W81s_1 {v : Int32} : (WD g a h P).set 81 (a 81, .inr (10, [.int (h 81 0), .int v, .int (h 81 2), .int (h 81 3), .int (h 81 4), .ref (a 82), .ref (a 83), .ref (a 84), .ref (a 85), .ref (a 86), .ref (a 87)])) = WD g a (hu h 81 1 v) P := WD_setI (by decide) rfl
theorem W81s_2 {v : Int32} : (WD g a h P).set 81 (a 81, .inr (10, [.int (h 81 0), .int (h 81 1), .int v, .int (h 81 3), .int (h 81 4), .ref (a 82), .ref (a 83), .ref (a 84), .ref (a 85), .ref (a 86), .ref (a 87)])) = WD g a (hu h 81 2 v) P := WD_setI (by decide) rfl
theorem W81s_3 {v : Int32} : (WD g a h P).set 81 (a 81, .inr (10, [.int (h 81 0), .int (h 81 1), .int (h 81 2), .int v, .int (h 81 4), .ref (a 82), .ref (a 83), .ref (a 84), .ref (a 85), .ref (a 86), .ref (a 87)])) = WD g a (hu h 81 3 v) P := WD_setI (by decide) rfl
theorem W81s_4 {v : Int32} : (WD g a h P).set 81 (a 81, .inr (10, [.int (h 81 0), .int (h 81 1), .int (h 81 2), .int (h 81 3), .int v, .ref (a 82), .ref (a 83), .ref (a 84), .ref (a 85), .ref (a 86), .ref (a 87)])) = WD g a (hu h 81 4 v) P := WD_setI (by decide) rfl
theorem W82s {j : Nat} {v : Int32} : (WD g a h P).set 82 (a 82, .inl (gI g, 10, .inl (upd (h 82) j v))) = WD g a (hu h 82 j v) P := WD_setI (by decide) rfl
theorem W83s {j : Nat} {v : Int32} : (WD g a h P).set 83 (a 83, .inl (gI g, 10, .inl (upd (h 83) j v))) = WD g a (hu h 83 j v) P := WD_setI (by decide) rfl
theorem W84s {j : Nat} {v : Int32} : (WD g a h P).set 84 (a 84, .inl (gI g, 120, .inl (upd (h 84) j v))) = WD g a (hu h 84 j v) P := WD_setI (by decide) rfl
theorem W85s {j : Nat} {v : Int32} : (WD g a h P).set 85 (a 85, .inl (gI g, 120, .inl (upd (h 85) j v))) = WD g a (hu h 85 j v) P := WD_setI (by decide) rfl
theorem W86s {j : Nat} {v : Int32} : (WD g a h P).set 86 (a 86, .inl (gI g, 120, .inl (upd (h 86) j v))) = WD g a (hu h 86 j v) P := WD_setI (by decide) rfl
theorem W87s {j : Nat} {v : Int32} : (WD g a h P).set 87 (a 87, .inl (gI g, 4, .inl (upd (h 87) j v))) = WD g a (hu h 87 j v) P := WD_setI (by decide) rfl
theorem W88s_2 {v : Int32} : (WD g a h P).set 88 (a 88, .inr (8, [.ref (a 89), .ref (a 90), .int v])) = WD g a (hu h 88 2 v) P := WD_setI (by decide) rfl
theorem W90s {j : Nat} {v : Int32} : (WD g a h P).set 90 (a 90, .inl (gI g, 7, .inl (upd (h 90) j v))) = WD g a (hu h 90 j v) P := WD_setI (by decide) rfl
theorem W91s {j : Nat} {v : Int32} : (WD g a h P).set 91 (a 91, .inl (gI g, 21, .inl (upd (h 91) j v))) = WD g a (hu h 91 j v) P := WD_setI (by decide) rfl
theorem W92s {j : Nat} {v : Int32} : (WD g a h P).set 92 (a 92, .inl (gI g, 7, .inl (upd (h 92) j v))) = WD g a (hu h 92 j v) P := WD_setI (by decide) rfl
theorem W93s_0 {v : Int32} : (WD g a h P).set 93 (a 93, .inr (12, [.int v, .ref (a 94), .ref (a 95), .int (h 93 3), .int (h 93 4), .int (h 93 5), .int (h 93 6), .int (h 93 7), .ref (a 96), .ref (a 97), .int (h 93 10), .ref (a 98), .ref (a 99), .int (h 93 13), .int (h 93 14), .int (h 93 15), .int (h 93 16), .int (h 93 17), .int (h 93 18), .int (h 93 19), .int (h 93 20), .int (h 93 21), .int (h 93 22), .int (h 93 23), .int (h 93 24), .int (h 93 25), .ref (a 100), .ref (a 101), .int (h 93 28), .int (h 93 29), .int (h 93 30), .int (h 93 31)])) = WD g a (hu h 93 0 v) P := WD_setI (by decide) rfl
theorem W93s_3 {v : Int32} : (WD g a h P).set 93 (a 93, .inr (12, [.int (h 93 0), .ref (a 94), .ref (a 95), .int v, .int (h 93 4), .int (h 93 5), .int (h 93 6), .int (h 93 7), .ref (a 96), .ref (a 97), .int (h 93 10), .ref (a 98), .ref (a 99), .int (h 93 13), .int (h 93 14), .int (h 93 15), .int (h 93 16), .int (h 93 17), .int (h 93 18), .int (h 93 19), .int (h 93 20), .int (h 93 21), .int (h 93 22), .int (h 93 23), .int (h 93 24), .int (h 93 25), .ref (a 100), .ref (a 101), .int (h 93 28), .int (h 93 29), .int (h 93 30), .int (h 93 31)])) = WD g a (hu h 93 3 v) P := WD_setI (by decide) rfl
theorem W93s_4 {v : Int32} : (WD g a h P).set 93 (a 93, .inr (12, [.int (h 93 0), .ref (a 94), .ref (a 95), .int (h 93 3), .int v, .int (h 93 5), .int (h 93 6), .int (h 93 7), .ref (a 96), .ref (a 97), .int (h 93 10), .ref (a 98), .ref (a 99), .int (h 93 13), .int (h 93 14), .int (h 93 15), .int (h 93 16), .int (h 93 17), .int (h 93 18), .int (h 93 19), .int (h 93 20), .int (h 93 21), .int (h 93 22), .int (h 93 23), .int (h 93 24), .int (h 93 25), .ref (a 100), .ref (a 101), .int (h 93 28), .int (h 93 29), .int (h 93 30), .int (h 93 31)])) = WD g a (hu h 93 4 v) P := WD_setI (by decide) rfl
theorem W93s_5 {v : Int32} : (WD g a h P).set 93 (a 93, .inr (12, [.int (h 93 0), .ref (a 94), .ref (a 95), .int (h 93 3), .int (h 93 4), .int v, .int (h 93 6), .int (h 93 7), .ref (a 96), .ref (a 97), .int (h 93 10), .ref (a 98), .ref (a 99), .int (h 93 13), .int (h 93 14), .int (h 93 15), .int (h 93 16), .int (h 93 17), .int (h 93 18), .int (h 93 19), .int (h 93 20), .int (h 93 21), .int (h 93 22), .int (h 93 23), .int (h 93 24), .int (h 93 25), .ref (a 100), .ref (a 101), .int (h 93 28), .int (h 93 29), .int (h 93 30), .int (h 93 31)])) = WD g a (hu h 93 5 v) P := WD_setI (by decide) rfl
theorem W93s_6 {v : Int32} : (WD g a h P).set 93 (a 93, .inr (12, [.int (h 93 0), .ref (a 94), .ref (a 95), .int (h 93 3), .int (h 93 4), .int (h 93 5), .int v, .int (h 93 7), .ref (a 96), .ref (a 97), .int (h 93 10), .ref (a 98), .ref (a 99), .int (h 93 13), .int (h 93 14), .int (h 93 15), .int (h 93 16), .int (h 93 17), .int (h 93 18), .int (h 93 19), .int (h 93 20), .int (h 93 21), .int (h 93 22), .int (h 93 23), .int (h 93 24), .int (h 93 25), .ref (a 100), .ref (a 101), .int (h 93 28), .int (h 93 29), .int (h 93 30), .int (h 93 31)])) = WD g a (hu h 93 6 v) P := WD_setI (by decide) rfl
theorem W93s_7 {v : Int32} : (WD g a h P).set 93 (a 93, .inr (12, [.int (h 93 0), .ref (a 94), .ref (a 95), .int (h 93 3), .int (h 93 4), .int (h 93 5), .int (h 93 6), .int v, .ref (a 96), .ref (a 97), .int (h 93 10), .ref (a 98), .ref (a 99), .int (h 93 13), .int (h 93 14), .int (h 93 15), .int (h 93 16), .int (h 93 17), .int (h 93 18), .int (h 93 19), .int (h 93 20), .int (h 93 21), .int (h 93 22), .int (h 93 23), .int (h 93 24), .int (h 93 25), .ref (a 100), .ref (a 101), .int (h 93 28), .int (h 93 29), .int (h 93 30), .int (h 93 31)])) = WD g a (hu h 93 7 v) P := WD_setI (by decide) rfl
theorem W93s_10 {v : Int32} : (WD g a h P).set 93 (a 93, .inr (12, [.int (h 93 0), .ref (a 94), .ref (a 95), .int (h 93 3), .int (h 93 4), .int (h 93 5), .int (h 93 6), .int (h 93 7), .ref (a 96), .ref (a 97), .int v, .ref (a 98), .ref (a 99), .int (h 93 13), .int (h 93 14), .int (h 93 15), .int (h 93 16), .int (h 93 17), .int (h 93 18), .int (h 93 19), .int (h 93 20), .int (h 93 21), .int (h 93 22), .int (h 93 23), .int (h 93 24), .int (h 93 25), .ref (a 100), .ref (a 101), .int (h 93 28), .int (h 93 29), .int (h 93 30), .int (h 93 31)])) = WD g a (hu h 93 10 v) P := WD_setI (by decide) rfl
theorem W93s_13 {v : Int32} : (WD g a h P).set 93 (a 93, .inr (12, [.int (h 93 0), .ref (a 94), .ref (a 95), .int (h 93 3), .int (h 93 4), .int (h 93 5), .int (h 93 6), .int (h 93 7), .ref (a 96), .ref (a 97), .int (h 93 10), .ref (a 98), .ref (a 99), .int v, .int (h 93 14), .int (h 93 15), .int (h 93 16), .int (h 93 17), .int (h 93 18), .int (h 93 19), .int (h 93 20), .int (h 93 21), .int (h 93 22), .int (h 93 23), .int (h 93 24), .int (h 93 25), .ref (a 100), .ref (a 101), .int (h 93 28), .int (h 93 29), .int (h 93 30), .int (h 93 31)])) = WD g a (hu h 93 13 v) P := WD_setI (by decide) rfl
theorem W93s_14 {v : Int32} : (WD g a h P).set 93 (a 93, .inr (12, [.int (h 93 0), .ref (a 94), .ref (a 95), .int (h 93 3), .int (h 93 4), .int (h 93 5), .int (h 93 6), .int (h 93 7), .ref (a 96), .ref (a 97), .int (h 93 10), .ref (a 98), .ref (a 99), .int (h 93 13), .int v, .int (h 93 15), .int (h 93 16), .int (h 93 17), .int (h 93 18), .int (h 93 19), .int (h 93 20), .int (h 93 21), .int (h 93 22), .int (h 93 23), .int (h 93 24), .int (h 93 25), .ref (a 100), .ref (a 101), .int (h 93 28), .int (h 93 29), .int (h 93 30), .int (h 93 31)])) = WD g a (hu h 93 14 v) P := WD_setI (by decide) rfl
theorem W93s_15 {v : Int32} : (WD g a h P).set 93 (a 93, .inr (12, [.int (h 93 0), .ref (a 94), .ref (a 95), .int (h 93 3), .int (h 93 4), .int (h 93 5), .int (h 93 6), .int (h 93 7), .ref (a 96), .ref (a 97), .int (h 93 10), .ref (a 98), .ref (a 99), .int (h 93 13), .int (h 93 14), .int v, .int (h 93 16), .int (h 93 17), .int (h 93 18), .int (h 93 19), .int (h 93 20), .int (h 93 21), .int (h 93 22), .int (h 93 23), .int (h 93 24), .int (h 93 25), .ref (a 100), .ref (a 101), .int (h 93 28), .int (h 93 29), .int (h 93 30), .int (h 93 31)])) = WD g a (hu h 93 15 v) P := WD_setI (by decide) rfl
theorem W93s_16 {v : Int32} : (WD g a h P).set 93 (a 93, .inr (12, [.int (h 93 0), .ref (a 94), .ref (a 95), .int (h 93 3), .int (h 93 4), .int (h 93 5), .int (h 93 6), .int (h 93 7), .ref (a 96), .ref (a 97), .int (h 93 10), .ref (a 98), .ref (a 99), .int (h 93 13), .int (h 93 14), .int (h 93 15), .int v, .int (h 93 17), .int (h 93 18), .int (h 93 19), .int (h 93 20), .int (h 93 21), .int (h 93 22), .int (h 93 23), .int (h 93 24), .int (h 93 25), .ref (a 100), .ref (a 101), .int (h 93 28), .int (h 93 29), .int (h 93 30), .int (h 93 31)])) = WD g a (hu h 93 16 v) P := WD_setI (by decide) rfl
theorem W93s_17 {v : Int32} : (WD g a h P).set 93 (a 93, .inr (12, [.int (h 93 0), .ref (a 94), .ref (a 95), .int (h 93 3), .int (h 93 4), .int (h 93 5), .int (h 93 6), .int (h 93 7), .ref (a 96), .ref (a 97), .int (h 93 10), .ref (a 98), .ref (a 99), .int (h 93 13), .int (h 93 14), .int (h 93 15), .int (h 93 16), .int v, .int (h 93 18), .int (h 93 19), .int (h 93 20), .int (h 93 21), .int (h 93 22), .int (h 93 23), .int (h 93 24), .int (h 93 25), .ref (a 100), .ref (a 101), .int (h 93 28), .int (h 93 29), .int (h 93 30), .int (h 93 31)])) = WD g a (hu h 93 17 v) P := WD_setI (by decide) rfl
theorem W93s_18 {v : Int32} : (WD g a h P).set 93 (a 93, .inr (12, [.int (h 93 0), .ref (a 94), .ref (a 95), .int (h 93 3), .int (h 93 4), .int (h 93 5), .int (h 93 6), .int (h 93 7), .ref (a 96), .ref (a 97), .int (h 93 10), .ref (a 98), .ref (a 99), .int (h 93 13), .int (h 93 14), .int (h 93 15), .int (h 93 16), .int (h 93 17), .int v, .int (h 93 19), .int (h 93 20), .int (h 93 21), .int (h 93 22), .int (h 93 23), .int (h 93 24), .int (h 93 25), .ref (a 100), .ref (a 101), .int (h 93 28), .int (h 93 29), .int (h 93 30), .int (h 93 31)])) = WD g a (hu h 93 18 v) P := WD_setI (by decide) rfl
theorem W93s_19 {v : Int32} : (WD g a h P).set 93 (a 93, .inr (12, [.int (h 93 0), .ref (a 94), .ref (a 95), .int (h 93 3), .int (h 93 4), .int (h 93 5), .int (h 93 6), .int (h 93 7), .ref (a 96), .ref (a 97), .int (h 93 10), .ref (a 98), .ref (a 99), .int (h 93 13), .int (h 93 14), .int (h 93 15), .int (h 93 16), .int (h 93 17), .int (h 93 18), .int v, .int (h 93 20), .int (h 93 21), .int (h 93 22), .int (h 93 23), .int (h 93 24), .int (h 93 25), .ref (a 100), .ref (a 101), .int (h 93 28), .int (h 93 29), .int (h 93 30), .int (h 93 31)])) = WD g a (hu h 93 19 v) P := WD_setI (by decide) rfl
theorem W93s_20 {v : Int32} : (WD g a h P).set 93 (a 93, .inr (12, [.int (h 93 0), .ref (a 94), .ref (a 95), .int (h 93 3), .int (h 93 4), .int (h 93 5), .int (h 93 6), .int (h 93 7), .ref (a 96), .ref (a 97), .int (h 93 10), .ref (a 98), .ref (a 99), .int (h 93 13), .int (h 93 14), .int (h 93 15), .int (h 93 16), .int (h 93 17), .int (h 93 18), .int (h 93 19), .int v, .int (h 93 21), .int (h 93 22), .int (h 93 23), .int (h 93 24), .int (h 93 25), .ref (a 100), .ref (a 101), .int (h 93 28), .int (h 93 29), .int (h 93 30), .int (h 93 31)])) = WD g a (hu h 93 20 v) P := WD_setI (by decide) rfl
theorem W93s_21 {v : Int32} : (WD g a h P).set 93 (a 93, .inr (12, [.int (h 93 0), .ref (a 94), .ref (a 95), .int (h 93 3), .int (h 93 4), .int (h 93 5), .int (h 93 6), .int (h 93 7), .ref (a 96), .ref (a 97), .int (h 93 10), .ref (a 98), .ref (a 99), .int (h 93 13), .int (h 93 14), .int (h 93 15), .int (h 93 16), .int (h 93 17), .int (h 93 18), .int (h 93 19), .int (h 93 20), .int v, .int (h 93 22), .int (h 93 23), .int (h 93 24), .int (h 93 25), .ref (a 100), .ref (a 101), .int (h 93 28), .int (h 93 29), .int (h 93 30), .int (h 93 31)])) = WD g a (hu h 93 21 v) P := WD_setI (by decide) rfl
theorem W93s_22 {v : Int32} : (WD g a h P).set 93 (a 93, .inr (12, [.int (h 93 0), .ref (a 94), .ref (a 95), .int (h 93 3), .int (h 93 4), .int (h 93 5), .int (h 93 6), .int (h 93 7), .ref (a 96), .ref (a 97), .int (h 93 10), .ref (a 98), .ref (a 99), .int (h 93 13), .int (h 93 14), .int (h 93 15), .int (h 93 16), .int (h 93 17), .int (h 93 18), .int (h 93 19), .int (h 93 20), .int (h 93 21), .int v, .int (h 93 23), .int (h 93 24), .int (h 93 25), .ref (a 100), .ref (a 101), .int (h 93 28), .int (h 93 29), .int (h 93 30), .int (h 93 31)])) = WD g a (hu h 93 22 v) P := WD_setI (by decide) rfl
theorem W93s_23 {v : Int32} : (WD g a h P).set 93 (a 93, .inr (12, [.int (h 93 0), .ref (a 94), .ref (a 95), .int (h 93 3), .int (h 93 4), .int (h 93 5), .int (h 93 6), .int (h 93 7), .ref (a 96), .ref (a 97), .int (h 93 10), .ref (a 98), .ref (a 99), .int (h 93 13), .int (h 93 14), .int (h 93 15), .int (h 93 16), .int (h 93 17), .int (h 93 18), .int (h 93 19), .int (h 93 20), .int (h 93 21), .int (h 93 22), .int v, .int (h 93 24), .int (h 93 25), .ref (a 100), .ref (a 101), .int (h 93 28), .int (h 93 29), .int (h 93 30), .int (h 93 31)])) = WD g a (hu h 93 23 v) P := WD_setI (by decide) rfl
theorem W93s_24 {v : Int32} : (WD g a h P).set 93 (a 93, .inr (12, [.int (h 93 0), .ref (a 94), .ref (a 95), .int (h 93 3), .int (h 93 4), .int (h 93 5), .int (h 93 6), .int (h 93 7), .ref (a 96), .ref (a 97), .int (h 93 10), .ref (a 98), .ref (a 99), .int (h 93 13), .int (h 93 14), .int (h 93 15), .int (h 93 16), .int (h 93 17), .int (h 93 18), .int (h 93 19), .int (h 93 20), .int (h 93 21), .int (h 93 22), .int (h 93 23), .int v, .int (h 93 25), .ref (a 100), .ref (a 101), .int (h 93 28), .int (h 93 29), .int (h 93 30), .int (h 93 31)])) = WD g a (hu h 93 24 v) P := WD_setI (by decide) rfl
theorem W93s_25 {v : Int32} : (WD g a h P).set 93 (a 93, .inr (12, [.int (h 93 0), .ref (a 94), .ref (a 95), .int (h 93 3), .int (h 93 4), .int (h 93 5), .int (h 93 6), .int (h 93 7), .ref (a 96), .ref (a 97), .int (h 93 10), .ref (a 98), .ref (a 99), .int (h 93 13), .int (h 93 14), .int (h 93 15), .int (h 93 16), .int (h 93 17), .int (h 93 18), .int (h 93 19), .int (h 93 20), .int (h 93 21), .int (h 93 22), .int (h 93 23), .int (h 93 24), .int v, .ref (a 100), .ref (a 101), .int (h 93 28), .int (h 93 29), .int (h 93 30), .int (h 93 31)])) = WD g a (hu h 93 25 v) P := WD_setI (by decide) rfl
theorem W93s_28 {v : Int32} : (WD g a h P).set 93 (a 93, .inr (12, [.int (h 93 0), .ref (a 94), .ref (a 95), .int (h 93 3), .int (h 93 4), .int (h 93 5), .int (h 93 6), .int (h 93 7), .ref (a 96), .ref (a 97), .int (h 93 10), .ref (a 98), .ref (a 99), .int (h 93 13), .int (h 93 14), .int (h 93 15), .int (h 93 16), .int (h 93 17), .int (h 93 18), .int (h 93 19), .int (h 93 20), .int (h 93 21), .int (h 93 22), .int (h 93 23), .int (h 93 24), .int (h 93 25), .ref (a 100), .ref (a 101), .int v, .int (h 93 29), .int (h 93 30), .int (h 93 31)])) = WD g a (hu h 93 28 v) P := WD_setI (by decide) rfl
theorem W93s_29 {v : Int32} : (WD g a h P).set 93 (a 93, .inr (12, [.int (h 93 0), .ref (a 94), .ref (a 95), .int (h 93 3), .int (h 93 4), .int (h 93 5), .int (h 93 6), .int (h 93 7), .ref (a 96), .ref (a 97), .int (h 93 10), .ref (a 98), .ref (a 99), .int (h 93 13), .int (h 93 14), .int (h 93 15), .int (h 93 16), .int (h 93 17), .int (h 93 18), .int (h 93 19), .int (h 93 20), .int (h 93 21), .int (h 93 22), .int (h 93 23), .int (h 93 24), .int (h 93 25), .ref (a 100), .ref (a 101), .int (h 93 28), .int v, .int (h 93 30), .int (h 93 31)])) = WD g a (hu h 93 29 v) P := WD_setI (by decide) rfl
theorem W93s_30 {v : Int32} : (WD g a h P).set 93 (a 93, .inr (12, [.int (h 93 0), .ref (a 94), .ref (a 95), .int (h 93 3), .int (h 93 4), .int (h 93 5), .int (h 93 6), .int (h 93 7), .ref (a 96), .ref (a 97), .int (h 93 10), .ref (a 98), .ref (a 99), .int (h 93 13), .int (h 93 14), .int (h 93 15), .int (h 93 16), .int (h 93 17), .int (h 93 18), .int (h 93 19), .int (h 93 20), .int (h 93 21), .int (h 93 22), .int (h 93 23), .int (h 93 24), .int (h 93 25), .ref (a 100), .ref (a 101), .int (h 93 28), .int (h 93 29), .int v, .int (h 93 31)])) = WD g a (hu h 93 30 v) P := WD_setI (by decide) rfl
theorem W93s_31 {v : Int32} : (WD g a h P).set 93 (a 93, .inr (12, [.int (h 93 0), .ref (a 94), .ref (a 95), .int (h 93 3), .int (h 93 4), .int (h 93 5), .int (h 93 6), .int (h 93 7), .ref (a 96), .ref (a 97), .int (h 93 10), .ref (a 98), .ref (a 99), .int (h 93 13), .int (h 93 14), .int (h 93 15), .int (h 93 16), .int (h 93 17), .int (h 93 18), .int (h 93 19), .int (h 93 20), .int (h 93 21), .int (h 93 22), .int (h 93 23), .int (h 93 24), .int (h 93 25), .ref (a 100), .ref (a 101), .int (h 93 28), .int (h 93 29), .int (h 93 30), .int v])) = WD g a (hu h 93 31 v) P := WD_setI (by decide) rfl
theorem W94s {j : Nat} {v : Int32} : (WD g a h P).set 94 (a 94, .inl (gI g, 490, .inl (upd (h 94) j v))) = WD g a (hu h 94 j v) P := WD_setI (by decide) rfl
theorem W95s {j : Nat} {v : Int32} : (WD g a h P).set 95 (a 95, .inl (gI g, 490, .inl (upd (h 95) j v))) = WD g a (hu h 95 j v) P := WD_setI (by decide) rfl
theorem W96s {j : Nat} {v : Int32} : (WD g a h P).set 96 (a 96, .inl (gI g, 140, .inl (upd (h 96) j v))) = WD g a (hu h 96 j v) P := WD_setI (by decide) rfl
theorem W97s {j : Nat} {v : Int32} : (WD g a h P).set 97 (a 97, .inl (gI g, 3, .inl (upd (h 97) j v))) = WD g a (hu h 97 j v) P := WD_setI (by decide) rfl
theorem W98s {j : Nat} {v : Int32} : (WD g a h P).set 98 (a 98, .inl (gZ g, 64, .inl (upd (h 98) j v))) = WD g a (hu h 98 j v) P := WD_setI (by decide) rfl
theorem W99s {j : Nat} {v : Int32} : (WD g a h P).set 99 (a 99, .inl (gI g, 7, .inl (upd (h 99) j v))) = WD g a (hu h 99 j v) P := WD_setI (by decide) rfl
theorem W100s {j : Nat} {v : Int32} : (WD g a h P).set 100 (a 100, .inl (gI g, 7, .inl (upd (h 100) j v))) = WD g a (hu h 100 j v) P := WD_setI (by decide) rfl
theorem W101s {j : Nat} {v : Int32} : (WD g a h P).set 101 (a 101, .inl (gI g, 20, .inl (upd (h 101) j v))) = WD g a (hu h 101 j v) P := WD_setI (by decide) rfl
theorem Wwo {r : Nat} (hr : r < 7) : (WD g a h P)[6 + r]? = some (a (6 + r), .inl (gI g, 7, .inl (h (6 + r)))) := by
  rcases (show r = 0 ∨ r = 1 ∨ r = 2 ∨ r = 3 ∨ r = 4 ∨ r = 5 ∨ r = 6 by omega) with rfl | rfl | rfl | rfl | rfl | rfl | rfl
  · exact W6
  · exact W7
  · exact W8
  · exact W9
  · exact W10
  · exact W11
  · exact W12
theorem WwoR {r : Nat} {f : Nat → Int32} (hr9 : r < 7) : (WD g a h P).set (6 + r) (a (6 + r), .inl (gI g, 7, .inl f)) = WD g a (hr h (6 + r) f) P := by
  rcases (show r = 0 ∨ r = 1 ∨ r = 2 ∨ r = 3 ∨ r = 4 ∨ r = 5 ∨ r = 6 by omega) with rfl | rfl | rfl | rfl | rfl | rfl | rfl
  · exact WD_setR (by decide) rfl
  · exact WD_setR (by decide) rfl
  · exact WD_setR (by decide) rfl
  · exact WD_setR (by decide) rfl
  · exact WD_setR (by decide) rfl
  · exact WD_setR (by decide) rfl
  · exact WD_setR (by decide) rfl
theorem Wwos {r j : Nat} {v : Int32} (hr : r < 7) : (WD g a h P).set (6 + r) (a (6 + r), .inl (gI g, 7, .inl (upd (h (6 + r)) j v))) = WD g a (hu h (6 + r) j v) P := by
  rcases (show r = 0 ∨ r = 1 ∨ r = 2 ∨ r = 3 ∨ r = 4 ∨ r = 5 ∨ r = 6 by omega) with rfl | rfl | rfl | rfl | rfl | rfl | rfl
  · exact W6s
  · exact W7s
  · exact W8s
  · exact W9s
  · exact W10s
  · exact W11s
  · exact W12s
theorem Wpa {r : Nat} (hr : r < 7) : (WD g a h P)[14 + r]? = some (a (14 + r), .inl (gI g, 7, .inl (h (14 + r)))) := by
  rcases (show r = 0 ∨ r = 1 ∨ r = 2 ∨ r = 3 ∨ r = 4 ∨ r = 5 ∨ r = 6 by omega) with rfl | rfl | rfl | rfl | rfl | rfl | rfl
  · exact W14
  · exact W15
  · exact W16
  · exact W17
  · exact W18
  · exact W19
  · exact W20
theorem WpaR {r : Nat} {f : Nat → Int32} (hr9 : r < 7) : (WD g a h P).set (14 + r) (a (14 + r), .inl (gI g, 7, .inl f)) = WD g a (hr h (14 + r) f) P := by
  rcases (show r = 0 ∨ r = 1 ∨ r = 2 ∨ r = 3 ∨ r = 4 ∨ r = 5 ∨ r = 6 by omega) with rfl | rfl | rfl | rfl | rfl | rfl | rfl
  · exact WD_setR (by decide) rfl
  · exact WD_setR (by decide) rfl
  · exact WD_setR (by decide) rfl
  · exact WD_setR (by decide) rfl
  · exact WD_setR (by decide) rfl
  · exact WD_setR (by decide) rfl
  · exact WD_setR (by decide) rfl
theorem Wpas {r j : Nat} {v : Int32} (hr : r < 7) : (WD g a h P).set (14 + r) (a (14 + r), .inl (gI g, 7, .inl (upd (h (14 + r)) j v))) = WD g a (hu h (14 + r) j v) P := by
  rcases (show r = 0 ∨ r = 1 ∨ r = 2 ∨ r = 3 ∨ r = 4 ∨ r = 5 ∨ r = 6 by omega) with rfl | rfl | rfl | rfl | rfl | rfl | rfl
  · exact W14s
  · exact W15s
  · exact W16s
  · exact W17s
  · exact W18s
  · exact W19s
  · exact W20s
theorem Wbl {r : Nat} (hr : r < 9) : (WD g a h P)[32 + r]? = some (a (32 + r), .inl (gI g, 7, .inl (h (32 + r)))) := by
  rcases (show r = 0 ∨ r = 1 ∨ r = 2 ∨ r = 3 ∨ r = 4 ∨ r = 5 ∨ r = 6 ∨ r = 7 ∨ r = 8 by omega) with rfl | rfl | rfl | rfl | rfl | rfl | rfl | rfl | rfl
  · exact W32
  · exact W33
  · exact W34
  · exact W35
  · exact W36
  · exact W37
  · exact W38
  · exact W39
  · exact W40
theorem WblR {r : Nat} {f : Nat → Int32} (hr9 : r < 9) : (WD g a h P).set (32 + r) (a (32 + r), .inl (gI g, 7, .inl f)) = WD g a (hr h (32 + r) f) P := by
  rcases (show r = 0 ∨ r = 1 ∨ r = 2 ∨ r = 3 ∨ r = 4 ∨ r = 5 ∨ r = 6 ∨ r = 7 ∨ r = 8 by omega) with rfl | rfl | rfl | rfl | rfl | rfl | rfl | rfl | rfl
  · exact WD_setR (by decide) rfl
  · exact WD_setR (by decide) rfl
  · exact WD_setR (by decide) rfl
  · exact WD_setR (by decide) rfl
  · exact WD_setR (by decide) rfl
  · exact WD_setR (by decide) rfl
  · exact WD_setR (by decide) rfl
  · exact WD_setR (by decide) rfl
  · exact WD_setR (by decide) rfl
theorem Wbls {r j : Nat} {v : Int32} (hr : r < 9) : (WD g a h P).set (32 + r) (a (32 + r), .inl (gI g, 7, .inl (upd (h (32 + r)) j v))) = WD g a (hu h (32 + r) j v) P := by
  rcases (show r = 0 ∨ r = 1 ∨ r = 2 ∨ r = 3 ∨ r = 4 ∨ r = 5 ∨ r = 6 ∨ r = 7 ∨ r = 8 by omega) with rfl | rfl | rfl | rfl | rfl | rfl | rfl | rfl | rfl
  · exact W32s
  · exact W33s
  · exact W34s
  · exact W35s
  · exact W36s
  · exact W37s
  · exact W38s
  · exact W39s
  · exact W40s
theorem Wwk {r : Nat} (hr : r < 7) : (WD g a h P)[46 + r]? = some (a (46 + r), .inl (gI g, 7, .inl (h (46 + r)))) := by
  rcases (show r = 0 ∨ r = 1 ∨ r = 2 ∨ r = 3 ∨ r = 4 ∨ r = 5 ∨ r = 6 by omega) with rfl | rfl | rfl | rfl | rfl | rfl | rfl
  · exact W46
  · exact W47
  · exact W48
  · exact W49
  · exact W50
  · exact W51
  · exact W52
theorem WwkR {r : Nat} {f : Nat → Int32} (hr9 : r < 7) : (WD g a h P).set (46 + r) (a (46 + r), .inl (gI g, 7, .inl f)) = WD g a (hr h (46 + r) f) P := by
  rcases (show r = 0 ∨ r = 1 ∨ r = 2 ∨ r = 3 ∨ r = 4 ∨ r = 5 ∨ r = 6 by omega) with rfl | rfl | rfl | rfl | rfl | rfl | rfl
  · exact WD_setR (by decide) rfl
  · exact WD_setR (by decide) rfl
  · exact WD_setR (by decide) rfl
  · exact WD_setR (by decide) rfl
  · exact WD_setR (by decide) rfl
  · exact WD_setR (by decide) rfl
  · exact WD_setR (by decide) rfl
theorem Wwks {r j : Nat} {v : Int32} (hr : r < 7) : (WD g a h P).set (46 + r) (a (46 + r), .inl (gI g, 7, .inl (upd (h (46 + r)) j v))) = WD g a (hu h (46 + r) j v) P := by
  rcases (show r = 0 ∨ r = 1 ∨ r = 2 ∨ r = 3 ∨ r = 4 ∨ r = 5 ∨ r = 6 by omega) with rfl | rfl | rfl | rfl | rfl | rfl | rfl
  · exact W46s
  · exact W47s
  · exact W48s
  · exact W49s
  · exact W50s
  · exact W51s
  · exact W52s
theorem Wpk {r : Nat} (hr : r < 7) : (WD g a h P)[54 + r]? = some (a (54 + r), .inl (gI g, 7, .inl (h (54 + r)))) := by
  rcases (show r = 0 ∨ r = 1 ∨ r = 2 ∨ r = 3 ∨ r = 4 ∨ r = 5 ∨ r = 6 by omega) with rfl | rfl | rfl | rfl | rfl | rfl | rfl
  · exact W54
  · exact W55
  · exact W56
  · exact W57
  · exact W58
  · exact W59
  · exact W60
theorem WpkR {r : Nat} {f : Nat → Int32} (hr9 : r < 7) : (WD g a h P).set (54 + r) (a (54 + r), .inl (gI g, 7, .inl f)) = WD g a (hr h (54 + r) f) P := by
  rcases (show r = 0 ∨ r = 1 ∨ r = 2 ∨ r = 3 ∨ r = 4 ∨ r = 5 ∨ r = 6 by omega) with rfl | rfl | rfl | rfl | rfl | rfl | rfl
  · exact WD_setR (by decide) rfl
  · exact WD_setR (by decide) rfl
  · exact WD_setR (by decide) rfl
  · exact WD_setR (by decide) rfl
  · exact WD_setR (by decide) rfl
  · exact WD_setR (by decide) rfl
  · exact WD_setR (by decide) rfl
theorem Wpks {r j : Nat} {v : Int32} (hr : r < 7) : (WD g a h P).set (54 + r) (a (54 + r), .inl (gI g, 7, .inl (upd (h (54 + r)) j v))) = WD g a (hu h (54 + r) j v) P := by
  rcases (show r = 0 ∨ r = 1 ∨ r = 2 ∨ r = 3 ∨ r = 4 ∨ r = 5 ∨ r = 6 by omega) with rfl | rfl | rfl | rfl | rfl | rfl | rfl
  · exact W54s
  · exact W55s
  · exact W56s
  · exact W57s
  · exact W58s
  · exact W59s
  · exact W60s
theorem Wbk {r : Nat} (hr : r < 9) : (WD g a h P)[72 + r]? = some (a (72 + r), .inl (gI g, 7, .inl (h (72 + r)))) := by
  rcases (show r = 0 ∨ r = 1 ∨ r = 2 ∨ r = 3 ∨ r = 4 ∨ r = 5 ∨ r = 6 ∨ r = 7 ∨ r = 8 by omega) with rfl | rfl | rfl | rfl | rfl | rfl | rfl | rfl | rfl
  · exact W72
  · exact W73
  · exact W74
  · exact W75
  · exact W76
  · exact W77
  · exact W78
  · exact W79
  · exact W80
theorem WbkR {r : Nat} {f : Nat → Int32} (hr9 : r < 9) : (WD g a h P).set (72 + r) (a (72 + r), .inl (gI g, 7, .inl f)) = WD g a (hr h (72 + r) f) P := by
  rcases (show r = 0 ∨ r = 1 ∨ r = 2 ∨ r = 3 ∨ r = 4 ∨ r = 5 ∨ r = 6 ∨ r = 7 ∨ r = 8 by omega) with rfl | rfl | rfl | rfl | rfl | rfl | rfl | rfl | rfl
  · exact WD_setR (by decide) rfl
  · exact WD_setR (by decide) rfl
  · exact WD_setR (by decide) rfl
  · exact WD_setR (by decide) rfl
  · exact WD_setR (by decide) rfl
  · exact WD_setR (by decide) rfl
  · exact WD_setR (by decide) rfl
  · exact WD_setR (by decide) rfl
  · exact WD_setR (by decide) rfl
theorem Wbks {r j : Nat} {v : Int32} (hr : r < 9) : (WD g a h P).set (72 + r) (a (72 + r), .inl (gI g, 7, .inl (upd (h (72 + r)) j v))) = WD g a (hu h (72 + r) j v) P := by
  rcases (show r = 0 ∨ r = 1 ∨ r = 2 ∨ r = 3 ∨ r = 4 ∨ r = 5 ∨ r = 6 ∨ r = 7 ∨ r = 8 by omega) with rfl | rfl | rfl | rfl | rfl | rfl | rfl | rfl | rfl
  · exact W72s
  · exact W73s
  · exact W74s
  · exact W75s
  · exact W76s
  · exact W77s
  · exact W78s
  · exact W79s
  · exact W80s
end WDS
