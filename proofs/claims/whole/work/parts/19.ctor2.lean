/-! Realm's constructor: its loops, over the cells of one Realm behind any others -/
def WR (g : GP) (w0 : va_W) (a : Nat → Nat) (h : HT) : va_W := w0 ++ (List.range 40).map (fun k => (a (1 + k), xE g a (1 + k) (h (1 + k))))
def PoW (g : GP) (w0 : va_W) (a : Nat → Nat) (z : Int32 × HT) : Option Value → va_W → Prop := fun v w => v = none ∧ w = WR g w0 a z.2
section WRS
variable {g : GP} {w0 : va_W} {a : Nat → Nat} {h : HT}
theorem WR_get {k : Nat} (hk : k < 40) : (WR g w0 a h)[w0.length + k]? = some (a (1 + k), xE g a (1 + k) (h (1 + k))) := by
  unfold WR
  refine ap_get ?_
  rw [List.getElem?_map, List.getElem?_range hk]
  rfl
theorem WR_setI {k j : Nat} {v : Int32} {e : va_E} (hk : k < 40) (he : xE g a (1 + k) (upd (h (1 + k)) j v) = e) : (WR g w0 a h).set (w0.length + k) (a (1 + k), e) = WR g w0 a (hu h (1 + k) j v) := by
  subst he
  unfold WR
  refine ap_set ?_
  apply List.ext_getElem?
  intro i
  rw [List.getElem?_map]
  by_cases hi : i = k
  · subst hi
    rw [List.getElem?_set_self (by rw [List.length_map, List.length_range]; exact hk), List.getElem?_range hk]
    rw [Option.map_some, hu_row]
  · rw [List.getElem?_set_ne (Ne.symm hi), List.getElem?_map]
    cases hx : (List.range 40)[i]? with
    | none => rfl
    | some z =>
      have hz : z = i := by
        obtain ⟨h1, h2⟩ := List.getElem?_eq_some_iff.mp hx
        rw [List.getElem_range] at h2
        exact h2.symm
      subst hz
      simp only [Option.map_some]
      rw [hu_off (show 1 + z ≠ 1 + k by omega)]
theorem R1 : (WR g w0 a h)[w0.length + 0]? = some (a 1, .inr (3, [.int (h 1 0), .int (h 1 1), .int (h 1 2), .int (h 1 3), .int (h 1 4), .ref (a 2), .ref (a 3), .ref (a 4), .ref (a 5), .ref (a 13), .ref (a 21), .ref (a 23), .ref (a 30), .ref (a 31)])) := WR_get (k := 0) (by decide)
theorem R4 : (WR g w0 a h)[w0.length + 3]? = some (a 4, .inl (gI g, 7, .inl (h 4))) := WR_get (k := 3) (by decide)
theorem R5 : (WR g w0 a h)[w0.length + 4]? = some (a 5, .inl (gII g, 7, .inr (.inr (.inr (.inr (fun i => if i < 7 then some (a (6 + i)) else none)))))) := WR_get (k := 4) (by decide)
theorem R31 : (WR g w0 a h)[w0.length + 30]? = some (a 31, .inl (gII g, 9, .inr (.inr (.inr (.inr (fun i => if i < 9 then some (a (32 + i)) else none)))))) := WR_get (k := 30) (by decide)
theorem R6 : (WR g w0 a h)[w0.length + 5]? = some (a 6, .inl (gI g, 7, .inl (h 6))) := WR_get (k := 5) (by decide)
theorem R7 : (WR g w0 a h)[w0.length + 6]? = some (a 7, .inl (gI g, 7, .inl (h 7))) := WR_get (k := 6) (by decide)
theorem R8 : (WR g w0 a h)[w0.length + 7]? = some (a 8, .inl (gI g, 7, .inl (h 8))) := WR_get (k := 7) (by decide)
theorem R9 : (WR g w0 a h)[w0.length + 8]? = some (a 9, .inl (gI g, 7, .inl (h 9))) := WR_get (k := 8) (by decide)
theorem R10 : (WR g w0 a h)[w0.length + 9]? = some (a 10, .inl (gI g, 7, .inl (h 10))) := WR_get (k := 9) (by decide)
theorem R11 : (WR g w0 a h)[w0.length + 10]? = some (a 11, .inl (gI g, 7, .inl (h 11))) := WR_get (k := 10) (by decide)
theorem R12 : (WR g w0 a h)[w0.length + 11]? = some (a 12, .inl (gI g, 7, .inl (h 12))) := WR_get (k := 11) (by decide)
theorem R32 : (WR g w0 a h)[w0.length + 31]? = some (a 32, .inl (gI g, 7, .inl (h 32))) := WR_get (k := 31) (by decide)
theorem R33 : (WR g w0 a h)[w0.length + 32]? = some (a 33, .inl (gI g, 7, .inl (h 33))) := WR_get (k := 32) (by decide)
theorem R34 : (WR g w0 a h)[w0.length + 33]? = some (a 34, .inl (gI g, 7, .inl (h 34))) := WR_get (k := 33) (by decide)
theorem R35 : (WR g w0 a h)[w0.length + 34]? = some (a 35, .inl (gI g, 7, .inl (h 35))) := WR_get (k := 34) (by decide)
theorem R36 : (WR g w0 a h)[w0.length + 35]? = some (a 36, .inl (gI g, 7, .inl (h 36))) := WR_get (k := 35) (by decide)
theorem R37 : (WR g w0 a h)[w0.length + 36]? = some (a 37, .inl (gI g, 7, .inl (h 37))) := WR_get (k := 36) (by decide)
theorem R38 : (WR g w0 a h)[w0.length + 37]? = some (a 38, .inl (gI g, 7, .inl (h 38))) := WR_get (k := 37) (by decide)
theorem R39 : (WR g w0 a h)[w0.length + 38]? = some (a 39, .inl (gI g, 7, .inl (h 39))) := WR_get (k := 38) (by decide)
theorem R40 : (WR g w0 a h)[w0.length + 39]? = some (a 40, .inl (gI g, 7, .inl (h 40))) := WR_get (k := 39) (by decide)
theorem R4s {j : Nat} {v : Int32} : (WR g w0 a h).set (w0.length + 3) (a 4, .inl (gI g, 7, .inl (upd (h 4) j v))) = WR g w0 a (hu h 4 j v) := WR_setI (k := 3) (by decide) rfl
theorem R6s {j : Nat} {v : Int32} : (WR g w0 a h).set (w0.length + 5) (a 6, .inl (gI g, 7, .inl (upd (h 6) j v))) = WR g w0 a (hu h 6 j v) := WR_setI (k := 5) (by decide) rfl
theorem R7s {j : Nat} {v : Int32} : (WR g w0 a h).set (w0.length + 6) (a 7, .inl (gI g, 7, .inl (upd (h 7) j v))) = WR g w0 a (hu h 7 j v) := WR_setI (k := 6) (by decide) rfl
theorem R8s {j : Nat} {v : Int32} : (WR g w0 a h).set (w0.length + 7) (a 8, .inl (gI g, 7, .inl (upd (h 8) j v))) = WR g w0 a (hu h 8 j v) := WR_setI (k := 7) (by decide) rfl
theorem R9s {j : Nat} {v : Int32} : (WR g w0 a h).set (w0.length + 8) (a 9, .inl (gI g, 7, .inl (upd (h 9) j v))) = WR g w0 a (hu h 9 j v) := WR_setI (k := 8) (by decide) rfl
theorem R10s {j : Nat} {v : Int32} : (WR g w0 a h).set (w0.length + 9) (a 10, .inl (gI g, 7, .inl (upd (h 10) j v))) = WR g w0 a (hu h 10 j v) := WR_setI (k := 9) (by decide) rfl
theorem R11s {j : Nat} {v : Int32} : (WR g w0 a h).set (w0.length + 10) (a 11, .inl (gI g, 7, .inl (upd (h 11) j v))) = WR g w0 a (hu h 11 j v) := WR_setI (k := 10) (by decide) rfl
theorem R12s {j : Nat} {v : Int32} : (WR g w0 a h).set (w0.length + 11) (a 12, .inl (gI g, 7, .inl (upd (h 12) j v))) = WR g w0 a (hu h 12 j v) := WR_setI (k := 11) (by decide) rfl
theorem R32s {j : Nat} {v : Int32} : (WR g w0 a h).set (w0.length + 31) (a 32, .inl (gI g, 7, .inl (upd (h 32) j v))) = WR g w0 a (hu h 32 j v) := WR_setI (k := 31) (by decide) rfl
theorem R33s {j : Nat} {v : Int32} : (WR g w0 a h).set (w0.length + 32) (a 33, .inl (gI g, 7, .inl (upd (h 33) j v))) = WR g w0 a (hu h 33 j v) := WR_setI (k := 32) (by decide) rfl
theorem R34s {j : Nat} {v : Int32} : (WR g w0 a h).set (w0.length + 33) (a 34, .inl (gI g, 7, .inl (upd (h 34) j v))) = WR g w0 a (hu h 34 j v) := WR_setI (k := 33) (by decide) rfl
theorem R35s {j : Nat} {v : Int32} : (WR g w0 a h).set (w0.length + 34) (a 35, .inl (gI g, 7, .inl (upd (h 35) j v))) = WR g w0 a (hu h 35 j v) := WR_setI (k := 34) (by decide) rfl
theorem R36s {j : Nat} {v : Int32} : (WR g w0 a h).set (w0.length + 35) (a 36, .inl (gI g, 7, .inl (upd (h 36) j v))) = WR g w0 a (hu h 36 j v) := WR_setI (k := 35) (by decide) rfl
theorem R37s {j : Nat} {v : Int32} : (WR g w0 a h).set (w0.length + 36) (a 37, .inl (gI g, 7, .inl (upd (h 37) j v))) = WR g w0 a (hu h 37 j v) := WR_setI (k := 36) (by decide) rfl
theorem R38s {j : Nat} {v : Int32} : (WR g w0 a h).set (w0.length + 37) (a 38, .inl (gI g, 7, .inl (upd (h 38) j v))) = WR g w0 a (hu h 38 j v) := WR_setI (k := 37) (by decide) rfl
theorem R39s {j : Nat} {v : Int32} : (WR g w0 a h).set (w0.length + 38) (a 39, .inl (gI g, 7, .inl (upd (h 39) j v))) = WR g w0 a (hu h 39 j v) := WR_setI (k := 38) (by decide) rfl
theorem R40s {j : Nat} {v : Int32} : (WR g w0 a h).set (w0.length + 39) (a 40, .inl (gI g, 7, .inl (upd (h 40) j v))) = WR g w0 a (hu h 40 j v) := WR_setI (k := 39) (by decide) rfl
theorem Rwo {r : Nat} (hr : r < 7) : (WR g w0 a h)[w0.length + (5 + r)]? = some (a (6 + r), .inl (gI g, 7, .inl (h (6 + r)))) := by
  rcases (show r = 0 ∨ r = 1 ∨ r = 2 ∨ r = 3 ∨ r = 4 ∨ r = 5 ∨ r = 6 by omega) with rfl | rfl | rfl | rfl | rfl | rfl | rfl
  · exact R6
  · exact R7
  · exact R8
  · exact R9
  · exact R10
  · exact R11
  · exact R12
theorem Rwos {r j : Nat} {v : Int32} (hr : r < 7) : (WR g w0 a h).set (w0.length + (5 + r)) (a (6 + r), .inl (gI g, 7, .inl (upd (h (6 + r)) j v))) = WR g w0 a (hu h (6 + r) j v) := by
  rcases (show r = 0 ∨ r = 1 ∨ r = 2 ∨ r = 3 ∨ r = 4 ∨ r = 5 ∨ r = 6 by omega) with rfl | rfl | rfl | rfl | rfl | rfl | rfl
  · exact R6s
  · exact R7s
  · exact R8s
  · exact R9s
  · exact R10s
  · exact R11s
  · exact R12s
theorem Rbl {r : Nat} (hr : r < 9) : (WR g w0 a h)[w0.length + (31 + r)]? = some (a (32 + r), .inl (gI g, 7, .inl (h (32 + r)))) := by
  rcases (show r = 0 ∨ r = 1 ∨ r = 2 ∨ r = 3 ∨ r = 4 ∨ r = 5 ∨ r = 6 ∨ r = 7 ∨ r = 8 by omega) with rfl | rfl | rfl | rfl | rfl | rfl | rfl | rfl | rfl
  · exact R32
  · exact R33
  · exact R34
  · exact R35
  · exact R36
  · exact R37
  · exact R38
  · exact R39
  · exact R40
theorem Rbls {r j : Nat} {v : Int32} (hr : r < 9) : (WR g w0 a h).set (w0.length + (31 + r)) (a (32 + r), .inl (gI g, 7, .inl (upd (h (32 + r)) j v))) = WR g w0 a (hu h (32 + r) j v) := by
  rcases (show r = 0 ∨ r = 1 ∨ r = 2 ∨ r = 3 ∨ r = 4 ∨ r = 5 ∨ r = 6 ∨ r = 7 ∨ r = 8 by omega) with rfl | rfl | rfl | rfl | rfl | rfl | rfl | rfl | rfl
  · exact R32s
  · exact R33s
  · exact R34s
  · exact R35s
  · exact R36s
  · exact R37s
  · exact R38s
  · exact R39s
  · exact R40s
end WRS
def fX3_init_161 (k122_ : Int32 → HT → Option (Int32 × HT)) : Nat → Int32 → Int32 → HT → Option (Int32 × HT)
  | 0, _, _, _ => none
  | n + 1, l1, l2, h =>
  if 8 ≤ l2 then (k122_ (l1 + 1) h)
  else (Option.bind (ck 9 l2) fun j5 =>
  Option.bind (ck 7 l1) fun j6 =>
  fX3_init_161 k122_ n l1 (l2 + 1) (hu h (32 + j5) j6 l1))
set_option maxHeartbeats 4000000 in
theorem zX3_init_161 {g : GP} {a : Nat → Nat} {w0 : va_W} {J : JT} {z : Int32 × HT} {k122_ : Int32 → HT → Option (Int32 × HT)} {Po : Option Value → va_W → Prop} (hpo : Po none (WR g w0 a z.2)) (hJ : JX g 3 39 731 Po J) (hk122 : ∀ (l1 : Int32) (h : HT), k122_ l1 h = some z → Z g mX3_init J 39 731 122 [some (.ref (a 1)), some (.int l1), none] [] (WR g w0 a h)) : ∀ (n : Nat) (l1 : Int32) (l2 : Int32) (h : HT), fX3_init_161 k122_ n l1 l2 h = some z → Z g mX3_init J 39 731 161 [some (.ref (a 1)), some (.int l1), some (.int l2)] [] (WR g w0 a h) := by
  intro n
  induction n with
  | zero =>
    intro _ _ _ hf
    cases hf
  | succ n ih =>
    intro l1 l2 h hf
    unfold fX3_init_161 at hf
    refine Z.iload_n (n := 162) dX3_init_161 rfl rfl ?_
    refine Z.bipush (n := 164) (v := 8) dX3_init_162 rfl (by decide +kernel) ?_
    refine Z.icmp_ge (tgt := 182) (n := 167) dX3_init_164 rfl rfl (fun c4 => ?_) (fun c4 => ?_)
    · rw [if_pos c4] at hf
      refine Z.iinc (n := 185) (v := l1 + 1) dX3_init_182 rfl rfl rfl (by decide) rfl ?_
      refine Z.goto (tgt := 122) dX3_init_185 rfl ?_
      refine Z.fg [2] ?_
      exact hk122 _ _ hf
    · rw [if_neg c4] at hf
      refine Z.aload_n (n := 168) dX3_init_167 rfl rfl ?_
      refine Z.getf (n := 171) fX3_65 dX3_init_168 rfl R1 rfl ?_
      refine Z.iload_n (n := 172) dX3_init_171 rfl rfl ?_
      obtain ⟨j5, ej5, hf⟩ := Option.bind_eq_some_iff.mp hf
      obtain ⟨hij5, hlj5⟩ := ck_spec ej5
      refine Z.aald (j := j5) (ty := 3) (n := 173) dX3_init_172 rfl R31 rfl rfl hij5 hlj5 (by decide) ?_
      rw [if_pos hlj5]
      show Z _ _ _ _ _ _ _ (.ref (a (32 + j5)) :: _) _
      refine Z.iload_n (n := 174) dX3_init_173 rfl rfl ?_
      refine Z.iload_n (n := 175) dX3_init_174 rfl rfl ?_
      obtain ⟨j6, ej6, hf⟩ := Option.bind_eq_some_iff.mp hf
      obtain ⟨hij6, hlj6⟩ := ck_spec ej6
      refine Z.iast (j := j6) (n := 176) dX3_init_175 rfl (Rbl (r := j5) hlj5) hij6 hlj6 (by decide) (Rbls (r := j5) hlj5) ?_
      refine Z.iinc (n := 179) (v := l2 + 1) dX3_init_176 rfl rfl rfl (by decide) rfl ?_
      refine Z.goto (tgt := 161) dX3_init_179 rfl ?_
      exact ih _ _ _ hf
def fX3_init_137 (k122_ : Int32 → HT → Option (Int32 × HT)) : Nat → Int32 → Int32 → HT → Option (Int32 × HT)
  | 0, _, _, _ => none
  | n + 1, l1, l2, h =>
  if 7 ≤ l2 then (fX3_init_161 k122_ 1000 l1 0 h)
  else (Option.bind (ck 7 l1) fun j7 =>
  Option.bind (ck 7 l2) fun j8 =>
  fX3_init_137 k122_ n l1 (l2 + 1) (hu h (6 + j7) j8 10))
set_option maxHeartbeats 4000000 in
theorem zX3_init_137 {g : GP} {a : Nat → Nat} {w0 : va_W} {J : JT} {z : Int32 × HT} {k122_ : Int32 → HT → Option (Int32 × HT)} {Po : Option Value → va_W → Prop} (hpo : Po none (WR g w0 a z.2)) (hJ : JX g 3 39 731 Po J) (hk122 : ∀ (l1 : Int32) (h : HT), k122_ l1 h = some z → Z g mX3_init J 39 731 122 [some (.ref (a 1)), some (.int l1), none] [] (WR g w0 a h)) : ∀ (n : Nat) (l1 : Int32) (l2 : Int32) (h : HT), fX3_init_137 k122_ n l1 l2 h = some z → Z g mX3_init J 39 731 137 [some (.ref (a 1)), some (.int l1), some (.int l2)] [] (WR g w0 a h) := by
  intro n
  induction n with
  | zero =>
    intro _ _ _ hf
    cases hf
  | succ n ih =>
    intro l1 l2 h hf
    unfold fX3_init_137 at hf
    refine Z.iload_n (n := 138) dX3_init_137 rfl rfl ?_
    refine Z.bipush (n := 140) (v := 7) dX3_init_138 rfl (by decide +kernel) ?_
    refine Z.icmp_ge (tgt := 159) (n := 143) dX3_init_140 rfl rfl (fun c3 => ?_) (fun c3 => ?_)
    · rw [if_pos c3] at hf
      refine Z.iconst (n := 160) (v := 0) dX3_init_159 rfl (by decide +kernel) ?_
      refine Z.istore_n (n := 161) dX3_init_160 rfl (by decide) rfl ?_
      exact zX3_init_161 hpo hJ hk122 _ _ _ _ hf
    · rw [if_neg c3] at hf
      refine Z.aload_n (n := 144) dX3_init_143 rfl rfl ?_
      refine Z.getf (n := 147) fX3_39 dX3_init_144 rfl R1 rfl ?_
      refine Z.iload_n (n := 148) dX3_init_147 rfl rfl ?_
      obtain ⟨j7, ej7, hf⟩ := Option.bind_eq_some_iff.mp hf
      obtain ⟨hij7, hlj7⟩ := ck_spec ej7
      refine Z.aald (j := j7) (ty := 3) (n := 149) dX3_init_148 rfl R5 rfl rfl hij7 hlj7 (by decide) ?_
      rw [if_pos hlj7]
      show Z _ _ _ _ _ _ _ (.ref (a (6 + j7)) :: _) _
      refine Z.iload_n (n := 150) dX3_init_149 rfl rfl ?_
      refine Z.bipush (n := 152) (v := 10) dX3_init_150 rfl (by decide +kernel) ?_
      obtain ⟨j8, ej8, hf⟩ := Option.bind_eq_some_iff.mp hf
      obtain ⟨hij8, hlj8⟩ := ck_spec ej8
      refine Z.iast (j := j8) (n := 153) dX3_init_152 rfl (Rwo (r := j7) hlj7) hij8 hlj8 (by decide) (Rwos (r := j7) hlj7) ?_
      refine Z.iinc (n := 156) (v := l2 + 1) dX3_init_153 rfl rfl rfl (by decide) rfl ?_
      refine Z.goto (tgt := 137) dX3_init_156 rfl ?_
      exact ih _ _ _ hf
def fX3_init_122 : Nat → Int32 → HT → Option (Int32 × HT)
  | 0, _, _ => none
  | n + 1, l1, h =>
  if 7 ≤ l1 then (some (0, h))
  else (Option.bind (ck 7 l1) fun j2 =>
  fX3_init_137 (fX3_init_122  n) 1000 l1 0 (hu h 4 j2 l1))
set_option maxHeartbeats 4000000 in
theorem zX3_init_122 {g : GP} {a : Nat → Nat} {w0 : va_W} {J : JT} {z : Int32 × HT} {Po : Option Value → va_W → Prop} (hpo : Po none (WR g w0 a z.2)) (hJ : JX g 3 39 731 Po J) : ∀ (n : Nat) (l1 : Int32) (h : HT), fX3_init_122 n l1 h = some z → Z g mX3_init J 39 731 122 [some (.ref (a 1)), some (.int l1), none] [] (WR g w0 a h) := by
  intro n
  induction n with
  | zero =>
    intro _ _ hf
    cases hf
  | succ n ih =>
    intro l1 h hf
    unfold fX3_init_122 at hf
    refine Z.iload_n (n := 123) dX3_init_122 rfl rfl ?_
    refine Z.bipush (n := 125) (v := 7) dX3_init_123 rfl (by decide +kernel) ?_
    refine Z.icmp_ge (tgt := 188) (n := 128) dX3_init_125 rfl rfl (fun c1 => ?_) (fun c1 => ?_)
    · rw [if_pos c1] at hf
      have hz := Option.some.inj hf
      subst hz
      exact Z.vret hJ dX3_init_188 rfl (Nat.le_of_ble_eq_true rfl) (Nat.le_of_ble_eq_true rfl) hpo
    · rw [if_neg c1] at hf
      refine Z.aload_n (n := 129) dX3_init_128 rfl rfl ?_
      refine Z.getf (n := 132) fX3_34 dX3_init_129 rfl R1 rfl ?_
      refine Z.iload_n (n := 133) dX3_init_132 rfl rfl ?_
      refine Z.iload_n (n := 134) dX3_init_133 rfl rfl ?_
      obtain ⟨j2, ej2, hf⟩ := Option.bind_eq_some_iff.mp hf
      obtain ⟨hij2, hlj2⟩ := ck_spec ej2
      refine Z.iast (j := j2) (n := 135) dX3_init_134 rfl R4 hij2 hlj2 (by decide) R4s ?_
      refine Z.iconst (n := 136) (v := 0) dX3_init_135 rfl (by decide +kernel) ?_
      refine Z.istore_n (n := 137) dX3_init_136 rfl (by decide) rfl ?_
      exact zX3_init_137 hpo hJ ih _ _ _ _ hf

/-- what a Realm holds when it is new -/
def newR (h : HT) : Bool := (List.range 7).all (fun k => h 4 k == nI k && (List.range 7).all (fun o => h (6 + k) o == 10) && (List.range 7).all (fun o => h (14 + k) o == 0) && (List.range 8).all (fun s => h (32 + s) k == nI k)) && (List.range 5).all (fun j => h 1 j == 0 && h 23 j == 0) && h 21 1 == 0
theorem newR_ok : (match fX3_init_122 1000 0 (fun _ _ => 0) with | some z => newR z.2 | none => false) = true := by decide +kernel
theorem newR_30 (i : Nat) : (match fX3_init_122 1000 0 (fun _ _ => 0) with | some z => z.2 30 i | none => 1) = 0 := by rfl
