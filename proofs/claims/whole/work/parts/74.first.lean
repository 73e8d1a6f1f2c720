/-! what holds at the start -/
theorem newR_of {h : HT} (e : newR h = true) : (∀ k, k < 7 → h 4 k = nI k ∧ (∀ o, o < 7 → h (6 + k) o = 10 ∧ h (14 + k) o = 0) ∧ ∀ s, s < 8 → h (32 + s) k = nI k) ∧ (∀ j, j < 5 → h 1 j = 0 ∧ h 23 j = 0) ∧ h 21 1 = 0 := by
  unfold newR at e
  simp only [Bool.and_eq_true, List.all_eq_true, List.mem_range, beq_iff_eq] at e
  obtain ⟨⟨e1, e2⟩, e3⟩ := e
  exact ⟨fun k hk => ⟨(e1 k hk).1.1.1, fun o ho => ⟨(e1 k hk).1.1.2 o ho, (e1 k hk).1.2 o ho⟩, fun s hs => (e1 k hk).2 s hs⟩, e2, e3⟩
theorem newR_all {h1 : HT} (e : ∃ y, fX3_init_122 1000 0 (fun _ _ => 0) = some (y, h1)) : newR h1 = true ∧ ∀ i, h1 30 i = 0 := by
  obtain ⟨y, e⟩ := e
  have t := newR_ok
  have u := newR_30
  rw [e] at t
  refine ⟨t, fun i => ?_⟩
  have ui := u i
  rw [e] at ui
  exact ui
theorem inv0 {h1 h2 : HT} (e : ∃ y, fX3_init_122 1000 0 (fun _ _ => 0) = some (y, h1)) (e' : ∃ y, fX3_init_122 1000 0 (fun _ _ => 0) = some (y, h2)) : Inv [] (hS0 h1 h2) := by
  obtain ⟨t, u⟩ := newR_all e
  have h70 : ∀ j, hS0 h1 h2 70 j = 0 := (newR_all e').2
  obtain ⟨t1, t2, t3⟩ := newR_of t
  have lo : ∀ k, 1 ≤ k → k < 41 → hS0 h1 h2 k = h1 k := fun k a1 a2 => by
    unfold hS0; rw [if_neg (by omega), if_pos a2]
  have hi : ∀ k j, 81 ≤ k → hS0 h1 h2 k j = 0 := fun k j a => by
    unfold hS0; rw [if_neg (by omega), if_neg (by omega), if_neg (by omega)]
  have z0 : hS0 h1 h2 0 2 = 0 := rfl
  have b9 : ∀ x : Int, 0 ≤ x → bd 0 x := fun x hx => ⟨by decide, by rw [show (0 : Int32).toInt = 0 by decide]; exact hx⟩
  generalize hS0 h1 h2 = H at *
  have s94 : ∀ i, H 94 i = 0 := fun i => hi 94 i (by omega)
  refine ⟨0, [], 0, ⟨⟨by omega, s94 0, ?_, by rw [s94]; exact b9 _ (by omega), by rw [s94]; exact b9 _ (by omega), by rw [s94]; exact b9 _ (by omega), fun k hk => ?_, fun k o hk => absurd hk (Nat.not_lt_zero k), s94 5, fun c hc => absurd hc (Nat.not_lt_zero c)⟩, ⟨by omega, ?_, ?_, fun k hk => absurd hk (Nat.not_lt_zero k), fun k j hk => absurd hk (Nat.not_lt_zero k), ?_, ?_, ?_, ?_, ?_, fun c hc => absurd hc (Nat.not_lt_zero c)⟩, by omega, s94 2, ?_, ?_, ?_, fun t ht => absurd ht (Nat.not_lt_zero t), fun t k ht => absurd ht (Nat.not_lt_zero t), fun t k _ ht hk => ?_, fun t ht => ?_, fun k j hk => absurd hk (Nat.not_lt_zero k), fun k j _ hk hj => ?_, 0, by omega, s94 3, ?_, fun i hi => absurd hi (Nat.not_lt_zero i)⟩, ?_⟩
  · first | exact fun c hc => absurd hc (Nat.not_lt_zero c) | exact ⟨by decide, by decide, fun c hc => absurd hc (Nat.not_lt_zero c)⟩ | (unfold WFL; simp)
  · rw [s94, s94, s94]
    exact ⟨b9 _ (by omega), b9 _ (by omega), Or.inl rfl, fun _ => rfl⟩
  · show H 1 0 = 0
    rw [lo 1 (by omega) (by omega)]; exact (t2 0 (by omega)).1
  · show H 1 1 = 0
    rw [lo 1 (by omega) (by omega)]; exact (t2 1 (by omega)).1
  · rw [s94]; show H 23 0 = 0
    rw [lo 23 (by omega) (by omega)]; exact (t2 0 (by omega)).2
  · rw [s94]; show H 23 1 = 0
    rw [lo 23 (by omega) (by omega)]; exact (t2 1 (by omega)).2
  · rw [s94]; show H 23 2 = 0
    rw [lo 23 (by omega) (by omega)]; exact (t2 2 (by omega)).2
  · show H 23 3 = 0
    rw [lo 23 (by omega) (by omega)]; exact (t2 3 (by omega)).2
  · show H 23 4 = 0
    rw [lo 23 (by omega) (by omega)]; exact (t2 4 (by omega)).2
  · show H 1 3 = 0
    rw [lo 1 (by omega) (by omega)]; exact (t2 3 (by omega)).1
  · rw [s94]; show H 1 2 = 0
    rw [lo 1 (by omega) (by omega)]; exact (t2 2 (by omega)).1
  · rw [s94]; show H 1 4 = 0
    rw [lo 1 (by omega) (by omega)]; exact (t2 4 (by omega)).1
  · rw [show 0 + 32 + t = 32 + t by omega, lo (32 + t) (by omega) (by omega)]; exact (t1 k hk).2.2 t ht
  · show okq [] (H 30 t) = some ()
    rw [lo 30 (by omega) (by omega), u]; rfl
  · rw [show 0 + 6 + k = 6 + k by omega, show 0 + 14 + k = 14 + k by omega, show 0 + 4 = 4 by omega, lo (6 + k) (by omega) (by omega), lo (14 + k) (by omega) (by omega), lo 4 (by omega) (by omega)]
    exact ⟨((t1 k hk).2.1 j hj).1, ((t1 k hk).2.1 j hj).2, (t1 k hk).1⟩
  · show H 21 1 = 0
    rw [lo 21 (by omega) (by omega)]; exact t3
  · refine ⟨⟨fun t r e => by simp at e, fun j => ⟨by rw [lo 30 (by omega) (by omega), u]; rfl, by rw [h70]; rfl⟩⟩, by rw [z0, hi 93 3 (by omega)], Or.inl (hi 93 3 (by omega)), 0, by omega, hi 91 0 (by omega), hi 93 28 (by omega), fun i hi => absurd hi (Nat.not_lt_zero i)⟩
