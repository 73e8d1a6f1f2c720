/-! the cells of the two Realms, by the addresses of the whole -/
section STA
variable {g : GP} {a a1 : Nat → Nat} {f : Nat → Int32}
theorem xr_1 (e : ∀ i, 1 ≤ i → i < 41 → a1 i = a (0 + i)) : xE g a1 1 f = xE g a 1 f := by
  show (Sum.inr (3, [.int (f 0), .int (f 1), .int (f 2), .int (f 3), .int (f 4), .ref (a1 2), .ref (a1 3), .ref (a1 4), .ref (a1 5), .ref (a1 13), .ref (a1 21), .ref (a1 23), .ref (a1 30), .ref (a1 31)]) : va_E) = _
  rw [e 2 (by decide) (by decide), e 3 (by decide) (by decide), e 4 (by decide) (by decide), e 5 (by decide) (by decide), e 13 (by decide) (by decide), e 21 (by decide) (by decide), e 23 (by decide) (by decide), e 30 (by decide) (by decide), e 31 (by decide) (by decide)]
  rfl
theorem xr_2 (e : ∀ i, 1 ≤ i → i < 41 → a1 i = a (0 + i)) : xE g a1 2 f = xE g a 2 f := rfl
theorem xr_3 (e : ∀ i, 1 ≤ i → i < 41 → a1 i = a (0 + i)) : xE g a1 3 f = xE g a 3 f := rfl
theorem xr_4 (e : ∀ i, 1 ≤ i → i < 41 → a1 i = a (0 + i)) : xE g a1 4 f = xE g a 4 f := rfl
theorem xr_5 (e : ∀ i, 1 ≤ i → i < 41 → a1 i = a (0 + i)) : xE g a1 5 f = xE g a 5 f := by
  have h0 : (fun i => if i < 7 then some (a1 (6 + i)) else none) = (fun i => if i < 7 then some (a (6 + i)) else none) := by
    funext i
    by_cases hi : i < 7
    · rw [if_pos hi, if_pos hi, e (6 + i) (by omega) (by omega), ← Nat.add_assoc]
    · rw [if_neg hi, if_neg hi]
  exact congrArg (fun F => (Sum.inl (gII g, 7, Sum.inr (Sum.inr (Sum.inr (Sum.inr F)))) : va_E)) h0
theorem xr_6 (e : ∀ i, 1 ≤ i → i < 41 → a1 i = a (0 + i)) : xE g a1 6 f = xE g a 6 f := rfl
theorem xr_7 (e : ∀ i, 1 ≤ i → i < 41 → a1 i = a (0 + i)) : xE g a1 7 f = xE g a 7 f := rfl
theorem xr_8 (e : ∀ i, 1 ≤ i → i < 41 → a1 i = a (0 + i)) : xE g a1 8 f = xE g a 8 f := rfl
theorem xr_9 (e : ∀ i, 1 ≤ i → i < 41 → a1 i = a (0 + i)) : xE g a1 9 f = xE g a 9 f := rfl
theorem xr_10 (e : ∀ i, 1 ≤ i → i < 41 → a1 i = a (0 + i)) : xE g a1 10 f = xE g a 10 f := rfl
theorem xr_11 (e : ∀ i, 1 ≤ i → i < 41 → a1 i = a (0 + i)) : xE g a1 11 f = xE g a 11 f := rfl
theorem xr_12 (e : ∀ i, 1 ≤ i → i < 41 → a1 i = a (0 + i)) : xE g a1 12 f = xE g a 12 f := rfl
theorem xr_13 (e : ∀ i, 1 ≤ i → i < 41 → a1 i = a (0 + i)) : xE g a1 13 f = xE g a 13 f := by
  have h0 : (fun i => if i < 7 then some (a1 (14 + i)) else none) = (fun i => if i < 7 then some (a (14 + i)) else none) := by
    funext i
    by_cases hi : i < 7
    · rw [if_pos hi, if_pos hi, e (14 + i) (by omega) (by omega), ← Nat.add_assoc]
    · rw [if_neg hi, if_neg hi]
  exact congrArg (fun F => (Sum.inl (gII g, 7, Sum.inr (Sum.inr (Sum.inr (Sum.inr F)))) : va_E)) h0
theorem xr_14 (e : ∀ i, 1 ≤ i → i < 41 → a1 i = a (0 + i)) : xE g a1 14 f = xE g a 14 f := rfl
theorem xr_15 (e : ∀ i, 1 ≤ i → i < 41 → a1 i = a (0 + i)) : xE g a1 15 f = xE g a 15 f := rfl
theorem xr_16 (e : ∀ i, 1 ≤ i → i < 41 → a1 i = a (0 + i)) : xE g a1 16 f = xE g a 16 f := rfl
theorem xr_17 (e : ∀ i, 1 ≤ i → i < 41 → a1 i = a (0 + i)) : xE g a1 17 f = xE g a 17 f := rfl
theorem xr_18 (e : ∀ i, 1 ≤ i → i < 41 → a1 i = a (0 + i)) : xE g a1 18 f = xE g a 18 f := rfl
theorem xr_19 (e : ∀ i, 1 ≤ i → i < 41 → a1 i = a (0 + i)) : xE g a1 19 f = xE g a 19 f := rfl
theorem xr_20 (e : ∀ i, 1 ≤ i → i < 41 → a1 i = a (0 + i)) : xE g a1 20 f = xE g a 20 f := rfl
theorem xr_21 (e : ∀ i, 1 ≤ i → i < 41 → a1 i = a (0 + i)) : xE g a1 21 f = xE g a 21 f := by
  show (Sum.inr (6, [.ref (a1 22), .int (f 1), .int (f 2)]) : va_E) = _
  rw [e 22 (by decide) (by decide)]
  rfl
theorem xr_22 (e : ∀ i, 1 ≤ i → i < 41 → a1 i = a (0 + i)) : xE g a1 22 f = xE g a 22 f := rfl
theorem xr_23 (e : ∀ i, 1 ≤ i → i < 41 → a1 i = a (0 + i)) : xE g a1 23 f = xE g a 23 f := by
  show (Sum.inr (10, [.int (f 0), .int (f 1), .int (f 2), .int (f 3), .int (f 4), .ref (a1 24), .ref (a1 25), .ref (a1 26), .ref (a1 27), .ref (a1 28), .ref (a1 29)]) : va_E) = _
  rw [e 24 (by decide) (by decide), e 25 (by decide) (by decide), e 26 (by decide) (by decide), e 27 (by decide) (by decide), e 28 (by decide) (by decide), e 29 (by decide) (by decide)]
  rfl
theorem xr_24 (e : ∀ i, 1 ≤ i → i < 41 → a1 i = a (0 + i)) : xE g a1 24 f = xE g a 24 f := rfl
theorem xr_25 (e : ∀ i, 1 ≤ i → i < 41 → a1 i = a (0 + i)) : xE g a1 25 f = xE g a 25 f := rfl
theorem xr_26 (e : ∀ i, 1 ≤ i → i < 41 → a1 i = a (0 + i)) : xE g a1 26 f = xE g a 26 f := rfl
theorem xr_27 (e : ∀ i, 1 ≤ i → i < 41 → a1 i = a (0 + i)) : xE g a1 27 f = xE g a 27 f := rfl
theorem xr_28 (e : ∀ i, 1 ≤ i → i < 41 → a1 i = a (0 + i)) : xE g a1 28 f = xE g a 28 f := rfl
theorem xr_29 (e : ∀ i, 1 ≤ i → i < 41 → a1 i = a (0 + i)) : xE g a1 29 f = xE g a 29 f := rfl
theorem xr_30 (hs : ∀ i, dq (f i) = none) : xE g a1 30 f = xE g a 30 f := by
  have h0 : (fun i => (dq (f i)).map (fun t => a1 (102 + t))) = (fun i => (dq (f i)).map (fun t => a (102 + t))) := by
    funext i
    rw [hs i]
    rfl
  exact congrArg (fun F => (Sum.inl (gS g, 8, Sum.inr (Sum.inr (Sum.inr (Sum.inr F)))) : va_E)) h0
theorem xr_31 (e : ∀ i, 1 ≤ i → i < 41 → a1 i = a (0 + i)) : xE g a1 31 f = xE g a 31 f := by
  have h0 : (fun i => if i < 9 then some (a1 (32 + i)) else none) = (fun i => if i < 9 then some (a (32 + i)) else none) := by
    funext i
    by_cases hi : i < 9
    · rw [if_pos hi, if_pos hi, e (32 + i) (by omega) (by omega), ← Nat.add_assoc]
    · rw [if_neg hi, if_neg hi]
  exact congrArg (fun F => (Sum.inl (gII g, 9, Sum.inr (Sum.inr (Sum.inr (Sum.inr F)))) : va_E)) h0
theorem xr_32 (e : ∀ i, 1 ≤ i → i < 41 → a1 i = a (0 + i)) : xE g a1 32 f = xE g a 32 f := rfl
theorem xr_33 (e : ∀ i, 1 ≤ i → i < 41 → a1 i = a (0 + i)) : xE g a1 33 f = xE g a 33 f := rfl
theorem xr_34 (e : ∀ i, 1 ≤ i → i < 41 → a1 i = a (0 + i)) : xE g a1 34 f = xE g a 34 f := rfl
theorem xr_35 (e : ∀ i, 1 ≤ i → i < 41 → a1 i = a (0 + i)) : xE g a1 35 f = xE g a 35 f := rfl
theorem xr_36 (e : ∀ i, 1 ≤ i → i < 41 → a1 i = a (0 + i)) : xE g a1 36 f = xE g a 36 f := rfl
theorem xr_37 (e : ∀ i, 1 ≤ i → i < 41 → a1 i = a (0 + i)) : xE g a1 37 f = xE g a 37 f := rfl
theorem xr_38 (e : ∀ i, 1 ≤ i → i < 41 → a1 i = a (0 + i)) : xE g a1 38 f = xE g a 38 f := rfl
theorem xr_39 (e : ∀ i, 1 ≤ i → i < 41 → a1 i = a (0 + i)) : xE g a1 39 f = xE g a 39 f := rfl
theorem xr_40 (e : ∀ i, 1 ≤ i → i < 41 → a1 i = a (0 + i)) : xE g a1 40 f = xE g a 40 f := rfl
theorem xr_all (e : ∀ i, 1 ≤ i → i < 41 → a1 i = a (0 + i)) {h : HT} (hs : ∀ i, dq (h 30 i) = none) : (List.range 40).map (fun k => (a1 (1 + k), xE g a1 (1 + k) (h (1 + k)))) = (List.range 40).map (fun k => (a (0 + (1 + k)), xE g a (0 + (1 + k)) (h (1 + k)))) := by
  refine List.map_congr_left fun k hk => ?_
  have hk := List.mem_range.mp hk
  rw [e (1 + k) (by omega) (by omega)]
  congr 1
  generalize hj : 1 + k = j
  have hj1 : 1 ≤ j ∧ j < 41 := by omega
  clear hj hk
  rcases (show j = 1 ∨ j = 2 ∨ j = 3 ∨ j = 4 ∨ j = 5 ∨ j = 6 ∨ j = 7 ∨ j = 8 ∨ j = 9 ∨ j = 10 ∨ j = 11 ∨ j = 12 ∨ j = 13 ∨ j = 14 ∨ j = 15 ∨ j = 16 ∨ j = 17 ∨ j = 18 ∨ j = 19 ∨ j = 20 ∨ j = 21 ∨ j = 22 ∨ j = 23 ∨ j = 24 ∨ j = 25 ∨ j = 26 ∨ j = 27 ∨ j = 28 ∨ j = 29 ∨ j = 30 ∨ j = 31 ∨ j = 32 ∨ j = 33 ∨ j = 34 ∨ j = 35 ∨ j = 36 ∨ j = 37 ∨ j = 38 ∨ j = 39 ∨ j = 40 by omega) with rfl | rfl | rfl | rfl | rfl | rfl | rfl | rfl | rfl | rfl | rfl | rfl | rfl | rfl | rfl | rfl | rfl | rfl | rfl | rfl | rfl | rfl | rfl | rfl | rfl | rfl | rfl | rfl | rfl | rfl | rfl | rfl | rfl | rfl | rfl | rfl | rfl | rfl | rfl | rfl
  · exact xr_1 e
  · exact xr_2 e
  · exact xr_3 e
  · exact xr_4 e
  · exact xr_5 e
  · exact xr_6 e
  · exact xr_7 e
  · exact xr_8 e
  · exact xr_9 e
  · exact xr_10 e
  · exact xr_11 e
  · exact xr_12 e
  · exact xr_13 e
  · exact xr_14 e
  · exact xr_15 e
  · exact xr_16 e
  · exact xr_17 e
  · exact xr_18 e
  · exact xr_19 e
  · exact xr_20 e
  · exact xr_21 e
  · exact xr_22 e
  · exact xr_23 e
  · exact xr_24 e
  · exact xr_25 e
  · exact xr_26 e
  · exact xr_27 e
  · exact xr_28 e
  · exact xr_29 e
  · exact xr_30 hs
  · exact xr_31 e
  · exact xr_32 e
  · exact xr_33 e
  · exact xr_34 e
  · exact xr_35 e
  · exact xr_36 e
  · exact xr_37 e
  · exact xr_38 e
  · exact xr_39 e
  · exact xr_40 e
theorem xs_1 (e : ∀ i, 1 ≤ i → i < 41 → a1 i = a (40 + i)) : xE g a1 1 f = xE g a 41 f := by
  show (Sum.inr (3, [.int (f 0), .int (f 1), .int (f 2), .int (f 3), .int (f 4), .ref (a1 2), .ref (a1 3), .ref (a1 4), .ref (a1 5), .ref (a1 13), .ref (a1 21), .ref (a1 23), .ref (a1 30), .ref (a1 31)]) : va_E) = _
  rw [e 2 (by decide) (by decide), e 3 (by decide) (by decide), e 4 (by decide) (by decide), e 5 (by decide) (by decide), e 13 (by decide) (by decide), e 21 (by decide) (by decide), e 23 (by decide) (by decide), e 30 (by decide) (by decide), e 31 (by decide) (by decide)]
  rfl
theorem xs_2 (e : ∀ i, 1 ≤ i → i < 41 → a1 i = a (40 + i)) : xE g a1 2 f = xE g a 42 f := rfl
theorem xs_3 (e : ∀ i, 1 ≤ i → i < 41 → a1 i = a (40 + i)) : xE g a1 3 f = xE g a 43 f := rfl
theorem xs_4 (e : ∀ i, 1 ≤ i → i < 41 → a1 i = a (40 + i)) : xE g a1 4 f = xE g a 44 f := rfl
theorem xs_5 (e : ∀ i, 1 ≤ i → i < 41 → a1 i = a (40 + i)) : xE g a1 5 f = xE g a 45 f := by
  have h0 : (fun i => if i < 7 then some (a1 (6 + i)) else none) = (fun i => if i < 7 then some (a (46 + i)) else none) := by
    funext i
    by_cases hi : i < 7
    · rw [if_pos hi, if_pos hi, e (6 + i) (by omega) (by omega), ← Nat.add_assoc]
    · rw [if_neg hi, if_neg hi]
  exact congrArg (fun F => (Sum.inl (gII g, 7, Sum.inr (Sum.inr (Sum.inr (Sum.inr F)))) : va_E)) h0
theorem xs_6 (e : ∀ i, 1 ≤ i → i < 41 → a1 i = a (40 + i)) : xE g a1 6 f = xE g a 46 f := rfl
theorem xs_7 (e : ∀ i, 1 ≤ i → i < 41 → a1 i = a (40 + i)) : xE g a1 7 f = xE g a 47 f := rfl
theorem xs_8 (e : ∀ i, 1 ≤ i → i < 41 → a1 i = a (40 + i)) : xE g a1 8 f = xE g a 48 f := rfl
theorem xs_9 (e : ∀ i, 1 ≤ i → i < 41 → a1 i = a (40 + i)) : xE g a1 9 f = xE g a 49 f := rfl
theorem xs_10 (e : ∀ i, 1 ≤ i → i < 41 → a1 i = a (40 + i)) : xE g a1 10 f = xE g a 50 f := rfl
theorem xs_11 (e : ∀ i, 1 ≤ i → i < 41 → a1 i = a (40 + i)) : xE g a1 11 f = xE g a 51 f := rfl
theorem xs_12 (e : ∀ i, 1 ≤ i → i < 41 → a1 i = a (40 + i)) : xE g a1 12 f = xE g a 52 f := rfl
theorem xs_13 (e : ∀ i, 1 ≤ i → i < 41 → a1 i = a (40 + i)) : xE g a1 13 f = xE g a 53 f := by
  have h0 : (fun i => if i < 7 then some (a1 (14 + i)) else none) = (fun i => if i < 7 then some (a (54 + i)) else none) := by
    funext i
    by_cases hi : i < 7
    · rw [if_pos hi, if_pos hi, e (14 + i) (by omega) (by omega), ← Nat.add_assoc]
    · rw [if_neg hi, if_neg hi]
  exact congrArg (fun F => (Sum.inl (gII g, 7, Sum.inr (Sum.inr (Sum.inr (Sum.inr F)))) : va_E)) h0
theorem xs_14 (e : ∀ i, 1 ≤ i → i < 41 → a1 i = a (40 + i)) : xE g a1 14 f = xE g a 54 f := rfl
theorem xs_15 (e : ∀ i, 1 ≤ i → i < 41 → a1 i = a (40 + i)) : xE g a1 15 f = xE g a 55 f := rfl
theorem xs_16 (e : ∀ i, 1 ≤ i → i < 41 → a1 i = a (40 + i)) : xE g a1 16 f = xE g a 56 f := rfl
theorem xs_17 (e : ∀ i, 1 ≤ i → i < 41 → a1 i = a (40 + i)) : xE g a1 17 f = xE g a 57 f := rfl
theorem xs_18 (e : ∀ i, 1 ≤ i → i < 41 → a1 i = a (40 + i)) : xE g a1 18 f = xE g a 58 f := rfl
theorem xs_19 (e : ∀ i, 1 ≤ i → i < 41 → a1 i = a (40 + i)) : xE g a1 19 f = xE g a 59 f := rfl
theorem xs_20 (e : ∀ i, 1 ≤ i → i < 41 → a1 i = a (40 + i)) : xE g a1 20 f = xE g a 60 f := rfl
theorem xs_21 (e : ∀ i, 1 ≤ i → i < 41 → a1 i = a (40 + i)) : xE g a1 21 f = xE g a 61 f := by
  show (Sum.inr (6, [.ref (a1 22), .int (f 1), .int (f 2)]) : va_E) = _
  rw [e 22 (by decide) (by decide)]
  rfl
theorem xs_22 (e : ∀ i, 1 ≤ i → i < 41 → a1 i = a (40 + i)) : xE g a1 22 f = xE g a 62 f := rfl
theorem xs_23 (e : ∀ i, 1 ≤ i → i < 41 → a1 i = a (40 + i)) : xE g a1 23 f = xE g a 63 f := by
  show (Sum.inr (10, [.int (f 0), .int (f 1), .int (f 2), .int (f 3), .int (f 4), .ref (a1 24), .ref (a1 25), .ref (a1 26), .ref (a1 27), .ref (a1 28), .ref (a1 29)]) : va_E) = _
  rw [e 24 (by decide) (by decide), e 25 (by decide) (by decide), e 26 (by decide) (by decide), e 27 (by decide) (by decide), e 28 (by decide) (by decide), e 29 (by decide) (by decide)]
  rfl
theorem xs_24 (e : ∀ i, 1 ≤ i → i < 41 → a1 i = a (40 + i)) : xE g a1 24 f = xE g a 64 f := rfl
theorem xs_25 (e : ∀ i, 1 ≤ i → i < 41 → a1 i = a (40 + i)) : xE g a1 25 f = xE g a 65 f := rfl
theorem xs_26 (e : ∀ i, 1 ≤ i → i < 41 → a1 i = a (40 + i)) : xE g a1 26 f = xE g a 66 f := rfl
theorem xs_27 (e : ∀ i, 1 ≤ i → i < 41 → a1 i = a (40 + i)) : xE g a1 27 f = xE g a 67 f := rfl
theorem xs_28 (e : ∀ i, 1 ≤ i → i < 41 → a1 i = a (40 + i)) : xE g a1 28 f = xE g a 68 f := rfl
theorem xs_29 (e : ∀ i, 1 ≤ i → i < 41 → a1 i = a (40 + i)) : xE g a1 29 f = xE g a 69 f := rfl
theorem xs_30 (hs : ∀ i, dq (f i) = none) : xE g a1 30 f = xE g a 70 f := by
  have h0 : (fun i => (dq (f i)).map (fun t => a1 (102 + t))) = (fun i => (dq (f i)).map (fun t => a (102 + t))) := by
    funext i
    rw [hs i]
    rfl
  exact congrArg (fun F => (Sum.inl (gS g, 8, Sum.inr (Sum.inr (Sum.inr (Sum.inr F)))) : va_E)) h0
theorem xs_31 (e : ∀ i, 1 ≤ i → i < 41 → a1 i = a (40 + i)) : xE g a1 31 f = xE g a 71 f := by
  have h0 : (fun i => if i < 9 then some (a1 (32 + i)) else none) = (fun i => if i < 9 then some (a (72 + i)) else none) := by
    funext i
    by_cases hi : i < 9
    · rw [if_pos hi, if_pos hi, e (32 + i) (by omega) (by omega), ← Nat.add_assoc]
    · rw [if_neg hi, if_neg hi]
  exact congrArg (fun F => (Sum.inl (gII g, 9, Sum.inr (Sum.inr (Sum.inr (Sum.inr F)))) : va_E)) h0
theorem xs_32 (e : ∀ i, 1 ≤ i → i < 41 → a1 i = a (40 + i)) : xE g a1 32 f = xE g a 72 f := rfl
theorem xs_33 (e : ∀ i, 1 ≤ i → i < 41 → a1 i = a (40 + i)) : xE g a1 33 f = xE g a 73 f := rfl
theorem xs_34 (e : ∀ i, 1 ≤ i → i < 41 → a1 i = a (40 + i)) : xE g a1 34 f = xE g a 74 f := rfl
theorem xs_35 (e : ∀ i, 1 ≤ i → i < 41 → a1 i = a (40 + i)) : xE g a1 35 f = xE g a 75 f := rfl
theorem xs_36 (e : ∀ i, 1 ≤ i → i < 41 → a1 i = a (40 + i)) : xE g a1 36 f = xE g a 76 f := rfl
theorem xs_37 (e : ∀ i, 1 ≤ i → i < 41 → a1 i = a (40 + i)) : xE g a1 37 f = xE g a 77 f := rfl
theorem xs_38 (e : ∀ i, 1 ≤ i → i < 41 → a1 i = a (40 + i)) : xE g a1 38 f = xE g a 78 f := rfl
theorem xs_39 (e : ∀ i, 1 ≤ i → i < 41 → a1 i = a (40 + i)) : xE g a1 39 f = xE g a 79 f := rfl
theorem xs_40 (e : ∀ i, 1 ≤ i → i < 41 → a1 i = a (40 + i)) : xE g a1 40 f = xE g a 80 f := rfl
theorem xs_all (e : ∀ i, 1 ≤ i → i < 41 → a1 i = a (40 + i)) {h : HT} (hs : ∀ i, dq (h 30 i) = none) : (List.range 40).map (fun k => (a1 (1 + k), xE g a1 (1 + k) (h (1 + k)))) = (List.range 40).map (fun k => (a (40 + (1 + k)), xE g a (40 + (1 + k)) (h (1 + k)))) := by
  refine List.map_congr_left fun k hk => ?_
  have hk := List.mem_range.mp hk
  rw [e (1 + k) (by omega) (by omega)]
  congr 1
  generalize hj : 1 + k = j
  have hj1 : 1 ≤ j ∧ j < 41 := by omega
  clear hj hk
  rcases (show j = 1 ∨ j = 2 ∨ j = 3 ∨ j = 4 ∨ j = 5 ∨ j = 6 ∨ j = 7 ∨ j = 8 ∨ j = 9 ∨ j = 10 ∨ j = 11 ∨ j = 12 ∨ j = 13 ∨ j = 14 ∨ j = 15 ∨ j = 16 ∨ j = 17 ∨ j = 18 ∨ j = 19 ∨ j = 20 ∨ j = 21 ∨ j = 22 ∨ j = 23 ∨ j = 24 ∨ j = 25 ∨ j = 26 ∨ j = 27 ∨ j = 28 ∨ j = 29 ∨ j = 30 ∨ j = 31 ∨ j = 32 ∨ j = 33 ∨ j = 34 ∨ j = 35 ∨ j = 36 ∨ j = 37 ∨ j = 38 ∨ j = 39 ∨ j = 40 by omega) with rfl | rfl | rfl | rfl | rfl | rfl | rfl | rfl | rfl | rfl | rfl | rfl | rfl | rfl | rfl | rfl | rfl | rfl | rfl | rfl | rfl | rfl | rfl | rfl | rfl | rfl | rfl | rfl | rfl | rfl | rfl | rfl | rfl | rfl | rfl | rfl | rfl | rfl | rfl | rfl
  · exact xs_1 e
  · exact xs_2 e
  · exact xs_3 e
  · exact xs_4 e
  · exact xs_5 e
  · exact xs_6 e
  · exact xs_7 e
  · exact xs_8 e
  · exact xs_9 e
  · exact xs_10 e
  · exact xs_11 e
  · exact xs_12 e
  · exact xs_13 e
  · exact xs_14 e
  · exact xs_15 e
  · exact xs_16 e
  · exact xs_17 e
  · exact xs_18 e
  · exact xs_19 e
  · exact xs_20 e
  · exact xs_21 e
  · exact xs_22 e
  · exact xs_23 e
  · exact xs_24 e
  · exact xs_25 e
  · exact xs_26 e
  · exact xs_27 e
  · exact xs_28 e
  · exact xs_29 e
  · exact xs_30 hs
  · exact xs_31 e
  · exact xs_32 e
  · exact xs_33 e
  · exact xs_34 e
  · exact xs_35 e
  · exact xs_36 e
  · exact xs_37 e
  · exact xs_38 e
  · exact xs_39 e
  · exact xs_40 e
end STA
