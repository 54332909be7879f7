/-! PURE: the start: both are new -/
theorem rc_zero {Y : BV_history} {row : Nat → Int32} (e : Y.1 = 0) (e2 : Y.2.1 = 0) (r0 : row 0 = 0) (r1 : row 1 = 0) (r2 : row 2 = 1) (r25 : row 25 = 1) (r26 : row 26 = 0) (r27 : row 27 = 0) (r28 : row 28 = 0) (r41 : row 41 = 0) : RC (0, 0, 0, 1, (fun _ => 0), (fun _ => 0), 0, 0, 1, (fun _ => 0), (fun _ => 0), (fun _ => 0)) Y row :=
  ⟨(0, 0, 0, 1, (fun _ => 0), (fun _ => 0)), (0, 0, 1, (fun _ => 0), (fun _ => 0), (fun _ => 0)), 0, (fun _ => (0, 0, 0, (fun _ => 0), (fun _ => 0), (fun _ => 0))),
    ⟨⟨Nat.zero_le _, Nat.zero_le _, Nat.zero_le _, by decide, fun p hp => absurd hp (Nat.not_lt_zero _)⟩, ⟨Nat.zero_le _, Nat.zero_le _, by decide, fun p hp => absurd hp (Nat.not_lt_zero _), fun p hp => absurd hp (Nat.not_lt_zero _)⟩, Nat.zero_le _, fun p hp => absurd hp (Nat.not_lt_zero _)⟩,
    ⟨⟨rfl, rfl, rfl, rfl, fun p hp => absurd hp (Nat.not_lt_zero _)⟩, ⟨rfl, rfl, rfl, fun p hp => absurd hp (Nat.not_lt_zero _), fun p hp => absurd hp (Nat.not_lt_zero _)⟩, e2, 0, by decide, e, fun p hp => absurd hp (Nat.not_lt_zero _)⟩,
    ⟨⟨r25, r26, r27, r28, fun p hp => absurd hp (Nat.not_lt_zero _)⟩, ⟨r0, r1, r2, fun p hp => absurd hp (Nat.not_lt_zero _), fun p hp => absurd hp (Nat.not_lt_zero _)⟩, r41, fun p hp => absurd hp (Nat.not_lt_zero _)⟩⟩
theorem rel_start : Rel S0 M0 := by
  have r : ∀ j, j ≠ 25 → j ≠ 2 → M0.2.2.2.2.2.2.2.2.2.1 j = 0 := fun j h1 h2 => by
    show upd (upd (fun _ => 0) 25 1) 2 1 j = 0
    rw [upd_n h2, upd_n h1]
  have r2 : M0.2.2.2.2.2.2.2.2.2.1 2 = 1 := by
    show upd (upd (fun _ => 0) 25 1) 2 1 2 = 1
    rw [upd_s]
  have r25 : M0.2.2.2.2.2.2.2.2.2.1 25 = 1 := by
    show upd (upd (fun _ => 0) 25 1) 2 1 25 = 1
    rw [upd_n (by omega), upd_s]
  refine ⟨rc_zero rfl rfl (r 0 (by omega) (by omega)) (r 1 (by omega) (by omega)) r2 r25 (r 26 (by omega) (by omega)) (r 27 (by omega) (by omega)) (r 28 (by omega) (by omega)) (r 41 (by omega) (by omega)), ⟨rfl, Or.inl rfl⟩, ⟨0, by omega, rfl, rfl, fun j hj => absurd hj (Nat.not_lt_zero _)⟩, ⟨rfl, rfl⟩, fun q hq => ?_⟩
  · have hs : upd (upd (upd (upd (fun _ => 0) 0 (-1)) 1 (-1)) 2 (-1)) 3 (-1) q = (-1 : Int32) := by
      have hc : q = 0 ∨ q = 1 ∨ q = 2 ∨ q = 3 := by omega
      rcases hc with rfl | rfl | rfl | rfl
      · rw [upd_n (by omega), upd_n (by omega), upd_n (by omega), upd_s]
      · rw [upd_n (by omega), upd_n (by omega), upd_s]
      · rw [upd_n (by omega), upd_s]
      · rw [upd_s]
    exact ⟨rfl, hs.symm, ⟨0, by omega, rfl⟩, Or.inl hs, fun j hj => rfl⟩
