/-! The law's loop; the start. -/
theorem inv_00 (L : Nat) (xs : Nat → Int32) : Inv (m00 L xs) := by
  have e34 : ∀ j, m00 L xs 34 0 j = if j = 500 ∨ j = 501 then 8 else 0 := fun j => rfl
  have e1 : ∀ i j, m00 L xs 1 i j = if j = 0 ∨ j = 1 then 8 else 0 := fun i j => rfl
  have e0 : ∀ j, m00 L xs 0 0 j = 0 := fun j => rfl
  have e2 : ∀ j, m00 L xs 2 0 j = 0 := fun j => rfl
  have e3 : ∀ i j, m00 L xs 3 i j = 0 := fun i j => rfl
  have e6 : ∀ i j, m00 L xs 6 i j = 0 := fun i j => rfl
  have e26 : ∀ j, m00 L xs 26 0 j = 0 := fun j => rfl
  have e36 : ∀ j, m00 L xs 36 0 j = 0 := fun j => rfl
  have ez : ∀ j, j ≠ 500 → j ≠ 501 → m00 L xs 34 0 j = 0 := fun j a b => by rw [e34, if_neg (fun z => z.elim a b)]
  refine Inv.fresh ⟨?_, fun k k0 k1 => Or.inl (ez k (by omega) (by omega)), fun k k0 k1 => by rw [ez (400 + k) (by omega) (by omega)]; omega, ?_, ?_, fun l y x l0 l1 y0 y1 x0 x1 => ?_, fun j _ _ => by rw [e2]; omega, fun j j0 j1 => by rw [ez (400 + j) (by omega) (by omega)]; exact e3 0 j, fun l y x l0 l1 y0 y1 x0 x1 _ => ez _ (by omega) (by omega)⟩ ⟨by rw [e0]; omega, fun k k0 k1 => Or.inl ⟨e36 k, by rw [e0]; exact bt_zero⟩⟩ (fun l _ _ => ⟨e6 l 3, e6 l 4⟩) (e26 5)
  · rw [e34, e34, if_pos (Or.inl rfl), if_pos (Or.inr rfl)]; omega
  · rw [e1, e34, if_pos (Or.inl rfl), if_pos (Or.inl rfl)]
  · rw [e1, e34, if_pos (Or.inr rfl), if_pos (Or.inr rfl)]
  · rw [ez _ (by omega) (by omega)]
    rw [e2, bt_zero]
set_option maxHeartbeats 2000000 in
theorem law_loop (L : Int) (hL : 0 ≤ L ∧ L ≤ 2560) : ∀ (t : Nat) (x : Int) (m : Mem), 0 ≤ x → x ≤ 3000 → L - x ≤ (t : Int) → Inv m → m 32 1 0 = L → WP cW_law 18 [.inr (32, 0), .inr (0, 0), .inr (33, 0), .inl x] [] m (fun r _ => r = .inl 1) := by
  intro t
  induction t with
  | zero =>
    intro x m x0 x2 xt hI hm
    refine gW_law_18 x m ⟨⟨by omega, by omega⟩, fun _ => rfl, fun z => absurd (by omega) z⟩
  | succ t ih =>
    intro x m x0 x2 xt hI hm
    refine gW_law_18 x m ⟨⟨by omega, by omega⟩, fun _ => rfl, fun z => ?_⟩
    have r1 : Rng (x + 1) := ⟨by omega, by omega⟩
    have r2 : Rng (x + 2) := ⟨by omega, by omega⟩
    have r3 : Rng (x + 3) := ⟨by omega, by omega⟩
    have r4 : Rng (x + 4) := ⟨by omega, by omega⟩
    have r5 : Rng (x + 5) := ⟨by omega, by omega⟩
    have i1 : 0 ≤ x + 1 ∧ x + 1 < m 32 1 0 := by omega
    have i2 : 0 ≤ x + 2 ∧ x + 2 < m 32 1 0 := by omega
    have i3 : 0 ≤ x + 3 ∧ x + 3 < m 32 1 0 := by omega
    have i4 : 0 ≤ x + 4 ∧ x + 4 < m 32 1 0 := by omega
    have nx : ∀ m2, Inv m2 → m2 32 = m 32 → WP cW_law 18 [.inr (32, 0), .inr (0, 0), .inr (33, 0), .inl (x + 5)] [] m2 (fun r _ => r = .inl 1) := fun m2 hI2 e2 => ih (x + 5) m2 (by omega) (by omega) (by omega) hI2 (by rw [e2]; exact hm)
    have fin : ∀ r1 m2, Inv m2 → m2 32 = m 32 → ∃ r2 : Int, (.inl r1 : AV) = .inl r2 ∧ ((r1 = r2 → (Rng (x + 5) ∧ WP cW_law 18 [.inr (32, 0), .inr (0, 0), .inr (33, 0), .inl (x + 5)] [] m2 (fun r _ => r = .inl 1))) ∧ (¬ r1 = r2 → (.inl 0 : AV) = .inl 1)) := fun r1 m2 hI2 e2 => ⟨r1, rfl, fun _ => ⟨r5, nx m2 hI2 e2⟩, fun z => absurd rfl z⟩
    refine ⟨by omega, ?_⟩
    refine ⟨fun _ => ⟨r1, i1, r2, i2, pr_sheet hI (fun q m1 hT => ⟨q, rfl, ?_⟩)⟩, fun _ => ?_⟩
    · rw [hT.1]
      exact ⟨r1, i1, r2, i2, hT.2 _ (fin q)⟩
    refine ⟨fun _ => ⟨r1, i1, r2, i2, r3, i3, r4, i4, pr_cut hI (fun q m1 hT => ⟨q, rfl, ?_⟩)⟩, fun _ => ?_⟩
    · rw [hT.1]
      exact ⟨r1, i1, r2, i2, r3, i3, r4, i4, hT.2 _ (fin q)⟩
    refine ⟨fun _ => ⟨r1, i1, r2, i2, r3, i3, pr_row hI (fun q m1 hT => ⟨q, rfl, ?_⟩)⟩, fun _ => ?_⟩
    · rw [hT.1]
      exact ⟨r1, i1, r2, i2, r3, i3, hT.2 _ (fin q)⟩
    refine ⟨fun _ => ⟨r1, i1, r2, i2, r3, i3, pr_wish hI (fun q m1 hT => ⟨q, rfl, ?_⟩)⟩, fun _ => ?_⟩
    · rw [hT.1]
      exact ⟨r1, i1, r2, i2, r3, i3, hT.2 _ (fin q)⟩
    refine ⟨fun _ => ⟨r1, i1, r2, i2, r3, i3, r4, i4, pr_cell hI (fun q m1 hT => ⟨q, rfl, ?_⟩)⟩, fun _ => ?_⟩
    · rw [hT.1]
      exact ⟨r1, i1, r2, i2, r3, i3, r4, i4, hT.2 _ (fin q)⟩
    refine ⟨fun _ => ⟨r1, i1, r2, i2, pr_layer hI (fun q m1 hT => ⟨q, rfl, ?_⟩)⟩, fun _ => ?_⟩
    · rw [hT.1]
      exact ⟨r1, i1, r2, i2, hT.2 _ (fin q)⟩
    refine ⟨fun _ => ⟨r1, i1, r2, i2, r3, i3, pr_island hI (fun q m1 hT => ⟨q, rfl, ?_⟩)⟩, fun _ => ?_⟩
    · rw [hT.1]
      exact ⟨r1, i1, r2, i2, r3, i3, hT.2 _ (fin q)⟩
    refine ⟨fun _ => ⟨r1, i1, r2, i2, r3, i3, pr_bridge hI (fun q m1 hT => ⟨q, rfl, ?_⟩)⟩, fun _ => ?_⟩
    · rw [hT.1]
      exact ⟨r1, i1, r2, i2, r3, i3, hT.2 _ (fin q)⟩
    refine ⟨fun _ => ⟨r1, i1, r2, i2, pr_knife hI (fun q m1 hT => ⟨q, rfl, ?_⟩)⟩, fun _ => ?_⟩
    · rw [hT.1]
      exact ⟨r1, i1, r2, i2, hT.2 _ (fin q)⟩
    refine ⟨fun _ => ⟨r1, i1, r2, i2, r3, i3, pr_loop hI (fun q m1 hT => ⟨q, rfl, ?_⟩)⟩, fun _ => ?_⟩
    · rw [hT.1]
      exact ⟨r1, i1, r2, i2, r3, i3, hT.2 _ (fin q)⟩
    refine ⟨fun _ => ⟨r1, i1, r2, i2, pr_paint hI (fun q m1 hT => ⟨q, rfl, ?_⟩)⟩, fun _ => ?_⟩
    · rw [hT.1]
      exact ⟨r1, i1, r2, i2, hT.2 _ (fin q)⟩
    refine ⟨fun _ => ⟨r1, i1, pr_wrong hI (fun q m1 hT => ⟨q, rfl, ?_⟩)⟩, fun _ => ?_⟩
    · rw [hT.1]
      exact ⟨r1, i1, hT.2 _ (fin q)⟩
    refine ⟨fun _ => ⟨r1, i1, pr_best hI (fun q m1 hT => ⟨q, rfl, ?_⟩)⟩, fun _ => ?_⟩
    · rw [hT.1]
      exact ⟨r1, i1, hT.2 _ (fin q)⟩
    refine ⟨fun _ => ⟨r1, i1, pr_image hI (fun q m1 hT => ⟨q, rfl, ?_⟩)⟩, fun _ => ?_⟩
    · rw [hT.1]
      exact ⟨r1, i1, hT.2 _ (fin q)⟩
    refine ⟨fun _ => ⟨r1, i1, pr_restore hI (fun q m1 hT => ⟨q, rfl, ?_⟩)⟩, fun _ => ?_⟩
    · rw [hT.1]
      exact ⟨r1, i1, hT.2 _ (fin q)⟩
    refine ⟨fun _ => ⟨r1, i1, pr_count hI (fun q m1 hT => ⟨q, rfl, ?_⟩)⟩, fun _ => ?_⟩
    · rw [hT.1]
      exact ⟨r1, i1, hT.2 _ (fin q)⟩
    exact ⟨r5, nx m hI rfl⟩
theorem law_all (L : Nat) (xs : Nat → Int32) (hL : L ≤ 2560) : WP cW_law 18 [.inr (32, 0), .inr (0, 0), .inr (33, 0), .inl 0] [] (m00 L xs) (fun r _ => r = .inl 1) :=
  law_loop (L : Int) (by omega) L 0 (m00 L xs) (by omega) (by omega) (by omega) (inv_00 L xs) rfl
