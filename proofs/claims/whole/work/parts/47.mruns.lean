/-! The model's runs. -/
theorem OM_stp {m : Mem} {l x y d i : Int} (hd : d = 0 ∨ d = 1) (h : -1 ≤ x + i * (1 - d) ∧ x + i * (1 - d) ≤ 10) (h2 : -1 ≤ y + i * d ∧ y + i * d ≤ 10) : OM m l (pl x y + i * stp d) ↔ Mo m l (x + i * (1 - d)) (y + i * d) := by
  rcases hd with rfl | rfl
  · simp only [Int.sub_zero, Int.mul_one, Int.mul_zero, Int.add_zero] at h h2 ⊢
    rw [← OM_pl h h2]
    unfold pl stp
    rw [if_pos rfl, show 12 * (y + 1) + (x + 1) + i * 1 = 12 * (y + 1) + (x + i + 1) by omega]
  · simp only [Int.sub_self, Int.mul_one, Int.mul_zero, Int.add_zero] at h h2 ⊢
    rw [← OM_pl h h2]
    unfold pl stp
    rw [if_neg (by decide), show 12 * (y + 1) + (x + 1) + i * 12 = 12 * (y + i + 1) + (x + 1) by omega]
theorem sM_lengthFrom {Q : AV → Mem → Prop} {l x y d : Int} {m : Mem} (hw : MW m) (hl : 0 ≤ l ∧ l ≤ 3) (hc : inS m x y) (hd : d = 0 ∨ d = 1) (h0 : (∀ n, ¬ Str (OM m l) (pl x y) d n) → Q (.inl 0) m) (h1 : ∀ n, Str (OM m l) (pl x y) d n → 1 ≤ n → n ≤ 10 → x + n * (1 - d) ≤ 10 → y + n * d ≤ 10 → Q (.inl n) m) : WP cM_lengthFrom 0 [.inr (33, 0), .inl l, .inl x, .inl y, .inl d, uu, uu] [] m Q := by
  have hw' := hw
  obtain ⟨w1, w2, w3, w4⟩ := hw'
  have hc' := hc
  unfold inS at hc'
  have hprev : OM m l (pl x y - stp d) ↔ Mo m l (x - (1 - d)) (y - d) := by
    have := OM_stp (m := m) (l := l) (x := x) (y := y) (d := d) (i := -1) hd (by rcases hd with rfl | rfl <;> omega) (by rcases hd with rfl | rfl <;> omega)
    rw [show pl x y + -1 * stp d = pl x y - stp d by omega, show x + -1 * (1 - d) = x - (1 - d) by omega, show y + -1 * d = y - d by omega] at this
    exact this
  refine gM_lengthFrom_0 l x y d m ⟨⟨by omega, by omega⟩, ⟨by omega, by omega⟩, ⟨by omega, by omega⟩, sM_isCut hw hl (fun c => ⟨1, rfl, fun z => by omega, fun _ => h0 (fun n z => z.2.1 (hprev.mpr c))⟩) (fun c => ⟨0, rfl, fun _ => ?_, fun z => absurd rfl z⟩)⟩
  have key : ∀ (k : Nat) (n : Int), 0 ≤ n → n + (k : Int) = 11 → (∀ i, 0 ≤ i → i < n → OM m l (pl x y + i * stp d)) → x + n * (1 - d) ≤ 10 → y + n * d ≤ 10 → WP cM_lengthFrom 27 [.inr (33, 0), .inl l, .inl x, .inl y, .inl d, .inl (1 - d), .inl n] [] m Q := by
    intro k
    induction k with
    | zero =>
      intro n n0 nk hall hx hy
      rcases hd with rfl | rfl <;> omega
    | succ k ih =>
      intro n n0 nk hall hx hy
      have hxx : -1 ≤ x + n * (1 - d) ∧ x + n * (1 - d) ≤ 10 := by rcases hd with rfl | rfl <;> omega
      have hyy : -1 ≤ y + n * d ∧ y + n * d ≤ 10 := by rcases hd with rfl | rfl <;> omega
      have hn := OM_stp (m := m) (l := l) (x := x) (y := y) (d := d) (i := n) hd hxx hyy
      refine gM_lengthFrom_27 l x y d (1 - d) n m ⟨⟨by rcases hd with rfl | rfl <;> omega, by rcases hd with rfl | rfl <;> omega⟩, ⟨by omega, by omega⟩, ⟨by rcases hd with rfl | rfl <;> omega, by rcases hd with rfl | rfl <;> omega⟩, ⟨by omega, by omega⟩, sM_isCut hw hl (fun c => ⟨1, rfl, fun z => by omega, fun _ => ⟨⟨by omega, by omega⟩, ?_⟩⟩) (fun c => ⟨0, rfl, fun _ => ?_, fun z => absurd rfl z⟩)⟩
      · have hin := c.1
        unfold inS at hin
        refine ih (n + 1) (by omega) (by omega) (fun i i0 i1 => ?_) ?_ ?_
        · by_cases e : i = n
          · rw [e]; exact hn.mpr c
          · exact hall i i0 (by omega)
        · rcases hd with rfl | rfl <;> omega
        · rcases hd with rfl | rfl <;> omega
      · by_cases e : n = 0
        · subst e
          refine h0 (fun n' z => c (hn.mp ?_))
          have := z.at0
          rwa [Int.zero_mul, Int.add_zero]
        · exact h1 n ⟨by omega, fun z => (by assumption : ¬ Mo m l (x - (1 - d)) (y - d)) (hprev.mp z), hall, fun z => c (hn.mp z)⟩ (by omega) (by omega) hx hy
  refine key 11 0 (Int.le_refl 0) (by omega) (fun i i0 i1 => by omega) (by omega) (by omega)
theorem sM_pieceAt {Q : AV → Mem → Prop} {l x y : Int} {f : Int → Int} {m : Mem} (hw : MW m) (hP : MPc m l f) (hx : -1 ≤ x ∧ x ≤ 10) (hy : -1 ≤ y ∧ y ≤ 10) (hcl : ¬ OM m l (pl x y)) (h : Q (.inl (PN (OM m l) f (pl x y))) m) : WP cM_pieceAt 0 [.inr (33, 0), .inl x, .inl y] [] m Q := by
  have hpr : 0 ≤ pl x y ∧ pl x y < 144 := by unfold pl; omega
  have hrn := PN_rng hP.1 hpr hcl
  have hfew := IR_few (IR_cell hw hP.1)
  refine gM_pieceAt_0 x y m (sM_isCell hw (fun c => ⟨1, rfl, fun z => by omega, fun _ => ?_⟩) (fun c => ⟨0, rfl, fun _ => ?_, fun z => absurd rfl z⟩))
  · have c' := c
    have hw' := hw
    obtain ⟨w1, w2, w3, w4⟩ := hw'
    unfold inS at c'
    obtain ⟨⟨g1, g2⟩, g3⟩ := hP.2.1 x y c
    refine sM_at (by omega) (by omega) ⟨_, rfl, by omega, fun d => sM_at (by omega) (by omega) ⟨_, rfl, by omega, ?_⟩, fun d => ?_⟩
    · have hne : f (pl x y) ≠ 0 := fun z => by
        have := g1.mpr z
        unfold mk at this
        omega
      have e := (g3.2.1 hcl hne).1
      have ePN : PN (OM m l) f (pl x y) = m 38 0 (10 * y + x) + 1 := by
        unfold PN
        rw [if_neg hne, e]
      rw [ePN] at h hrn
      exact ⟨⟨by omega, by omega⟩, h⟩
    · have hz : f (pl x y) = 0 := g1.mp (by unfold mk; omega)
      have ePN : PN (OM m l) f (pl x y) = 0 := by
        unfold PN
        rw [if_pos hz]
      rw [ePN] at h
      exact h
  · have hz : f (pl x y) = 0 := fr_f hw hP.1 hpr.1 hpr.2 (by unfold frS; rw [pl_x hx, pl_y hx]; exact c)
    have ePN : PN (OM m l) f (pl x y) = 0 := by
      unfold PN
      rw [if_pos hz]
    rw [ePN] at h
    exact h
/-- a run is laid down -/
def AddR (m : Mem) (x y n d a b : Int) (m' : Mem) : Prop :=
  (∀ q, q ≠ 33 → q ≠ 40 → q ≠ 41 → q ≠ 42 → q ≠ 43 → q ≠ 44 → q ≠ 45 → m' q = m q) ∧ (∀ j, j ≠ 14 → m' 33 0 j = m 33 0 j) ∧ m' 33 0 14 = m 33 0 14 + 1 ∧
  (∀ j, j ≠ m 33 0 14 → m' 40 0 j = m 40 0 j ∧ m' 41 0 j = m 41 0 j ∧ m' 42 0 j = m 42 0 j ∧ m' 43 0 j = m 43 0 j ∧ m' 44 0 j = m 44 0 j ∧ m' 45 0 j = m 45 0 j) ∧
  m' 40 0 (m 33 0 14) = x ∧ m' 41 0 (m 33 0 14) = y ∧ m' 42 0 (m 33 0 14) = n ∧ m' 43 0 (m 33 0 14) = d ∧ m' 44 0 (m 33 0 14) = a ∧ m' 45 0 (m 33 0 14) = b
