/-! The model's small methods. -/
/-- the first n values, summed up -/
def sumN (f : Int → Int) : Nat → Int
  | 0 => 0
  | n + 1 => sumN f n + f (n : Int)
theorem sumN_01 {f : Int → Int} : ∀ (n : Nat), (∀ k : Int, 0 ≤ k → k < (n : Int) → f k = 0 ∨ f k = 1) → 0 ≤ sumN f n ∧ sumN f n ≤ (n : Int)
  | 0, _ => ⟨by simp [sumN], by simp [sumN]⟩
  | n + 1, h => by
    have ih := sumN_01 n (fun k h0 h1 => h k h0 (by omega))
    have h2 := h (n : Int) (by omega) (by omega)
    simp only [sumN]
    omega
theorem sumN_congr {f g : Int → Int} : ∀ (n : Nat), (∀ k : Int, 0 ≤ k → k < (n : Int) → f k = g k) → sumN f n = sumN g n
  | 0, _ => rfl
  | n + 1, h => by
    simp only [sumN]
    rw [sumN_congr n (fun k h0 h1 => h k h0 (by omega)), h (n : Int) (by omega) (by omega)]
/-- the model's sheet has a size, and its layers are of zeros and ones -/
def MW (m : Mem) : Prop := 3 ≤ m 34 0 500 ∧ m 34 0 500 ≤ 10 ∧ 3 ≤ m 34 0 501 ∧ m 34 0 501 ≤ 10
def M01 (m : Mem) : Prop := ∀ k : Int, 0 ≤ k → k < 400 → m 34 0 k = 0 ∨ m 34 0 k = 1
def inS (m : Mem) (x y : Int) : Prop := 0 ≤ x ∧ x < m 34 0 500 ∧ 0 ≤ y ∧ y < m 34 0 501
def Mo (m : Mem) (l x y : Int) : Prop := inS m x y ∧ m 34 0 (100 * l + (10 * y + x)) = 1
theorem sM_in {Q : AV → Mem → Prop} {x0 x1 x2 : Int} {m : Mem} (h1 : x1 ≤ x0 ∧ x0 ≤ x2 → Q (.inl 1) m) (h0 : ¬ (x1 ≤ x0 ∧ x0 ≤ x2) → Q (.inl 0) m) : WP cM_in 0 [.inl x0, .inl x1, .inl x2] [] m Q :=
  gM_in_0 x0 x1 x2 m ⟨fun c => h0 (by omega), fun c => ⟨fun d => h0 (by omega), fun d => h1 (by omega)⟩⟩
theorem sM_isLayer {Q : AV → Mem → Prop} {x : Int} {m : Mem} (h1 : 0 ≤ x ∧ x ≤ 3 → Q (.inl 1) m) (h0 : ¬ (0 ≤ x ∧ x ≤ 3) → Q (.inl 0) m) : WP cM_isLayer 0 [.inl x] [] m Q :=
  gM_isLayer_0 x m (sM_in (fun c => ⟨1, rfl, Or.inr rfl, h1 c⟩) (fun c => ⟨0, rfl, Or.inl rfl, h0 c⟩))
theorem sM_isCell {Q : AV → Mem → Prop} {x y : Int} {m : Mem} (hw : MW m) (h1 : inS m x y → Q (.inl 1) m) (h0 : ¬ inS m x y → Q (.inl 0) m) : WP cM_isCell 0 [.inr (33, 0), .inl x, .inl y] [] m Q := by
  obtain ⟨w1, w2, w3, w4⟩ := hw
  unfold inS at h1 h0
  refine gM_isCell_0 x y m ⟨⟨by omega, by omega⟩, sM_in (fun c => ⟨1, rfl, fun z => by omega, fun _ => ⟨⟨by omega, by omega⟩, sM_in (fun d => ⟨1, rfl, fun z => by omega, fun _ => h1 (by omega)⟩) (fun d => ⟨0, rfl, fun _ => h0 (by omega), fun z => by omega⟩)⟩⟩) (fun c => ⟨0, rfl, fun _ => h0 (by omega), fun z => by omega⟩)⟩
theorem sM_at {Q : AV → Mem → Prop} {x y : Int} {m : Mem} (hx : -100 ≤ x ∧ x ≤ 100) (hy : -100 ≤ y ∧ y ≤ 100) (h : Q (.inl (10 * y + x)) m) : WP cM_at 0 [.inl x, .inl y] [] m Q :=
  gM_at_0 x y m ⟨⟨by omega, by omega⟩, ⟨by omega, by omega⟩, h⟩
theorem sM_isCut {Q : AV → Mem → Prop} {l x y : Int} {m : Mem} (hw : MW m) (hl : 0 ≤ l ∧ l ≤ 3) (h1 : Mo m l x y → Q (.inl 1) m) (h0 : ¬ Mo m l x y → Q (.inl 0) m) : WP cM_isCut 0 [.inr (33, 0), .inl l, .inl x, .inl y] [] m Q := by
  refine gM_isCut_0 l x y m (sM_isCell hw (fun c => ⟨1, rfl, fun z => by omega, fun _ => ?_⟩) (fun c => ⟨0, rfl, fun _ => h0 (fun z => c z.1), fun z => absurd rfl z⟩))
  obtain ⟨w1, w2, w3, w4⟩ := hw
  have c' := c
  unfold inS at c'
  refine ⟨⟨by omega, by omega⟩, sM_at (by omega) (by omega) ⟨_, rfl, ⟨by omega, by omega⟩, ⟨by omega, by omega⟩, fun z => h0 (fun y => z y.2), fun z => h1 ⟨c, ?_⟩⟩⟩
  exact Classical.byContradiction z
/-- a cell at the border of the sheet -/
def rimS (m : Mem) (x y : Int) : Prop := x = 0 ∨ y = 0 ∨ x = m 34 0 500 - 1 ∨ y = m 34 0 501 - 1
theorem sM_isRim {Q : AV → Mem → Prop} {x y : Int} {m : Mem} (hw : MW m) (h1 : rimS m x y → Q (.inl 1) m) (h0 : ¬ rimS m x y → Q (.inl 0) m) : WP cM_isRim 0 [.inr (33, 0), .inl x, .inl y] [] m Q := by
  obtain ⟨w1, w2, w3, w4⟩ := hw
  unfold rimS at h1 h0
  refine gM_isRim_0 x y m ⟨fun c => h1 (by omega), fun c => ⟨fun d => h1 (by omega), fun d => ⟨⟨by omega, by omega⟩, fun e => h1 (by omega), fun e => ⟨⟨by omega, by omega⟩, fun f => h0 (by omega), fun f => h1 (by omega)⟩⟩⟩⟩
theorem sM_cuts_4 {Q : AV → Mem → Prop} {l : Int} {m : Mem} (h01 : M01 m) (hl : 0 ≤ l ∧ l ≤ 3) (h : Q (.inl (sumN (fun k => m 34 0 (100 * l + k)) 100)) m) : ∀ (n : Nat) (x2 x3 : Int), x3 + (n : Int) = 100 → 0 ≤ x3 → x2 = sumN (fun k => m 34 0 (100 * l + k)) x3.toNat → WP cM_cuts 4 [.inr (33, 0), .inl l, .inl x2, .inl x3] [] m Q := by
  intro n
  induction n with
  | zero =>
    intro x2 x3 h1 h2 h3
    refine gM_cuts_4 l x2 x3 m ⟨fun c => ?_, fun c => absurd (by omega) c⟩
    rw [h3, show x3.toNat = 100 by omega]
    exact h
  | succ n ih =>
    intro x2 x3 h1 h2 h3
    have hb := sumN_01 (f := fun k => m 34 0 (100 * l + k)) x3.toNat (fun k k0 k1 => h01 _ (by omega) (by omega))
    have hv := h01 (100 * l + x3) (by omega) (by omega)
    refine gM_cuts_4 l x2 x3 m ⟨fun c => absurd c (by omega), fun c => ⟨⟨by omega, by omega⟩, ⟨by omega, by omega⟩, ⟨by omega, by omega⟩, ⟨by omega, by omega⟩, ⟨by omega, by omega⟩, ih _ _ (by omega) (by omega) ?_⟩⟩
    rw [show (x3 + 1).toNat = x3.toNat + 1 by omega]
    simp only [sumN]
    rw [← h3, show ((x3.toNat : Nat) : Int) = x3 by omega]
theorem sM_cuts {Q : AV → Mem → Prop} {l : Int} {m : Mem} (h01 : M01 m) (hl : 0 ≤ l ∧ l ≤ 3) (h : Q (.inl (sumN (fun k => m 34 0 (100 * l + k)) 100)) m) : WP cM_cuts 0 [.inr (33, 0), .inl l, uu, uu] [] m Q :=
  gM_cuts_0 l m (sM_cuts_4 h01 hl h 100 0 0 (by omega) (by omega) rfl)
