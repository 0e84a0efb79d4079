/-! The model's ties and bridges: small methods. -/
theorem sM_untie_2 {Q : AV → Mem → Prop} {m0 : Mem} (hi : 0 ≤ m0 33 0 6 ∧ m0 33 0 6 ≤ 100) (h : ∀ m', (∀ q, q ≠ 46 → m' q = m0 q) → (∀ a, 0 ≤ a → a ≤ m0 33 0 6 → m' 46 0 a = a) → Q (.inl 0) m') : ∀ (x1 : Int) (m : Mem), 0 ≤ x1 → x1 ≤ m0 33 0 6 + 1 → ((∀ q, q ≠ 46 → m q = m0 q) ∧ ∀ a, 0 ≤ a → a < x1 → m 46 0 a = a) → WP cM_untie 2 [.inr (33, 0), .inl x1] [] m Q := by
  refine loopU (σ := Mem) (N := m0 33 0 6 + 1) (G := fun (k : Int) (s : Mem) => WP cM_untie 2 [.inr (33, 0), .inl k] [] s Q) (I := fun (k : Int) (s : Mem) => (∀ q, q ≠ 46 → s q = m0 q) ∧ ∀ a, 0 ≤ a → a < k → s 46 0 a = a) ?_ ?_
  · rintro s ⟨hf, ha⟩
    have e : s 33 = m0 33 := hf 33 (by decide)
    exact gM_untie_2 _ s ⟨fun _ => h s hf (fun a a0 a1 => ha a a0 (by omega)), fun z => absurd (by rw [e]; omega) z⟩
  · rintro k s k0 k1 ⟨hf, ha⟩ hN
    have e : s 33 = m0 33 := hf 33 (by decide)
    refine gM_untie_2 k s ⟨fun z => absurd z (by rw [e]; omega), fun _ => ⟨by omega, ⟨by omega, by omega⟩, hN _ ⟨fun q hq => (mset_k hq).trans (hf q hq), fun a a0 a1 => ?_⟩⟩⟩
    rw [mset_i]
    split
    · rename_i e1; exact e1.symm
    · exact ha a a0 (by omega)
theorem sM_untie {Q : AV → Mem → Prop} {m : Mem} (hi : 0 ≤ m 33 0 6 ∧ m 33 0 6 ≤ 100) (h : ∀ m', (∀ q, q ≠ 46 → m' q = m q) → (∀ a, 0 ≤ a → a ≤ m 33 0 6 → m' 46 0 a = a) → Q (.inl 0) m') : WP cM_untie 0 [.inr (33, 0), uu] [] m Q :=
  gM_untie_0 m (sM_untie_2 hi h 0 m (Int.le_refl 0) (by omega) ⟨fun _ _ => rfl, fun a a0 a1 => by omega⟩)
theorem sM_tieBoth {Q : AV → Mem → Prop} {a b : Int} {m : Mem} (hi : 0 ≤ m 33 0 6 ∧ m 33 0 6 ≤ 100) (ha : 0 ≤ a ∧ a ≤ 100) (hb : 0 ≤ b ∧ b ≤ 100) (h : ∀ m', (∀ q, q ≠ 46 → m' q = m q) → (∀ c, 0 ≤ c → c ≤ m 33 0 6 → m' 46 0 c = if m 46 0 c = m 46 0 a then m 46 0 b else m 46 0 c) → Q (.inl 0) m') : WP cM_tieBoth 0 [.inr (33, 0), .inl a, .inl b, uu, uu, uu] [] m Q := by
  refine gM_tieBoth_0 a b m ⟨by omega, by omega, ?_⟩
  refine loopU (σ := Mem) (N := m 33 0 6 + 1) (G := fun (k : Int) (s : Mem) => WP cM_tieBoth 18 [.inr (33, 0), .inl a, .inl b, .inl (m 46 0 a), .inl (m 46 0 b), .inl k] [] s Q) (I := fun (k : Int) (s : Mem) => (∀ q, q ≠ 46 → s q = m q) ∧ (∀ c, 0 ≤ c → c < k → s 46 0 c = if m 46 0 c = m 46 0 a then m 46 0 b else m 46 0 c) ∧ ∀ c, k ≤ c → s 46 0 c = m 46 0 c) ?_ ?_ 0 m (Int.le_refl 0) (by omega) ⟨fun _ _ => rfl, fun c c0 c1 => by omega, fun _ _ => rfl⟩
  · rintro s ⟨hf, h1, h2⟩
    have e : s 33 = m 33 := hf 33 (by decide)
    exact gM_tieBoth_18 a b _ _ _ s ⟨fun _ => h s hf (fun c c0 c1 => h1 c c0 (by omega)), fun z => absurd (by rw [e]; omega) z⟩
  · rintro k s k0 k1 ⟨hf, h1, h2⟩ hN
    have e : s 33 = m 33 := hf 33 (by decide)
    have hk := h2 k (Int.le_refl k)
    have go : ∀ v, (v = if m 46 0 k = m 46 0 a then m 46 0 b else m 46 0 k) → WP cM_tieBoth 18 [.inr (33, 0), .inl a, .inl b, .inl (m 46 0 a), .inl (m 46 0 b), .inl (k + 1)] [] (mset s 46 0 k v) Q := by
      intro v hv
      refine hN _ ⟨fun q hq => (mset_k hq).trans (hf q hq), fun c c0 c1 => ?_, fun c c0 => ?_⟩
      · rw [mset_i]
        split
        · rename_i e1; rw [e1]; exact hv
        · exact h1 c c0 (by omega)
      · rw [mset_i, if_neg (by omega)]
        exact h2 c (by omega)
    refine gM_tieBoth_18 a b _ _ k s ⟨fun z => absurd z (by rw [e]; omega), fun _ => ⟨by omega, fun z => ⟨by omega, by omega, ⟨by omega, by omega⟩, go _ ?_⟩, fun z => ⟨by omega, ⟨by omega, by omega⟩, go _ ?_⟩⟩⟩
    · rw [hk] at z ⊢
      rw [if_neg z]
    · have z := Classical.byContradiction z
      rw [hk] at z
      rw [if_pos z]
theorem sM_isTaken {Q : AV → Mem → Prop} {x y : Int} {B : Int → Int} {m : Mem} (hw : MW m) (hx : -1 ≤ x ∧ x ≤ 10) (hB : ∀ x y, inS m x y → m 48 0 (10 * y + x) = B (pl x y)) (hfr : ∀ p, frS m p → B p < 0) (h1 : 0 ≤ B (pl x y) → Q (.inl 1) m) (h0 : B (pl x y) < 0 → Q (.inl 0) m) : WP cM_isTaken 0 [.inr (33, 0), .inl x, .inl y] [] m Q := by
  refine gM_isTaken_0 x y m (sM_isCell hw (fun c => ⟨1, rfl, fun z => by omega, fun _ => ?_⟩) (fun c => ⟨0, rfl, fun _ => h0 (hfr _ ?_), fun z => absurd rfl z⟩))
  · have c' := c
    have hw' := hw
    obtain ⟨w1, w2, w3, w4⟩ := hw'
    unfold inS at c'
    have e := hB x y c
    refine sM_at (by omega) (by omega) ⟨_, rfl, by omega, fun z => h0 (by rw [← e]; exact z), fun z => h1 (by rw [← e]; omega)⟩
  · unfold frS
    rw [pl_x hx, pl_y hx]
    exact c
/-- the run that stands at place r of the model's rows -/
def AtRun (m : Mem) (r x y n d : Int) : Prop := m 40 0 r = x ∧ m 41 0 r = y ∧ m 42 0 r = n ∧ m 43 0 r = d
theorem pl_stp {x y d i : Int} (hd : d = 0 ∨ d = 1) : pl (x + i * (1 - d)) (y + i * d) = pl x y + i * stp d := by
  unfold pl stp
  rcases hd with rfl | rfl
  · rw [if_pos rfl]; omega
  · rw [if_neg (by decide)]; omega
def clr1 (B : Int → Int) (q : Int) : Prop := B q < 0 ∧ B (q - 1) < 0 ∧ B (q + 1) < 0 ∧ B (q - 12) < 0 ∧ B (q + 12) < 0
set_option maxHeartbeats 1000000 in
theorem sM_touches {Q : AV → Mem → Prop} {r x y n d : Int} {B : Int → Int} {m : Mem} (hw : MW m) (hr : 0 ≤ r ∧ r < 100) (hA : AtRun m r x y n d) (hd : d = 0 ∨ d = 1) (hn : 0 ≤ n ∧ n ≤ 10) (hin : ∀ i, 0 ≤ i → i < n → inS m (x + i * (1 - d)) (y + i * d)) (hB : ∀ x y, inS m x y → m 48 0 (10 * y + x) = B (pl x y)) (hfr : ∀ p, frS m p → B p < 0) (h0 : Clr B (pl x y) d n → Q (.inl 0) m) (h1 : ¬ Clr B (pl x y) d n → Q (.inl 1) m) : WP cM_touches 0 [.inr (33, 0), .inl r, uu, uu, uu, uu] [] m Q := by
  obtain ⟨a1, a2, a3, a4⟩ := hA
  have hw' := hw
  obtain ⟨w1, w2, w3, w4⟩ := hw'
  refine gM_touches_0 r m ?_
  refine loopU (σ := Int) (N := n) (G := fun (k : Int) (s : Int) => ∀ a4 a5 : AV, WP cM_touches 4 [.inr (33, 0), .inl r, .inl s, .inl k, a4, a5] [] m Q) (I := fun (k : Int) (s : Int) => (s = 0 ∧ ∀ i, 0 ≤ i → i < k → clr1 B (pl x y + i * stp d)) ∨ (s = 1 ∧ ∃ i, 0 ≤ i ∧ i < n ∧ ¬ clr1 B (pl x y + i * stp d))) ?_ ?_ 0 0 (Int.le_refl 0) hn.1 (Or.inl ⟨rfl, fun i i0 i1 => by omega⟩) uu uu
  · intro s hs b4 b5
    refine gM_touches_4 r s n b4 b5 m ⟨hr, fun _ => ?_, fun z => absurd (by rw [a3]; exact Int.le_refl _) z⟩
    rcases hs with ⟨rfl, hc⟩ | ⟨rfl, i, i0, i1, hc⟩
    · exact ⟨Or.inl rfl, h0 (fun i i0 i1 => hc i i0 i1)⟩
    · exact ⟨Or.inr rfl, h1 (fun z => hc (z i i0 i1))⟩
  · intro k s k0 k1 hs hN b4 b5
    have hc := hin k k0 k1
    have hc' := hc
    unfold inS at hc'
    have e0 := pl_stp (x := x) (y := y) (i := k) hd
    have em : pl (x + k * (1 - d) - 1) (y + k * d) = pl x y + k * stp d - 1 := by rw [← e0]; unfold pl; omega
    have ep : pl (x + k * (1 - d) + 1) (y + k * d) = pl x y + k * stp d + 1 := by rw [← e0]; unfold pl; omega
    have eu : pl (x + k * (1 - d)) (y + k * d - 1) = pl x y + k * stp d - 12 := by rw [← e0]; unfold pl; omega
    have ed : pl (x + k * (1 - d)) (y + k * d + 1) = pl x y + k * stp d + 12 := by rw [← e0]; unfold pl; omega
    have g1 : Rng (1 - d) := ⟨by omega, by omega⟩
    have g2 : Rng (k * (1 - d)) := by rcases hd with rfl | rfl <;> exact ⟨by omega, by omega⟩
    have g3 : Rng (x + k * (1 - d)) := ⟨by omega, by omega⟩
    have g4 : Rng (k * d) := by rcases hd with rfl | rfl <;> exact ⟨by omega, by omega⟩
    have g5 : Rng (y + k * d) := ⟨by omega, by omega⟩
    have g6 : Rng (k + 1) := ⟨by omega, by omega⟩
    have bad : ¬ clr1 B (pl x y + k * stp d) → ∀ b4 b5 : AV, WP cM_touches 4 [.inr (33, 0), .inl r, .inl 1, .inl (k + 1), b4, b5] [] m Q := fun z => hN 1 (Or.inr ⟨rfl, k, k0, k1, z⟩)
    have h := @gM_touches_4 Q r s k b4 b5 m
    rw [a1, a2, a3, a4] at h
    refine h ⟨hr, fun z => by omega, fun _ => ⟨hr, hr, g1, g2, g3, hr, hr, g4, g5, fun z => ⟨g6, hN 1 ?_ _ _⟩, fun z => ?_⟩⟩
    · rcases hs with ⟨e, -⟩ | ⟨-, hx⟩
      · exact absurd e z
      · exact Or.inr ⟨rfl, hx⟩
    · have hs0 : s = 0 := Classical.byContradiction z
      have hcl : ∀ i, 0 ≤ i → i < k → clr1 B (pl x y + i * stp d) := by
        rcases hs with ⟨-, hc⟩ | ⟨e, -⟩
        · exact hc
        · omega
      refine sM_isTaken hw (by omega) hB hfr (fun t => ⟨1, rfl, fun _ => ⟨g6, bad (fun w => ?_) _ _⟩, fun z => absurd (by omega) z⟩) (fun t1 => ⟨0, rfl, fun z => absurd rfl z, fun _ => ⟨⟨by omega, by omega⟩, ?_⟩⟩)
      · have := w.1; rw [e0] at t; omega
      refine sM_isTaken hw (by omega) hB hfr (fun t => ⟨1, rfl, fun _ => ⟨g6, bad (fun w => ?_) _ _⟩, fun z => absurd (by omega) z⟩) (fun t2 => ⟨0, rfl, fun z => absurd rfl z, fun _ => ⟨⟨by omega, by omega⟩, ?_⟩⟩)
      · have := w.2.1; rw [em] at t; omega
      refine sM_isTaken hw (by omega) hB hfr (fun t => ⟨1, rfl, fun _ => ⟨g6, bad (fun w => ?_) _ _⟩, fun z => absurd (by omega) z⟩) (fun t3 => ⟨0, rfl, fun z => absurd rfl z, fun _ => ⟨⟨by omega, by omega⟩, ?_⟩⟩)
      · have := w.2.2.1; rw [ep] at t; omega
      refine sM_isTaken hw (by omega) hB hfr (fun t => ⟨1, rfl, fun _ => ⟨g6, bad (fun w => ?_) _ _⟩, fun z => absurd (by omega) z⟩) (fun t4 => ⟨0, rfl, fun z => absurd rfl z, fun _ => ⟨⟨by omega, by omega⟩, ?_⟩⟩)
      · have := w.2.2.2.1; rw [eu] at t; omega
      refine sM_isTaken hw (by omega) hB hfr (fun t => ⟨1, rfl, ?_⟩) (fun t5 => ⟨0, rfl, ?_⟩)
      · exact ⟨fun z => by omega, fun _ => ⟨g6, bad (fun w => by have := w.2.2.2.2; rw [ed] at t; omega) _ _⟩⟩
      · refine ⟨fun _ => ⟨g6, hN 0 (Or.inl ⟨rfl, fun i i0 i1 => ?_⟩) _ _⟩, fun z => absurd rfl z⟩
        rcases Int.lt_or_eq_of_le (Int.le_of_lt_add_one i1) with e | rfl
        · exact hcl i i0 e
        · rw [e0] at t1; rw [em] at t2; rw [ep] at t3; rw [eu] at t4; rw [ed] at t5
          exact ⟨t1, t2, t3, t4, t5⟩
