/-! The model's remaining methods. -/
theorem sM_wishes {Q : AV → Mem → Prop} {m : Mem} (h : Q (.inl (sumN (fun k => if m 34 0 (400 + k) ≤ 0 then 0 else 1) 100)) m) : WP cM_wishes 0 [.inr (33, 0), uu, uu] [] m Q := by
  refine gM_wishes_0 m ?_
  refine loopU (σ := Int) (N := 100) (G := fun (k : Int) (s : Int) => WP cM_wishes 4 [.inr (33, 0), .inl s, .inl k] [] m Q) (I := fun (k : Int) (s : Int) => s = sumN (fun k => if m 34 0 (400 + k) ≤ 0 then 0 else 1) k.toNat) ?_ ?_ 0 0 (Int.le_refl 0) (by omega) rfl
  · intro s hs
    refine gM_wishes_4 s _ m ⟨fun _ => ?_, fun z => absurd (by omega) z⟩
    rw [hs]; exact h
  · intro k s k0 k1 hs hN
    have hb := sumN_01 (f := fun k => if m 34 0 (400 + k) ≤ 0 then 0 else 1) k.toNat (fun j _ _ => by split <;> omega)
    refine gM_wishes_4 s k m ⟨fun z => by omega, fun _ => ⟨⟨by omega, by omega⟩, by omega, fun z => ⟨⟨by omega, by omega⟩, ⟨by omega, by omega⟩, hN _ ?_⟩, fun z => ⟨⟨by omega, by omega⟩, ⟨by omega, by omega⟩, hN _ ?_⟩⟩⟩
    · rw [sumN_suc k0, hs, if_pos z]
    · rw [sumN_suc k0, hs, if_neg z]
noncomputable def looL (m : Mem) (l : Int) : Int := looN (OM m l) (labC (OM m l)) (brA (OM m l)).1
theorem sM_looseLayers {Q : AV → Mem → Prop} {m : Mem} (hw : MW m) (h : ∀ m', mfQ m m' → Q (.inl (sumN (fun l => if looL m l ≤ 0 then 0 else 1) 4)) m') : WP cM_looseLayers 0 [.inr (33, 0), uu, uu] [] m Q := by
  refine gM_looseLayers_0 m ?_
  refine loopU (σ := Mem × Int) (N := 4) (G := fun (k : Int) (s : Mem × Int) => WP cM_looseLayers 4 [.inr (33, 0), .inl s.2, .inl k] [] s.1 Q) (I := fun (k : Int) (s : Mem × Int) => mfQ m s.1 ∧ s.2 = sumN (fun l => if looL m l ≤ 0 then 0 else 1) k.toNat) ?_ ?_ 0 (m, 0) (Int.le_refl 0) (by omega) ⟨fun _ _ => rfl, rfl⟩
  · rintro ⟨s, v⟩ ⟨h1, h2⟩
    refine gM_looseLayers_4 v _ s ⟨fun _ => ?_, fun z => absurd (by omega) z⟩
    dsimp only at h1 h2
    rw [h2]; exact h s h1
  · rintro k ⟨s, v⟩ k0 k1 ⟨h1, h2⟩ hN
    dsimp only at h1 h2 hN ⊢
    have e34 : s 34 = m 34 := h1 34 (by omega)
    have hws : MW s := by rw [MW_eq e34]; exact hw
    have hb := sumN_01 (f := fun l => if looL m l ≤ 0 then 0 else 1) k.toNat (fun j _ _ => by split <;> omega)
    refine gM_looseLayers_4 v k s ⟨fun z => by omega, fun _ => sM_layBridges hws (by omega) (fun m1 f1 hA => ?_)⟩
    have e34' : m1 34 = s 34 := f1.1 34 (by decide) (by decide)
    refine sM_loose (by rw [MW_eq e34']; exact hws) hA ⟨_, rfl, ?_⟩
    rw [OM_eq e34', OM_eq e34]
    have hq : mfQ m m1 := fun q hq => (f1.q q hq).trans (h1 q hq)
    refine ⟨fun z => ⟨⟨by omega, by omega⟩, ⟨by omega, by omega⟩, hN (m1, v + 0) ⟨hq, ?_⟩⟩, fun z => ⟨⟨by omega, by omega⟩, ⟨by omega, by omega⟩, hN (m1, v + 1) ⟨hq, ?_⟩⟩⟩
    · rw [sumN_suc k0, h2, if_pos (show looL m k ≤ 0 from z)]
    · rw [sumN_suc k0, h2, if_neg (show ¬ looL m k ≤ 0 from z)]
def cutN (m : Mem) (l : Int) : Int := sumN (fun k => m 34 0 (100 * l + k)) 100
theorem cutN_rng {m : Mem} {l : Int} (h01 : M01 m) (hl : 0 ≤ l ∧ l ≤ 3) : 0 ≤ cutN m l ∧ cutN m l ≤ 100 := sumN_01 100 (fun k k0 k1 => h01 _ (by omega) (by omega))
theorem sM_allCuts {Q : AV → Mem → Prop} {m : Mem} (h01 : M01 m) (h : Q (.inl (sumN (fun l => cutN m l) 4)) m) : WP cM_allCuts 0 [.inr (33, 0), uu, uu] [] m Q := by
  refine gM_allCuts_0 m ?_
  refine loopU (σ := Int) (N := 4) (G := fun (k : Int) (s : Int) => WP cM_allCuts 4 [.inr (33, 0), .inl s, .inl k] [] m Q) (I := fun (k : Int) (s : Int) => s = sumN (fun l => cutN m l) k.toNat) ?_ ?_ 0 0 (Int.le_refl 0) (by omega) rfl
  · intro s hs
    refine gM_allCuts_4 s _ m ⟨fun _ => ?_, fun z => absurd (by omega) z⟩
    rw [hs]; exact h
  · intro k s k0 k1 hs hN
    have hb := sumN_bnd (g := fun l => cutN m l) (c := 100) k.toNat (fun j j0 j1 => cutN_rng h01 (by omega))
    have hc := cutN_rng h01 (l := k) (by omega)
    unfold cutN at hc
    refine gM_allCuts_4 s k m ⟨fun z => by omega, fun _ => sM_cuts h01 (by omega) ⟨_, rfl, ⟨by omega, by omega⟩, ⟨by omega, by omega⟩, hN _ ?_⟩⟩
    rw [sumN_suc k0, hs]
    rfl
noncomputable def ansCount (m : Mem) (w : Int) : Int := if w = 0 then m 34 0 500 else if w = 1 then m 34 0 501 else if w = 2 then sumN (fun l => cutN m l) 4 else if w = 3 then sumN (fun k => if m 34 0 (400 + k) ≤ 0 then 0 else 1) 100 else if w = 4 then sumN (fun l => if looL m l ≤ 0 then 0 else 1) 4 else if w = 5 then (if m 36 0 0 = 0 then 0 else 1) + (if m 36 0 1 = 0 then 0 else 2) else -2
theorem sM_count {Q : AV → Mem → Prop} {w : Int} {m : Mem} (hw : MW m) (h01 : M01 m) (h : ∀ m', mfQ m m' → Q (.inl (ansCount m w)) m') : WP cM_count 0 [.inr (33, 0), .inl w] [] m Q := by
  have h0 := h m (fun _ _ => rfl)
  unfold ansCount at h h0
  refine gM_count_0 w m ⟨fun z => ?_, fun z => ⟨fun z1 => ?_, fun z1 => ⟨fun z2 => ?_, fun z2 => ⟨fun z3 => ?_, fun z3 => ⟨fun z4 => ?_, fun z4 => ⟨fun z5 => ?_, fun z5 => ?_⟩⟩⟩⟩⟩⟩
  · rw [if_pos z] at h0; exact h0
  · rw [if_neg z, if_pos z1] at h0; exact h0
  · rw [if_neg z, if_neg z1, if_pos z2] at h0; exact sM_allCuts h01 ⟨_, rfl, h0⟩
  · rw [if_neg z, if_neg z1, if_neg z2, if_pos z3] at h0; exact sM_wishes ⟨_, rfl, h0⟩
  · rw [if_neg z, if_neg z1, if_neg z2, if_neg z3, if_pos z4] at h; exact sM_looseLayers hw (fun m' hf => ⟨_, rfl, h m' hf⟩)
  · rw [if_neg z, if_neg z1, if_neg z2, if_neg z3, if_neg z4, if_pos z5] at h0
    refine ⟨fun a => ⟨fun b => ?_, fun b => ?_⟩, fun a => ⟨fun b => ?_, fun b => ?_⟩⟩
    · rw [if_pos a, if_pos b] at h0; exact h0
    · rw [if_pos a, if_neg b] at h0; exact h0
    · rw [if_neg a, if_pos b] at h0; exact h0
    · rw [if_neg a, if_neg b] at h0; exact h0
  · rw [if_neg z, if_neg z1, if_neg z2, if_neg z3, if_neg z4, if_neg z5] at h0; exact h0
theorem sM_sheet {Q : AV → Mem → Prop} {w h : Int} {m : Mem} (hn : ¬ ((3 ≤ w ∧ w ≤ 10) ∧ (3 ≤ h ∧ h ≤ 10)) → Q (.inl (-2)) m) (hy : (3 ≤ w ∧ w ≤ 10) ∧ (3 ≤ h ∧ h ≤ 10) → ∀ m', (∀ q, q ≠ 34 → m' q = m q) → (∀ j, 0 ≤ j → j < 500 → m' 34 0 j = 0) → m' 34 0 500 = w → m' 34 0 501 = h → Q (.inl (w * h)) m') : WP cM_sheet 0 [.inr (33, 0), .inl w, .inl h, uu] [] m Q := by
  refine gM_sheet_0 w h m (sM_in (fun a => ⟨1, rfl, fun z => by omega, fun _ => sM_in (fun b => ⟨1, rfl, fun _ => ?_, fun z => absurd (by omega) z⟩) (fun b => ⟨0, rfl, fun z => absurd rfl z, fun _ => hn (fun z => b z.2)⟩)⟩) (fun a => ⟨0, rfl, fun _ => hn (fun z => a z.1), fun z => absurd rfl z⟩))
  refine loopU (σ := Mem) (N := 500) (G := fun (k : Int) (s : Mem) => WP cM_sheet 25 [.inr (33, 0), .inl w, .inl h, .inl k] [] s Q) (I := fun (k : Int) (s : Mem) => (∀ q, q ≠ 34 → s q = m q) ∧ ∀ j, 0 ≤ j → j < k → s 34 0 j = 0) ?_ ?_ 0 m (Int.le_refl 0) (by omega) ⟨fun _ _ => rfl, fun j j0 j1 => by omega⟩
  · rintro s ⟨h1, h2⟩
    have hmul : Rng (w * h) := by
      have e1 := Int.mul_le_mul_of_nonneg_left b.2 (show 0 ≤ w by omega)
      have e2 := Int.mul_nonneg (show 0 ≤ w by omega) (show 0 ≤ h by omega)
      exact ⟨by omega, by omega⟩
    refine gM_sheet_25 w h _ s ⟨fun _ => ⟨hmul, hy ⟨a, b⟩ _ (fun q hq => by rw [mset_k hq, mset_k hq]; exact h1 q hq) (fun j j0 j1 => ?_) ?_ ?_⟩, fun z => absurd (by omega) z⟩
    · rw [mset_i, if_neg (by omega), mset_i, if_neg (by omega)]; exact h2 j j0 j1
    · rw [mset_i, if_neg (by omega), mset_i, if_pos rfl]
    · rw [mset_i, if_pos rfl]
  · rintro k s k0 k1 ⟨h1, h2⟩ hN
    refine gM_sheet_25 w h k s ⟨fun z => by omega, fun _ => ⟨by omega, ⟨by omega, by omega⟩, hN _ ⟨fun q hq => (mset_k hq).trans (h1 q hq), fun j j0 j1 => ?_⟩⟩⟩
    rw [mset_i]
    split
    · rfl
    · exact h2 j j0 (by omega)
theorem sM_cut {Q : AV → Mem → Prop} {l x y o : Int} {m : Mem} (hw : MW m) (h01 : M01 m) (h1 : ¬ (0 ≤ l ∧ l ≤ 3) → Q (.inl (-1)) m) (h2 : 0 ≤ l ∧ l ≤ 3 → ¬ (inS m x y ∧ (0 ≤ o ∧ o ≤ 1)) → Q (.inl (-2)) m) (h3 : 0 ≤ l ∧ l ≤ 3 → inS m x y → 0 ≤ o ∧ o ≤ 1 → Q (.inl (cutN (mset m 34 0 (100 * l + (10 * y + x)) o) l)) (mset m 34 0 (100 * l + (10 * y + x)) o)) : WP cM_cut 0 [.inr (33, 0), .inl l, .inl x, .inl y, .inl o] [] m Q := by
  refine gM_cut_0 l x y o m (sM_isLayer (fun a => ⟨1, rfl, fun _ => ?_, fun z => absurd (by omega) z⟩) (fun a => ⟨0, rfl, fun z => absurd rfl z, fun _ => h1 a⟩))
  refine sM_isCell hw (fun b => ⟨1, rfl, fun z => by omega, fun _ => ?_⟩) (fun b => ⟨0, rfl, fun _ => h2 a (fun z => b z.1), fun z => absurd rfl z⟩)
  refine sM_in (fun c => ⟨1, rfl, fun _ => ⟨⟨by omega, by omega⟩, ?_⟩, fun z => absurd (by omega) z⟩) (fun c => ⟨0, rfl, fun z => absurd rfl z, fun _ => h2 a (fun z => c z.2)⟩)
  have b' := b
  obtain ⟨w1, w2, w3, w4⟩ := hw
  unfold inS at b'
  refine sM_at (by omega) (by omega) ⟨_, rfl, ⟨by omega, by omega⟩, by omega, sM_cuts (fun k k0 k1 => ?_) a ⟨_, rfl, h3 a b c⟩⟩
  rw [mset_i]
  split
  · omega
  · exact h01 k k0 k1
theorem sM_row {Q : AV → Mem → Prop} {l y v : Int} {m : Mem} (hw : MW m) (h01 : M01 m) (h1 : ¬ (0 ≤ l ∧ l ≤ 3) → Q (.inl (-1)) m) (h2 : 0 ≤ l ∧ l ≤ 3 → ¬ ((0 ≤ y ∧ y < m 34 0 501) ∧ (0 ≤ v ∧ v ≤ 1023)) → Q (.inl (-2)) m)
    (h3 : 0 ≤ l ∧ l ≤ 3 → 0 ≤ y ∧ y < m 34 0 501 → 0 ≤ v ∧ v ≤ 1023 → ∀ m', (∀ q, q ≠ 34 → m' q = m q) → (∀ x, 0 ≤ x → x < m 34 0 500 → m' 34 0 (100 * l + (10 * y + x)) = bt v x) → (∀ j, ¬ (100 * l + 10 * y ≤ j ∧ j < 100 * l + 10 * y + m 34 0 500) → m' 34 0 j = m 34 0 j) → Q (.inl (cutN m' l)) m') : WP cM_row 0 [.inr (33, 0), .inl l, .inl y, .inl v, uu] [] m Q := by
  have hw' := hw
  obtain ⟨w1, w2, w3, w4⟩ := hw'
  refine gM_row_0 l y v m (sM_isLayer (fun a => ⟨1, rfl, fun _ => ⟨⟨by omega, by omega⟩, ?_⟩, fun z => absurd (by omega) z⟩) (fun a => ⟨0, rfl, fun z => absurd rfl z, fun _ => h1 a⟩))
  refine sM_in (fun b => ⟨1, rfl, fun z => by omega, fun _ => ?_⟩) (fun b => ⟨0, rfl, fun _ => h2 a (fun z => b (by omega)), fun z => absurd rfl z⟩)
  refine sM_in (fun c => ⟨1, rfl, fun _ => ?_, fun z => absurd (by omega) z⟩) (fun c => ⟨0, rfl, fun z => absurd rfl z, fun _ => h2 a (fun z => c z.2)⟩)
  refine loopU (σ := Mem) (N := m 34 0 500) (G := fun (k : Int) (s : Mem) => WP cM_row 44 [.inr (33, 0), .inl l, .inl y, .inl v, .inl k] [] s Q) (I := fun (k : Int) (s : Mem) => (∀ q, q ≠ 34 → s q = m q) ∧ (∀ x, 0 ≤ x → x < k → s 34 0 (100 * l + (10 * y + x)) = bt v x) ∧ ∀ j, ¬ (100 * l + 10 * y ≤ j ∧ j < 100 * l + 10 * y + k) → s 34 0 j = m 34 0 j) ?_ ?_ 0 m (Int.le_refl 0) (by omega) ⟨fun _ _ => rfl, fun x x0 x1 => by omega, fun _ _ => rfl⟩
  · rintro s ⟨g1, g2, g3⟩
    have e500 : s 34 0 500 = m 34 0 500 := g3 500 (by omega)
    refine gM_row_44 l y v _ s ⟨fun _ => sM_cuts (fun k k0 k1 => ?_) a ⟨_, rfl, h3 a (by omega) c s g1 g2 g3⟩, fun z => absurd (by rw [e500]; exact Int.le_refl _) z⟩
    by_cases e : 100 * l + 10 * y ≤ k ∧ k < 100 * l + 10 * y + m 34 0 500
    · have := g2 (k - 100 * l - 10 * y) (by omega) (by omega)
      rw [show 100 * l + (10 * y + (k - 100 * l - 10 * y)) = k by omega] at this
      rw [this]
      exact bt_01
    · rw [g3 k e]; exact h01 k k0 k1
  · rintro k s k0 k1 ⟨g1, g2, g3⟩ hN
    have e500 : s 34 0 500 = m 34 0 500 := g3 500 (by omega)
    refine gM_row_44 l y v k s ⟨fun z => absurd z (by rw [e500]; omega), fun _ => ⟨⟨by omega, by omega⟩, sM_at (by omega) (by omega) ⟨_, rfl, ⟨by omega, by omega⟩, by omega, ⟨by omega, by omega⟩, ?_⟩⟩⟩
    rw [bt_and (by omega) (by omega)]
    refine hN _ ⟨fun q hq => (mset_k hq).trans (g1 q hq), fun x x0 x1 => ?_, fun j hj => ?_⟩
    · rw [mset_i]
      by_cases e : x = k
      · rw [if_pos (by omega), e]
      · rw [if_neg (by omega)]; exact g2 x x0 (by omega)
    · rw [mset_i, if_neg (by omega)]; exact g3 j (by omega)
theorem sM_wish {Q : AV → Mem → Prop} {x y o : Int} {m : Mem} (hw : MW m) (h2 : ¬ (inS m x y ∧ (0 ≤ o ∧ o ≤ 4)) → Q (.inl (-2)) m) (h3 : inS m x y → 0 ≤ o ∧ o ≤ 4 → Q (.inl (m 34 0 (400 + (10 * y + x)))) (mset m 34 0 (400 + (10 * y + x)) o)) : WP cM_wish 0 [.inr (33, 0), .inl x, .inl y, .inl o, uu] [] m Q := by
  refine gM_wish_0 x y o m (sM_isCell hw (fun b => ⟨1, rfl, fun z => by omega, fun _ => ?_⟩) (fun b => ⟨0, rfl, fun _ => h2 (fun z => b z.1), fun z => absurd rfl z⟩))
  refine sM_in (fun c => ⟨1, rfl, fun _ => ?_, fun z => absurd (by omega) z⟩) (fun c => ⟨0, rfl, fun z => absurd rfl z, fun _ => h2 (fun z => c z.2)⟩)
  have b' := b
  obtain ⟨w1, w2, w3, w4⟩ := hw
  unfold inS at b'
  exact sM_at (by omega) (by omega) ⟨_, rfl, ⟨by omega, by omega⟩, by omega, sM_at (by omega) (by omega) ⟨_, rfl, ⟨by omega, by omega⟩, by omega, h3 b c⟩⟩
theorem sM_image {Q : AV → Mem → Prop} {k : Int} {m : Mem} (h2 : ¬ (0 ≤ k ∧ k ≤ 1) → Q (.inl (-2)) m) (h3 : 0 ≤ k ∧ k ≤ 1 → ∀ m', (∀ q, q ≠ 35 → q ≠ 36 → m' q = m q) → (∀ i, 0 ≤ i → i < 502 → m' 35 0 (502 * k + i) = m 34 0 i) → (∀ j, ¬ (502 * k ≤ j ∧ j < 502 * k + 502) → m' 35 0 j = m 35 0 j) → m' 36 0 k = 1 → (∀ j, j ≠ k → m' 36 0 j = m 36 0 j) → Q (.inl 1) m') : WP cM_image 0 [.inr (33, 0), .inl k, uu] [] m Q := by
  refine gM_image_0 k m (sM_in (fun a => ⟨1, rfl, fun _ => ?_, fun z => absurd (by omega) z⟩) (fun a => ⟨0, rfl, fun z => absurd rfl z, fun _ => h2 a⟩))
  refine loopU (σ := Mem) (N := 502) (G := fun (i : Int) (s : Mem) => WP cM_image 14 [.inr (33, 0), .inl k, .inl i] [] s Q) (I := fun (i : Int) (s : Mem) => (∀ q, q ≠ 35 → s q = m q) ∧ (∀ j, 0 ≤ j → j < i → s 35 0 (502 * k + j) = m 34 0 j) ∧ ∀ j, ¬ (502 * k ≤ j ∧ j < 502 * k + 502) → s 35 0 j = m 35 0 j) ?_ ?_ 0 m (Int.le_refl 0) (by omega) ⟨fun _ _ => rfl, fun j j0 j1 => by omega, fun _ _ => rfl⟩
  · rintro s ⟨g1, g2, g3⟩
    refine gM_image_14 k _ s ⟨fun _ => ⟨by omega, h3 a _ (fun q q1 q2 => by rw [mset_k q2]; exact g1 q q1) (fun i i0 i1 => ?_) (fun j hj => ?_) ?_ (fun j hj => ?_)⟩, fun z => absurd (by omega) z⟩
    · rw [mset_k (by decide)]; exact g2 i i0 i1
    · rw [mset_k (by decide)]; exact g3 j hj
    · rw [mset_i, if_pos rfl]
    · rw [mset_i, if_neg hj, g1 36 (by decide)]
  · rintro i s i0 i1 ⟨g1, g2, g3⟩ hN
    refine gM_image_14 k i s ⟨fun z => by omega, fun _ => ⟨⟨by omega, by omega⟩, ⟨by omega, by omega⟩, by omega, by omega, ⟨by omega, by omega⟩, hN _ ⟨fun q hq => (mset_k hq).trans (g1 q hq), fun j j0 j1 => ?_, fun j hj => ?_⟩⟩⟩
    · rw [mset_i]
      by_cases e : j = i
      · rw [if_pos (by omega), e, g1 34 (by decide)]
      · rw [if_neg (by omega)]; exact g2 j j0 (by omega)
    · rw [mset_i, if_neg (by omega)]; exact g3 j hj
theorem sM_restore {Q : AV → Mem → Prop} {k : Int} {m : Mem} (h2 : ¬ (0 ≤ k ∧ k ≤ 1) → Q (.inl (-2)) m) (h4 : 0 ≤ k ∧ k ≤ 1 → m 36 0 k = 0 → Q (.inl (-3)) m) (h3 : 0 ≤ k ∧ k ≤ 1 → ¬ m 36 0 k = 0 → ∀ m', (∀ q, q ≠ 34 → m' q = m q) → (∀ i, 0 ≤ i → i < 502 → m' 34 0 i = m 35 0 (502 * k + i)) → Q (.inl 1) m') : WP cM_restore 0 [.inr (33, 0), .inl k, uu] [] m Q := by
  refine gM_restore_0 k m (sM_in (fun a => ⟨1, rfl, fun _ => ⟨by omega, fun z => ?_, fun z => h4 a (Classical.byContradiction z)⟩, fun z => absurd (by omega) z⟩) (fun a => ⟨0, rfl, fun z => absurd rfl z, fun _ => h2 a⟩))
  refine loopU (σ := Mem) (N := 502) (G := fun (i : Int) (s : Mem) => WP cM_restore 26 [.inr (33, 0), .inl k, .inl i] [] s Q) (I := fun (i : Int) (s : Mem) => (∀ q, q ≠ 34 → s q = m q) ∧ ∀ j, 0 ≤ j → j < i → s 34 0 j = m 35 0 (502 * k + j)) ?_ ?_ 0 m (Int.le_refl 0) (by omega) ⟨fun _ _ => rfl, fun j j0 j1 => by omega⟩
  · rintro s ⟨g1, g2⟩
    exact gM_restore_26 k _ s ⟨fun _ => h3 a z s g1 g2, fun z => absurd (by omega) z⟩
  · rintro i s i0 i1 ⟨g1, g2⟩ hN
    refine gM_restore_26 k i s ⟨fun z => by omega, fun _ => ⟨⟨by omega, by omega⟩, ⟨by omega, by omega⟩, by omega, by omega, ⟨by omega, by omega⟩, hN _ ⟨fun q hq => (mset_k hq).trans (g1 q hq), fun j j0 j1 => ?_⟩⟩⟩
    rw [mset_i]
    by_cases e : j = i
    · rw [if_pos e, e, g1 35 (by decide)]
    · rw [if_neg e]; exact g2 j j0 (by omega)
