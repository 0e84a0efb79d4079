/-! The class: small methods, rows that are filled, frames. -/
theorem lab_ex (O : Int → Prop) : ∃ f, LabOK O f := by
  have least : ∀ q : Int, 0 ≤ q → ∃ p, 0 ≤ p ∧ p ≤ q ∧ Con O p q ∧ ∀ p', 0 ≤ p' → Con O p' q → p ≤ p' := by
    intro q q0
    have key : ∀ n : Nat, (∃ p, 0 ≤ p ∧ p ≤ (n : Int) ∧ Con O p q) → ∃ p, 0 ≤ p ∧ p ≤ (n : Int) ∧ Con O p q ∧ ∀ p', 0 ≤ p' → Con O p' q → p ≤ p' := by
      intro n
      induction n with
      | zero =>
        rintro ⟨p, p0, p1, hp⟩
        exact ⟨p, p0, p1, hp, fun p' h0 _ => by omega⟩
      | succ n ih =>
        rintro ⟨p, p0, p1, hp⟩
        by_cases c : ∃ p, 0 ≤ p ∧ p ≤ (n : Int) ∧ Con O p q
        · obtain ⟨r, r0, r1, r2, r3⟩ := ih c
          exact ⟨r, r0, by omega, r2, r3⟩
        · refine ⟨p, p0, p1, hp, fun p' h0 h1 => ?_⟩
          refine Classical.byContradiction (fun z => c ⟨p', h0, by omega, h1⟩)
    obtain ⟨p, a, b, c⟩ := key q.toNat ⟨q, q0, by omega, Con.refl q⟩
    exact ⟨p, a, by omega, c⟩
  refine ⟨fun q => @dite _ (0 ≤ q) (Classical.propDecidable _) (fun h => Classical.choose (least q h)) (fun _ => 0), fun p p0 p1 => ?_⟩
  have sp : ∀ q (h : 0 ≤ q), (0 ≤ (@dite _ (0 ≤ q) (Classical.propDecidable _) (fun h => Classical.choose (least q h)) (fun _ => (0 : Int)))) ∧ (@dite _ (0 ≤ q) (Classical.propDecidable _) (fun h => Classical.choose (least q h)) (fun _ => (0 : Int))) ≤ q ∧ Con O (@dite _ (0 ≤ q) (Classical.propDecidable _) (fun h => Classical.choose (least q h)) (fun _ => (0 : Int))) q ∧ ∀ p', 0 ≤ p' → Con O p' q → (@dite _ (0 ≤ q) (Classical.propDecidable _) (fun h => Classical.choose (least q h)) (fun _ => (0 : Int))) ≤ p' := by
    intro q h
    rw [dif_pos h]
    exact Classical.choose_spec (least q h)
  obtain ⟨a1, a2, a3, a4⟩ := sp p p0
  refine ⟨⟨a1, a2, a3⟩, fun q hA hO => ?_⟩
  have hq : 0 ≤ q := hA.2.2.1
  obtain ⟨b1, b2, b3, b4⟩ := sp q hq
  have h1 := b4 _ a1 (a3.step hA hO)
  have h2 := a4 _ b1 (b3.step hA.symm hO.symm)
  exact Int.le_antisymm h2 h1
theorem labC_ok (O : Int → Prop) : LabOK O (labC O) := by
  have hg := Classical.choose_spec (lab_ex O)
  have e : ∀ p, 0 ≤ p → p < 144 → labC O p = Classical.choose (lab_ex O) p := by
    intro p p0 p1
    unfold labC
    rw [if_pos ⟨p0, p1⟩, dif_pos (lab_ex O)]
  intro p p0 p1
  obtain ⟨h1, h2⟩ := hg p p0 p1
  rw [e p p0 p1]
  exact ⟨h1, fun q hA hO => by rw [e q hA.2.2.1 hA.2.2.2.1]; exact h2 q hA hO⟩
/-- what may change while a plan is worked out -/
def FR (p : Int) (ks : List Nat) (m m' : Mem) : Prop := (∀ q, q ∉ ks → m' q = m q) ∧ ∀ q, q ≠ 8 → ∀ i, i ≠ p → m' q i = m q i
theorem FR.refl {p : Int} {ks : List Nat} (m : Mem) : FR p ks m m := ⟨fun _ _ => rfl, fun _ _ _ _ => rfl⟩
theorem FR.trans {p : Int} {ks : List Nat} {a b c : Mem} (h : FR p ks a b) (h' : FR p ks b c) : FR p ks a c := ⟨fun q hq => (h'.1 q hq).trans (h.1 q hq), fun q hq i hi => (h'.2 q hq i hi).trans (h.2 q hq i hi)⟩
theorem FR.mono {p : Int} {ks ks' : List Nat} {a b : Mem} (h : FR p ks a b) (hk : ∀ q, q ∈ ks → q ∈ ks') : FR p ks' a b := ⟨fun q hq => h.1 q (fun z => hq (hk q z)), h.2⟩
theorem FR.set {p : Int} {ks : List Nat} {m : Mem} {q : Nat} {i j v : Int} (hq : q ∈ ks) (hi : q = 8 ∨ i = p) : FR p ks m (mset m q i j v) := by
  refine ⟨fun q' hq' => mset_k (fun z => hq' (z ▸ hq)), fun q' h8 i' hi' => ?_⟩
  by_cases e : q' = q
  · subst e
    have hip : i = p := hi.resolve_left h8
    subst hip
    funext j'
    exact mset_ne (fun z => hi' z.2.1)
  · rw [mset_k e]
theorem FR.put {p : Int} {ks : List Nat} {m0 m : Mem} {q : Nat} {i j v : Int} (h : FR p ks m0 m) (hq : q ∈ ks) (hi : q = 8 ∨ i = p) : FR p ks m0 (mset m q i j v) := h.trans (FR.set hq hi)
/-- a row of ints is filled -/
def fillOK (q : Nat) (n : Int) : Prop := ∀ (Q : AV → Mem → Prop) (i v : Int) (m : Mem), (∀ m', (∀ q', q' ≠ q → m' q' = m q') → (∀ i', i' ≠ i → m' q i' = m q i') → (∀ j, 0 ≤ j → j < n → m' q i j = v) → Q (.inl 0) m') → WP cJ_fill 0 [.inr (q, i), .inl v, uu, uu] [] m Q
theorem fill_gen {q : Nat} {n : Int} (hn : 0 ≤ n ∧ n ≤ 1000) (g0 : ∀ (Q : AV → Mem → Prop) (i v : Int) (m : Mem), WP cJ_fill 5 [.inr (q, i), .inl v, .inl 0, .inl n] [] m Q → WP cJ_fill 0 [.inr (q, i), .inl v, uu, uu] [] m Q)
    (g5 : ∀ (Q : AV → Mem → Prop) (i v x : Int) (m : Mem), ((n ≤ x → Q (.inl 0) m) ∧ (¬ n ≤ x → ((0 ≤ x ∧ x < n) ∧ (Rng (x + 1) ∧ WP cJ_fill 5 [.inr (q, i), .inl v, .inl (x + 1), .inl n] [] (mset m q i x v) Q)))) → WP cJ_fill 5 [.inr (q, i), .inl v, .inl x, .inl n] [] m Q) : fillOK q n := by
  intro Q i v m h
  refine g0 Q i v m ?_
  refine loopU (σ := Mem) (N := n) (G := fun (k : Int) (s : Mem) => WP cJ_fill 5 [.inr (q, i), .inl v, .inl k, .inl n] [] s Q) (I := fun (k : Int) (s : Mem) => (∀ q', q' ≠ q → s q' = m q') ∧ (∀ i', i' ≠ i → s q i' = m q i') ∧ ∀ j, 0 ≤ j → j < k → s q i j = v) ?_ ?_ 0 m (Int.le_refl 0) hn.1 ⟨fun _ _ => rfl, fun _ _ => rfl, fun j j0 j1 => by omega⟩
  · rintro s ⟨h1, h2, h3⟩
    exact g5 Q i v _ s ⟨fun _ => h s h1 h2 h3, fun z => absurd (Int.le_refl _) z⟩
  · rintro k s k0 k1 ⟨h1, h2, h3⟩ hN
    refine g5 Q i v k s ⟨fun z => by omega, fun _ => ⟨⟨k0, k1⟩, ⟨by omega, by omega⟩, hN _ ⟨fun q' hq => (mset_k hq).trans (h1 q' hq), fun i' hi => ?_, fun j j0 j1 => ?_⟩⟩⟩
    · rw [← h2 i' hi]
      funext j'
      exact mset_ne (fun z => hi z.2.1)
    · rw [mset_i]
      split
      · rfl
      · exact h3 j j0 (by omega)
set_option maxRecDepth 100000 in
theorem fill_2 : fillOK 2 40 := fill_gen (by omega) (fun Q i v m h => WP.seg 6 [5] (show WP cJ_fill 5 [.inr (2, i), .inl v, .inl 0, .inl 40] [] m Q from h)) (fun Q i v x m h => WP.seg 9 [5] (show ((40 ≤ x → Q (.inl 0) m) ∧ (¬ 40 ≤ x → ((0 ≤ x ∧ x < 40) ∧ (Rng (x + 1) ∧ WP cJ_fill 5 [.inr (2, i), .inl v, .inl (x + 1), .inl 40] [] (mset m 2 i x v) Q)))) from h))
set_option maxRecDepth 100000 in
theorem fill_3 : fillOK 3 100 := fill_gen (by omega) (fun Q i v m h => WP.seg 6 [5] (show WP cJ_fill 5 [.inr (3, i), .inl v, .inl 0, .inl 100] [] m Q from h)) (fun Q i v x m h => WP.seg 9 [5] (show ((100 ≤ x → Q (.inl 0) m) ∧ (¬ 100 ≤ x → ((0 ≤ x ∧ x < 100) ∧ (Rng (x + 1) ∧ WP cJ_fill 5 [.inr (3, i), .inl v, .inl (x + 1), .inl 100] [] (mset m 3 i x v) Q)))) from h))
set_option maxRecDepth 100000 in
theorem fill_10 : fillOK 10 144 := fill_gen (by omega) (fun Q i v m h => WP.seg 6 [5] (show WP cJ_fill 5 [.inr (10, i), .inl v, .inl 0, .inl 144] [] m Q from h)) (fun Q i v x m h => WP.seg 9 [5] (show ((144 ≤ x → Q (.inl 0) m) ∧ (¬ 144 ≤ x → ((0 ≤ x ∧ x < 144) ∧ (Rng (x + 1) ∧ WP cJ_fill 5 [.inr (10, i), .inl v, .inl (x + 1), .inl 144] [] (mset m 10 i x v) Q)))) from h))
set_option maxRecDepth 100000 in
theorem fill_14 : fillOK 14 101 := fill_gen (by omega) (fun Q i v m h => WP.seg 6 [5] (show WP cJ_fill 5 [.inr (14, i), .inl v, .inl 0, .inl 101] [] m Q from h)) (fun Q i v x m h => WP.seg 9 [5] (show ((101 ≤ x → Q (.inl 0) m) ∧ (¬ 101 ≤ x → ((0 ≤ x ∧ x < 101) ∧ (Rng (x + 1) ∧ WP cJ_fill 5 [.inr (14, i), .inl v, .inl (x + 1), .inl 101] [] (mset m 14 i x v) Q)))) from h))
set_option maxRecDepth 100000 in
theorem fill_18 : fillOK 18 144 := fill_gen (by omega) (fun Q i v m h => WP.seg 6 [5] (show WP cJ_fill 5 [.inr (18, i), .inl v, .inl 0, .inl 144] [] m Q from h)) (fun Q i v x m h => WP.seg 9 [5] (show ((144 ≤ x → Q (.inl 0) m) ∧ (¬ 144 ≤ x → ((0 ≤ x ∧ x < 144) ∧ (Rng (x + 1) ∧ WP cJ_fill 5 [.inr (18, i), .inl v, .inl (x + 1), .inl 144] [] (mset m 18 i x v) Q)))) from h))
set_option maxRecDepth 100000 in
theorem fill_22 : fillOK 22 144 := fill_gen (by omega) (fun Q i v m h => WP.seg 6 [5] (show WP cJ_fill 5 [.inr (22, i), .inl v, .inl 0, .inl 144] [] m Q from h)) (fun Q i v x m h => WP.seg 9 [5] (show ((144 ≤ x → Q (.inl 0) m) ∧ (¬ 144 ≤ x → ((0 ≤ x ∧ x < 144) ∧ (Rng (x + 1) ∧ WP cJ_fill 5 [.inr (22, i), .inl v, .inl (x + 1), .inl 144] [] (mset m 22 i x v) Q)))) from h))
set_option maxRecDepth 100000 in
theorem fill_27 : fillOK 27 80 := fill_gen (by omega) (fun Q i v m h => WP.seg 6 [5] (show WP cJ_fill 5 [.inr (27, i), .inl v, .inl 0, .inl 80] [] m Q from h)) (fun Q i v x m h => WP.seg 9 [5] (show ((80 ≤ x → Q (.inl 0) m) ∧ (¬ 80 ≤ x → ((0 ≤ x ∧ x < 80) ∧ (Rng (x + 1) ∧ WP cJ_fill 5 [.inr (27, i), .inl v, .inl (x + 1), .inl 80] [] (mset m 27 i x v) Q)))) from h))
theorem sS_isWithin {Q : AV → Mem → Prop} {x0 x1 x2 : Int} {m : Mem} (h1 : x1 ≤ x0 ∧ x0 ≤ x2 → Q (.inl 1) m) (h0 : ¬ (x1 ≤ x0 ∧ x0 ≤ x2) → Q (.inl 0) m) : WP cS_isWithin 0 [.inl x0, .inl x1, .inl x2] [] m Q :=
  gS_isWithin_0 x0 x1 x2 m ⟨fun c => h0 (by omega), fun c => ⟨fun d => h0 (by omega), fun d => h1 (by omega)⟩⟩
theorem sS_isLayer {Q : AV → Mem → Prop} {x : Int} {m : Mem} (h1 : 0 ≤ x ∧ x ≤ 3 → Q (.inl 1) m) (h0 : ¬ (0 ≤ x ∧ x ≤ 3) → Q (.inl 0) m) : WP cS_isLayer 0 [.inl x] [] m Q :=
  gS_isLayer_0 x m (sS_isWithin (fun c => ⟨1, rfl, Or.inr rfl, h1 c⟩) (fun c => ⟨0, rfl, Or.inl rfl, h0 c⟩))
theorem sS_xOf {Q : AV → Mem → Prop} {x : Int} {m : Mem} (hx : 0 ≤ x ∧ x ≤ 1000) (h : Q (.inl (x % 12 - 1)) m) : WP cS_xOf 0 [.inl x] [] m Q := gS_xOf_0 x m ⟨hx.1, ⟨by omega, by omega⟩, h⟩
theorem sS_yOf {Q : AV → Mem → Prop} {x : Int} {m : Mem} (hx : 0 ≤ x ∧ x ≤ 1000) (h : Q (.inl (x / 12 - 1)) m) : WP cS_yOf 0 [.inl x] [] m Q := gS_yOf_0 x m ⟨hx.1, ⟨by omega, by omega⟩, h⟩
theorem sS_isPlace {Q : AV → Mem → Prop} {x : Int} {m : Mem} (h1 : 0 ≤ x ∧ x < 144 → Q (.inl 1) m) (h0 : ¬ (0 ≤ x ∧ x < 144) → Q (.inl 0) m) : WP cS_isPlace 0 [.inl x] [] m Q :=
  gS_isPlace_0 x m ⟨fun c => h0 (by omega), fun c => ⟨fun d => h0 (by omega), fun d => h1 (by omega)⟩⟩
theorem sS_placeOf {Q : AV → Mem → Prop} {x y : Int} {m : Mem} (hx : -100 ≤ x ∧ x ≤ 100) (hy : -100 ≤ y ∧ y ≤ 100) (h : Q (.inl (pl x y)) m) : WP cS_placeOf 0 [.inl x, .inl y] [] m Q := by
  refine gS_placeOf_0 x y m ⟨⟨by omega, by omega⟩, ⟨by omega, by omega⟩, ⟨by omega, by omega⟩, ⟨by omega, by omega⟩, ?_⟩
  rw [show (y + 1) * 12 + x + 1 = pl x y by unfold pl; omega]
  exact h
/-- the class's sheet is the model's -/
def CRel (m : Mem) : Prop := m 1 0 0 = m 34 0 500 ∧ m 1 0 1 = m 34 0 501 ∧ (∀ l y x, 0 ≤ l → l ≤ 3 → 0 ≤ y → y < 10 → 0 ≤ x → x < 10 → m 34 0 (100 * l + (10 * y + x)) = bt (m 2 0 (l * 10 + y)) x) ∧ (∀ j, 0 ≤ j → j < 40 → 0 ≤ m 2 0 j ∧ m 2 0 j < 1024) ∧ (∀ j, 0 ≤ j → j < 100 → m 3 0 j = m 34 0 (400 + j)) ∧ ∀ l y x, 0 ≤ l → l ≤ 3 → 0 ≤ y → y < 10 → 0 ≤ x → x < 10 → ¬ inS m x y → m 34 0 (100 * l + (10 * y + x)) = 0
theorem CRel_eq {m m' : Mem} (h1 : m' 1 0 = m 1 0) (h2 : m' 2 0 = m 2 0) (h3 : m' 3 0 = m 3 0) (h34 : m' 34 = m 34) : CRel m' ↔ CRel m := by
  unfold CRel
  rw [h1, h2, h3, h34, inS_eq h34]
theorem sH_hasCell {Q : AV → Mem → Prop} {x y : Int} {m : Mem} (hw : MW m) (hR : CRel m) (h1 : inS m x y → Q (.inl 1) m) (h0 : ¬ inS m x y → Q (.inl 0) m) : WP cH_hasCell 0 [.inr (1, 0), .inl x, .inl y] [] m Q := by
  obtain ⟨w1, w2, w3, w4⟩ := hw
  obtain ⟨r1, r2, -⟩ := hR
  unfold inS at h1 h0
  rw [← r1, ← r2] at h1 h0
  refine gH_hasCell_0 0 x y m ⟨⟨by omega, by omega⟩, sS_isWithin (fun c => ⟨1, rfl, fun z => by omega, fun _ => ⟨⟨by omega, by omega⟩, sS_isWithin (fun d => ⟨1, rfl, fun z => by omega, fun _ => h1 (by omega)⟩) (fun d => ⟨0, rfl, fun _ => h0 (by omega), fun z => absurd rfl z⟩)⟩⟩) (fun c => ⟨0, rfl, fun _ => h0 (by omega), fun z => absurd rfl z⟩)⟩
theorem sH_isOpen {Q : AV → Mem → Prop} {l x y : Int} {m : Mem} (hw : MW m) (hR : CRel m) (hl : 0 ≤ l ∧ l ≤ 3) (hc : inS m x y) (h1 : Mo m l x y → Q (.inl 1) m) (h0 : ¬ Mo m l x y → Q (.inl 0) m) : WP cH_isOpen 0 [.inr (1, 0), .inl l, .inl x, .inl y] [] m Q := by
  obtain ⟨w1, w2, w3, w4⟩ := hw
  have hc' := hc
  unfold inS at hc'
  obtain ⟨r1, r2, r3, r4, r5, r6⟩ := hR
  have e := r3 l y x hl.1 hl.2 (by omega) (by omega) (by omega) (by omega)
  have hb := bt_and (v := m 2 0 (l * 10 + y)) (x := x) (r4 _ (by omega) (by omega)) (by omega)
  have h01 := bt_01 (v := m 2 0 (l * 10 + y)) (x := x)
  refine gH_isOpen_0 0 l x y m ⟨⟨by omega, by omega⟩, ⟨by omega, by omega⟩, by omega, fun z => h0 (fun w => ?_), fun z => h1 ⟨hc, ?_⟩⟩
  · rw [hb] at z
    have := w.2
    omega
  · rw [hb] at z
    omega
