/-! Orders, colours, the best order; the model's. -/
def ordL : List Int := [123, 132, 213, 231, 312, 321, 1023, 1032, 1203, 1230, 1302, 1320, 2013, 2031, 2103, 2130, 2301, 2310, 3012, 3021, 3102, 3120, 3201, 3210]
def isOrd (o : Int) : Prop := o ∈ ordL
def ordS (a b c d : Int) : Int := zOr (zOr (zOr (zOr 0 (zShl 1 a)) (zShl 1 b)) (zShl 1 c)) (zShl 1 d)
set_option maxRecDepth 100000 in
theorem ordS_all : ∀ a : Fin 4, ∀ b c d : Fin 10, (ordS (a.val : Int) (b.val : Int) (c.val : Int) (d.val : Int) = 15) ↔ ((1000 * (a.val : Int) + 100 * (b.val : Int) + 10 * (c.val : Int) + (d.val : Int)) ∈ ordL) := by decide +kernel
theorem ordS_iff {o : Int} (h0 : 0 ≤ o) (h1 : o < 4000) : ordS (o / 1000) (o / 100 % 10) (o / 10 % 10) (o % 10) = 15 ↔ isOrd o := by
  have h := ordS_all ⟨(o / 1000).toNat, by omega⟩ ⟨(o / 100 % 10).toNat, by omega⟩ ⟨(o / 10 % 10).toNat, by omega⟩ ⟨(o % 10).toNat, by omega⟩
  dsimp only at h
  rw [show (((o / 1000).toNat : Nat) : Int) = o / 1000 by omega, show (((o / 100 % 10).toNat : Nat) : Int) = o / 100 % 10 by omega, show (((o / 10 % 10).toNat : Nat) : Int) = o / 10 % 10 by omega, show (((o % 10).toNat : Nat) : Int) = o % 10 by omega, show 1000 * (o / 1000) + 100 * (o / 100 % 10) + 10 * (o / 10 % 10) + o % 10 = o by omega] at h
  exact h
theorem isOrd_dig : ∀ o ∈ ordL, (0 ≤ o / 1000 ∧ o / 1000 ≤ 3) ∧ (0 ≤ o / 100 % 10 ∧ o / 100 % 10 ≤ 3) ∧ (0 ≤ o / 10 % 10 ∧ o / 10 % 10 ≤ 3) ∧ (0 ≤ o % 10 ∧ o % 10 ≤ 3) ∧ 123 ≤ o ∧ o ≤ 3210 := by decide
theorem sM_fig0 {Q : AV → Mem → Prop} {o : Int} {m : Mem} (ho : 0 ≤ o) (h : Q (.inl (o / 1000)) m) : WP cM_figure 0 [.inl o, .inl 0] [] m Q := gM_figure_0 o 0 m ⟨fun z => absurd rfl z, fun _ => ⟨ho, h⟩⟩
theorem sM_fig1 {Q : AV → Mem → Prop} {o : Int} {m : Mem} (ho : 0 ≤ o) (h : Q (.inl (o / 100 % 10)) m) : WP cM_figure 0 [.inl o, .inl 1] [] m Q := gM_figure_0 o 1 m ⟨fun _ => ⟨fun z => absurd rfl z, fun _ => ⟨ho, by omega, h⟩⟩, fun z => absurd (by omega) z⟩
theorem sM_fig2 {Q : AV → Mem → Prop} {o : Int} {m : Mem} (ho : 0 ≤ o) (h : Q (.inl (o / 10 % 10)) m) : WP cM_figure 0 [.inl o, .inl 2] [] m Q := gM_figure_0 o 2 m ⟨fun _ => ⟨fun _ => ⟨fun z => absurd rfl z, fun _ => ⟨ho, by omega, h⟩⟩, fun z => absurd (by omega) z⟩, fun z => absurd (by omega) z⟩
theorem sM_fig3 {Q : AV → Mem → Prop} {o : Int} {m : Mem} (ho : 0 ≤ o) (h : Q (.inl (o % 10)) m) : WP cM_figure 0 [.inl o, .inl 3] [] m Q := gM_figure_0 o 3 m ⟨fun _ => ⟨fun _ => ⟨fun _ => ⟨ho, h⟩, fun z => absurd (by omega) z⟩, fun z => absurd (by omega) z⟩, fun z => absurd (by omega) z⟩
theorem sM_isOrder {Q : AV → Mem → Prop} {o : Int} {m : Mem} (h1 : isOrd o → Q (.inl 1) m) (h0 : ¬ isOrd o → Q (.inl 0) m) : WP cM_isOrder 0 [.inl o, uu, uu] [] m Q := by
  refine gM_isOrder_0 o m (sM_in (fun c => ⟨1, rfl, fun _ => ?_, fun z => absurd (by omega) z⟩) (fun c => ⟨0, rfl, fun z => absurd rfl z, fun _ => h0 (fun z => c ?_)⟩))
  · refine gM_isOrder_18 o 0 0 m ⟨fun z => by omega, fun _ => sM_fig0 (by omega) ⟨_, rfl, ⟨by omega, by omega⟩, ?_⟩⟩
    refine gM_isOrder_18 o _ (0 + 1) m ⟨fun z => by omega, fun _ => sM_fig1 (by omega) ⟨_, rfl, ⟨by omega, by omega⟩, ?_⟩⟩
    refine gM_isOrder_18 o _ (0 + 1 + 1) m ⟨fun z => by omega, fun _ => sM_fig2 (by omega) ⟨_, rfl, ⟨by omega, by omega⟩, ?_⟩⟩
    refine gM_isOrder_18 o _ (0 + 1 + 1 + 1) m ⟨fun z => by omega, fun _ => sM_fig3 (by omega) ⟨_, rfl, ⟨by omega, by omega⟩, ?_⟩⟩
    have hi := ordS_iff (o := o) (by omega) (by omega)
    unfold ordS at hi
    exact gM_isOrder_18 o _ (0 + 1 + 1 + 1 + 1) m ⟨fun _ => ⟨fun z => h0 (fun w => z (hi.mpr w)), fun z => h1 (hi.mp (Classical.byContradiction z))⟩, fun z => absurd (by omega) z⟩
  · have := isOrd_dig o z
    omega
def BL (m : Mem) (l p : Int) : Prop := BO (OM m l) p
theorem BL_eq {m m' : Mem} (h : m' 34 = m 34) : BL m' = BL m := by funext l p; unfold BL; rw [OM_eq h]
def SCA (m : Mem) : Prop := ∀ l, 0 ≤ l → l ≤ 3 → SC m l (BL m l)
theorem sM_layAll {Q : AV → Mem → Prop} {m : Mem} (hw : MW m) (h : ∀ m', mfQ m m' → SCA m' → Q (.inl 0) m') : WP cM_layAll 0 [.inr (33, 0), uu] [] m Q := by
  refine gM_layAll_0 m ?_
  refine loopU (σ := Mem) (N := 4) (G := fun (k : Int) (s : Mem) => WP cM_layAll 2 [.inr (33, 0), .inl k] [] s Q) (I := fun (k : Int) (s : Mem) => mfQ m s ∧ ∀ l, 0 ≤ l → l < k → SC s l (BL m l)) ?_ ?_ 0 m (Int.le_refl 0) (by omega) ⟨fun _ _ => rfl, fun l l0 l1 => by omega⟩
  · rintro s ⟨h1, h2⟩
    refine gM_layAll_2 _ s ⟨fun _ => h s h1 (fun l l0 l1 => ?_), fun z => absurd (by omega) z⟩
    rw [BL_eq (h1 34 (by omega))]
    exact h2 l l0 (by omega)
  · rintro k s k0 k1 ⟨h1, h2⟩ hN
    have e34 : s 34 = m 34 := h1 34 (by omega)
    have hws : MW s := by rw [MW_eq e34]; exact hw
    refine gM_layAll_2 k s ⟨fun z => by omega, fun _ => sM_layBridged hws (by omega) (fun m1 f1 hS hrow => ⟨⟨by omega, by omega⟩, hN m1 ⟨fun q hq => (f1.1 q (by omega) (by omega)).trans (h1 q hq), fun l l0 l1 => ?_⟩⟩)⟩
    have e34' : m1 34 = s 34 := f1.1 34 (by decide) (by decide)
    by_cases e : l = k
    · subst e
      unfold BL
      rw [← OM_eq e34]
      exact hS
    · have hl := h2 l l0 (by omega)
      refine ⟨fun x y hxy => ?_, fun p hp => by rw [frS_eq e34']; exact hl.2 p hp⟩
      rw [inS_eq e34'] at hxy
      have hxy' := hxy
      obtain ⟨w1, w2, w3, w4⟩ := hws
      unfold inS at hxy'
      rw [hrow _ (by omega)]
      exact hl.1 x y hxy
noncomputable def colO (B : Int → Int → Prop) (o p : Int) : Int := cif (B (o % 10) p) (o % 10 + 1) (cif (B (o / 10 % 10) p) (o / 10 % 10 + 1) (cif (B (o / 100 % 10) p) (o / 100 % 10 + 1) (cif (B (o / 1000) p) (o / 1000 + 1) 0)))
theorem sM_colourBy {Q : AV → Mem → Prop} {o x y : Int} {m : Mem} (hw : MW m) (hS : SCA m) (ho : isOrd o) (hx : -1 ≤ x ∧ x ≤ 10) (h : Q (.inl (colO (BL m) o (pl x y))) m) : WP cM_colourBy 0 [.inr (33, 0), .inl o, .inl x, .inl y, uu, uu, uu] [] m Q := by
  obtain ⟨d0, d1, d2, d3, d4⟩ := isOrd_dig o ho
  unfold colO at h
  refine gM_colourBy_0 o x y m ?_
  have step : ∀ (i v d : Int) (a6 : AV), 0 ≤ i ∧ i < 4 → 0 ≤ d ∧ d ≤ 3 → (∀ R : AV → Mem → Prop, R (.inl d) m → WP cM_figure 0 [.inl o, .inl i] [] m R) → (∀ b6 : AV, WP cM_colourBy 6 [.inr (33, 0), .inl o, .inl x, .inl y, .inl (cif (BL m d (pl x y)) (d + 1) v), .inl (i + 1), b6] [] m Q) → WP cM_colourBy 6 [.inr (33, 0), .inl o, .inl x, .inl y, .inl v, .inl i, a6] [] m Q := by
    intro i v d a6 hi hd hf hn
    refine gM_colourBy_6 o x y v i a6 m ⟨fun z => by omega, fun _ => hf _ ⟨d, rfl, sM_isStillCut hw hd (hS d hd.1 hd.2) hx (fun b => ⟨1, rfl, fun z => by omega, fun _ => ⟨⟨by omega, by omega⟩, ⟨by omega, by omega⟩, ?_⟩⟩) (fun b => ⟨0, rfl, fun _ => ⟨⟨by omega, by omega⟩, ?_⟩, fun z => absurd rfl z⟩)⟩⟩
    · rw [cif_pos b] at hn; exact hn _
    · rw [cif_neg b] at hn; exact hn _
  refine step 0 0 _ uu (by omega) d0 (fun R hR => sM_fig0 (by omega) hR) (fun b6 => ?_)
  refine step (0 + 1) _ _ b6 (by omega) d1 (fun R hR => sM_fig1 (by omega) hR) (fun b6 => ?_)
  refine step (0 + 1 + 1) _ _ b6 (by omega) d2 (fun R hR => sM_fig2 (by omega) hR) (fun b6 => ?_)
  refine step (0 + 1 + 1 + 1) _ _ b6 (by omega) d3 (fun R hR => sM_fig3 (by omega) hR) (fun b6 => ?_)
  exact gM_colourBy_6 o x y _ _ b6 m ⟨fun _ => h, fun z => absurd (by omega) z⟩
def wiP (m : Mem) (p : Int) : Int := m 34 0 (400 + (10 * (p / 12 - 1) + (p % 12 - 1)))
/-- how many cells are wrong by an order -/
noncomputable def wrnO (m : Mem) (o : Int) : Int := cP (fun p => ¬ frS m p ∧ colO (BL m) o p ≠ wiP m p) 144
theorem sM_wrongBy {Q : AV → Mem → Prop} {o : Int} {m : Mem} (hw : MW m) (hS : SCA m) (ho : isOrd o) (h : Q (.inl (wrnO m o)) m) : WP cM_wrongBy 0 [.inr (33, 0), .inl o, uu, uu, uu] [] m Q := by
  have hw' := hw
  obtain ⟨w1, w2, w3, w4⟩ := hw'
  have hfr : ∀ q, frS m q → 0 ≤ q → q < 144 → ¬ (¬ frS m q ∧ colO (BL m) o q ≠ wiP m q) := fun q hq _ _ z => z.1 hq
  refine gM_wrongBy_0 o m ?_
  refine scan (σ := Int) (W := m 34 0 500) (H := m 34 0 501) (G := fun (y : Int) (s : Int) => ∀ a4 : AV, WP cM_wrongBy 4 [.inr (33, 0), .inl o, .inl s, .inl y, a4] [] m Q) (F := fun (y x : Int) (s : Int) => WP cM_wrongBy 19 [.inr (33, 0), .inl o, .inl s, .inl y, .inl x] [] m Q) (I := fun (y x : Int) (s : Int) => s = cP (fun p => ¬ frS m p ∧ colO (BL m) o p ≠ wiP m p) (pl x y).toNat) (by omega) (by omega) ?_ ?_ ?_ ?_ 0 (row_0 hfr).symm uu
  · intro s hs a4
    refine gM_wrongBy_4 _ s _ a4 m ⟨fun _ => ?_, fun z => absurd (Int.le_refl _) z⟩
    rw [hs, ← row_end hw hfr]
    exact h
  · intro y s y0 y1 hs hF a4
    exact gM_wrongBy_4 _ s y a4 m ⟨fun z => by omega, fun _ => hF⟩
  · intro y s y0 y1 hs
    exact ⟨by rw [hs, row_skip hw hfr y0 y1], fun hG => gM_wrongBy_19 _ s y _ m ⟨fun _ => ⟨⟨by omega, by omega⟩, hG _⟩, fun z => absurd (Int.le_refl _) z⟩⟩
  · intro y x s y0 y1 x0 x1 hs hN
    have hr := cP_rng (P := fun p => ¬ frS m p ∧ colO (BL m) o p ≠ wiP m p) (pl x y).toNat
    have epl : (pl (x + 1) y).toNat = (pl x y).toNat + 1 := by unfold pl; omega
    have ecast : (((pl x y).toNat : Nat) : Int) = pl x y := by unfold pl; omega
    have hpl : (pl x y).toNat < 144 := by unfold pl; omega
    have hin : ¬ frS m (pl x y) := by
      unfold frS
      rw [pl_x (by omega), pl_y (by omega)]
      exact fun z => z ⟨x0, x1, y0, y1⟩
    have hwi : m 34 0 (400 + (10 * y + x)) = wiP m (pl x y) := by
      unfold wiP
      rw [pl_x (by omega), pl_y (by omega)]
    refine gM_wrongBy_19 _ s y x m ⟨fun z => by omega, fun _ => sM_colourBy hw hS ho (by omega) ⟨_, rfl, sM_at (by omega) (by omega) ⟨_, rfl, ⟨by omega, by omega⟩, by omega, fun z => ⟨⟨by omega, by omega⟩, ⟨by omega, by omega⟩, hN _ ?_⟩, fun z => ⟨⟨by omega, by omega⟩, ⟨by omega, by omega⟩, hN _ ?_⟩⟩⟩⟩
    · rw [hwi] at z
      rw [epl, cP_yes (by rw [ecast]; exact ⟨hin, z⟩), hs]
    · rw [hwi] at z
      rw [epl, cP_no (by rw [ecast]; exact fun w => z w.2), hs, Int.add_zero]
abbrev BT : Type := Int × Int × Int
def updB (s : BT) (o n : Int) : BT := if n < s.1 then (n, 1, o) else if n = s.1 then (s.1, s.2.1 + 1, s.2.2) else s
noncomputable def bstS (w : Int → Int) : Nat → BT
  | 0 => (1000, 0, -6)
  | T + 1 => @ite _ (isOrd (T : Int)) (Classical.propDecidable _) (updB (bstS w T) (T : Int) (w (T : Int))) (bstS w T)
theorem bstS_yes {w : Int → Int} {T : Nat} (h : isOrd (T : Int)) : bstS w (T + 1) = updB (bstS w T) (T : Int) (w (T : Int)) := @if_pos _ (Classical.propDecidable _) h _ _ _
theorem bstS_no {w : Int → Int} {T : Nat} (h : ¬ isOrd (T : Int)) : bstS w (T + 1) = bstS w T := @if_neg _ (Classical.propDecidable _) h _ _ _
theorem bstS_skip {w : Int → Int} : ∀ (k a : Nat), (∀ p : Int, (a : Int) ≤ p → p < ((a + k : Nat) : Int) → ¬ isOrd p) → bstS w (a + k) = bstS w a
  | 0, a, _ => rfl
  | k + 1, a, h => by
    rw [show a + (k + 1) = a + k + 1 by omega, bstS_no (fun z => h _ (by omega) (by omega) z)]
    exact bstS_skip k a (fun p h0 h1 => h p h0 (by omega))
theorem bstS_rng {w : Int → Int} (hw : ∀ o, 0 ≤ w o ∧ w o ≤ 200) : ∀ T : Nat, (0 ≤ (bstS w T).1 ∧ (bstS w T).1 ≤ 1000) ∧ (0 ≤ (bstS w T).2.1 ∧ (bstS w T).2.1 ≤ (T : Int)) ∧ (isOrd (bstS w T).2.2 ∨ (bstS w T).1 = 1000)
  | 0 => ⟨⟨by show (0 : Int) ≤ 1000; omega, Int.le_refl _⟩, ⟨Int.le_refl _, Int.le_refl _⟩, Or.inr rfl⟩
  | T + 1 => by
    obtain ⟨h1, h2, h3⟩ := bstS_rng hw T
    have h4 := hw (T : Int)
    by_cases c : isOrd (T : Int)
    · rw [bstS_yes c]
      unfold updB
      split
      · exact ⟨⟨h4.1, by dsimp only; omega⟩, ⟨by dsimp only; omega, by dsimp only; omega⟩, Or.inl c⟩
      · split
        · exact ⟨h1, ⟨by dsimp only; omega, by dsimp only; omega⟩, h3⟩
        · exact ⟨h1, ⟨h2.1, by omega⟩, h3⟩
    · rw [bstS_no c]
      exact ⟨h1, ⟨h2.1, by omega⟩, h3⟩
theorem bstS_low {w : Int → Int} (hw : ∀ o, 0 ≤ w o ∧ w o ≤ 200) : ∀ T : Nat, (bstS w (124 + T)).1 ≤ 200
  | 0 => by
    show (bstS w (123 + 1)).1 ≤ 200
    have h123 : isOrd (((123 : Nat) : Int)) := by unfold isOrd; decide
    rw [bstS_yes h123]
    have h4 := hw ((123 : Nat) : Int)
    unfold updB
    split
    · exact h4.2
    · split
      · dsimp only; omega
      · omega
  | T + 1 => by
    have ih := bstS_low hw T
    rw [show 124 + (T + 1) = 124 + T + 1 by omega]
    have h4 := hw ((124 + T : Nat) : Int)
    by_cases c : isOrd ((124 + T : Nat) : Int)
    · rw [bstS_yes c]
      unfold updB
      split
      · exact h4.2
      · split
        · exact ih
        · exact ih
    · rw [bstS_no c]; exact ih
theorem wrnO_rng {m : Mem} {o : Int} : 0 ≤ wrnO m o ∧ wrnO m o ≤ 200 := by
  have := cP_rng (P := fun p => ¬ frS m p ∧ colO (BL m) o p ≠ wiP m p) 144
  unfold wrnO
  omega
noncomputable def bstA (m : Mem) : BT := bstS (wrnO m) 3211
theorem bstA_ord {m : Mem} : isOrd (bstA m).2.2 := by
  have h1 := (bstS_rng (w := wrnO m) (fun _ => wrnO_rng) 3211).2.2
  have h2 := bstS_low (w := wrnO m) (fun _ => wrnO_rng) 3087
  rcases h1 with h | h
  · exact h
  · unfold bstA
    have h2 : (bstS (wrnO m) 3211).1 ≤ 200 := h2
    omega
theorem wrnO_eq {m m' : Mem} (h : m' 34 = m 34) : wrnO m' = wrnO m := by
  funext o
  unfold wrnO wiP
  rw [frS_eq h, BL_eq h, h]
theorem SCA_eq {m m' : Mem} (h34 : m' 34 = m 34) (h50 : m' 50 = m 50) : SCA m' ↔ SCA m := by
  unfold SCA
  rw [BL_eq h34]
  exact ⟨fun h l l0 l1 => (SC_eq h34 h50).mp (h l l0 l1), fun h l l0 l1 => (SC_eq h34 h50).mpr (h l l0 l1)⟩
set_option maxHeartbeats 1000000 in
theorem sM_bestOrder {Q : AV → Mem → Prop} {m : Mem} (hw : MW m) (hS : SCA m) (h : ∀ m', (∀ q, q ≠ 33 → m' q = m q) → m' 33 0 28 = (bstA m).1 → m' 33 0 29 = (bstA m).2.1 → Q (.inl (bstA m).2.2) m') : WP cM_bestOrder 0 [.inr (33, 0), uu, uu, uu] [] m Q := by
  refine gM_bestOrder_0 m ?_
  have hst : bstS (wrnO m) 123 = (1000, 0, -6) := by
    have : bstS (wrnO m) (0 + 123) = bstS (wrnO m) 0 := bstS_skip 123 0 (fun p p0 p1 z => by have := isOrd_dig p z; omega)
    rw [Nat.zero_add] at this
    exact this
  refine loopU (σ := Mem × Int) (N := 3211) (G := fun (k : Int) (s : Mem × Int) => ∀ a3 : AV, WP cM_bestOrder 18 [.inr (33, 0), .inl s.2, .inl k, a3] [] s.1 Q) (I := fun (k : Int) (s : Mem × Int) => 123 ≤ k ∧ (∀ q, q ≠ 33 → s.1 q = m q) ∧ s.1 33 0 28 = (bstS (wrnO m) k.toNat).1 ∧ s.1 33 0 29 = (bstS (wrnO m) k.toNat).2.1 ∧ s.2 = (bstS (wrnO m) k.toNat).2.2) ?_ ?_ 123 (mset (mset m 33 0 28 1000) 33 0 29 0, -6) (by omega) (by omega) ⟨by omega, fun q hq => by dsimp only; rw [mset_k hq, mset_k hq], ?_, ?_, ?_⟩ uu
  · rintro ⟨s, x1⟩ ⟨-, h1, h2, h3, h4⟩ a3
    dsimp only at h1 h2 h3 h4 ⊢
    refine gM_bestOrder_18 x1 _ a3 s ⟨fun _ => ?_, fun z => absurd (by omega) z⟩
    rw [h4]
    exact h s h1 h2 h3
  · rintro k ⟨s, x1⟩ k0 k1 ⟨kk, h1, h2, h3, h4⟩ hN a3
    dsimp only at h1 h2 h3 h4 hN ⊢
    have e34 : s 34 = m 34 := h1 34 (by decide)
    have hws : MW s := by rw [MW_eq e34]; exact hw
    have hSs : SCA s := (SCA_eq e34 (h1 50 (by decide))).mpr hS
    have hr := bstS_rng (w := wrnO m) (fun _ => wrnO_rng) k.toNat
    have ek : ((k.toNat : Nat) : Int) = k := by omega
    have es : (k + 1).toNat = k.toNat + 1 := by omega
    have hwr := wrnO_rng (m := m) (o := k)
    generalize hT : bstS (wrnO m) k.toNat = T at *
    refine gM_bestOrder_18 x1 k a3 s ⟨fun z => by omega, fun _ => sM_isOrder (fun c => ⟨1, rfl, fun z => by omega, fun _ => sM_wrongBy hws hSs c ?_⟩) (fun c => ⟨0, rfl, fun _ => ?_, fun z => absurd rfl z⟩)⟩
    · have eT : bstS (wrnO m) (k + 1).toNat = updB T k (wrnO m k) := by rw [es, bstS_yes (by rw [ek]; exact c), ek, hT]
      rw [wrnO_eq e34]
      refine ⟨_, rfl, fun z => ⟨fun z2 => ⟨⟨by omega, by omega⟩, ⟨by omega, by omega⟩, hN (mset s 33 0 29 (s 33 0 29 + 0), x1) ⟨by omega, fun q hq => (mset_k hq).trans (h1 q hq), ?_⟩ _⟩, fun z2 => ⟨⟨by omega, by omega⟩, ⟨by omega, by omega⟩, hN (mset s 33 0 29 (s 33 0 29 + 1), x1) ⟨by omega, fun q hq => (mset_k hq).trans (h1 q hq), ?_⟩ _⟩⟩, fun z => ?_⟩
      · rw [eT]
        unfold updB
        rw [if_neg (by omega), if_neg (by omega)]
        simp only [mset_i]
        refine ⟨by simpa using h2, by simp [h3], h4⟩
      · rw [eT]
        unfold updB
        rw [if_neg (by omega), if_pos (by omega)]
        simp only [mset_i]
        refine ⟨by simpa using h2, by simp [h3], h4⟩
      · have e28 : (mset (mset s 33 0 28 (wrnO m k)) 33 0 29 0) 33 0 28 = wrnO m k := by simp [mset_i]
        have e29 : (mset (mset s 33 0 28 (wrnO m k)) 33 0 29 0) 33 0 29 = 0 := by simp [mset_i]
        rw [e28, e29]
        refine ⟨fun z2 => absurd rfl z2, fun _ => ⟨⟨by omega, by omega⟩, ⟨by omega, by omega⟩, hN (mset (mset (mset s 33 0 28 (wrnO m k)) 33 0 29 0) 33 0 29 (0 + 1), k) ⟨by omega, fun q hq => by dsimp only; rw [mset_k hq, mset_k hq, mset_k hq]; exact h1 q hq, ?_⟩ _⟩⟩
        rw [eT]
        unfold updB
        rw [if_pos (by omega)]
        dsimp only
        refine ⟨by simp [mset_i], by simp [mset_i], rfl⟩
    · have eT : bstS (wrnO m) (k + 1).toNat = T := by rw [es, bstS_no (by rw [ek]; exact c), hT]
      refine ⟨fun z => ⟨fun z2 => ⟨⟨by omega, by omega⟩, ⟨by omega, by omega⟩, hN (mset s 33 0 29 (s 33 0 29 + 0), x1) ⟨by omega, fun q hq => (mset_k hq).trans (h1 q hq), ?_⟩ _⟩, fun z2 => absurd (by omega) z2⟩, fun z => absurd (by omega) z⟩
      rw [eT]
      dsimp only
      simp only [mset_i]
      refine ⟨by simpa using h2, by simp [h3], h4⟩
  · dsimp only
    rw [show (123 : Int).toNat = 123 from rfl, hst]
    simp [mset_i]
  · dsimp only
    rw [show (123 : Int).toNat = 123 from rfl, hst]
    simp [mset_i]
  · rw [show (123 : Int).toNat = 123 from rfl, hst]
noncomputable def ansPaint (m : Mem) (x y : Int) : Int := cif (inS m x y) (colO (BL m) (bstA m).2.2 (pl x y)) (-2)
noncomputable def ansWrong (m : Mem) (o : Int) : Int := cif (isOrd o) (wrnO m o) (-2)
noncomputable def ansBest (m : Mem) (w : Int) : Int := cif (0 ≤ w ∧ w ≤ 2) (if w = 0 then (bstA m).2.2 else if w = 1 then (bstA m).1 else (bstA m).2.1) (-2)
theorem bstA_eq {m m' : Mem} (h : m' 34 = m 34) : bstA m' = bstA m := by unfold bstA; rw [wrnO_eq h]
theorem sM_paint {Q : AV → Mem → Prop} {x y : Int} {m : Mem} (hw : MW m) (h : ∀ m', mfQ m m' → Q (.inl (ansPaint m x y)) m') : WP cM_paint 0 [.inr (33, 0), .inl x, .inl y] [] m Q := by
  unfold ansPaint at h
  refine gM_paint_0 x y m (sM_isCell hw (fun c => ⟨1, rfl, fun _ => ?_, fun z => absurd (by omega) z⟩) (fun c => ⟨0, rfl, fun z => absurd rfl z, fun _ => by have h := h m (fun _ _ => rfl); rw [cif_neg c] at h; exact h⟩))
  rw [cif_pos c] at h
  refine sM_layAll hw (fun m1 f1 hS => ?_)
  have e34 : m1 34 = m 34 := f1 34 (by omega)
  refine sM_bestOrder (by rw [MW_eq e34]; exact hw) hS (fun m2 f2 _ _ => ⟨_, rfl, ?_⟩)
  have e34' : m2 34 = m1 34 := f2 34 (by decide)
  have c' := c
  obtain ⟨w1, w2, w3, w4⟩ := hw
  unfold inS at c'
  refine sM_colourBy (by rw [MW_eq e34', MW_eq e34]; exact ⟨w1, w2, w3, w4⟩) ((SCA_eq e34' (f2 50 (by decide))).mpr hS) bstA_ord (by omega) ⟨_, rfl, ?_⟩
  rw [BL_eq e34', BL_eq e34, bstA_eq e34]
  exact h m2 (fun q hq => (f2 q (by omega)).trans (f1 q hq))
theorem sM_wrong {Q : AV → Mem → Prop} {o : Int} {m : Mem} (hw : MW m) (h : ∀ m', mfQ m m' → Q (.inl (ansWrong m o)) m') : WP cM_wrong 0 [.inr (33, 0), .inl o] [] m Q := by
  unfold ansWrong at h
  refine gM_wrong_0 o m (sM_isOrder (fun c => ⟨1, rfl, fun _ => ?_, fun z => absurd (by omega) z⟩) (fun c => ⟨0, rfl, fun z => absurd rfl z, fun _ => by have h := h m (fun _ _ => rfl); rw [cif_neg c] at h; exact h⟩))
  rw [cif_pos c] at h
  refine sM_layAll hw (fun m1 f1 hS => ?_)
  have e34 : m1 34 = m 34 := f1 34 (by omega)
  refine sM_wrongBy (by rw [MW_eq e34]; exact hw) hS c ⟨_, rfl, ?_⟩
  rw [wrnO_eq e34]
  exact h m1 f1
theorem sM_best {Q : AV → Mem → Prop} {w : Int} {m : Mem} (hw : MW m) (h : ∀ m', mfQ m m' → Q (.inl (ansBest m w)) m') : WP cM_best 0 [.inr (33, 0), .inl w, uu] [] m Q := by
  unfold ansBest at h
  refine gM_best_0 w m (sM_in (fun c => ⟨1, rfl, fun _ => ?_, fun z => absurd (by omega) z⟩) (fun c => ⟨0, rfl, fun z => absurd rfl z, fun _ => by have h := h m (fun _ _ => rfl); rw [cif_neg c] at h; exact h⟩))
  rw [cif_pos c] at h
  refine sM_layAll hw (fun m1 f1 hS => ?_)
  have e34 : m1 34 = m 34 := f1 34 (by omega)
  refine sM_bestOrder (by rw [MW_eq e34]; exact hw) hS (fun m2 f2 g1 g2 => ⟨_, rfl, ?_⟩)
  rw [bstA_eq e34] at g1 g2 ⊢
  have h := h m2 (fun q hq => (f2 q (by omega)).trans (f1 q hq))
  refine ⟨fun z => ⟨fun z1 => ?_, fun z1 => ?_⟩, fun z => ?_⟩
  · rw [if_neg z, if_neg z1] at h; rw [g2]; exact h
  · rw [if_neg z, if_pos (Classical.byContradiction z1)] at h; rw [g1]; exact h
  · rw [if_pos (Classical.byContradiction z)] at h; exact h
