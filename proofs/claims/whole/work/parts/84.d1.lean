/-! Calls that change the sheet, on both sides. -/
def opnC (m : Mem) (l : Int) : Int := sumN (fun y => btS (m 2 0 (l * 10 + y))) (m 1 0 1).toNat
theorem opnC_cutN {m : Mem} {l : Int} (hS : Sh m) (hl : 0 ≤ l ∧ l ≤ 3) : opnC m l = cutN m l := by
  obtain ⟨b1, b2, b3, b4, b5, b6, b7, b8, b9⟩ := hS
  have hrow : ∀ y, 0 ≤ y → y < 10 → sumN (fun x => m 34 0 (100 * l + (10 * y + x))) 10 = btS (m 2 0 (l * 10 + y)) := fun y y0 y1 => sumN_congr 10 (fun x x0 x1 => b6 l y x hl.1 hl.2 y0 y1 x0 (by omega))
  unfold opnC cutN
  rw [b5, show 100 = 10 * 10 by rfl, sumN_rows 10, sumN_congr 10 (fun y y0 y1 => hrow y y0 (by omega)), show 10 = (m 34 0 501).toNat + (10 - (m 34 0 501).toNat) by omega]
  refine (sumN_skip _ _ (fun y y0 y1 => ?_)).symm
  rw [← hrow y (by omega) (by omega)]
  have : sumN (fun _ => (0 : Int)) 10 = 0 := sumN_zero 10
  exact (sumN_congr 10 (fun x x0 x1 => b9 l y x hl.1 hl.2 (by omega) (by omega) x0 (by omega) (by omega))).trans this
theorem sH_openC {Q : AV → Mem → Prop} {l : Int} {m : Mem} (hh : 3 ≤ m 1 0 1 ∧ m 1 0 1 ≤ 10) (hln : ∀ j, 0 ≤ j → j < 40 → 0 ≤ m 2 0 j ∧ m 2 0 j < 1024) (hl : 0 ≤ l ∧ l ≤ 3) (h : Q (.inl (opnC m l)) m) : WP cH_openCells 0 [.inr (1, 0), .inl l, uu, uu] [] m Q := by
  refine gH_openCells_0 0 l m ?_
  refine loopU (σ := Int) (N := m 1 0 1) (G := fun (y : Int) (s : Int) => WP cH_openCells 4 [.inr (1, 0), .inl l, .inl s, .inl y] [] m Q) (I := fun (y : Int) (s : Int) => s = sumN (fun y => btS (m 2 0 (l * 10 + y))) y.toNat) ?_ ?_ 0 0 (Int.le_refl 0) (by omega) rfl
  · intro s hs
    refine gH_openCells_4 0 l s _ m ⟨fun _ => ?_, fun z => absurd (Int.le_refl _) z⟩
    rw [hs]; exact h
  · intro y s y0 y1 hs hN
    have hb := sumN_bnd (g := fun y => btS (m 2 0 (l * 10 + y))) (c := 10) y.toNat (fun j _ _ => btS_rng)
    have hv := btS_rng (v := m 2 0 (l * 10 + y))
    refine gH_openCells_4 0 l s y m ⟨fun z => by omega, fun _ => ⟨⟨by omega, by omega⟩, ⟨by omega, by omega⟩, by omega, sJ_bitCount (hln _ (by omega) (by omega)) ⟨_, rfl, ⟨by omega, by omega⟩, ⟨by omega, by omega⟩, hN _ (by rw [sumN_suc y0, hs])⟩⟩⟩
theorem sS_forgetLayer {Q : AV → Mem → Prop} {l : Int} {m : Mem} (hl : 0 ≤ l ∧ l ≤ 3) (h : Q (.inl 0) (mset (mset (mset m 6 l 3 0) 6 l 4 0) 26 0 5 0)) : WP cS_forgetLayer 0 [.inr (0, 0), .inl l] [] m Q := by
  refine gS_forgetLayer_0 l m ⟨by omega, ?_⟩
  rw [Int.zero_add]
  exact gL_forget_0 l m h
theorem sS_forgetAll {Q : AV → Mem → Prop} {m : Mem} (h : ∀ m', (∀ q, q ≠ 6 → q ≠ 26 → m' q = m q) → (∀ l, 0 ≤ l → l ≤ 3 → m' 6 l 3 = 0 ∧ m' 6 l 4 = 0) → m' 26 0 5 = 0 → Q (.inl 0) m') : WP cS_forgetAll 0 [.inr (0, 0), uu] [] m Q := by
  refine gS_forgetAll_0 m ?_
  refine loopU (σ := Mem) (N := 4) (G := fun (k : Int) (s : Mem) => WP cS_forgetAll 2 [.inr (0, 0), .inl k] [] s Q) (I := fun (k : Int) (s : Mem) => (∀ q, q ≠ 6 → q ≠ 26 → s q = m q) ∧ (∀ l, 0 ≤ l → l < k → s 6 l 3 = 0 ∧ s 6 l 4 = 0) ∧ (1 ≤ k → s 26 0 5 = 0)) ?_ ?_ 0 m (Int.le_refl 0) (by omega) ⟨fun _ _ _ => rfl, fun l l0 l1 => by omega, fun z => by omega⟩
  · rintro s ⟨h1, h2, h3⟩
    exact gS_forgetAll_2 _ s ⟨fun _ => h s h1 (fun l l0 l1 => h2 l l0 (by omega)) (h3 (by omega)), fun z => absurd (by omega) z⟩
  · rintro k s k0 k1 ⟨h1, h2, h3⟩ hN
    refine gS_forgetAll_2 k s ⟨fun z => by omega, fun _ => sS_forgetLayer (by omega) ⟨⟨by omega, by omega⟩, hN _ ⟨fun q q1 q2 => by rw [mset_k q2, mset_k q1, mset_k q1]; exact h1 q q1 q2, fun l l0 l1 => ?_, fun _ => by rw [mset_i, if_pos rfl]⟩⟩⟩
    rw [mset_k (by decide)]
    by_cases e : l = k
    · rw [e]
      exact ⟨by rw [rd_s (by decide), mset_i, if_pos rfl], by rw [mset_i, if_pos rfl]⟩
    · have hne : ∀ j, (mset (mset s 6 k 3 0) 6 k 4 0) 6 l j = s 6 l j := fun j => by rw [mset_ne (fun z => e z.2.1), mset_ne (fun z => e z.2.1)]
      rw [hne, hne]
      exact h2 l l0 (by omega)
/-- the plans and the picture are forgotten -/
theorem Inv.fresh {m : Mem} (hS : Sh m) (hG : Img m) (h6 : ∀ l, 0 ≤ l → l ≤ 3 → m 6 l 3 = 0 ∧ m 6 l 4 = 0) (h26 : m 26 0 5 = 0) : Inv m :=
  ⟨hS, hG, fun l l0 l1 => ⟨fun z => absurd (h6 l l0 l1).1 z, fun z => absurd (h6 l l0 l1).2 z⟩, fun z => absurd h26 z⟩
/-- what follows a call of the class: the same call of the model answers the same -/
def Then (cM : List Ent) (as : List AV) (m : Mem) (r1 : Int) (m1 : Mem) : Prop := m1 32 = m 32 ∧ ∀ R : AV → Mem → Prop, (∀ m2, Inv m2 → m2 32 = m 32 → R (.inl r1) m2) → WP cM 0 (.inr (33, 0) :: as) [] m1 R
theorem bt_zero {x : Int} : bt 0 x = 0 := by
  unfold bt
  rw [Int.zero_ediv]
  rfl
theorem pr_sheet {Q : AV → Mem → Prop} {w h : Int} {m : Mem} (hI : Inv m) (k : ∀ r1 m1, Then cM_sheet [.inl w, .inl h, uu] m r1 m1 → Q (.inl r1) m1) : WP cS_sheet 0 [.inr (0, 0), .inl w, .inl h] [] m Q := by
  have bad : ¬ ((3 ≤ w ∧ w ≤ 10) ∧ (3 ≤ h ∧ h ≤ 10)) → Q (.inl (-2)) m := fun z => k _ m ⟨rfl, fun R hR => sM_sheet (fun _ => hR m hI rfl) (fun y => absurd y z)⟩
  refine gS_sheet_0 w h m (sS_isWithin (fun a => ⟨1, rfl, fun z => by omega, fun _ => sS_isWithin (fun b => ⟨1, rfl, fun _ => ?_, fun z => absurd (by omega) z⟩) (fun b => ⟨0, rfl, fun z => absurd rfl z, fun _ => bad (fun y => b y.2)⟩)⟩) (fun a => ⟨0, rfl, fun _ => bad (fun y => a y.1), fun z => absurd rfl z⟩))
  have hmul : Rng (w * h) := by
    have e1 := Int.mul_le_mul_of_nonneg_left b.2 (show 0 ≤ w by omega)
    have e2 := Int.mul_nonneg (show 0 ≤ w by omega) (show 0 ≤ h by omega)
    exact ⟨by omega, by omega⟩
  refine gH_reset_0 0 w h m (fill_2 _ 0 0 _ (fun m1 a1 a2 a3 => fill_3 _ 0 0 m1 (fun m2 b1 b2 b3 => sS_forgetAll (fun m3 c1 c2 c3 => ⟨hmul, k _ m3 ⟨?_, fun R hR => sM_sheet (fun y => absurd ⟨a, b⟩ y) (fun _ m4 d1 d2 d3 d4 => hR m4 (Inv.fresh ?_ ?_ ?_ ?_) ?_)⟩⟩))))
  · rw [c1 32 (by decide) (by decide), b1 32 (by decide), a1 32 (by decide), mset_k (by decide), mset_k (by decide)]
  · have e1 : m4 1 0 = (mset (mset m 1 0 0 w) 1 0 1 h) 1 0 := by rw [d1 1 (by decide), c1 1 (by decide) (by decide), b1 1 (by decide), a1 1 (by decide)]
    have e2 : ∀ j, 0 ≤ j → j < 40 → m4 2 0 j = 0 := fun j j0 j1 => by rw [d1 2 (by decide), c1 2 (by decide) (by decide), b1 2 (by decide)]; exact a3 j j0 j1
    have e3 : ∀ j, 0 ≤ j → j < 100 → m4 3 0 j = 0 := fun j j0 j1 => by rw [d1 3 (by decide), c1 3 (by decide) (by decide)]; exact b3 j j0 j1
    refine ⟨by rw [d3, d4]; omega, fun q q0 q1 => Or.inl (d2 q q0 (by omega)), fun q q0 q1 => by rw [d2 (400 + q) (by omega) (by omega)]; omega, ?_, ?_, fun l y x l0 l1 y0 y1 x0 x1 => ?_, fun j j0 j1 => by rw [e2 j j0 j1]; omega, fun j j0 j1 => by rw [e3 j j0 j1, d2 (400 + j) (by omega) (by omega)], fun l y x l0 l1 y0 y1 x0 x1 _ => d2 _ (by omega) (by omega)⟩
    · rw [e1, d3, rd_s (by decide), mset_i, if_pos rfl]
    · rw [e1, d4, mset_i, if_pos rfl]
    · rw [d2 _ (by omega) (by omega), e2 _ (by omega) (by omega), bt_zero]
  · refine ⟨?_, fun q q0 q1 => ?_⟩
    · rw [d1 0 (by decide), c1 0 (by decide) (by decide), b1 0 (by decide), a1 0 (by decide), mset_k (by decide), mset_k (by decide)]; exact hI.2.1.1
    · have f1 : m4 1 (1 + q) = m 1 (1 + q) := by
        rw [d1 1 (by decide), c1 1 (by decide) (by decide), b1 1 (by decide), a1 1 (by decide)]
        funext j
        rw [mset_ne (fun z => by have := z.2.1; omega), mset_ne (fun z => by have := z.2.1; omega)]
      have f2 : m4 2 (1 + q) = m 2 (1 + q) := by rw [d1 2 (by decide), c1 2 (by decide) (by decide), b1 2 (by decide), a2 _ (by omega), mset_k (by decide), mset_k (by decide)]
      have f3 : m4 3 (1 + q) = m 3 (1 + q) := by rw [d1 3 (by decide), c1 3 (by decide) (by decide), b2 _ (by omega), a1 3 (by decide), mset_k (by decide), mset_k (by decide)]
      rw [f1, f2, f3, d1 36 (by decide), c1 36 (by decide) (by decide), b1 36 (by decide), a1 36 (by decide), mset_k (by decide), mset_k (by decide), d1 35 (by decide), c1 35 (by decide) (by decide), b1 35 (by decide), a1 35 (by decide), mset_k (by decide), mset_k (by decide), d1 0 (by decide), c1 0 (by decide) (by decide), b1 0 (by decide), a1 0 (by decide), mset_k (by decide), mset_k (by decide)]
      exact hI.2.1.2 q q0 q1
  · intro l l0 l1; rw [d1 6 (by decide)]; exact c2 l l0 l1
  · rw [d1 26 (by decide)]; exact c3
  · rw [d1 32 (by decide), c1 32 (by decide) (by decide), b1 32 (by decide), a1 32 (by decide), mset_k (by decide), mset_k (by decide)]
theorem OM_congr {m m' : Mem} {l : Int} (hw : MW m) (h0 : m' 34 0 500 = m 34 0 500) (h1 : m' 34 0 501 = m 34 0 501) (h : ∀ j, 100 * l ≤ j → j < 100 * l + 100 → m' 34 0 j = m 34 0 j) : OM m' l = OM m l := by
  obtain ⟨w1, w2, w3, w4⟩ := hw
  funext p
  unfold OM Mo inS
  rw [h0, h1]
  refine propext ⟨fun z => ⟨z.1, ?_⟩, fun z => ⟨z.1, ?_⟩⟩
  · rw [← h _ (by have := z.1; omega) (by have := z.1; omega)]; exact z.2
  · rw [h _ (by have := z.1; omega) (by have := z.1; omega)]; exact z.2
/-- one layer has changed: the other plans stay right -/
theorem Inv.one {m m' : Mem} {l : Int} (hI : Inv m) (hS : Sh m') (hG : Img m') (h0 : m' 34 0 500 = m 34 0 500) (h1 : m' 34 0 501 = m 34 0 501) (hst : ∀ k j, 0 ≤ k → k ≤ 3 → k ≠ l → 100 * k ≤ j → j < 100 * k + 100 → m' 34 0 j = m 34 0 j) (h7 : ∀ q, 7 ≤ q → q ≤ 25 → m' q = m q) (h6 : ∀ k, k ≠ l → m' 6 k = m 6 k) (hl3 : m' 6 l 3 = 0) (hl4 : m' 6 l 4 = 0) (h26 : m' 26 0 5 = 0) : Inv m' := by
  refine ⟨hS, hG, fun k k0 k1 => ?_, fun z => absurd h26 z⟩
  by_cases e : k = l
  · rw [e]; exact ⟨fun z => absurd hl3 z, fun z => absurd hl4 z⟩
  · have hO : OM m' k = OM m k := OM_congr hI.1.mw h0 h1 (fun j j0 j1 => hst k j k0 k1 e j0 j1)
    have hc := hI.2.2.1 k k0 k1
    unfold CchL at *
    rw [hO, h6 k e, CBd_eq (m := m) (fun q q0 q1 q2 => by rw [h7 q q0 (by omega)]), CKn_eq (m := m) (fun q q0 q1 => by rw [h7 q (by omega) q1])]
    exact hc
theorem pr_cut {Q : AV → Mem → Prop} {l x y o : Int} {m : Mem} (hI : Inv m) (k : ∀ r1 m1, Then cM_cut [.inl l, .inl x, .inl y, .inl o] m r1 m1 → Q (.inl r1) m1) : WP cS_cut 0 [.inr (0, 0), .inl l, .inl x, .inl y, .inl o] [] m Q := by
  have hw := hI.1.mw
  have h01 := hI.1.m01
  have bad : 0 ≤ l ∧ l ≤ 3 → ¬ (inS m x y ∧ (0 ≤ o ∧ o ≤ 1)) → Q (.inl (-2)) m := fun a z => k _ m ⟨rfl, fun R hR => sM_cut hw h01 (fun y => absurd a y) (fun _ _ => hR m hI rfl) (fun _ y1 y2 => absurd ⟨y1, y2⟩ z)⟩
  refine gS_cut_0 l x y o m (sS_isLayer (fun a => ⟨1, rfl, fun _ => ?_, fun z => absurd (by omega) z⟩) (fun a => ⟨0, rfl, fun z => absurd rfl z, fun _ => k _ m ⟨rfl, fun R hR => sM_cut hw h01 (fun _ => hR m hI rfl) (fun y => absurd y a) (fun y => absurd y a)⟩⟩))
  refine sH_hasCell hw hI.1.crel (fun b => ⟨1, rfl, fun z => by omega, fun _ => ?_⟩) (fun b => ⟨0, rfl, fun _ => bad a (fun z => b z.1), fun z => absurd rfl z⟩)
  refine sS_isWithin (fun c => ⟨1, rfl, fun _ => ?_, fun z => absurd (by omega) z⟩) (fun c => ⟨0, rfl, fun z => absurd rfl z, fun _ => bad a (fun z => c z.2)⟩)
  have hw' := hw
  obtain ⟨w1, w2, w3, w4⟩ := hw'
  have b' := b
  unfold inS at b'
  obtain ⟨s1, s2, s3, s4, s5, s6, s7, s8, s9⟩ := hI.1
  have hv := s7 (l * 10 + y) (by omega) (by omega)
  -- the rest, for any new line with the right bits
  have rest : ∀ v', (0 ≤ v' ∧ v' < 1024) → (∀ x', 0 ≤ x' → x' < 10 → bt v' x' = if x' = x then o else bt (m 2 0 (l * 10 + y)) x') → WP cS_forgetLayer 0 [.inr (0, 0), .inl l] [] (mset m 2 0 (l * 10 + y) v') (fun _ m5 => WP cH_openCells 0 [.inr (1, 0), .inl l, uu, uu] [] m5 (fun r m6 => ∃ r4 : Int, r = .inl r4 ∧ Q (.inl r4) m6)) := by
    intro v' hr hbits
    refine sS_forgetLayer a ?_
    generalize hm1 : mset (mset (mset (mset m 2 0 (l * 10 + y) v') 6 l 3 0) 6 l 4 0) 26 0 5 0 = m1
    have k1 : ∀ q, q ≠ 2 → q ≠ 6 → q ≠ 26 → m1 q = m q := fun q q2 q6 q26 => by rw [← hm1, mset_k q26, mset_k q6, mset_k q6, mset_k q2]
    have e2 : ∀ j, m1 2 0 j = if j = l * 10 + y then v' else m 2 0 j := fun j => by rw [← hm1, mset_k (by decide), mset_k (by decide), mset_k (by decide), mset_i]
    have e34 : m1 34 = m 34 := k1 34 (by decide) (by decide) (by decide)
    have e1 : m1 1 = m 1 := k1 1 (by decide) (by decide) (by decide)
    have hln : ∀ j, 0 ≤ j → j < 40 → 0 ≤ m1 2 0 j ∧ m1 2 0 j < 1024 := fun j j0 j1 => by
      rw [e2]
      split
      · exact hr
      · exact s7 j j0 j1
    refine sH_openC (by rw [e1, s5]; omega) hln a ⟨_, rfl, k _ m1 ⟨k1 32 (by decide) (by decide) (by decide), fun R hR => ?_⟩⟩
    refine sM_cut (by rw [MW_eq e34]; exact hw) (by rw [M01_eq e34]; exact h01) (fun z => absurd a z) (fun _ z => absurd ⟨by rw [inS_eq e34]; exact b, c⟩ z) (fun _ _ _ => ?_)
    generalize hm2 : mset m1 34 0 (100 * l + (10 * y + x)) o = m2
    have k2 : ∀ q, q ≠ 34 → m2 q = m1 q := fun q hq => by rw [← hm2, mset_k hq]
    have f34 : ∀ j, m2 34 0 j = if j = 100 * l + (10 * y + x) then o else m 34 0 j := fun j => by rw [← hm2, mset_i, e34]
    have f500 : m2 34 0 500 = m 34 0 500 := by rw [f34, if_neg (by omega)]
    have f501 : m2 34 0 501 = m 34 0 501 := by rw [f34, if_neg (by omega)]
    have hS2 : Sh m2 := by
      refine ⟨by rw [f500, f501]; exact s1, fun q q0 q1 => ?_, fun q q0 q1 => by rw [f34, if_neg (by omega)]; exact s3 q q0 q1, by rw [k2 1 (by decide), e1, f500]; exact s4, by rw [k2 1 (by decide), e1, f501]; exact s5, fun l' y' x' l0 l1 y0 y1 x0 x1 => ?_, fun j j0 j1 => by rw [k2 2 (by decide)]; exact hln j j0 j1, fun j j0 j1 => by rw [k2 3 (by decide), k1 3 (by decide) (by decide) (by decide), f34, if_neg (by omega)]; exact s8 j j0 j1, fun l' y' x' l0 l1 y0 y1 x0 x1 hn => ?_⟩
      · rw [f34]
        split
        · omega
        · exact s2 q q0 q1
      · rw [f34, k2 2 (by decide), e2]
        have hold := s6 l' y' x' l0 l1 y0 y1 x0 x1
        by_cases e : l' * 10 + y' = l * 10 + y
        · rw [if_pos e, hbits x' x0 x1]
          have hll : l' = l ∧ y' = y := by omega
          by_cases ex : x' = x
          · rw [if_pos (by omega), if_pos ex]
          · rw [if_neg (by omega), if_neg ex, hold, hll.1, hll.2]
        · rw [if_neg e, if_neg (by omega)]; exact hold
      · rw [f500, f501] at hn
        rw [f34, if_neg (by omega)]
        exact s9 l' y' x' l0 l1 y0 y1 x0 x1 hn
    have hans : opnC m1 l = cutN m2 l := by
      rw [← opnC_cutN hS2 a]
      unfold opnC
      rw [k2 1 (by decide), k2 2 (by decide)]
    rw [← hans]
    refine hR m2 (hI.one hS2 ?_ f500 f501 (fun q j q0 q1 hq j0 j1 => by rw [f34, if_neg (by omega)]) (fun q q0 q1 => by rw [k2 q (by omega), k1 q (by omega) (by omega) (by omega)]) (l := l) (fun q hq => ?_) ?_ ?_ ?_) ?_
    · have f2 : ∀ q, 1 ≤ q → m2 2 q = m 2 q := fun q hq => by
        rw [k2 2 (by decide), ← hm1, mset_k (by decide), mset_k (by decide), mset_k (by decide)]
        funext j
        exact mset_ne (fun z => by have := z.2.1; omega)
      unfold Img
      rw [k2 0 (by decide), k1 0 (by decide) (by decide) (by decide), k2 36 (by decide), k1 36 (by decide) (by decide) (by decide), k2 35 (by decide), k1 35 (by decide) (by decide) (by decide), k2 1 (by decide), e1, k2 3 (by decide), k1 3 (by decide) (by decide) (by decide)]
      exact ⟨hI.2.1.1, fun q q0 q1 => by rw [f2 (1 + q) (by omega)]; exact hI.2.1.2 q q0 q1⟩
    · rw [k2 6 (by decide), ← hm1, mset_k (by decide)]
      funext j
      rw [mset_ne (fun z => hq z.2.1), mset_ne (fun z => hq z.2.1), mset_k (by decide)]
    · rw [k2 6 (by decide), ← hm1, mset_k (by decide), rd_s (by decide), mset_i, if_pos rfl]
    · rw [k2 6 (by decide), ← hm1, mset_k (by decide), mset_i, if_pos rfl]
    · rw [k2 26 (by decide), ← hm1, mset_i, if_pos rfl]
    · rw [k2 32 (by decide), k1 32 (by decide) (by decide) (by decide)]
  refine ⟨fun z => ?_, fun z => ?_⟩
  · have eo : o = 0 := by omega
    refine gH_setOpen_0 0 l x y 0 m ⟨⟨by omega, by omega⟩, ⟨by omega, by omega⟩, fun _ => ⟨by omega, by omega, ?_⟩, fun z => absurd rfl z⟩
    rw [bt_off hv (by omega)]
    exact rest _ (bt_off_rng hv (by omega)) (fun x' x0 x1 => by rw [eo]; exact bt_off_at hv (by omega) ⟨x0, x1⟩)
  · have eo : o = 1 := Classical.byContradiction z
    refine gH_setOpen_0 0 l x y 1 m ⟨⟨by omega, by omega⟩, ⟨by omega, by omega⟩, fun z => by omega, fun _ => ⟨by omega, by omega, ?_⟩⟩
    rw [bt_or hv (by omega)]
    exact rest _ (bt_on_rng hv (by omega)) (fun x' x0 x1 => by rw [eo]; exact bt_on_at hv (by omega) ⟨x0, x1⟩)
theorem pr_row {Q : AV → Mem → Prop} {l y v : Int} {m : Mem} (hI : Inv m) (k : ∀ r1 m1, Then cM_row [.inl l, .inl y, .inl v, uu] m r1 m1 → Q (.inl r1) m1) : WP cS_row 0 [.inr (0, 0), .inl l, .inl y, .inl v] [] m Q := by
  have hw := hI.1.mw
  have h01 := hI.1.m01
  have hw' := hw
  obtain ⟨w1, w2, w3, w4⟩ := hw'
  obtain ⟨s1, s2, s3, s4, s5, s6, s7, s8, s9⟩ := hI.1
  have bad : 0 ≤ l ∧ l ≤ 3 → ¬ ((0 ≤ y ∧ y < m 34 0 501) ∧ (0 ≤ v ∧ v ≤ 1023)) → Q (.inl (-2)) m := fun a z => k _ m ⟨rfl, fun R hR => sM_row hw h01 (fun y => absurd a y) (fun _ _ => hR m hI rfl) (fun _ y1 y2 => absurd ⟨y1, y2⟩ z)⟩
  refine gS_row_0 l y v m (sS_isLayer (fun a => ⟨1, rfl, fun _ => ⟨by rw [s5]; exact ⟨by omega, by omega⟩, ?_⟩, fun z => absurd (by omega) z⟩) (fun a => ⟨0, rfl, fun z => absurd rfl z, fun _ => k _ m ⟨rfl, fun R hR => sM_row hw h01 (fun _ => hR m hI rfl) (fun y => absurd y a) (fun y => absurd y a)⟩⟩))
  rw [s5]
  refine sS_isWithin (fun b => ⟨1, rfl, fun z => by omega, fun _ => ?_⟩) (fun b => ⟨0, rfl, fun _ => bad a (fun z => b (by omega)), fun z => absurd rfl z⟩)
  refine sS_isWithin (fun c => ⟨1, rfl, fun _ => ?_, fun z => absurd (by omega) z⟩) (fun c => ⟨0, rfl, fun z => absurd rfl z, fun _ => bad a (fun z => c z.2)⟩)
  have hW : m 1 0 0 = m 34 0 500 := s4
  have hsh : zShl 1 (m 1 0 0) = 2 ^ (m 1 0 0).toNat := by
    have := zShl1_all ⟨(m 1 0 0).toNat, by omega⟩
    dsimp only at this
    rw [show (((m 1 0 0).toNat : Nat) : Int) = m 1 0 0 by omega] at this
    exact this
  have hpw : (2 : Int) ^ (m 1 0 0).toNat ≤ 1024 ∧ 1 ≤ (2 : Int) ^ (m 1 0 0).toNat := by
    rw [hW]
    rcases eight_cases (w := m 34 0 500) (by omega) with e | e | e | e | e | e | e | e <;> rw [e] <;> decide
  refine gH_setLine_0 0 l y v m ⟨⟨by omega, by omega⟩, ⟨by omega, by omega⟩, by rw [hsh]; exact ⟨by omega, by omega⟩, by omega, ?_⟩
  rw [bt_line (by omega) (by omega), hW]
  have hr := bt_line_rng (v := v) (w := m 34 0 500) (by omega) (by omega)
  have hbits : ∀ x', 0 ≤ x' → x' < 10 → bt (v % 2 ^ (m 34 0 500).toNat) x' = if x' < m 34 0 500 then bt v x' else 0 := fun x' x0 x1 => bt_line_at (by omega) (by omega) ⟨x0, x1⟩
  generalize v % 2 ^ (m 34 0 500).toNat = v' at *
  refine sS_forgetLayer a ?_
  generalize hm1 : mset (mset (mset (mset m 2 0 (l * 10 + y) v') 6 l 3 0) 6 l 4 0) 26 0 5 0 = m1
  have k1 : ∀ q, q ≠ 2 → q ≠ 6 → q ≠ 26 → m1 q = m q := fun q q2 q6 q26 => by rw [← hm1, mset_k q26, mset_k q6, mset_k q6, mset_k q2]
  have e2 : ∀ j, m1 2 0 j = if j = l * 10 + y then v' else m 2 0 j := fun j => by rw [← hm1, mset_k (by decide), mset_k (by decide), mset_k (by decide), mset_i]
  have e34 : m1 34 = m 34 := k1 34 (by decide) (by decide) (by decide)
  have e1 : m1 1 = m 1 := k1 1 (by decide) (by decide) (by decide)
  have hln : ∀ j, 0 ≤ j → j < 40 → 0 ≤ m1 2 0 j ∧ m1 2 0 j < 1024 := fun j j0 j1 => by
    rw [e2]
    split
    · exact hr
    · exact s7 j j0 j1
  refine sH_openC (by rw [e1, s5]; omega) hln a ⟨_, rfl, k _ m1 ⟨k1 32 (by decide) (by decide) (by decide), fun R hR => ?_⟩⟩
  refine sM_row (by rw [MW_eq e34]; exact hw) (by rw [M01_eq e34]; exact h01) (fun z => absurd a z) (fun _ z => absurd ⟨by rw [e34]; omega, c⟩ z) (fun _ _ _ m2 k2 g1 g2 => ?_)
  rw [e34] at g1 g2
  have f500 : m2 34 0 500 = m 34 0 500 := g2 500 (by omega)
  have f501 : m2 34 0 501 = m 34 0 501 := g2 501 (by omega)
  have hS2 : Sh m2 := by
    refine ⟨by rw [f500, f501]; exact s1, fun q q0 q1 => ?_, fun q q0 q1 => by rw [g2 _ (by omega)]; exact s3 q q0 q1, by rw [k2 1 (by decide), e1, f500]; exact s4, by rw [k2 1 (by decide), e1, f501]; exact s5, fun l' y' x' l0 l1 y0 y1 x0 x1 => ?_, fun j j0 j1 => by rw [k2 2 (by decide)]; exact hln j j0 j1, fun j j0 j1 => by rw [k2 3 (by decide), k1 3 (by decide) (by decide) (by decide), g2 _ (by omega)]; exact s8 j j0 j1, fun l' y' x' l0 l1 y0 y1 x0 x1 hn => ?_⟩
    · by_cases e : 100 * l + 10 * y ≤ q ∧ q < 100 * l + 10 * y + m 34 0 500
      · have := g1 (q - 100 * l - 10 * y) (by omega) (by omega)
        rw [show 100 * l + (10 * y + (q - 100 * l - 10 * y)) = q by omega] at this
        rw [this]; exact bt_01
      · rw [g2 q e]; exact s2 q q0 q1
    · rw [k2 2 (by decide), e2]
      have hold := s6 l' y' x' l0 l1 y0 y1 x0 x1
      by_cases e : l' * 10 + y' = l * 10 + y
      · rw [if_pos e, hbits x' x0 x1]
        have hll : l' = l ∧ y' = y := by omega
        rw [hll.1, hll.2]
        by_cases ex : x' < m 34 0 500
        · rw [if_pos ex]; exact g1 x' x0 ex
        · rw [if_neg ex, g2 _ (by omega)]
          exact s9 l y x' (by omega) (by omega) (by omega) (by omega) x0 x1 (by omega)
      · rw [if_neg e, g2 _ (by omega)]; exact hold
    · rw [f500, f501] at hn
      rw [g2 _ (by omega)]
      exact s9 l' y' x' l0 l1 y0 y1 x0 x1 hn
  have hans : opnC m1 l = cutN m2 l := by
    rw [← opnC_cutN hS2 a]
    unfold opnC
    rw [k2 1 (by decide), k2 2 (by decide)]
  rw [← hans]
  refine hR m2 (hI.one hS2 ?_ f500 f501 (fun q j q0 q1 hq j0 j1 => g2 j (by omega)) (fun q q0 q1 => by rw [k2 q (by omega), k1 q (by omega) (by omega) (by omega)]) (l := l) (fun q hq => ?_) ?_ ?_ ?_) ?_
  · have f2 : ∀ q, 1 ≤ q → m2 2 q = m 2 q := fun q hq => by
      rw [k2 2 (by decide), ← hm1, mset_k (by decide), mset_k (by decide), mset_k (by decide)]
      funext j
      exact mset_ne (fun z => by have := z.2.1; omega)
    unfold Img
    rw [k2 0 (by decide), k1 0 (by decide) (by decide) (by decide), k2 36 (by decide), k1 36 (by decide) (by decide) (by decide), k2 35 (by decide), k1 35 (by decide) (by decide) (by decide), k2 1 (by decide), e1, k2 3 (by decide), k1 3 (by decide) (by decide) (by decide)]
    exact ⟨hI.2.1.1, fun q q0 q1 => by rw [f2 (1 + q) (by omega)]; exact hI.2.1.2 q q0 q1⟩
  · rw [k2 6 (by decide), ← hm1, mset_k (by decide)]
    funext j
    rw [mset_ne (fun z => hq z.2.1), mset_ne (fun z => hq z.2.1), mset_k (by decide)]
  · rw [k2 6 (by decide), ← hm1, mset_k (by decide), rd_s (by decide), mset_i, if_pos rfl]
  · rw [k2 6 (by decide), ← hm1, mset_k (by decide), mset_i, if_pos rfl]
  · rw [k2 26 (by decide), ← hm1, mset_i, if_pos rfl]
  · rw [k2 32 (by decide), k1 32 (by decide) (by decide) (by decide)]
