/-! The model's islands: first cells, sizes, ends. -/
noncomputable def nthP (P : Int → Prop) (i : Int) : Int := @dite _ (∃ k : Nat, P (k : Int) ∧ cP P k = i) (Classical.propDecidable _) (fun h => ((Classical.choose h : Nat) : Int)) (fun _ => 0)
theorem nthP_eq {P : Int → Prop} {k : Nat} (hk : P (k : Int)) : nthP P (cP P k) = (k : Int) := by
  have h : ∃ j : Nat, P (j : Int) ∧ cP P j = cP P k := ⟨k, hk, rfl⟩
  unfold nthP
  rw [dif_pos h]
  have := Classical.choose_spec h
  rw [cP_inj this.1 hk this.2]
theorem nthP_spec {P : Int → Prop} {i : Int} {n : Nat} (h0 : 0 ≤ i) (h1 : i < cP P n) : 0 ≤ nthP P i ∧ nthP P i < (n : Int) ∧ P (nthP P i) ∧ cP P (nthP P i).toNat = i := by
  obtain ⟨k, k1, k2, k3⟩ := cP_hit n h0 h1
  rw [← k3, nthP_eq k2]
  exact ⟨by omega, by omega, k2, by rw [Int.toNat_natCast]⟩
theorem row_0 {m : Mem} {P : Int → Prop} (hP : ∀ p, frS m p → 0 ≤ p → p < 144 → ¬ P p) : cP P (pl 0 0).toNat = 0 := by
  have := cP_skip (P := P) 13 0 (fun p p0 p1 => hP p (by unfold frS inS; omega) (by omega) (by omega))
  exact this
theorem row_skip {m : Mem} {P : Int → Prop} {y : Int} (hw : MW m) (hP : ∀ p, frS m p → 0 ≤ p → p < 144 → ¬ P p) (y0 : 0 ≤ y) (y1 : y < m 34 0 501) : cP P (pl 0 (y + 1)).toNat = cP P (pl (m 34 0 500) y).toNat := by
  obtain ⟨w1, w2, w3, w4⟩ := hw
  have e : (pl 0 (y + 1)).toNat = (pl (m 34 0 500) y).toNat + ((pl 0 (y + 1)).toNat - (pl (m 34 0 500) y).toNat) := by unfold pl; omega
  rw [e]
  refine cP_skip _ _ (fun p p0 p1 => ?_)
  unfold pl at p0 p1
  refine hP p ?_ (by omega) (by omega)
  unfold frS inS
  omega
theorem row_end {m : Mem} {P : Int → Prop} (hw : MW m) (hP : ∀ p, frS m p → 0 ≤ p → p < 144 → ¬ P p) : cP P 144 = cP P (pl 0 (m 34 0 501)).toNat := by
  obtain ⟨w1, w2, w3, w4⟩ := hw
  have e : 144 = (pl 0 (m 34 0 501)).toNat + (144 - (pl 0 (m 34 0 501)).toNat) := by unfold pl; omega
  rw [e]
  refine cP_skip _ _ (fun p p0 p1 => hP p ?_ (by omega) (by omega))
  unfold frS inS
  unfold pl at p0
  omega
theorem isl_iff {m : Mem} {l p : Int} {f : Int → Int} (hw : MW m) (hP : MPc m l f) (p0 : 0 ≤ p) (p1 : p < 144) (hp : IR (OM m l) f p) {x y : Int} (hc : inS m x y) : m 38 0 (10 * y + x) = cP (IR (OM m l) f) p.toNat ↔ f (pl x y) = p := by
  have hN := (hP.2.1 x y hc).2
  have hr := (cP_rng (P := IR (OM m l) f) p.toNat).1
  have hq := inS_pl hw hc
  obtain ⟨w1, w2, w3, w4⟩ := hw
  by_cases o : OM m l (pl x y)
  · rw [(hN.1 o).2]
    refine ⟨fun z => by omega, fun z => absurd ?_ hp.1⟩
    rw [← z]
    exact (hP.1.alike (by omega) (by omega)).mpr o
  · by_cases z0 : f (pl x y) = 0
    · rw [(hN.2.2 o z0).1, z0]
      exact ⟨fun z => by omega, fun z => absurd z.symm hp.2.2⟩
    · rw [(hN.2.1 o z0).1]
      refine ⟨fun z => ?_, fun z => by rw [z]⟩
      have h1 := (hP.1 (pl x y) (by omega) (by omega)).1
      have := cP_inj (P := IR (OM m l) f) (a := (f (pl x y)).toNat) (b := p.toNat) (by rw [show (((f (pl x y)).toNat : Nat) : Int) = f (pl x y) by omega]; exact ⟨fun z => o ((hP.1.alike (by omega) (by omega)).mp z), hP.1.idem (by omega) (by omega), z0⟩) (by rw [show ((p.toNat : Nat) : Int) = p by omega]; exact hp) z
      omega
theorem sM_firstOf {Q : AV → Mem → Prop} {l p i : Int} {f : Int → Int} {m : Mem} (hw : MW m) (hP : MPc m l f) (p0 : 0 ≤ p) (p1 : p < 144) (hp : IR (OM m l) f p) (hi : i = cP (IR (OM m l) f) p.toNat) (h : Q (.inl (10 * (p / 12 - 1) + (p % 12 - 1))) m) : WP cM_firstOf 0 [.inr (33, 0), .inl i, uu, uu, uu] [] m Q := by
  subst hi
  have hin : inS m (p % 12 - 1) (p / 12 - 1) := by
    refine Classical.byContradiction (fun z => ?_)
    have := fr_f hw hP.1 p0 p1 z
    have := hp.2.1
    have := hp.2.2
    omega
  have hin' := hin
  unfold inS at hin'
  have hw' := hw
  obtain ⟨w1, w2, w3, w4⟩ := hw'
  have inner : ∀ (y : Int), 0 ≤ y → y < m 34 0 501 → (∀ v a4, (y ≤ p / 12 - 1 → v = 10 * (p / 12 - 1) + (p % 12 - 1)) → WP cM_firstOf 14 [.inr (33, 0), .inl (cP (IR (OM m l) f) p.toNat), .inl v, .inl (y - 1), a4] [] m Q) → ∀ (n : Nat) (x v : Int), x + 1 = (n : Int) → x < m 34 0 500 → ((y < p / 12 - 1 ∨ (y = p / 12 - 1 ∧ x < p % 12 - 1)) → v = 10 * (p / 12 - 1) + (p % 12 - 1)) → WP cM_firstOf 30 [.inr (33, 0), .inl (cP (IR (OM m l) f) p.toNat), .inl v, .inl y, .inl x] [] m Q := by
    intro y y0 y1 hG n
    induction n with
    | zero =>
      intro x v hx x1 hv
      refine gM_firstOf_30 _ v y x m ⟨fun _ => ⟨⟨by omega, by omega⟩, hG v _ (fun z => hv (by omega))⟩, fun z => absurd (by omega) z⟩
    | succ n ih =>
      intro x v hx x1 hv
      have hc : inS m x y := ⟨by omega, x1, y0, y1⟩
      have hiff := isl_iff hw hP p0 p1 hp hc
      have hle := (hP.1 (pl x y) (by unfold pl; omega) (by unfold pl; omega)).1.2.1
      refine gM_firstOf_30 _ v y x m ⟨fun z => by omega, fun _ => sM_at (by omega) (by omega) ⟨_, rfl, by omega, fun z => ⟨⟨by omega, by omega⟩, ih (x + -1) v (by omega) (by omega) (fun c => ?_)⟩, fun z => sM_at (by omega) (by omega) ⟨_, rfl, ⟨by omega, by omega⟩, ih (x + -1) _ (by omega) (by omega) (fun c => ?_)⟩⟩⟩
      · refine hv ?_
        have : ¬ (x = p % 12 - 1 ∧ y = p / 12 - 1) := fun e => z (hiff.mpr (by rw [e.1, e.2, pl_of]; exact hp.2.1))
        omega
      · have e := hiff.mp (Classical.byContradiction z)
        rw [e] at hle
        unfold pl at hle
        omega
  have outer : ∀ (n : Nat) (y v : Int) (a4 : AV), y + 1 = (n : Int) → y < m 34 0 501 → (y < p / 12 - 1 → v = 10 * (p / 12 - 1) + (p % 12 - 1)) → WP cM_firstOf 14 [.inr (33, 0), .inl (cP (IR (OM m l) f) p.toNat), .inl v, .inl y, a4] [] m Q := by
    intro n
    induction n with
    | zero =>
      intro y v a4 hy y1 hv
      refine gM_firstOf_14 _ v y a4 m ⟨fun _ => by rw [hv (by omega)]; exact h, fun z => absurd (by omega) z⟩
    | succ n ih =>
      intro y v a4 hy y1 hv
      refine gM_firstOf_14 _ v y a4 m ⟨fun z => by omega, fun _ => ⟨⟨by omega, by omega⟩, inner y (by omega) y1 (fun v' b4 hv' => ih (y - 1) v' b4 (by omega) (by omega) (fun z => hv' (by omega))) (m 34 0 500).toNat (m 34 0 500 - 1) v (by omega) (by omega) (fun c => ?_)⟩⟩
      rcases c with c | c
      · exact hv c
      · omega
  exact gM_firstOf_0 _ m ⟨⟨by omega, by omega⟩, outer (m 34 0 501).toNat _ _ _ (by omega) (by omega) (fun z => by omega)⟩
theorem sM_sizeOf {Q : AV → Mem → Prop} {l p i : Int} {f : Int → Int} {m : Mem} (hw : MW m) (hP : MPc m l f) (p0 : 0 ≤ p) (p1 : p < 144) (hp : IR (OM m l) f p) (hi : i = cP (IR (OM m l) f) p.toNat) (h : Q (.inl (cP (fun q => f q = p) 144)) m) : WP cM_sizeOf 0 [.inr (33, 0), .inl i, uu, uu, uu] [] m Q := by
  subst hi
  have hw' := hw
  obtain ⟨w1, w2, w3, w4⟩ := hw'
  have hfr : ∀ q, frS m q → 0 ≤ q → q < 144 → ¬ (f q = p) := fun q hq q0 q1 z => by
    have := fr_f hw hP.1 q0 q1 hq
    exact hp.2.2 (z.symm.trans this)
  refine gM_sizeOf_0 _ m ?_
  refine scan (σ := Int) (W := m 34 0 500) (H := m 34 0 501) (G := fun (y : Int) (s : Int) => ∀ a4 : AV, WP cM_sizeOf 4 [.inr (33, 0), .inl (cP (IR (OM m l) f) p.toNat), .inl s, .inl y, a4] [] m Q) (F := fun (y x : Int) (s : Int) => WP cM_sizeOf 19 [.inr (33, 0), .inl (cP (IR (OM m l) f) p.toNat), .inl s, .inl y, .inl x] [] m Q) (I := fun (y x : Int) (s : Int) => s = cP (fun q => f q = p) (pl x y).toNat) (by omega) (by omega) ?_ ?_ ?_ ?_ 0 (row_0 hfr).symm uu
  · intro s hs a4
    refine gM_sizeOf_4 _ s _ a4 m ⟨fun _ => ?_, fun z => absurd (Int.le_refl _) z⟩
    rw [hs, ← row_end hw hfr]
    exact h
  · intro y s y0 y1 hs hF a4
    exact gM_sizeOf_4 _ s y a4 m ⟨fun z => by omega, fun _ => hF⟩
  · intro y s y0 y1 hs
    exact ⟨by rw [hs, row_skip hw hfr y0 y1], fun hG => gM_sizeOf_19 _ s y _ m ⟨fun _ => ⟨⟨by omega, by omega⟩, hG _⟩, fun z => absurd (Int.le_refl _) z⟩⟩
  · intro y x s y0 y1 x0 x1 hs hN
    have hiff := isl_iff hw hP p0 p1 hp (x := x) (y := y) ⟨x0, x1, y0, y1⟩
    have hr := cP_rng (P := fun q => f q = p) (pl x y).toNat
    have epl : (pl (x + 1) y).toNat = (pl x y).toNat + 1 := by unfold pl; omega
    have ecast : (((pl x y).toNat : Nat) : Int) = pl x y := by unfold pl; omega
    have hpl : (pl x y).toNat < 144 := by unfold pl; omega
    refine gM_sizeOf_19 _ s y x m ⟨fun z => by omega, fun _ => sM_at (by omega) (by omega) ⟨_, rfl, by omega, fun z => ⟨⟨by omega, by omega⟩, ⟨by omega, by omega⟩, hN _ ?_⟩, fun z => ⟨⟨by omega, by omega⟩, ⟨by omega, by omega⟩, hN _ ?_⟩⟩⟩
    · rw [epl, cP_no (by rw [ecast]; exact fun w => z (hiff.mpr w)), hs, Int.add_zero]
    · rw [epl, cP_yes (by rw [ecast]; exact hiff.mp (Classical.byContradiction z)), hs]
theorem PN_iff {O : Int → Prop} {f : Int → Int} (hL : LabOK O f) {a p : Int} (ha : 0 ≤ a ∧ a < 144) (ca : ¬ O a) (hp0 : 0 ≤ p) (hp : IR O f p) : PN O f a = cP (IR O f) p.toNat + 1 ↔ f a = p := by
  have ra := cP_rng (P := IR O f) (f a).toNat
  have rp := cP_rng (P := IR O f) p.toNat
  have la := (hL a ha.1 ha.2).1
  unfold PN
  by_cases z1 : f a = 0
  · rw [if_pos z1]
    exact ⟨fun z => by omega, fun z => absurd (z.symm.trans z1) hp.2.2⟩
  · rw [if_neg z1]
    refine ⟨fun z => ?_, fun z => by rw [z]⟩
    have := cP_inj (P := IR O f) (a := (f a).toNat) (b := p.toNat) (by rw [show (((f a).toNat : Nat) : Int) = f a by omega]; exact ⟨fun z => ca ((hL.alike ha.1 ha.2).mp z), hL.idem ha.1 ha.2, z1⟩) (by rw [show ((p.toNat : Nat) : Int) = p by omega]; exact hp) (by omega)
    omega
/-- how many of the bridges end at a piece -/
noncomputable def endN (f : Int → Int) (S : BS) (p : Int) : Int := sumN (fun b => if eB f (S.2.2.2 b) = p ∨ eA f (S.2.2.2 b) = p then 1 else 0) S.2.2.1.toNat
theorem sM_endsAt {Q : AV → Mem → Prop} {l p i : Int} {m : Mem} (hw : MW m) (hA : MAll m l) (p0 : 0 ≤ p) (hp : IR (OM m l) (labC (OM m l)) p) (hi : i = cP (IR (OM m l) (labC (OM m l))) p.toNat + 1) (h : Q (.inl (endN (labC (OM m l)) (brA (OM m l)) p)) m) : WP cM_endsAt 0 [.inr (33, 0), .inl i, uu, uu] [] m Q := by
  subst hi
  obtain ⟨n0, n1, -, -, hb⟩ := hA.few hw
  have e18 : m 33 0 18 = (brA (OM m l)).2.2.1 := hA.2.2.2.1
  refine gM_endsAt_0 _ m ?_
  refine loopU (σ := Int) (N := m 33 0 18) (G := fun (k : Int) (s : Int) => WP cM_endsAt 4 [.inr (33, 0), .inl (cP (IR (OM m l) (labC (OM m l))) p.toNat + 1), .inl s, .inl k] [] m Q) (I := fun (k : Int) (s : Int) => s = sumN (fun b => if eB (labC (OM m l)) ((brA (OM m l)).2.2.2 b) = p ∨ eA (labC (OM m l)) ((brA (OM m l)).2.2.2 b) = p then 1 else 0) k.toNat) ?_ ?_ 0 0 (Int.le_refl 0) n0 rfl
  · intro s hs
    refine gM_endsAt_4 _ _ _ m ⟨fun _ => ?_, fun z => absurd (Int.le_refl _) z⟩
    rw [hs, e18]
    exact h
  · intro k s k0 k1 hs hN
    obtain ⟨b1, b2, b3, b4⟩ := hb k k0 k1
    obtain ⟨⟨u1, u2, u3, u4, u5, u6⟩, hr, -⟩ := hA.1.at hw b3 b4 b2
    have hgeo := run_geo (OM_cel hw) b2
    have hbd := sumN_01 (f := fun b => if eB (labC (OM m l)) ((brA (OM m l)).2.2.2 b) = p ∨ eA (labC (OM m l)) ((brA (OM m l)).2.2.2 b) = p then 1 else 0) k.toNat (fun j j0 j1 => by split <;> omega)
    have i1 : _ ↔ eB (labC (OM m l)) ((brA (OM m l)).2.2.2 k) = p := PN_iff hA.1.1.1 hgeo.2.2.2.1 b2.1.2.1 p0 hp
    have i2 : _ ↔ eA (labC (OM m l)) ((brA (OM m l)).2.2.2 k) = p := PN_iff hA.1.1.1 hgeo.2.2.2.2.1 b2.1.2.2.2 p0 hp
    refine gM_endsAt_4 _ s k m ⟨fun z => by omega, fun _ => ⟨by omega, ?_⟩⟩
    rw [b1, u5, u6]
    refine ⟨hr, fun z => ⟨⟨by omega, by omega⟩, ⟨by omega, by omega⟩, hN _ ?_⟩, fun z => ⟨by omega, hr, fun z2 => ⟨⟨by omega, by omega⟩, ⟨by omega, by omega⟩, hN _ ?_⟩, fun z2 => ⟨⟨by omega, by omega⟩, ⟨by omega, by omega⟩, hN _ ?_⟩⟩⟩
    · rw [sumN_suc k0, hs, if_pos (Or.inl (i1.mp z))]
    · rw [sumN_suc k0, hs, if_neg (fun w => w.elim (fun w => z (i1.mpr w)) (fun w => z2 (i2.mpr w)))]
    · rw [sumN_suc k0, hs, if_pos (Or.inr (i2.mp (Classical.byContradiction z2)))]
