/-! The model's answers: cells, layers, bridges. -/
noncomputable def cif (c : Prop) (a b : Int) : Int := @ite _ c (Classical.propDecidable _) a b
theorem cif_pos {c : Prop} {a b : Int} (h : c) : cif c a b = a := @if_pos _ (Classical.propDecidable _) h _ _ _
theorem cif_neg {c : Prop} {a b : Int} (h : ¬ c) : cif c a b = b := @if_neg _ (Classical.propDecidable _) h _ _ _
def mfQ (m m' : Mem) : Prop := ∀ q, q < 33 ∨ (34 ≤ q ∧ q ≤ 36) → m' q = m q
theorem mf1.q {m m' : Mem} (h : mf1 m m') : mfQ m m' := fun q hq => h.1 q (by omega) (by omega)
noncomputable def islV (O : Int → Prop) (p : Int) : Int := cif (O p ∨ labC O p = 0) (-6) (cP (IR O (labC O)) (labC O p).toNat)
noncomputable def holV (O : Int → Prop) (p : Int) : Int := cif (O p) (cP (HR O (labC O)) (labC O p).toNat) (-6)
noncomputable def brA (O : Int → Prop) : BS := brS O (labC O) 3168
noncomputable def ansCell (m : Mem) (l x y w : Int) : Int := cif (0 ≤ l ∧ l ≤ 3) (cif (inS m x y ∧ 0 ≤ w ∧ w ≤ 3) (if w = 0 then m 34 0 (100 * l + (10 * y + x)) else if w = 1 then islV (OM m l) (pl x y) else if w = 2 then holV (OM m l) (pl x y) else (brA (OM m l)).2.1 (pl x y)) (-2)) (-1)
theorem sM_cell {Q : AV → Mem → Prop} {l x y w : Int} {m : Mem} (hw : MW m) (h : ∀ m', mfQ m m' → Q (.inl (ansCell m l x y w)) m') : WP cM_cell 0 [.inr (33, 0), .inl l, .inl x, .inl y, .inl w, uu] [] m Q := by
  have h0 := h m (fun _ _ => rfl)
  unfold ansCell at h h0
  refine gM_cell_0 l x y w m (sM_isLayer (fun c => ⟨1, rfl, fun _ => ?_, fun z => absurd (by omega) z⟩) (fun c => ⟨0, rfl, fun z => absurd rfl z, fun _ => by rw [cif_neg c] at h0; exact h0⟩))
  rw [cif_pos c] at h h0
  refine sM_isCell hw (fun d => ⟨1, rfl, fun z => by omega, fun _ => ?_⟩) (fun d => ⟨0, rfl, fun _ => by rw [cif_neg (fun z => d z.1)] at h0; exact h0, fun z => absurd rfl z⟩)
  refine sM_in (fun e => ⟨1, rfl, fun _ => ?_, fun z => absurd (by omega) z⟩) (fun e => ⟨0, rfl, fun z => absurd rfl z, fun _ => by rw [cif_neg (fun z => e z.2)] at h0; exact h0⟩)
  rw [cif_pos ⟨d, e⟩] at h
  refine sM_layBridges hw c (fun m1 f1 hA => ?_)
  have h := h m1 f1.q
  have e34 : m1 34 = m 34 := f1.1 34 (by decide) (by decide)
  have d' := d
  have hw' := hw
  obtain ⟨w1, w2, w3, w4⟩ := hw'
  unfold inS at d'
  have hc1 : inS m1 x y := by rw [inS_eq e34]; exact d
  have hN := (hA.1.1.2.1 x y hc1).2
  have hB := hA.2.2.1 x y hc1
  unfold NumOK at hN
  rw [OM_eq e34] at hN hB
  refine sM_at (by omega) (by omega) ⟨_, rfl, fun z => ⟨fun z1 => ⟨fun z2 => ⟨by omega, ?_⟩, fun z2 => ⟨by omega, ?_⟩⟩, fun z1 => ⟨by omega, ?_⟩⟩, fun z => ⟨⟨by omega, by omega⟩, ⟨by omega, by omega⟩, ⟨by omega, by omega⟩, ?_⟩⟩
  · rw [if_neg z, if_neg z1, if_neg z2] at h
    rw [hB]
    exact h
  · rw [if_neg z, if_neg z1, if_pos (by omega)] at h
    have e1 : m1 39 0 (10 * y + x) = holV (OM m l) (pl x y) := by
      unfold holV
      by_cases o : OM m l (pl x y)
      · rw [cif_pos o]; exact (hN.1 o).1
      · rw [cif_neg o]
        by_cases o2 : labC (OM m l) (pl x y) = 0
        · exact (hN.2.2 o o2).2
        · exact (hN.2.1 o o2).2
    rw [e1]
    exact h
  · rw [if_neg z, if_pos (by omega)] at h
    have e1 : m1 38 0 (10 * y + x) = islV (OM m l) (pl x y) := by
      unfold islV
      by_cases o : OM m l (pl x y)
      · rw [cif_pos (Or.inl o)]; exact (hN.1 o).2
      · by_cases o2 : labC (OM m l) (pl x y) = 0
        · rw [cif_pos (Or.inr o2)]; exact (hN.2.2 o o2).1
        · rw [cif_neg (fun z => z.elim o o2)]; exact (hN.2.1 o o2).1
    rw [e1]
    exact h
  · rw [if_pos (by omega)] at h
    rw [e34]
    exact h
noncomputable def celN (S : BS) : Int := sumN (fun b => S.2.2.2 b / 288) S.2.2.1.toNat
/-- how many islands are loose -/
noncomputable def looN (O : Int → Prop) (f : Int → Int) (R : Int → Int → Prop) : Int := cP (fun p => IR O f p ∧ ¬ R p 0) 144
theorem MAll.few {m : Mem} {l : Int} (hA : MAll m l) (hw : MW m) : 0 ≤ m 33 0 18 ∧ m 33 0 18 ≤ 100 ∧ 0 ≤ m 33 0 6 ∧ m 33 0 6 ≤ 100 ∧ ∀ b, 0 ≤ b → b < m 33 0 18 → m 47 0 b = cP (RK (OM m l) (labC (OM m l))) ((brA (OM m l)).2.2.2 b).toNat ∧ RK (OM m l) (labC (OM m l)) ((brA (OM m l)).2.2.2 b) ∧ 0 ≤ (brA (OM m l)).2.2.2 b ∧ (brA (OM m l)).2.2.2 b < 3168 := by
  have hok := brS_ok (OM m l) (labC (OM m l)) 3168
  have hfew := RK_few (f := labC (OM m l)) (OM_cel (l := l) hw) 3168
  obtain ⟨-, -, e18, e47⟩ := hA.2
  have e6 := hA.1.1.2.2.1
  have r6 := (cP_rng (P := IR (OM m l) (labC (OM m l))) 144).1
  have i6 := IR_few (IR_cell hw hA.1.1.1)
  have o1 := hok.1
  rw [e18, e6]
  refine ⟨o1.1, by omega, r6, i6, fun b b0 b1 => ⟨e47 b b0 b1, ?_⟩⟩
  exact hok.2.2 b b0 b1
theorem sM_bridgeCells {Q : AV → Mem → Prop} {l : Int} {m : Mem} (hw : MW m) (hA : MAll m l) (h : Q (.inl (celN (brA (OM m l)))) m) : WP cM_bridgeCells 0 [.inr (33, 0), uu, uu] [] m Q := by
  obtain ⟨n0, n1, -, -, hb⟩ := hA.few hw
  have e18 : m 33 0 18 = (brA (OM m l)).2.2.1 := hA.2.2.2.1
  refine gM_bridgeCells_0 m ?_
  refine loopU (σ := Int) (N := m 33 0 18) (G := fun (k : Int) (s : Int) => WP cM_bridgeCells 4 [.inr (33, 0), .inl s, .inl k] [] m Q) (I := fun (k : Int) (s : Int) => s = sumN (fun b => (brA (OM m l)).2.2.2 b / 288) k.toNat) ?_ ?_ 0 0 (Int.le_refl 0) n0 rfl
  · intro s hs
    refine gM_bridgeCells_4 _ _ m ⟨fun _ => ?_, fun z => absurd (Int.le_refl _) z⟩
    rw [hs, e18]
    exact h
  · intro k s k0 k1 hs hN
    obtain ⟨b1, b2, b3, b4⟩ := hb k k0 k1
    obtain ⟨⟨u1, u2, u3, u4, u5, u6⟩, hr, -⟩ := hA.1.at hw b3 b4 b2
    have hgeo := run_geo (OM_cel hw) b2
    have hbd := sumN_bnd (g := fun b => (brA (OM m l)).2.2.2 b / 288) (c := 10) k.toNat (fun j j0 j1 => by
      have := run_geo (OM_cel hw) (hb j j0 (by omega)).2.1
      exact ⟨by omega, this.2.2.1⟩)
    refine gM_bridgeCells_4 s k m ⟨fun z => by omega, fun _ => ⟨by omega, ?_⟩⟩
    rw [b1, u3]
    exact ⟨hr, ⟨by omega, by omega⟩, ⟨by omega, by omega⟩, hN _ (by rw [sumN_suc k0, hs])⟩
theorem labC_0 {m : Mem} {l : Int} (hw : MW m) (hL : LabOK (OM m l) (labC (OM m l))) : labC (OM m l) 0 = 0 := fr_f hw hL (by omega) (by omega) (by unfold frS inS; omega)
/-- an island's number, seen from its first place -/
theorem tie_num {m : Mem} {l : Int} {t : Int → Int} {R : Int → Int → Prop} (hw : MW m) (hL : LabOK (OM m l) (labC (OM m l))) (hT : TieOK (OM m l) (labC (OM m l)) t R) {p : Int} (p0 : 0 ≤ p) (p1 : p < 144) (hp : IR (OM m l) (labC (OM m l)) p) : t (cP (IR (OM m l) (labC (OM m l))) p.toNat + 1) = t 0 ↔ R p 0 := by
  have h0 := labC_0 hw hL
  have := hT p 0 p0 p1 (by omega) (by omega) hp.1 OM_0
  unfold PN at this
  rw [hp.2.1, h0, if_neg hp.2.2, if_pos rfl] at this
  exact this
theorem sM_loose {Q : AV → Mem → Prop} {l : Int} {m : Mem} (hw : MW m) (hA : MAll m l) (h : Q (.inl (looN (OM m l) (labC (OM m l)) (brA (OM m l)).1)) m) : WP cM_loose 0 [.inr (33, 0), uu, uu] [] m Q := by
  obtain ⟨-, -, n0, n1, -⟩ := hA.few hw
  have e6 := hA.1.1.2.2.1
  have hL := hA.1.1.1
  have eq : sumN (fun a => if m 46 0 (a + 1) = m 46 0 0 then 0 else 1) (m 33 0 6).toNat = looN (OM m l) (labC (OM m l)) (brA (OM m l)).1 := by
    rw [e6]
    unfold looN
    rw [rank_sum (P := IR (OM m l) (labC (OM m l))) (v := fun p => cif (¬ (brA (OM m l)).1 p 0) 1 0) 144 (fun p p0 p1 hp => ?_)]
    · unfold cP
      refine sumN_congr 144 (fun p p0 p1 => ?_)
      by_cases c : IR (OM m l) (labC (OM m l)) p
      · rw [if_pos c]
        by_cases d : (brA (OM m l)).1 p 0
        · rw [cif_neg (fun z => z d), if_neg (fun z => z.2 d)]
        · rw [cif_pos d, if_pos ⟨c, d⟩]
      · rw [if_neg c, if_neg (fun z => c z.1)]
    · have := tie_num hw hL hA.2.1 p0 p1 hp
      show (if m 46 0 (cP (IR (OM m l) (labC (OM m l))) p.toNat + 1) = m 46 0 0 then (0 : Int) else 1) = _
      by_cases d : (brA (OM m l)).1 p 0
      · rw [cif_neg (fun z => z d), if_pos (this.mpr d)]
      · rw [cif_pos d, if_neg (fun z => d (this.mp z))]
  refine gM_loose_0 m ?_
  have key : ∀ s, s = sumN (fun a => if m 46 0 (a + 1) = m 46 0 0 then 0 else 1) (0 : Int).toNat → WP cM_loose 4 [.inr (33, 0), .inl s, .inl (0 + 1)] [] m Q := by
    intro s hs
    refine loopU (σ := Int) (N := m 33 0 6) (G := fun (k : Int) (s : Int) => WP cM_loose 4 [.inr (33, 0), .inl s, .inl (k + 1)] [] m Q) (I := fun (k : Int) (s : Int) => s = sumN (fun a => if m 46 0 (a + 1) = m 46 0 0 then 0 else 1) k.toNat) ?_ ?_ 0 s (Int.le_refl 0) n0 hs
    · intro s hs
      refine gM_loose_4 _ _ m ⟨fun _ => ?_, fun z => absurd (by omega) z⟩
      rw [hs, eq]
      exact h
    · intro k s k0 k1 hs hN
      have hbd := sumN_01 (f := fun a => if m 46 0 (a + 1) = m 46 0 0 then 0 else 1) k.toNat (fun j j0 j1 => by split <;> omega)
      refine gM_loose_4 s (k + 1) m ⟨fun z => by omega, fun _ => ⟨by omega, fun z => ⟨⟨by omega, by omega⟩, ⟨by omega, by omega⟩, hN _ ?_⟩, fun z => ⟨⟨by omega, by omega⟩, ⟨by omega, by omega⟩, hN _ ?_⟩⟩⟩
      · rw [sumN_suc k0, hs, if_pos z]
      · rw [sumN_suc k0, hs, if_neg z]
  exact key 0 rfl
noncomputable def ansLayer (m : Mem) (l w : Int) : Int := cif (0 ≤ l ∧ l ≤ 3) (if w = 0 then sumN (fun k => m 34 0 (100 * l + k)) 100 else if w = 1 then cP (IR (OM m l) (labC (OM m l))) 144 else if w = 2 then cP (HR (OM m l) (labC (OM m l))) 144 else if w = 3 then (brA (OM m l)).2.2.1 else if w = 4 then celN (brA (OM m l)) else if w = 5 then looN (OM m l) (labC (OM m l)) (brA (OM m l)).1 else if w = 6 then (lbS (OM m l) (labC (OM m l)) 3168).2 else if w = 7 then cP (RK (OM m l) (labC (OM m l))) 3168 else -2) (-1)
theorem sM_layer {Q : AV → Mem → Prop} {l w : Int} {m : Mem} (hw : MW m) (h01 : M01 m) (h : ∀ m', mfQ m m' → Q (.inl (ansLayer m l w)) m') : WP cM_layer 0 [.inr (33, 0), .inl l, .inl w] [] m Q := by
  have h0 := h m (fun _ _ => rfl)
  unfold ansLayer at h h0
  refine gM_layer_0 l w m (sM_isLayer (fun c => ⟨1, rfl, fun _ => ?_, fun z => absurd (by omega) z⟩) (fun c => ⟨0, rfl, fun z => absurd rfl z, fun _ => by rw [cif_neg c] at h0; exact h0⟩))
  rw [cif_pos c] at h
  refine sM_layBridges hw c (fun m1 f1 hA => ?_)
  have h1 := h m1 f1.q
  have e34 : m1 34 = m 34 := f1.1 34 (by decide) (by decide)
  have hw1 : MW m1 := by rw [MW_eq e34]; exact hw
  have h011 : M01 m1 := by rw [M01_eq e34]; exact h01
  have e6 := hA.1.1.2.2.1
  have e7 := hA.1.1.2.2.2.1
  have e14 := hA.1.2.1
  have e18 := hA.2.2.2.1
  have hO := OM_eq e34
  rw [hO] at e6 e7 e14 e18
  refine ⟨fun z => ?_, fun z => ⟨fun z1 => ?_, fun z1 => ⟨fun z2 => ?_, fun z2 => ⟨fun z3 => ?_, fun z3 => ⟨fun z4 => ?_, fun z4 => ⟨fun z5 => ?_, fun z5 => ⟨fun z6 => ?_, fun z6 => ⟨fun z7 => ?_, fun z7 => ?_⟩⟩⟩⟩⟩⟩⟩⟩
  · rw [if_pos z, ← e34] at h1
    exact sM_cuts h011 c ⟨_, rfl, h1⟩
  · rw [if_neg z, if_pos z1] at h1
    rw [e6]; exact h1
  · rw [if_neg z, if_neg z1, if_pos z2] at h1
    rw [e7]; exact h1
  · rw [if_neg z, if_neg z1, if_neg z2, if_pos z3] at h1
    rw [e18]; exact h1
  · rw [if_neg z, if_neg z1, if_neg z2, if_neg z3, if_pos z4, ← hO] at h1
    exact sM_bridgeCells hw1 hA ⟨_, rfl, h1⟩
  · rw [if_neg z, if_neg z1, if_neg z2, if_neg z3, if_neg z4, if_pos z5, ← hO] at h1
    exact sM_loose hw1 hA ⟨_, rfl, h1⟩
  · refine sM_least hw1 hA.1 (fun m2 f2 => ⟨_, rfl, ?_⟩)
    have h2 := h m2 (fun q hq => (f2 q (by omega)).trans (f1.q q hq))
    rw [if_neg z, if_neg z1, if_neg z2, if_neg z3, if_neg z4, if_neg z5, if_pos z6, ← hO] at h2
    exact h2
  · rw [if_neg z, if_neg z1, if_neg z2, if_neg z3, if_neg z4, if_neg z5, if_neg z6, if_pos z7] at h1
    rw [e14]; exact h1
  · rw [if_neg z, if_neg z1, if_neg z2, if_neg z3, if_neg z4, if_neg z5, if_neg z6, if_neg z7] at h1
    exact h1
noncomputable def ansBridge (m : Mem) (l b w : Int) : Int := cif (0 ≤ l ∧ l ≤ 3) (cif (0 ≤ w ∧ w ≤ 5) (cif (0 ≤ b ∧ b < (brA (OM m l)).2.2.1) (if w = 0 then (brA (OM m l)).2.2.2 b % 144 % 12 - 1 else if w = 1 then (brA (OM m l)).2.2.2 b % 144 / 12 - 1 else if w = 2 then (brA (OM m l)).2.2.2 b / 288 else if w = 3 then (brA (OM m l)).2.2.2 b / 144 % 2 else if w = 4 then islV (OM m l) ((brA (OM m l)).2.2.2 b % 144 - stp ((brA (OM m l)).2.2.2 b / 144 % 2)) else islV (OM m l) ((brA (OM m l)).2.2.2 b % 144 + (brA (OM m l)).2.2.2 b / 288 * stp ((brA (OM m l)).2.2.2 b / 144 % 2))) (-6)) (-2)) (-1)
theorem islV_PN {O : Int → Prop} {p : Int} (h : ¬ O p) : islV O p = if PN O (labC O) p = 0 then -6 else PN O (labC O) p - 1 := by
  unfold islV PN
  have := (cP_rng (P := IR O (labC O)) (labC O p).toNat).1
  by_cases c : labC O p = 0
  · rw [cif_pos (Or.inr c), if_pos c, if_pos rfl]
  · rw [cif_neg (fun z => z.elim h c), if_neg c, if_neg (by omega)]
    omega
theorem sM_asIsland {Q : AV → Mem → Prop} {O : Int → Prop} {p : Int} {m : Mem} (hp : ¬ O p) (h0 : 0 ≤ PN O (labC O) p ∧ PN O (labC O) p ≤ 100) (h : Q (.inl (islV O p)) m) : WP cM_asIsland 0 [.inl (PN O (labC O) p)] [] m Q := by
  rw [islV_PN hp] at h
  refine gM_asIsland_0 _ m ⟨fun z => ⟨⟨by omega, by omega⟩, ?_⟩, fun z => ?_⟩
  · rw [if_neg z] at h; exact h
  · rw [if_pos (by omega)] at h; exact h
theorem sM_bridge {Q : AV → Mem → Prop} {l b w : Int} {m : Mem} (hw : MW m) (h : ∀ m', mfQ m m' → Q (.inl (ansBridge m l b w)) m') : WP cM_bridge 0 [.inr (33, 0), .inl l, .inl b, .inl w, uu] [] m Q := by
  have h0 := h m (fun _ _ => rfl)
  unfold ansBridge at h h0
  refine gM_bridge_0 l b w m (sM_isLayer (fun c => ⟨1, rfl, fun _ => ?_, fun z => absurd (by omega) z⟩) (fun c => ⟨0, rfl, fun z => absurd rfl z, fun _ => by rw [cif_neg c] at h0; exact h0⟩))
  rw [cif_pos c] at h h0
  refine sM_in (fun d => ⟨1, rfl, fun _ => ?_, fun z => absurd (by omega) z⟩) (fun d => ⟨0, rfl, fun z => absurd rfl z, fun _ => by rw [cif_neg d] at h0; exact h0⟩)
  rw [cif_pos d] at h
  refine sM_layBridges hw c (fun m1 f1 hA => ?_)
  have h := h m1 f1.q
  have e34 : m1 34 = m 34 := f1.1 34 (by decide) (by decide)
  have hw1 : MW m1 := by rw [MW_eq e34]; exact hw
  rw [← OM_eq e34] at h
  obtain ⟨n0, n1, i0, i1, hb⟩ := hA.few hw1
  have e18 : m1 33 0 18 = (brA (OM m1 l)).2.2.1 := hA.2.2.2.1
  refine ⟨⟨by omega, by omega⟩, sM_in (fun e => ⟨1, rfl, fun _ => ⟨by omega, ?_⟩, fun z => absurd (by omega) z⟩) (fun e => ⟨0, rfl, fun z => absurd rfl z, fun _ => by rw [cif_neg (by rw [← e18]; omega)] at h; exact h⟩)⟩
  rw [cif_pos (by rw [← e18]; omega)] at h
  obtain ⟨b1, b2, b3, b4⟩ := hb b (by omega) (by omega)
  obtain ⟨⟨u1, u2, u3, u4, u5, u6⟩, hr, p1, p2, p3⟩ := hA.1.at hw1 b3 b4 b2
  rw [b1, u1, u2, u3, u4, u5, u6]
  refine ⟨fun z => ⟨hr, ?_⟩, fun z => ⟨fun z1 => ⟨hr, ?_⟩, fun z1 => ⟨fun z2 => ⟨hr, ?_⟩, fun z2 => ⟨fun z3 => ⟨hr, ?_⟩, fun z3 => ⟨fun z4 => ⟨hr, ?_⟩, fun z4 => ⟨hr, ?_⟩⟩⟩⟩⟩⟩
  · rw [if_pos z] at h; exact h
  · rw [if_neg z, if_pos z1] at h; exact h
  · rw [if_neg z, if_neg z1, if_pos z2] at h; exact h
  · rw [if_neg z, if_neg z1, if_neg z2, if_pos z3] at h; exact h
  · rw [if_neg z, if_neg z1, if_neg z2, if_neg z3, if_pos z4] at h
    exact sM_asIsland b2.1.2.1 (by omega) ⟨_, rfl, h⟩
  · rw [if_neg z, if_neg z1, if_neg z2, if_neg z3, if_neg z4] at h
    exact sM_asIsland b2.1.2.2.2 (by omega) ⟨_, rfl, h⟩
