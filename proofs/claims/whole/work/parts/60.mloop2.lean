/-! The model's loops are labels of corners; their numbers. -/
theorem hasE_cor {m : Mem} {B : Int → Prop} {c : Int} (hw : MW m) (hF : ∀ p, B p → ¬ frS m p) (h : hasE B c) : cor m (c % 12 - 1) (c / 12 - 1) := by
  obtain ⟨w1, w2, w3, w4⟩ := hw
  have hB : ∀ p, B p → inS m (p % 12 - 1) (p / 12 - 1) := fun p hp => Classical.byContradiction (hF p hp)
  have two : ∀ a b, ¬ (B a ↔ B b) → B a ∨ B b := fun a b hn => Classical.byContradiction (fun z => hn ⟨fun w => absurd (Or.inl w) z, fun w => absurd (Or.inr w) z⟩)
  rcases h with h | h | h | h
  · rcases two _ _ h with b | b <;> have := hB _ b <;> unfold inS at this <;> unfold cor <;> omega
  · rcases two _ _ h with b | b <;> have := hB _ b <;> unfold inS at this <;> unfold cor <;> omega
  · rcases two _ _ h with b | b <;> have := hB _ b <;> unfold inS at this <;> unfold cor <;> omega
  · rcases two _ _ h with b | b <;> have := hB _ b <;> unfold inS at this <;> unfold cor <;> omega
noncomputable def gL (m : Mem) (B : Int → Prop) (c : Int) : Int := cif (hasE B c) (cpk (lk m (c % 12 - 1) (c / 12 - 1))) (-6)
theorem gL_lab {m : Mem} {B : Int → Prop} (hw : MW m) (hF : ∀ p, B p → ¬ frS m p) (hI : LkI m B) (hs : ∀ x y, cor m x y → lst m B x y) : LabE B (gL m B) := by
  have hw' := hw
  obtain ⟨w1, w2, w3, w4⟩ := hw'
  refine ⟨fun c hc => cif_neg hc, fun c hc => ?_⟩
  have hcor := hasE_cor hw hF hc
  have hcor' := hcor
  unfold cor at hcor'
  have e : gL m B c = cpk (lk m (c % 12 - 1) (c / 12 - 1)) := cif_pos hc
  obtain ⟨⟨i1, i2⟩, i3⟩ := (hI.1 _ _ hcor).1 (by rw [pl_of]; exact hc)
  rw [pl_of] at i3
  refine ⟨⟨?_, by rw [e]; exact i3⟩, fun d hE => ?_⟩
  · rw [e]; unfold cpk pl; omega
  · have hd := hE.symm.has
    have hcd := hasE_cor hw hF hd
    have hcd' := hcd
    unfold cor at hcd'
    have e2 : gL m B d = cpk (lk m (d % 12 - 1) (d / 12 - 1)) := cif_pos hd
    rw [e, e2]
    rcases hE with ⟨e3, h⟩ | ⟨e3, h⟩ | ⟨e3, h⟩ | ⟨e3, h⟩
    · have := (hs _ _ hcor).1 (by rw [pl_of]; exact h)
      rw [this, show c % 12 - 1 + 1 = d % 12 - 1 by omega, show c / 12 - 1 = d / 12 - 1 by omega]
    · have := (hs _ _ hcd).1 (by rw [pl_of]; exact h)
      rw [this, show d % 12 - 1 + 1 = c % 12 - 1 by omega, show c / 12 - 1 = d / 12 - 1 by omega]
    · have := (hs _ _ hcor).2 (by rw [pl_of]; exact h)
      rw [this, show c % 12 - 1 = d % 12 - 1 by omega, show c / 12 - 1 + 1 = d / 12 - 1 by omega]
    · have := (hs _ _ hcd).2 (by rw [pl_of]; exact h)
      rw [this, show c % 12 - 1 = d % 12 - 1 by omega, show d / 12 - 1 + 1 = c / 12 - 1 by omega]
def LRt (B : Int → Prop) (g : Int → Int) (c : Int) : Prop := hasE B c ∧ g c = c
/-- what the model knows of the loops of a layer -/
def MLp (m : Mem) (B : Int → Prop) (g : Int → Int) : Prop := LabE B g ∧ (∀ x y, 0 ≤ x → x ≤ 10 → 0 ≤ y → y ≤ 10 → (hasE B (pl x y) → (0 ≤ lk m x y ∧ lk m x y ≤ 120) ∧ cpk (lk m x y) = g (pl x y)) ∧ (¬ hasE B (pl x y) → lk m x y = -6)) ∧ m 33 0 22 = cP (LRt B g) 144 ∧ ∀ c, 0 ≤ c → c < 144 → LRt B g c → m 52 0 (cP (LRt B g) c.toNat) = kc c
def mf3 (m m' : Mem) : Prop := (∀ q, q ≠ 33 → q < 37 ∨ 52 < q → m' q = m q) ∧ ∀ j, j ≠ 6 → j ≠ 7 → j ≠ 14 → j ≠ 18 → j ≠ 22 → m' 33 0 j = m 33 0 j
theorem BO_cel {m : Mem} {l : Int} (hw : MW m) : Cel (BO (OM m l)) := fun p hp => OM_cel hw p hp.1
set_option maxHeartbeats 1000000 in
theorem sM_layLoops {Q : AV → Mem → Prop} {l : Int} {m : Mem} (hw : MW m) (hl : 0 ≤ l ∧ l ≤ 3) (h : ∀ m', mf3 m m' → SC m' l (BO (OM m l)) → MLp m' (BO (OM m l)) (labEC (BO (OM m l))) → Q (.inl 0) m') : WP cM_layLoops 0 [.inr (33, 0), .inl l, uu, uu] [] m Q := by
  refine gM_layLoops_0 l m (sM_layBridged hw hl (fun m1 f1 hS1 _ => ?_))
  have e34 : m1 34 = m 34 := f1.1 34 (by decide) (by decide)
  have hw1 : MW m1 := by rw [MW_eq e34]; exact hw
  have hC : Cel (BO (OM m l)) := BO_cel hw
  generalize BO (OM m l) = B at *
  have hw' := hw1
  obtain ⟨w1, w2, w3, w4⟩ := hw'
  refine loopU (σ := Mem) (N := 121) (G := fun (k : Int) (s : Mem) => WP cM_layLoops 7 [.inr (33, 0), .inl l, .inl k, uu] [] s Q) (I := fun (k : Int) (s : Mem) => (∀ q, q ≠ 51 → s q = m1 q) ∧ ∀ i, 0 ≤ i → i < k → s 51 0 i = -6) ?_ ?_ 0 m1 (Int.le_refl 0) (by omega) ⟨fun _ _ => rfl, fun i i0 i1 => by omega⟩
  · rintro s0 ⟨g1, g2⟩
    refine gM_layLoops_7 l _ s0 ⟨fun _ => ?_, fun z => absurd (by omega) z⟩
    refine scan (σ := Mem) (W := m1 34 0 500 + 1) (H := m1 34 0 501 + 1) (G := fun (y : Int) (s : Mem) => ∀ a3 : AV, WP cM_layLoops 29 [.inr (33, 0), .inl l, .inl y, a3] [] s Q) (F := fun (y x : Int) (s : Mem) => WP cM_layLoops 43 [.inr (33, 0), .inl l, .inl y, .inl x] [] s Q) (I := fun (y x : Int) (s : Mem) => (∀ q, q ≠ 51 → s q = m1 q) ∧ (∀ k, 0 ≤ k → k < 121 → ¬ cor m1 (k % 11) (k / 11) → s 51 0 k = -6) ∧ ∀ a b, cor m1 a b → (b < y ∨ (b = y ∧ a < x)) → ((hasE B (pl a b) ∧ lk s a b = 11 * b + a) ∨ (¬ hasE B (pl a b) ∧ lk s a b = -6))) (by omega) (by omega) ?_ ?_ ?_ ?_ s0 ⟨g1, fun k k0 k1 _ => g2 k k0 k1, fun a b hab hlt => by unfold cor at hab; omega⟩ uu
    · rintro s ⟨k1, k2, k3⟩ a3
      have e34s : s 34 = m1 34 := k1 34 (by decide)
      refine gM_layLoops_29 l _ a3 s ⟨fun _ => ?_, fun z => absurd (by rw [e34s]; omega) z⟩
      have hws : MW s := by rw [MW_eq e34s]; exact hw1
      have hSs : SC s l B := (SC_eq e34s (k1 50 (by decide))).mpr hS1
      have hIs : LkI s B := by
        refine ⟨fun x y hxy => ?_, fun k q0 q1 => ?_⟩
        · rw [cor_eq e34s] at hxy
          have hxy' := hxy
          unfold cor at hxy'
          rcases k3 x y hxy (Or.inl (by omega)) with ⟨a, b⟩ | ⟨a, b⟩
          · refine ⟨fun _ => ⟨⟨by omega, by omega⟩, ?_⟩, fun z => absurd a z⟩
            rw [b]
            unfold cpk
            rw [show (11 * y + x) % 11 = x by omega, show (11 * y + x) / 11 = y by omega]
            exact ConE.refl _
          · exact ⟨fun z => absurd z a, fun _ => b⟩
        · rw [cor_eq e34s]
          refine ⟨?_, k2 k q0 q1⟩
          by_cases hc : cor m1 (k % 11) (k / 11)
          · have hc' := hc
            unfold cor at hc'
            have e : 11 * (k / 11) + k % 11 = k := by omega
            have := k3 _ _ hc (Or.inl (by omega))
            unfold lk at this
            rw [e] at this
            omega
          · rw [k2 k q0 q1 hc]; omega
      have hnn := lkS_nonneg hIs
      refine sM_joins hl s hws hSs (fun m2 f2 hI2 hs2 b3 => ?_) (lkS s).toNat s (fun _ _ => rfl) hIs (by omega) a3
      have e34' : m2 34 = s 34 := f2 34 (by decide)
      have hw2 : MW m2 := by rw [MW_eq e34']; exact hws
      have hS2 : SC m2 l B := (SC_eq e34' (f2 50 (by decide))).mpr hSs
      have hlab := gL_lab hw2 hS2.2 hI2 hs2
      have heq := labEC_eq hlab
      have hval : ∀ x y, 0 ≤ x → x ≤ 10 → 0 ≤ y → y ≤ 10 → (hasE B (pl x y) → (0 ≤ lk m2 x y ∧ lk m2 x y ≤ 11 * y + x) ∧ cpk (lk m2 x y) = labEC B (pl x y)) ∧ (¬ hasE B (pl x y) → lk m2 x y = -6) := by
        intro x y x0 x1 y0 y1
        refine ⟨fun hE => ?_, fun hE => ?_⟩
        · have hc := hasE_cor hw2 hS2.2 hE
          rw [pl_x (by omega), pl_y (by omega)] at hc
          have hc' := hc
          unfold cor at hc'
          refine ⟨((hI2.1 x y hc).1 hE).1, ?_⟩
          rw [← heq]
          unfold gL
          rw [cif_pos hE, pl_x (by omega), pl_y (by omega)]
        · by_cases hc : cor m2 x y
          · exact (hI2.1 x y hc).2 hE
          · refine (hI2.2 (11 * y + x) (by omega) (by omega)).2 ?_
            rw [show (11 * y + x) % 11 = x by omega, show (11 * y + x) / 11 = y by omega]
            exact hc
      rw [heq] at hlab
      generalize labEC B = g at *
      refine gM_layLoops_99 l 0 b3 m2 ⟨fun _ => ?_, fun z => absurd rfl z⟩
      have noE : ∀ c, ¬ (1 ≤ c % 12 ∧ c % 12 ≤ 11 ∧ 1 ≤ c / 12 ∧ c / 12 ≤ 11) → ¬ LRt B g c := fun c hc z => hc (hasE_geo hC z.1)
      have root : ∀ k, 0 ≤ k → k < 121 → (LRt B g (cpk k) ↔ m2 51 0 k = k) := by
        intro k k0 k1
        have hv := hval (k % 11) (k / 11) (by omega) (by omega) (by omega) (by omega)
        unfold lk at hv
        rw [show 11 * (k / 11) + k % 11 = k by omega] at hv
        constructor
        · rintro ⟨a, b⟩
          have h1 := hv.1 a
          have h2 : cpk (m2 51 0 k) = cpk k := h1.2.trans b
          unfold cpk pl at h2
          omega
        · intro e
          have hE : hasE B (cpk k) := Classical.byContradiction (fun z => by
            have := hv.2 z
            omega)
          refine ⟨hE, ?_⟩
          have h1 := (hv.1 hE).2
          rw [e] at h1
          exact h1.symm
      refine loopU (σ := Mem) (N := 121) (G := fun (k : Int) (s : Mem) => WP cM_layLoops 119 [.inr (33, 0), .inl l, .inl 0, .inl k] [] s Q) (I := fun (k : Int) (s : Mem) => (∀ q, q ≠ 33 → q ≠ 52 → s q = m2 q) ∧ (∀ j, j ≠ 22 → s 33 0 j = m2 33 0 j) ∧ (s 33 0 22 = cP (LRt B g) (cpk k).toNat ∧ s 33 0 22 ≤ k) ∧ ∀ c, 0 ≤ c → c < cpk k → LRt B g c → s 52 0 (cP (LRt B g) c.toNat) = kc c) ?_ ?_ 0 _ (Int.le_refl 0) (by omega) ⟨fun q q1 _ => mset_k q1, fun j j1 => by rw [mset_i, if_neg j1], ⟨?_, ?_⟩, fun c c0 c1 hc => absurd hc (noE c ?_)⟩
      · rintro s2 ⟨p1, p2, ⟨p3, p3'⟩, p4⟩
        refine gM_layLoops_119 l 0 _ s2 ⟨fun _ => h s2 ⟨fun q q1 q2 => ?_, fun j j1 j2 j3 j4 j5 => ?_⟩ ?_ ⟨hlab, fun x y x0 x1 y0 y1 => ?_, ?_, fun c c0 c1 hc => p4 c c0 (by unfold cpk pl; omega) hc⟩, fun z => absurd (by omega) z⟩
        · rw [p1 q q1 (by omega), f2 q (by omega), k1 q (by omega)]; exact f1.1 q q1 (by omega)
        · rw [p2 j j5, f2 33 (by decide), k1 33 (by decide)]; exact f1.2 j j1 j2 j3 j4
        · exact (SC_eq (p1 34 (by decide) (by decide)) (p1 50 (by decide) (by decide))).mpr hS2
        · have hv := hval x y x0 x1 y0 y1
          have e51 : s2 51 = m2 51 := p1 51 (by decide) (by decide)
          unfold lk at *
          rw [e51]
          exact ⟨fun z => ⟨⟨(hv.1 z).1.1, by have := (hv.1 z).1.2; omega⟩, (hv.1 z).2⟩, hv.2⟩
        · rw [p3]
          have : (cpk 121).toNat = 144 + 1 := by decide
          rw [this]
          exact cP_skip 1 144 (fun p p0 p1 => noE p (by omega))
      · rintro k s2 q0 q1 ⟨p1, p2, ⟨p3, p3'⟩, p4⟩ hN
        have e51 : s2 51 = m2 51 := p1 51 (by decide) (by decide)
        have hr := root k q0 q1
        have hcp : 0 ≤ cpk k ∧ (((cpk k).toNat : Nat) : Int) = cpk k ∧ (cpk (k + 1)).toNat = (cpk k).toNat + 1 + ((cpk (k + 1)).toNat - ((cpk k).toNat + 1)) := by unfold cpk pl; omega
        have hgap : ∀ c, cpk k < c → c < cpk (k + 1) → ¬ LRt B g c := fun c c0 c1 => noE c (by unfold cpk pl at c0 c1; omega)
        have hsk : cP (LRt B g) (cpk (k + 1)).toNat = cP (LRt B g) ((cpk k).toNat + 1) := by
          rw [hcp.2.2]
          exact cP_skip _ _ (fun c c0 c1 => hgap c (by omega) (by omega))
        have hnn := (cP_rng (P := LRt B g) (cpk k).toNat).1
        refine gM_layLoops_119 l 0 k s2 ⟨fun z => by omega, fun _ => ⟨by omega, fun z => ⟨⟨by omega, by omega⟩, hN s2 ⟨p1, p2, ⟨?_, by omega⟩, fun c c0 c1 hc => ?_⟩⟩, fun z => ⟨by omega, ?_⟩⟩⟩
        · rw [e51] at z
          rw [hsk, cP_no (by rw [hcp.2.1]; exact fun w => z (hr.mp w))]
          exact p3
        · rw [e51] at z
          refine p4 c c0 ?_ hc
          refine Classical.byContradiction (fun w => ?_)
          by_cases e : c = cpk k
          · rw [e] at hc; exact z (hr.mp hc)
          · exact hgap c (by omega) c1 hc
        · rw [e51] at z
          have hrt := hr.mpr (Classical.byContradiction z)
          have e22 : (mset s2 52 0 (s2 33 0 22) k) 33 0 22 = s2 33 0 22 := by rw [mset_k (by decide)]
          rw [e22]
          refine ⟨⟨by omega, by omega⟩, ⟨by omega, by omega⟩, hN _ ⟨fun q a b => by rw [mset_k a, mset_k b]; exact p1 q a b, fun j j1 => by rw [mset_i, if_neg j1, mset_k (by decide)]; exact p2 j j1, ⟨?_, ?_⟩, fun c c0 c1 hc => ?_⟩⟩
          · rw [mset_i, if_pos rfl, hsk, cP_yes (by rw [hcp.2.1]; exact hrt), p3]
          · rw [mset_i, if_pos rfl]; omega
          · rw [mset_k (by decide), mset_i]
            by_cases e : c = cpk k
            · rw [e, if_pos p3.symm]
              unfold kc cpk pl; omega
            · have hlt : c < cpk k := Classical.byContradiction (fun w => hgap c (by omega) c1 hc)
              have := cP_lt (P := LRt B g) (a := c.toNat) (b := (cpk k).toNat) (by omega) (by rw [show ((c.toNat : Nat) : Int) = c by omega]; exact hc)
              rw [if_neg (by rw [p3]; omega)]
              exact p4 c c0 hlt hc
      · rw [mset_i, if_pos rfl]
        have : cP (LRt B g) (0 + 13) = cP (LRt B g) 0 := cP_skip 13 0 (fun p p0 p1 => noE p (by omega))
        rw [show (cpk 0).toNat = 0 + 13 by decide, this]
        rfl
      · rw [mset_i, if_pos rfl]; exact Int.le_refl 0
      · unfold cpk pl at c1; omega
    · rintro y s y0 y1 ⟨k1, k2, k3⟩ hF a3
      have e34s : s 34 = m1 34 := k1 34 (by decide)
      exact gM_layLoops_29 l y a3 s ⟨fun z => absurd z (by rw [e34s]; omega), fun _ => hF⟩
    · rintro y s y0 y1 ⟨k1, k2, k3⟩
      have e34s : s 34 = m1 34 := k1 34 (by decide)
      refine ⟨⟨k1, k2, fun a b hab hlt => k3 a b hab (by unfold cor at hab; omega)⟩, fun hG => gM_layLoops_43 l y _ s ⟨fun _ => ⟨⟨by omega, by omega⟩, hG _⟩, fun z => absurd (by rw [e34s]; omega) z⟩⟩
    · rintro y x s y0 y1 x0 x1 ⟨k1, k2, k3⟩ hN
      have e34s : s 34 = m1 34 := k1 34 (by decide)
      have hws : MW s := by rw [MW_eq e34s]; exact hw1
      have hSs : SC s l B := (SC_eq e34s (k1 50 (by decide))).mpr hS1
      have put : ∀ v, ((hasE B (pl x y) ∧ v = 11 * y + x) ∨ (¬ hasE B (pl x y) ∧ v = -6)) → WP cM_layLoops 43 [.inr (33, 0), .inl l, .inl y, .inl (x + 1)] [] (mset s 51 0 (11 * y + x) v) Q := by
        intro v hv
        refine hN _ ⟨fun q hq => (mset_k hq).trans (k1 q hq), fun k q0 q1 hk => ?_, fun a b hab hlt => ?_⟩
        · rw [mset_i, if_neg (fun e => hk (by unfold cor; omega))]
          exact k2 k q0 q1 hk
        · have hab' := hab
          unfold cor at hab'
          unfold lk
          rw [mset_i]
          by_cases e : a = x ∧ b = y
          · obtain ⟨rfl, rfl⟩ := e
            rw [if_pos rfl]; exact hv
          · rw [if_neg (by omega)]
            exact k3 a b hab (by omega)
      refine gM_layLoops_43 l y x s ⟨fun z => absurd z (by rw [e34s]; omega), fun _ => sM_corner (by omega) (by omega) ⟨_, rfl, sM_hasEdge hws hl hSs (by omega) (by omega) (fun a => ⟨1, rfl, fun z => by omega, fun _ => sM_corner (by omega) (by omega) ⟨_, rfl, by omega, ⟨by omega, by omega⟩, put _ (Or.inl ⟨a, rfl⟩)⟩⟩) (fun a => ⟨0, rfl, fun _ => ⟨by omega, ⟨by omega, by omega⟩, put _ (Or.inr ⟨a, rfl⟩)⟩, fun z => absurd rfl z⟩)⟩⟩
  · rintro k s k0 k1 ⟨g1, g2⟩ hN
    refine gM_layLoops_7 l k s ⟨fun z => by omega, fun _ => ⟨by omega, ⟨by omega, by omega⟩, hN _ ⟨fun q hq => (mset_k hq).trans (g1 q hq), fun i i0 i1 => ?_⟩⟩⟩
    rw [mset_i]
    split
    · rfl
    · exact g2 i i0 (by omega)
theorem sumN_skip {g : Int → Int} : ∀ (k a : Nat), (∀ p : Int, (a : Int) ≤ p → p < ((a + k : Nat) : Int) → g p = 0) → sumN g (a + k) = sumN g a
  | 0, a, _ => rfl
  | k + 1, a, h => by
    rw [show a + (k + 1) = a + k + 1 by omega]
    show sumN g (a + k) + g ((a + k : Nat) : Int) = _
    rw [h _ (by omega) (by omega), Int.add_zero]
    exact sumN_skip k a (fun p h0 h1 => h p h0 (by omega))
noncomputable def edV (B P : Int → Prop) (c : Int) : Int := cif (P c ∧ Ea B c) 1 0 + cif (P c ∧ Ed B c) 1 0
/-- how many edges begin at such corners -/
noncomputable def edN (B P : Int → Prop) (n : Nat) : Int := sumN (edV B P) n
theorem cif_01 {P : Prop} : 0 ≤ cif P 1 0 ∧ cif P 1 0 ≤ 1 := by
  by_cases c : P
  · rw [cif_pos c]; omega
  · rw [cif_neg c]; omega
theorem edN_bnd {B P : Int → Prop} (n : Nat) : 0 ≤ edN B P n ∧ edN B P n ≤ 2 * (n : Int) :=
  sumN_bnd n (fun k _ _ => by
    have h1 := cif_01 (P := P k ∧ Ea B k)
    have h2 := cif_01 (P := P k ∧ Ed B k)
    unfold edV
    omega)
set_option maxHeartbeats 1000000 in
theorem sM_edges {Q : AV → Mem → Prop} {l k : Int} {B P : Int → Prop} {m : Mem} (hw : MW m) (hl : 0 ≤ l ∧ l ≤ 3) (hS : SC m l B) (hk : k < 121) (hP : ∀ x y, cor m x y → (k < 0 → P (pl x y)) ∧ (0 ≤ k → (lk m x y = m 52 0 k ↔ P (pl x y)))) (h : Q (.inl (edN B P 144)) m) : WP cM_edges 0 [.inr (33, 0), .inl l, .inl k, uu, uu, uu, uu] [] m Q := by
  have hw' := hw
  obtain ⟨w1, w2, w3, w4⟩ := hw'
  have out : ∀ c, ¬ cor m (c % 12 - 1) (c / 12 - 1) → edV B P c = 0 := by
    intro c hc
    unfold edV
    rw [cif_neg (fun z => hc (hasE_cor hw hS.2 (Or.inl z.2))), cif_neg (fun z => hc (hasE_cor hw hS.2 (Or.inr (Or.inl z.2))))]
    rfl
  refine gM_edges_0 l k m ?_
  refine scan (σ := Int) (W := m 34 0 500 + 1) (H := m 34 0 501 + 1) (G := fun (y : Int) (s : Int) => ∀ a5 a6 : AV, WP cM_edges 5 [.inr (33, 0), .inl l, .inl k, .inl s, .inl y, a5, a6] [] m Q) (F := fun (y x : Int) (s : Int) => ∀ a6 : AV, WP cM_edges 21 [.inr (33, 0), .inl l, .inl k, .inl s, .inl y, .inl x, a6] [] m Q) (I := fun (y x : Int) (s : Int) => s = edN B P (pl x y).toNat) (by omega) (by omega) ?_ ?_ ?_ ?_ 0 ?_ uu uu
  · intro s hs a5 a6
    refine gM_edges_5 l k s _ a5 a6 m ⟨fun _ => ?_, fun z => absurd (by omega) z⟩
    have : edN B P 145 = edN B P (pl 0 (m 34 0 501 + 1)).toNat := by
      have e : 145 = (pl 0 (m 34 0 501 + 1)).toNat + (145 - (pl 0 (m 34 0 501 + 1)).toNat) := by unfold pl; omega
      rw [e]
      exact sumN_skip _ _ (fun p p0 p1 => out p (by unfold cor; unfold pl at p0; omega))
    have e2 : edN B P (144 + 1) = edN B P 144 := sumN_skip 1 144 (fun p p0 p1 => out p (by unfold cor; omega))
    rw [hs, ← this, e2]
    exact h
  · intro y s y0 y1 hs hF a5 a6
    exact gM_edges_5 l k s y a5 a6 m ⟨fun z => by omega, fun _ => hF _⟩
  · intro y s y0 y1 hs
    refine ⟨?_, fun hG a6 => gM_edges_21 l k s y _ a6 m ⟨fun _ => ⟨⟨by omega, by omega⟩, hG _ _⟩, fun z => absurd (by omega) z⟩⟩
    rw [hs]
    have e : (pl 0 (y + 1)).toNat = (pl (m 34 0 500 + 1) y).toNat + ((pl 0 (y + 1)).toNat - (pl (m 34 0 500 + 1) y).toNat) := by unfold pl; omega
    rw [e]
    exact (sumN_skip _ _ (fun p p0 p1 => out p (by unfold cor; unfold pl at p0 p1; omega))).symm
  · intro y x s y0 y1 x0 x1 hs hN a6
    have hc : cor m x y := ⟨x0, by omega, y0, by omega⟩
    have hb := edN_bnd (B := B) (P := P) (pl x y).toNat
    have hpl : (pl x y).toNat ≤ 144 := by unfold pl; omega
    have es : edN B P (pl (x + 1) y).toNat = edN B P (pl x y).toNat + edV B P (pl x y) := by
      rw [show pl (x + 1) y = pl x y + 1 by unfold pl; omega]
      exact sumN_suc (by unfold pl; omega)
    obtain ⟨q1, q2⟩ := hP x y hc
    have own : ∀ w : Int, (w = 0 ∧ ¬ P (pl x y)) ∨ (w = 1 ∧ P (pl x y)) → WP cM_edges 66 [.inr (33, 0), .inl l, .inl k, .inl s, .inl y, .inl x, .inl w] [] m Q := by
      rintro w (⟨rfl, hnp⟩ | ⟨rfl, hp⟩)
      · have ev : edV B P (pl x y) = 0 := by
          unfold edV
          rw [cif_neg (fun z => hnp z.1), cif_neg (fun z => hnp z.1)]
          rfl
        refine gM_edges_66 l k s y x 0 m ⟨fun _ => ⟨⟨by omega, by omega⟩, gM_edges_92 l k _ y x 0 m ⟨fun _ => ⟨⟨by omega, by omega⟩, gM_edges_118 l k _ y x 0 m ⟨⟨by omega, by omega⟩, hN _ ?_ _⟩⟩, fun z => absurd rfl z⟩⟩, fun z => absurd rfl z⟩
        rw [es, ev, hs]
        omega
      · have snd : ∀ v, v = s + cif (P (pl x y) ∧ Ea B (pl x y)) 1 0 → WP cM_edges 92 [.inr (33, 0), .inl l, .inl k, .inl v, .inl y, .inl x, .inl 1] [] m Q := by
          intro v hv
          have h01 := cif_01 (P := P (pl x y) ∧ Ea B (pl x y))
          refine gM_edges_92 l k v y x 1 m ⟨fun z => by omega, fun _ => sM_isEdge hw hl hS (Or.inr rfl) (by omega) (by omega) (fun b => ⟨1, rfl, fun z => by omega, fun _ => ⟨⟨by omega, by omega⟩, gM_edges_118 l k _ y x 1 m ⟨⟨by omega, by omega⟩, hN _ ?_ _⟩⟩⟩) (fun b => ⟨0, rfl, fun _ => ⟨⟨by omega, by omega⟩, gM_edges_118 l k _ y x 1 m ⟨⟨by omega, by omega⟩, hN _ ?_ _⟩⟩, fun z => absurd rfl z⟩)⟩
          · have : cif (P (pl x y) ∧ Ed B (pl x y)) 1 0 = 1 := cif_pos ⟨hp, b⟩
            rw [es]
            unfold edV
            omega
          · have : cif (P (pl x y) ∧ Ed B (pl x y)) 1 0 = 0 := cif_neg (fun z => b z.2)
            rw [es]
            unfold edV
            omega
        refine gM_edges_66 l k s y x 1 m ⟨fun z => by omega, fun _ => sM_isEdge hw hl hS (Or.inl rfl) (by omega) (by omega) (fun b => ⟨1, rfl, fun z => by omega, fun _ => ⟨⟨by omega, by omega⟩, snd _ ?_⟩⟩) (fun b => ⟨0, rfl, fun _ => ⟨⟨by omega, by omega⟩, snd _ ?_⟩, fun z => absurd rfl z⟩)⟩
        · rw [cif_pos ⟨hp, b⟩]
        · rw [cif_neg (fun z => b z.2)]
    refine gM_edges_21 l k s y x a6 m ⟨fun z => by omega, fun _ => ⟨fun z => own 1 (Or.inr ⟨rfl, q1 z⟩), fun z => sM_corner (by omega) (by omega) ⟨_, rfl, by omega, by omega, fun z2 => own 0 (Or.inl ⟨rfl, fun w => z2 ((q2 (by omega)).mpr w)⟩), fun z2 => own 1 (Or.inr ⟨rfl, (q2 (by omega)).mp (Classical.byContradiction z2)⟩)⟩⟩⟩
  · have : edN B P (0 + 13) = edN B P 0 := sumN_skip 13 0 (fun p p0 p1 => out p (by unfold cor; omega))
    rw [show (pl 0 0).toNat = 0 + 13 by decide, this]
    rfl
