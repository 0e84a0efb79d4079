/-! The class's answers about parts and bridges. -/
theorem CBd.lab {m : Mem} {p : Int} {O : Int → Prop} (_ : CBd m p O) : LabOK O (labC O) := labC_ok O
theorem lab_00 {O : Int → Prop} {f : Int → Int} (hL : LabOK O f) : f 0 = 0 := by
  have := (hL 0 (by omega) (by omega)).1
  omega
theorem rkP_0 {f : Int → Int} : rkP f 0 = 0 := rfl
theorem rkP_z {f : Int → Int} {O : Int → Prop} (hL : LabOK O f) {r : Int} (hr : RTt f r) (r0 : 0 ≤ r) : rkP f r = 0 ↔ r = 0 :=
  ⟨fun e => rkP_inj hr (show RTt f 0 from lab_00 hL) r0 (by omega) (e.trans rkP_0.symm), fun e => by rw [e]; exact rkP_0⟩
theorem sP_islandAt {Q : AV → Mem → Prop} {p c : Int} {O : Int → Prop} {m : Mem} (hfew : cP (RTt (labC O)) 144 ≤ 101) (hB : CBd m p O) (hc : 0 ≤ c ∧ c < 144) (h : Q (.inl (islV O c)) m) : WP cP_islandAt 0 [.inr (7, p), .inl c] [] m Q := by
  have hL := labC_ok O
  obtain ⟨h9, h10, ⟨h7, -, -⟩, hr⟩ := hB.1
  have hrk := rk_lab hL hc.1 hc.2
  have hT : CTi m p (labC O) := ⟨h10, h7, hfew⟩
  refine gP_islandAt_0 p c m (sP_isOpen h9 hc (fun ho => ⟨1, rfl, fun z => by omega, fun _ => ?_⟩) (fun ho => ⟨0, rfl, fun _ => sP_partIn hL hT hc ⟨_, rfl, ?_⟩, fun z => absurd rfl z⟩))
  · unfold islV at h
    rw [cif_pos (Or.inl ho)] at h
    exact h
  · have hf := (hL c hc.1 hc.2).1
    rw [(hr (labC O c) hf.1 (by omega) (hL.idem hc.1 hc.2)).2.2.1]
    refine ⟨by omega, ?_⟩
    have hor : ¬ O (labC O c) := fun w => ho ((hL.alike hc.1 hc.2).mp w)
    unfold islV at h
    unfold numR
    by_cases e : labC O c = 0
    · rw [cif_pos (Or.inr e)] at h
      rw [if_pos e]; exact h
    · rw [cif_neg (fun w => w.elim ho e)] at h
      rw [if_neg e, cif_neg hor]; exact h
theorem sP_holeAt {Q : AV → Mem → Prop} {p c : Int} {O : Int → Prop} {m : Mem} (hfew : cP (RTt (labC O)) 144 ≤ 101) (ho0 : ¬ O 0) (hB : CBd m p O) (hc : 0 ≤ c ∧ c < 144) (h : Q (.inl (holV O c)) m) : WP cP_holeAt 0 [.inr (7, p), .inl c] [] m Q := by
  have hL := labC_ok O
  obtain ⟨h9, h10, ⟨h7, -, -⟩, hr⟩ := hB.1
  have hrk := rk_lab hL hc.1 hc.2
  have hT : CTi m p (labC O) := ⟨h10, h7, hfew⟩
  refine gP_holeAt_0 p c m (sP_isOpen h9 hc (fun ho => ⟨1, rfl, fun z => by omega, fun _ => sP_partIn hL hT hc ⟨_, rfl, ?_⟩⟩) (fun ho => ⟨0, rfl, fun _ => ?_, fun z => absurd rfl z⟩))
  rotate_left
  · unfold holV at h
    rw [cif_neg ho] at h
    exact h
  · have hf := (hL c hc.1 hc.2).1
    rw [(hr (labC O c) hf.1 (by omega) (hL.idem hc.1 hc.2)).2.2.1]
    refine ⟨by omega, ?_⟩
    have hor : O (labC O c) := (hL.alike hc.1 hc.2).mpr ho
    unfold holV at h
    rw [cif_pos ho] at h
    unfold numR
    rw [if_neg (fun e => ho0 (by rw [e] at hor; exact hor)), cif_pos hor]
    exact h
theorem sP_isIsland {Q : AV → Mem → Prop} {p r : Int} {O : Int → Prop} {m : Mem} (hfew : cP (RTt (labC O)) 144 ≤ 101) (hB : CBd m p O) (r0 : 0 ≤ r) (r1 : r < 144) (hr : RTt (labC O) r) (h1 : IR O (labC O) r → Q (.inl 1) m) (h0 : ¬ IR O (labC O) r → Q (.inl 0) m) : WP cP_isIsland 0 [.inr (7, p), .inl (rkP (labC O) r)] [] m Q := by
  have hL := labC_ok O
  obtain ⟨h9, h10, ⟨h7, -, -⟩, hroot⟩ := hB.1
  have hrk := rkP_rng (f := labC O) (n := 144) hr r0 (by omega)
  have hz := rkP_z hL hr r0
  have hf := (hroot r r0 r1 hr).1
  refine gP_isIsland_0 p _ m ⟨fun z => h0 (fun w => w.2.2 (hz.mp z)), fun z => ⟨⟨by omega, by omega⟩, ?_⟩⟩
  rw [h7]
  refine sS_isWithin (fun d => ⟨1, rfl, fun y => by omega, fun _ => ⟨by omega, ?_⟩⟩) (fun d => absurd (by omega) d)
  rw [hf]
  exact sP_isOpen h9 ⟨r0, r1⟩ (fun o => ⟨1, rfl, fun _ => h0 (fun w => w.1 o), fun y => absurd (by omega) y⟩) (fun o => ⟨0, rfl, fun y => absurd rfl y, fun _ => h1 ⟨o, hr, fun e => z (hz.mpr e)⟩⟩)
theorem rk_hit {f : Int → Int} {j : Int} (j0 : 0 ≤ j) (j1 : j < cP (RTt f) 144) : ∃ r, 0 ≤ r ∧ r < 144 ∧ RTt f r ∧ rkP f r = j := by
  obtain ⟨k, k1, k2, k3⟩ := cP_hit (P := RTt f) 144 j0 j1
  exact ⟨(k : Int), by omega, by omega, k2, by unfold rkP; rw [Int.toNat_natCast]; exact k3⟩
theorem numR_isl {O : Int → Prop} {f : Int → Int} {r : Int} (h : IR O f r) : numR O f r = cP (IR O f) r.toNat := by
  unfold numR
  rw [if_neg h.2.2, cif_neg h.1]
theorem sP_partOfIsland {Q : AV → Mem → Prop} {p i : Int} {O : Int → Prop} {m : Mem} (hfew : cP (RTt (labC O)) 144 ≤ 101) (hB : CBd m p O) (h1 : 0 ≤ i ∧ i < cP (IR O (labC O)) 144 → Q (.inl (rkP (labC O) (nthP (IR O (labC O)) i))) m) (h0 : ¬ (0 ≤ i ∧ i < cP (IR O (labC O)) 144) → Q (.inl (-6)) m) : WP cP_partOfIsland 0 [.inr (7, p), .inl i, uu] [] m Q := by
  obtain ⟨h9, h10, ⟨h7, -, -⟩, hroot⟩ := hB.1
  have n0 := (cP_rng (P := RTt (labC O)) 144).1
  refine gP_partOfIsland_0 p i m ?_
  refine loopU (σ := Unit) (N := cP (RTt (labC O)) 144) (G := fun (j : Int) (_ : Unit) => WP cP_partOfIsland 2 [.inr (7, p), .inl i, .inl j] [] m Q) (I := fun (j : Int) (_ : Unit) => ∀ r, 0 ≤ r → r < 144 → rkP (labC O) r < j → IR O (labC O) r → cP (IR O (labC O)) r.toNat ≠ i) ?_ ?_ 0 () (Int.le_refl 0) n0 (fun r r0 r1 hr => by have := (cP_rng (P := RTt (labC O)) r.toNat).1; unfold rkP at hr; omega)
  · intro _ hs
    refine gP_partOfIsland_2 p i _ m ⟨fun _ => h0 (fun hi => ?_), fun z => absurd (by rw [h7]; exact Int.le_refl _) z⟩
    obtain ⟨p0, p1, hp, hpi⟩ := nthP_spec (P := IR O (labC O)) (n := 144) hi.1 hi.2
    exact hs _ p0 (by omega) (rkP_rng (n := 144) hp.2.1 p0 p1).2 hp hpi
  · intro j _ j0 j1 hs hN
    obtain ⟨r, r0, r1, hr, e⟩ := rk_hit j0 j1
    subst e
    have hnum := (hroot r r0 r1 hr).2.2.1
    have next : (IR O (labC O) r → cP (IR O (labC O)) r.toNat ≠ i) → WP cP_partOfIsland 2 [.inr (7, p), .inl i, .inl (rkP (labC O) r + 1)] [] m Q := fun hne => hN () (fun r' a b c hI => by
      by_cases e : r' = r
      · rw [e] at hI ⊢; exact hne hI
      · rcases Int.lt_trichotomy r' r with w | w | w
        · exact hs r' a b (rkP_lt hI.2.1 a w) hI
        · exact absurd w e
        · have := rkP_lt hr r0 w
          omega)
    refine gP_partOfIsland_2 p i _ m ⟨fun z => absurd z (by rw [h7]; omega), fun _ => sP_isIsland hfew hB r0 r1 hr (fun hI => ⟨1, rfl, fun z => by omega, fun _ => ⟨by omega, ?_⟩⟩) (fun hI => ⟨0, rfl, fun _ => ⟨⟨by omega, by omega⟩, next (fun w => absurd w hI)⟩, fun z => absurd rfl z⟩)⟩
    rw [hnum, numR_isl hI]
    refine ⟨fun z => ⟨⟨by omega, by omega⟩, next (fun _ => z)⟩, fun z => ?_⟩
    have z := Classical.byContradiction z
    have hlt := cP_lt (P := IR O (labC O)) (a := r.toNat) (b := 144) (by omega) (by rw [show ((r.toNat : Nat) : Int) = r by omega]; exact hI)
    have hnn := (cP_rng (P := IR O (labC O)) r.toNat).1
    have h1 := h1 (by omega)
    have en : nthP (IR O (labC O)) i = r := by
      rw [← z, nthP_eq (P := IR O (labC O)) (k := r.toNat) (by rw [show ((r.toNat : Nat) : Int) = r by omega]; exact hI)]
      omega
    rw [en] at h1
    exact h1
theorem tie_C {O : Int → Prop} {f t : Int → Int} {R : Int → Int → Prop} (hL : LabOK O f) (ho0 : ¬ O 0) (hT : TieC O f t R) {r : Int} (r0 : 0 ≤ r) (r1 : r < 144) (hr : IR O f r) : t (rkP f r) = t 0 ↔ R r 0 := by
  have := hT r 0 r0 r1 (by omega) (by omega) hr.1 ho0
  rw [hr.2.1, lab_00 hL] at this
  exact this
theorem sB_isLoose {Q : AV → Mem → Prop} {p r : Int} {O : Int → Prop} {m : Mem} (hfew : cP (RTt (labC O)) 144 ≤ 101) (ho0 : ¬ O 0) (hB : CBd m p O) (r0 : 0 ≤ r) (r1 : r < 144) (hr : IR O (labC O) r) (h1 : ¬ (brA O).1 r 0 → Q (.inl 1) m) (h0 : (brA O).1 r 0 → Q (.inl 0) m) : WP cB_isLoose 0 [.inr (15, p), .inl (rkP (labC O) r)] [] m Q := by
  have ht := tie_C (labC_ok O) ho0 hB.2.2.1.1 r0 r1 hr
  have hrk := rkP_rng (f := labC O) (n := 144) hr.2.1 r0 (by omega)
  exact gB_isLoose_0 p _ m ⟨by omega, fun z => h0 (ht.mp z), fun z => h1 (fun w => z (ht.mpr w))⟩
theorem sB_looseIslands {Q : AV → Mem → Prop} {p : Int} {O : Int → Prop} {m : Mem} (hfew : cP (RTt (labC O)) 144 ≤ 101) (ho0 : ¬ O 0) (hB : CBd m p O) (h : Q (.inl (looN O (labC O) (brA O).1)) m) : WP cB_looseIslands 0 [.inr (15, p), uu, uu] [] m Q := by
  obtain ⟨h9, h10, ⟨h7, -, -⟩, hroot⟩ := hB.1
  have n0 := (cP_rng (P := RTt (labC O)) 144).1
  -- what a part adds
  have val : ∃ val : Int → Int, ∀ r, 0 ≤ r → r < 144 → RTt (labC O) r → val (rkP (labC O) r) = cif (IR O (labC O) r ∧ ¬ (brA O).1 r 0) 1 0 := by
    refine ⟨fun j => cif (IR O (labC O) (nthP (RTt (labC O)) j) ∧ ¬ (brA O).1 (nthP (RTt (labC O)) j) 0) 1 0, fun r r0 r1 hr => ?_⟩
    have e : nthP (RTt (labC O)) (rkP (labC O) r) = r := by
      unfold rkP
      rw [nthP_eq (P := RTt (labC O)) (k := r.toNat) (by rw [show ((r.toNat : Nat) : Int) = r by omega]; exact hr)]
      omega
    dsimp only
    rw [e]
  obtain ⟨val, hval⟩ := val
  have eq : sumN val (cP (RTt (labC O)) 144).toNat = looN O (labC O) (brA O).1 := by
    rw [rank_sum (P := RTt (labC O)) (v := fun r => cif (IR O (labC O) r ∧ ¬ (brA O).1 r 0) 1 0) 144 (fun r r0 r1 hr => hval r r0 (by omega) hr)]
    unfold looN cP
    refine sumN_congr 144 (fun r r0 r1 => ?_)
    by_cases c : RTt (labC O) r
    · rw [if_pos c]; rfl
    · rw [if_neg c, if_neg (fun w => c w.1.2.1)]
  have h01 : ∀ n : Nat, (n : Int) ≤ cP (RTt (labC O)) 144 → 0 ≤ sumN val n ∧ sumN val n ≤ (n : Int) := fun n hn => sumN_01 n (fun j j0 j1 => by
    obtain ⟨r, r0, r1, hr, e⟩ := rk_hit j0 (show j < cP (RTt (labC O)) 144 by omega)
    rw [← e, hval r r0 r1 hr]
    have := cif_01 (P := IR O (labC O) r ∧ ¬ (brA O).1 r 0)
    omega)
  refine gB_looseIslands_0 p m ?_
  refine loopU (σ := Int) (N := cP (RTt (labC O)) 144) (G := fun (j : Int) (s : Int) => WP cB_looseIslands 4 [.inr (15, p), .inl s, .inl j] [] m Q) (I := fun (j : Int) (s : Int) => s = sumN val j.toNat) ?_ ?_ 0 0 (Int.le_refl 0) n0 rfl
  · intro s hs
    refine gB_looseIslands_4 p s _ m ⟨fun _ => ?_, fun z => absurd (by rw [h7]; exact Int.le_refl _) z⟩
    rw [hs, eq]
    exact h
  · intro j s j0 j1 hs hN
    have hb := h01 j.toNat (by omega)
    obtain ⟨r, r0, r1, hr, e⟩ := rk_hit j0 j1
    subst e
    have hv := hval r r0 r1 hr
    refine gB_looseIslands_4 p s _ m ⟨fun z => absurd z (by rw [h7]; omega), fun _ => sP_isIsland hfew hB r0 r1 hr (fun hI => ⟨1, rfl, fun z => by omega, fun _ => sB_isLoose hfew ho0 hB r0 r1 hI (fun hlo => ⟨1, rfl, fun z => by omega, fun _ => ⟨⟨by omega, by omega⟩, ⟨by omega, by omega⟩, hN _ ?_⟩⟩) (fun hlo => ⟨0, rfl, fun _ => ⟨⟨by omega, by omega⟩, hN _ ?_⟩, fun z => absurd rfl z⟩)⟩) (fun hI => ⟨0, rfl, fun _ => ⟨⟨by omega, by omega⟩, hN _ ?_⟩, fun z => absurd rfl z⟩)⟩
    · rw [sumN_suc j0, hv, cif_pos ⟨hI, hlo⟩, hs]
    · rw [sumN_suc j0, hv, cif_neg (fun w => w.2 hlo), hs, Int.add_zero]
    · rw [sumN_suc j0, hv, cif_neg (fun w => hI w.1), hs, Int.add_zero]
theorem CBd.few {m : Mem} {p : Int} {O : Int → Prop} (hC : Cel O) (hB : CBd m p O) : 0 ≤ m 15 p 7 ∧ m 15 p 7 ≤ 100 ∧ m 15 p 7 = (brA O).2.2.1 ∧ ∀ b, 0 ≤ b → b < m 15 p 7 → m 17 p b = (brA O).2.2.2 b ∧ RK O (labC O) ((brA O).2.2.2 b) ∧ 0 ≤ (brA O).2.2.2 b ∧ (brA O).2.2.2 b < 3168 := by
  have hok := brS_ok O (labC O) 3168
  have hfew := RK_few (f := labC O) hC 3168
  obtain ⟨-, -, -, e7, -, e17⟩ := hB.2.2.1
  have h1 := hok.1
  rw [e7]
  unfold brA at *
  exact ⟨h1.1, by omega, rfl, fun b b0 b1 => ⟨e17 b b0 b1, hok.2.2 b b0 b1⟩⟩
theorem sB_bridgesOf {Q : AV → Mem → Prop} {p r : Int} {O : Int → Prop} {m : Mem} (hfew : cP (RTt (labC O)) 144 ≤ 101) (hC : Cel O) (hB : CBd m p O) (r0 : 0 ≤ r) (hr : RTt (labC O) r) (h : Q (.inl (endN (labC O) (brA O) r)) m) : WP cB_bridgesOf 0 [.inr (15, p), .inl (rkP (labC O) r), uu, uu] [] m Q := by
  obtain ⟨n0, n1, e7, hb⟩ := hB.few hC
  have hL := labC_ok O
  have hT : CTi m p (labC O) := ⟨hB.1.2.1, hB.1.2.2.1.1, hfew⟩
  refine gB_bridgesOf_0 p _ m ?_
  refine loopU (σ := Int) (N := m 15 p 7) (G := fun (j : Int) (s : Int) => WP cB_bridgesOf 4 [.inr (15, p), .inl (rkP (labC O) r), .inl s, .inl j] [] m Q) (I := fun (j : Int) (s : Int) => s = sumN (fun b => if eB (labC O) ((brA O).2.2.2 b) = r ∨ eA (labC O) ((brA O).2.2.2 b) = r then 1 else 0) j.toNat) ?_ ?_ 0 0 (Int.le_refl 0) n0 rfl
  · intro s hs
    refine gB_bridgesOf_4 p _ s _ m ⟨fun _ => ?_, fun z => absurd (Int.le_refl _) z⟩
    rw [hs, e7]
    exact h
  · intro j s j0 j1 hs hN
    obtain ⟨b1, b2, b3, b4⟩ := hb j j0 j1
    have hgeo := run_geo hC b2
    have gb := hgeo.2.2.2.1
    have ga := hgeo.2.2.2.2.1
    have hbd := sumN_01 (f := fun b => if eB (labC O) ((brA O).2.2.2 b) = r ∨ eA (labC O) ((brA O).2.2.2 b) = r then 1 else 0) j.toNat (fun i _ _ => by split <;> omega)
    have i1 : _ ↔ eB (labC O) ((brA O).2.2.2 j) = r := ⟨fun e => rkP_inj (hL.idem gb.1 gb.2) hr (hL _ gb.1 gb.2).1.1 r0 e, fun e => show rkP (labC O) (eB (labC O) ((brA O).2.2.2 j)) = rkP (labC O) r by rw [e]⟩
    have i2 : _ ↔ eA (labC O) ((brA O).2.2.2 j) = r := ⟨fun e => rkP_inj (hL.idem ga.1 ga.2) hr (hL _ ga.1 ga.2).1.1 r0 e, fun e => show rkP (labC O) (eA (labC O) ((brA O).2.2.2 j)) = rkP (labC O) r by rw [e]⟩
    refine gB_bridgesOf_4 p _ s j m ⟨fun z => by omega, fun _ => ⟨by omega, ?_⟩⟩
    rw [b1]
    refine sB_placeBefore b3 ⟨_, rfl, sP_partIn hL hT gb ⟨_, rfl, ?_⟩⟩
    refine ⟨fun z => ⟨⟨by omega, by omega⟩, ⟨by omega, by omega⟩, hN _ ?_⟩, fun z => ⟨by omega, ?_⟩⟩
    · rw [sumN_suc j0, if_pos (Or.inl (i1.mp z)), hs]
    · rw [b1]
      refine sB_placeAfter (by omega) ⟨_, rfl, sP_partIn hL hT ga ⟨_, rfl, ?_⟩⟩
      refine ⟨fun z2 => ⟨⟨by omega, by omega⟩, hN _ ?_⟩, fun z2 => ⟨⟨by omega, by omega⟩, ⟨by omega, by omega⟩, hN _ ?_⟩⟩
      · rw [sumN_suc j0, if_neg (fun w => w.elim (fun w => z (i1.mpr w)) (fun w => z2 (i2.mpr w))), hs, Int.add_zero]
      · rw [sumN_suc j0, if_pos (Or.inr (i2.mp (Classical.byContradiction z2))), hs]
