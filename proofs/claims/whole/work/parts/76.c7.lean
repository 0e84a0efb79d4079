/-! The class lays its bridges; the lower bound; a plan's first part. -/
theorem RunsI.at {m : Mem} {p : Int} {O : Int → Prop} {f : Int → Int} (hR : RunsI m p (RK O f)) {k : Nat} {r : Int} (hk : k < 3168) (hr : RK O f (k : Int)) (e : cP (RK O f) k = r) : m 16 p r = (k : Int) := by
  have := hR.2 (k : Int) (by omega) (by omega) hr
  rw [Int.toNat_natCast, e] at this
  exact this
set_option maxHeartbeats 1000000 in
theorem sB_findLowerBound {Q : AV → Mem → Prop} {p : Int} {O : Int → Prop} {f : Int → Int} {m : Mem} (hCe : Cel O) (hL : LabOK O f) (hC : CTi m p f) (hR : RunsI m p (RK O f)) (h : ∀ m', FR p [15, 20] m m' → (∀ j, j ≠ 9 → m' 15 p j = m 15 p j) → m' 15 p 9 = (lbS O f 3168).2 → Q (.inl 0) m') : WP cB_findLowerBound 0 [.inr (15, p), uu] [] m Q := by
  have c0 := (cP_rng (P := RK O f) 3168).1
  have hfew := RK_few (f := f) hCe 3168
  refine gB_findLowerBound_0 p m (sB_untieAll hL hC (fun m1 f1 hT1 => ?_))
  refine loopU (σ := Mem) (N := cP (RK O f) 3168) (G := fun (k : Int) (s : Mem) => WP cB_findLowerBound 11 [.inr (15, p), .inl k] [] s Q) (I := fun (k : Int) (s : Mem) => FR p [15, 20] m s ∧ (∀ j, j ≠ 9 → s 15 p j = m 15 p j) ∧ ∃ T : Nat, T ≤ 3168 ∧ cP (RK O f) T = k ∧ TieC O f (s 20 p) (lbS O f T).1 ∧ s 15 p 9 = (lbS O f T).2) ?_ ?_ 0 _ (Int.le_refl 0) c0 ⟨(f1.mono (by decide)).put (by decide) (Or.inr rfl), fun j hj => by rw [rd_s hj, f1.1 15 (by decide)], 0, by omega, rfl, by rw [mset_k (by decide)]; exact hT1, by rw [mset_i, if_pos rfl]; rfl⟩
  · rintro s ⟨s1, s2, T, T1, T2, T3, T4⟩
    obtain ⟨j, ej, hj⟩ := rank_end T1 T2
    refine gB_findLowerBound_11 p _ s ⟨fun _ => h s s1 s2 ?_, fun z => absurd (by rw [s2 6 (by decide), hR.1]; exact Int.le_refl _) z⟩
    rw [ej, lbS_skip j T hj]
    exact T4
  · rintro r s r0 r1 ⟨s1, s2, T, T1, T2, T3, T4⟩ hN
    obtain ⟨k, k1, k2, k3, k4, j, ej, hj⟩ := rank_step r0 r1 T2
    have eS : lbS O f k = lbS O f T := by rw [ej]; exact lbS_skip j T hj
    rw [← eS] at T3 T4
    have e16 : s 16 = m 16 := s1.1 16 (by decide)
    have hrow : s 16 p r = (k : Int) := by rw [e16]; exact hR.at k1 k2 k3
    have hCs : CTi s p f := hC.of (by rw [s1.1 10 (by decide)]) (by rw [s1.1 7 (by decide)])
    have hb := lbS_ok f hCe k
    have hgeo := run_geo hCe k2
    have hfk := RK_few (f := f) hCe k
    have hgo : ¬ (lbS O f k).1 (eB f (k : Int)) (eA f (k : Int)) → ∀ m2, FR p [20] s m2 → TieC O f (m2 20 p) (tieR (lbS O f k).1 (eB f (k : Int)) (eA f (k : Int))) → WP cB_lengthOf 0 [.inl (m2 16 p r)] [] m2 (fun q m3 => ∃ r2 : Int, q = .inl r2 ∧ (Rng ((m2 15 p 9) + r2) ∧ (Rng (r + 1) ∧ WP cB_findLowerBound 11 [.inr (15, p), .inl (r + 1)] [] (mset m3 15 p 9 ((m2 15 p 9) + r2)) Q))) := by
      intro z m2 f2 hT2
      rw [f2.1 16 (by decide), hrow]
      have e15 : m2 15 = s 15 := f2.1 15 (by decide)
      refine sB_lengthOf (by omega) ⟨_, rfl, ?_⟩
      rw [e15, T4]
      refine ⟨⟨by omega, by omega⟩, ⟨by omega, by omega⟩, hN _ ⟨(s1.trans (f2.mono (by decide))).put (by decide) (Or.inr rfl), fun j hj => by rw [rd_s hj, e15]; exact s2 j hj, k + 1, by omega, k4, ?_, ?_⟩⟩
      · rw [lbS_yes ⟨k2, z⟩, mset_k (by decide)]; exact hT2
      · rw [lbS_yes ⟨k2, z⟩, mset_i, if_pos rfl]
    refine gB_findLowerBound_11 p r s ⟨fun z => absurd z (by rw [s2 6 (by decide), hR.1]; omega), fun _ => ⟨by omega, ?_⟩⟩
    rw [hrow]
    refine sB_isUntied hCe hL hCs (by omega) k2 T3 (fun z => ⟨1, rfl, fun y => by omega, fun _ => ⟨by omega, by rw [hrow]; exact sB_tieEnds hCe hL hCs (by omega) k2 T3 (fun m2 f2 hT2 => ⟨by omega, hgo z m2 f2 hT2⟩)⟩⟩) (fun z => ⟨0, rfl, fun _ => ⟨⟨by omega, by omega⟩, hN s ⟨s1, s2, k + 1, by omega, k4, ?_⟩⟩, fun y => absurd rfl y⟩)
    rw [lbS_no (fun y => y.2 z)]
    exact ⟨T3, T4⟩
theorem celN_rng {O : Int → Prop} {f : Int → Int} (hC : Cel O) {T : Nat} : 0 ≤ celN (brS O f T) ∧ celN (brS O f T) ≤ 1000 := by
  have hok := brS_ok O f T
  have hfew := RK_few (f := f) hC T
  have := sumN_bnd (g := fun b => (brS O f T).2.2.2 b / 288) (c := 10) (brS O f T).2.2.1.toNat (fun j j0 j1 => by
    have := hok.2.2 j j0 (by omega)
    have g := run_geo hC this.1
    exact ⟨by omega, g.2.2.1⟩)
  have h1 := hok.1
  unfold celN
  omega
theorem mcpy_k {m : Mem} {q0 q1 q : Nat} {i0 i1 sp dp n : Int} (h : q ≠ q1) : mcpy m q0 i0 sp q1 i1 dp n q = m q := by unfold mcpy; rw [if_neg h]
theorem mcpy_at {m : Mem} {q0 q1 : Nat} {i0 i1 sp dp n j : Int} (h0 : dp ≤ j) (h1 : j < dp + n) : mcpy m q0 i0 sp q1 i1 dp n q1 i1 j = m q0 i0 (sp + (j - dp)) := by unfold mcpy; rw [if_pos rfl, if_pos ⟨rfl, h0, h1⟩]
theorem mcpy_i {m : Mem} {q0 q1 : Nat} {i0 i1 sp dp n i : Int} (h : i ≠ i1) : mcpy m q0 i0 sp q1 i1 dp n q1 i = m q1 i := by
  unfold mcpy
  rw [if_pos rfl]
  funext j
  rw [if_neg (fun z => h z.1)]
theorem sB_removeAll {Q : AV → Mem → Prop} {p : Int} {O : Int → Prop} {m : Mem} (h9 : OpR m 9 p O) (h : ∀ m', FR p [15, 18, 19] m m' → (∀ j, j ≠ 7 → j ≠ 8 → m' 15 p j = m 15 p j) → m' 15 p 7 = 0 → m' 15 p 8 = 0 → (∀ c, 0 ≤ c → c < 144 → m' 18 p c = -6 ∧ m' 19 p c = m 9 p c) → Q (.inl 0) m') : WP cB_removeAll 0 [.inr (15, p), uu] [] m Q := by
  refine gB_removeAll_0 p m ?_
  refine loopU (σ := Mem) (N := 144) (G := fun (k : Int) (s : Mem) => WP cB_removeAll 2 [.inr (15, p), .inl k] [] s Q) (I := fun (k : Int) (s : Mem) => FR p [18, 19] m s ∧ ∀ c, 0 ≤ c → c < k → s 18 p c = -6 ∧ s 19 p c = m 9 p c) ?_ ?_ 0 m (Int.le_refl 0) (by omega) ⟨FR.refl m, fun c c0 c1 => by omega⟩
  · rintro s ⟨s1, s2⟩
    refine gB_removeAll_2 p _ s ⟨fun _ => h _ (((s1.mono (by decide)).put (by decide) (Or.inr rfl)).put (by decide) (Or.inr rfl)) (fun j j1 j2 => ?_) ?_ ?_ (fun c c0 c1 => ?_), fun z => absurd (by omega) z⟩
    · rw [rd_s j2, rd_s j1, s1.1 15 (by decide)]
    · rw [rd_s (by decide), mset_i, if_pos rfl]
    · rw [mset_i, if_pos rfl]
    · rw [mset_k (by decide), mset_k (by decide), mset_k (by decide), mset_k (by decide)]
      exact s2 c c0 c1
  · rintro k s k0 k1 ⟨s1, s2⟩ hN
    have e9 : s 9 = m 9 := s1.1 9 (by decide)
    refine gB_removeAll_2 p k s ⟨fun z => by omega, fun _ => ⟨by omega, ⟨by omega, ?_⟩, by omega, ⟨by omega, by omega⟩, hN _ ⟨(s1.put (by decide) (Or.inr rfl)).put (by decide) (Or.inr rfl), fun c c0 c1 => ?_⟩⟩⟩
    · rw [e9]
      rcases h9 k k0 k1 with ⟨e, _⟩ | ⟨e, _⟩
      · exact Or.inl e
      · exact Or.inr e
    · rw [mset_i, mset_k (show (18 : Nat) ≠ 19 by decide), mset_k (show (19 : Nat) ≠ 18 by decide), mset_i, e9]
      by_cases e : c = k
      · rw [if_pos e, if_pos e, e]
        exact ⟨rfl, rfl⟩
      · rw [if_neg e, if_neg e]
        exact s2 c c0 (by omega)
set_option maxHeartbeats 1000000 in
theorem sB_build {Q : AV → Mem → Prop} {p : Int} {O : Int → Prop} {f : Int → Int} {m : Mem} (hCe : Cel O) (hL : LabOK O f) (hC : CTi m p f) (h9 : OpR m 9 p O) (hR : RunsI m p (RK O f)) (h : ∀ m', FR p [15, 17, 18, 19, 20] m m' → (∀ j, j ≠ 7 → j ≠ 8 → m' 15 p j = m 15 p j) → CBr m' p O f (brS O f 3168) → Q (.inl 0) m') : WP cB_build 0 [.inr (15, p), uu] [] m Q := by
  have c0 := (cP_rng (P := RK O f) 3168).1
  have hfew := RK_few (f := f) hCe 3168
  refine gB_build_0 p m (sB_untieAll hL hC (fun m1 f1 hT1 => sB_removeAll (O := O) (fun c c0 c1 => by rw [f1.1 9 (by decide)]; exact h9 c c0 c1) (fun m2 g1 g2 e7 e8 hrow => ?_)))
  have f2 : FR p [15, 17, 18, 19, 20] m m2 := (f1.mono (by decide)).trans (g1.mono (by decide))
  refine loopU (σ := Mem) (N := cP (RK O f) 3168) (G := fun (k : Int) (s : Mem) => WP cB_build 10 [.inr (15, p), .inl k] [] s Q) (I := fun (k : Int) (s : Mem) => FR p [15, 17, 18, 19, 20] m s ∧ (∀ j, j ≠ 7 → j ≠ 8 → s 15 p j = m 15 p j) ∧ ∃ T : Nat, T ≤ 3168 ∧ cP (RK O f) T = k ∧ CBr s p O f (brS O f T)) ?_ ?_ 0 _ (Int.le_refl 0) c0 ⟨f2, fun j j1 j2 => by rw [g2 j j1 j2, f1.1 15 (by decide)], 0, by omega, rfl, ?_, fun c q0 q1 => ?_, fun c q0 q1 => ?_, ?_, ?_, fun b q0 q1 => absurd q1 (by show ¬ b < 0; omega)⟩
  · rintro s ⟨s1, s2, T, T1, T2, T3⟩
    obtain ⟨j, ej, hj⟩ := rank_end T1 T2
    refine gB_build_10 p _ s ⟨fun _ => h s s1 s2 ?_, fun z => absurd (by rw [s2 6 (by decide) (by decide), hR.1]; exact Int.le_refl _) z⟩
    rw [ej, brS_skip j T hj]
    exact T3
  · rintro r s r0 r1 ⟨s1, s2, T, T1, T2, T3⟩ hN
    obtain ⟨k, k1, k2, k3, k4, j, ej, hj⟩ := rank_step r0 r1 T2
    have eS : brS O f k = brS O f T := by rw [ej]; exact brS_skip j T hj
    rw [← eS] at T3
    have hok := brS_ok O f k
    have hcel := celN_rng (f := f) hCe (T := k)
    have e16 : s 16 = m 16 := s1.1 16 (by decide)
    have hrow : s 16 p r = (k : Int) := by rw [e16]; exact hR.at k1 k2 k3
    have hCs : CTi s p f := hC.of (by rw [s1.1 10 (by decide)]) (by rw [s1.1 7 (by decide)])
    have hB6 : ∀ q, (brS O f k).2.1 q = -6 ∨ 0 ≤ (brS O f k).2.1 q := fun q => by
      rcases hok.2.1 q with e | ⟨e, -⟩
      · exact Or.inl e
      · exact Or.inr e
    have hno : ¬ Sel O f (brS O f k) (k : Int) → WP cB_build 10 [.inr (15, p), .inl (r + 1)] [] s Q := fun z => hN s ⟨s1, s2, k + 1, by omega, k4, by rw [brS_no z]; exact T3⟩
    have hgo : ¬ (brS O f k).1 (eB f (k : Int)) (eA f (k : Int)) → Clr (brS O f k).2.1 ((k : Int) % 144) ((k : Int) / 144 % 2) ((k : Int) / 288) → WP cB_tieEnds 0 [.inr (15, p), .inl (k : Int), uu, uu, uu] [] s (fun _ m3 => ((0 ≤ r ∧ r < 100) ∧ WP cB_addBridge 0 [.inr (15, p), .inl (m3 16 p r), uu, uu, uu] [] m3 (fun _ m4 => (Rng (r + 1) ∧ WP cB_build 10 [.inr (15, p), .inl (r + 1)] [] m4 Q)))) := by
      intro z z2
      have hsel : Sel O f (brS O f k) (k : Int) := ⟨k2, z, z2⟩
      refine sB_tieEnds hCe hL hCs (by omega) k2 T3.1 (fun m3 f3 hT3 => ⟨by omega, ?_⟩)
      rw [f3.1 16 (by decide), hrow]
      have hh := hok.1
      rw [k3] at hh
      refine sB_addBridge (S := brS O f k) hCe (by omega) k2 ⟨hT3, ?_, ?_, ?_, ?_, ?_⟩ (by omega) hcel (fun m4 f4 g4 hB4 => ⟨⟨by omega, by omega⟩, hN m4 ⟨s1.trans ((f3.mono (by decide)).trans (f4.mono (by decide))), fun j j1 j2 => ?_, k + 1, by omega, k4, by rw [brS_yes hsel]; exact hB4⟩⟩)
      · rw [f3.1 18 (by decide)]; exact T3.2.1
      · intro c q0 q1; rw [f3.1 19 (by decide)]; exact T3.2.2.1 c q0 q1
      · rw [f3.1 15 (by decide)]; exact T3.2.2.2.1
      · rw [f3.1 15 (by decide)]; exact T3.2.2.2.2.1
      · rw [f3.1 17 (by decide)]; exact T3.2.2.2.2.2
      · rw [g4 j j1 j2, f3.1 15 (by decide)]; exact s2 j j1 j2
    refine gB_build_10 p r s ⟨fun z => absurd z (by rw [s2 6 (by decide) (by decide), hR.1]; omega), fun _ => ⟨by omega, ?_⟩⟩
    rw [hrow]
    refine sB_isUntied hCe hL hCs (by omega) k2 T3.1 (fun z => ⟨1, rfl, fun y => by omega, fun _ => ⟨by omega, by rw [hrow]; exact sB_isClear hCe (by omega) k2 T3.2.1 hB6 (fun z2 => ⟨1, rfl, fun y => by omega, fun _ => ⟨by omega, by rw [hrow]; exact hgo z z2⟩⟩) (fun z2 => ⟨0, rfl, fun _ => ⟨⟨by omega, by omega⟩, hno (fun y => z2 y.2.2)⟩, fun y => absurd rfl y⟩)⟩⟩) (fun z => ⟨0, rfl, fun _ => ⟨⟨by omega, by omega⟩, hno (fun y => y.2.1 z)⟩, fun y => absurd rfl y⟩)
  · rw [g1.1 20 (by decide)]
    exact hT1
  · exact (hrow c q0 q1).1
  · rw [(hrow c q0 q1).2, f1.1 9 (by decide)]
    show (m 9 p c = 0 ∧ ¬ (O c ∧ (-6 : Int) < 0)) ∨ (m 9 p c = 1 ∧ O c ∧ (-6 : Int) < 0)
    rcases h9 c q0 q1 with ⟨e, o⟩ | ⟨e, o⟩
    · exact Or.inl ⟨e, fun w => o w.1⟩
    · exact Or.inr ⟨e, o, by omega⟩
  · rw [e7]; rfl
  · rw [e8]; rfl
/-- what the class knows of a layer's pieces, runs and bridges -/
def CBd (m : Mem) (p : Int) (O : Int → Prop) : Prop := CPc m p O (labC O) ∧ RunsI m p (RK O (labC O)) ∧ CBr m p O (labC O) (brA O) ∧ m 15 p 9 = (lbS O (labC O) 3168).2
theorem CBd_eq {m m' : Mem} {p : Int} {O : Int → Prop} (h : ∀ q, 7 ≤ q → q ≠ 8 → q ≤ 20 → m' q p = m q p) : CBd m' p O ↔ CBd m p O := by
  unfold CBd CPc RunsI CBr OpB OpR
  rw [h 7 (by omega) (by omega) (by omega), h 9 (by omega) (by omega) (by omega), h 10 (by omega) (by omega) (by omega), h 11 (by omega) (by omega) (by omega), h 12 (by omega) (by omega) (by omega), h 13 (by omega) (by omega) (by omega), h 14 (by omega) (by omega) (by omega), h 15 (by omega) (by omega) (by omega), h 16 (by omega) (by omega) (by omega), h 17 (by omega) (by omega) (by omega), h 18 (by omega) (by omega) (by omega), h 19 (by omega) (by omega) (by omega), h 20 (by omega) (by omega) (by omega)]
abbrev ksB : List Nat := [6, 7, 8, 9, 10, 11, 12, 13, 14, 15, 16, 17, 18, 19, 20]
theorem sL_bridged {Q : AV → Mem → Prop} {l : Int} {m : Mem} (hw : MW m) (hR : CRel m) (hl : 0 ≤ l ∧ l ≤ 3) (hfresh : ¬ m 6 l 3 = 0 → CBd m l (OM m l)) (h : ∀ m', FR l ksB m m' → m' 6 l 3 ≠ 0 → m' 6 l 4 = m 6 l 4 → (¬ m 6 l 3 = 0 → m' = m) → CBd m' l (OM m l) → Q (.inr (6, l)) m') : WP cL_bridged 0 [.inr (6, l), .inr (1, 0), .inl l] [] m Q := by
  refine gL_bridged_0 l 0 l m ⟨fun z => h m (FR.refl m) z rfl (fun _ => rfl) (hfresh z), fun z => sP_find hw hR hl (fun m1 f1 hP => ?_)⟩
  have hCe : Cel (OM m l) := OM_cel hw
  have hL := labC_ok (OM m l)
  have hfew := RT_few hw hL 144 (by omega)
  unfold CBd brA at h
  generalize OM m l = O at *
  generalize labC O = f at *
  have cti : ∀ s : Mem, s 10 l = m1 10 l → s 7 l = m1 7 l → CTi s l f := fun s a b => by
    unfold CTi
    rw [a, b]
    exact ⟨hP.2.1, hP.2.2.1.1, hfew⟩
  have hnone : ∀ (n : Nat), cP (RKd O f 0 0) n = 0 := cP_none (fun k hk => by have := hk.2; omega)
  refine sB_findRuns (v := 0) (O := O) (f := f) hCe hL ?_ (cti _ (by rw [mset_k (by decide)]) (by rw [mset_k (by decide)])) (Or.inl rfl) ⟨?_, fun k k0 k1 hk => by have := hk.2; omega⟩ (fun m2 f2 j2 hR2 => ?_)
  · intro c c0 c1; rw [mset_k (by decide)]; exact hP.1 c c0 c1
  · rw [mset_i, if_pos rfl, hnone]
  have g2 : FR l ksB m m2 := ((f1.mono (by decide)).put (by decide) (Or.inr rfl)).trans (f2.mono (by decide))
  have k2 : ∀ q, q ≠ 15 → q ≠ 16 → m2 q = m1 q := fun q a b => by rw [f2.1 q (by simp [a, b]), mset_k a]
  refine sB_findRuns (v := 1) (O := O) (f := f) hCe hL (fun c c0 c1 => by rw [k2 9 (by decide) (by decide)]; exact hP.1 c c0 c1) (cti _ (by rw [k2 10 (by decide) (by decide)]) (by rw [k2 7 (by decide) (by decide)])) (Or.inr rfl) (RunsI_congr (fun k k0 k1 => ?_) hR2) (fun m3 f3 j3 hR3 => ?_)
  · unfold RKd
    exact ⟨fun z => ⟨z.1, by have := z.2; omega⟩, fun z => ⟨z.1, by have := z.2; omega⟩⟩
  have k3 : ∀ q, q ≠ 15 → q ≠ 16 → m3 q = m1 q := fun q a b => by rw [f3.1 q (by simp [a, b]), k2 q a b]
  have hRK : RunsI m3 l (RK O f) := RunsI_congr (fun k k0 k1 => ⟨fun z => z.1, fun z => ⟨z, by omega⟩⟩) hR3
  refine sB_findLowerBound hCe hL (cti m3 (by rw [k3 10 (by decide) (by decide)]) (by rw [k3 7 (by decide) (by decide)])) hRK (fun m4 f4 j4 hlb => ?_)
  have k4 : ∀ q, q ≠ 15 → q ≠ 16 → q ≠ 20 → m4 q = m1 q := fun q a b c => by rw [f4.1 q (by simp [a, c]), k3 q a b]
  have hR4 : RunsI m4 l (RK O f) := by
    unfold RunsI
    rw [j4 6 (by decide), f4.1 16 (by decide)]
    exact hRK
  refine sB_build hCe hL (cti m4 (by rw [k4 10 (by decide) (by decide) (by decide)]) (by rw [k4 7 (by decide) (by decide) (by decide)])) (fun c c0 c1 => by rw [k4 9 (by decide) (by decide) (by decide)]; exact hP.1 c c0 c1) hR4 (fun m5 f5 j5 hB5 => ?_)
  have k5 : ∀ q, q < 15 → m5 q = m1 q := fun q a => by rw [f5.1 q (by simp; omega), k4 q (by omega) (by omega) (by omega)]
  have f51 : FR l ksB m m5 := (g2.trans (f3.mono (by decide))).trans ((f4.mono (by decide)).trans (f5.mono (by decide)))
  refine h _ (f51.put (by decide) (Or.inr rfl)) ?_ ?_ (fun w => absurd w z) ⟨?_, ?_, ?_, ?_⟩
  · rw [mset_i, if_pos rfl]; omega
  · rw [rd_s (by decide), k5 6 (by decide), f1.1 6 (by decide)]
  · unfold CPc OpR at hP ⊢
    rw [mset_k (by decide), mset_k (by decide), mset_k (by decide), mset_k (by decide), mset_k (by decide), mset_k (by decide), mset_k (by decide), k5 9 (by decide), k5 10 (by decide), k5 7 (by decide), k5 12 (by decide), k5 13 (by decide), k5 11 (by decide), k5 14 (by decide)]
    exact hP
  · unfold RunsI
    rw [mset_k (by decide), mset_k (by decide), j5 6 (by decide) (by decide), f5.1 16 (by decide)]
    exact hR4
  · unfold CBr OpB at hB5 ⊢
    rw [mset_k (by decide), mset_k (by decide), mset_k (by decide), mset_k (by decide), mset_k (by decide)]
    exact hB5
  · rw [mset_k (by decide), j5 9 (by decide) (by decide)]; exact hlb
