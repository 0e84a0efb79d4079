set_option maxHeartbeats 2000000 in
theorem sM_layRuns {Q : AV → Mem → Prop} {l : Int} {m : Mem} (hw : MW m) (hl : 0 ≤ l ∧ l ≤ 3) (h : ∀ (m' : Mem) (f : Int → Int), (∀ q, q ≠ 33 → q ≠ 37 → q ≠ 38 → q ≠ 39 → q ≠ 40 → q ≠ 41 → q ≠ 42 → q ≠ 43 → q ≠ 44 → q ≠ 45 → m' q = m q) → (∀ j, j ≠ 6 → j ≠ 7 → j ≠ 14 → m' 33 0 j = m 33 0 j) → MRn m' l f → Q (.inl 0) m') : WP cM_layRuns 0 [.inr (33, 0), .inl l, uu, uu, uu, uu] [] m Q := by
  refine gM_layRuns_0 l m (sM_layPieces hw hl (fun m1 f hf1 hj1 hP1 => ?_))
  generalize hm2 : mset m1 33 0 14 0 = m2
  have e34 : m2 34 = m 34 := by rw [← hm2, mset_k (by decide)]; exact hf1 34 (by decide) (by decide) (by decide) (by decide)
  have hw2 : MW m2 := by rw [MW_eq e34]; exact hw
  have hP2 : MPc m2 l f := by
    rw [← hm2]
    refine (MPc_eq ?_ ?_ ?_ ?_ ?_ ?_).mpr hP1
    · exact mset_k (by decide)
    · exact mset_k (by decide)
    · exact mset_k (by decide)
    · exact mset_k (by decide)
    · simp [rd_j]
    · simp [rd_j]
  have h14 : m2 33 0 14 = 0 := by rw [← hm2]; exact mset_at
  have hj2 : ∀ j, j ≠ 14 → m2 33 0 j = m1 33 0 j := fun j hj => by rw [← hm2]; simp [rd_j, hj]
  have hf2 : ∀ q, q ≠ 33 → m2 q = m1 q := fun q hq => by rw [← hm2]; exact mset_k hq
  have hw' := hw2
  obtain ⟨w1, w2, w3, w4⟩ := hw'
  generalize hO : OM m2 l = O
  have hCel : Cel O := by rw [← hO]; exact OM_cel hw2
  have noRK : ∀ k, ¬ O (k % 144) → ¬ RK O f k := fun k hk z => hk z.1.at0
  have keepP : ∀ s T, RI m2 O f T s → s 34 = m2 34 ∧ MPc s l f ∧ MW s ∧ OM s l = O := by
    intro s T hs
    have g34 : s 34 = m2 34 := hs.1 34 (by decide) (by decide) (by decide) (by decide) (by decide) (by decide) (by decide)
    refine ⟨g34, (MPc_eq g34 ?_ ?_ ?_ ?_ ?_).mpr hP2, by rw [MW_eq g34]; exact hw2, by rw [OM_eq g34]; exact hO⟩
    · exact hs.1 37 (by decide) (by decide) (by decide) (by decide) (by decide) (by decide) (by decide)
    · exact hs.1 38 (by decide) (by decide) (by decide) (by decide) (by decide) (by decide) (by decide)
    · exact hs.1 39 (by decide) (by decide) (by decide) (by decide) (by decide) (by decide) (by decide)
    · exact hs.2.1 6 (by decide)
    · exact hs.2.1 7 (by decide)
  have frO : ∀ p, frS m2 p → ¬ O p := fun p hp => by rw [← hO]; exact frS_OM hp
  have inner : ∀ (n d : Int), 1 ≤ n ∧ n ≤ 10 → d = 0 ∨ d = 1 → (∀ s', RI m2 O f ((n * 2 + d) * 144 + 157) s' → ∀ a4 a5 : AV, WP cM_layRuns 20 [.inr (33, 0), .inl l, .inl n, .inl (d + 1), a4, a5] [] s' Q) → ∀ s, RI m2 O f ((n * 2 + d) * 144 + 13) s → ∀ a5 : AV, WP cM_layRuns 28 [.inr (33, 0), .inl l, .inl n, .inl d, .inl 0, a5] [] s Q := by
    intro n d hn hd hnext s hs
    have hd2 : 0 ≤ d ∧ d ≤ 1 := by omega
    refine scan (σ := Mem) (W := m2 34 0 500) (H := m2 34 0 501) (G := fun (y : Int) (s : Mem) => ∀ a5 : AV, WP cM_layRuns 28 [.inr (33, 0), .inl l, .inl n, .inl d, .inl y, a5] [] s Q) (F := fun (y x : Int) (s : Mem) => WP cM_layRuns 44 [.inr (33, 0), .inl l, .inl n, .inl d, .inl y, .inl x] [] s Q) (I := fun (y x : Int) (s : Mem) => RI m2 O f ((n * 2 + d) * 144 + pl x y) s) (by omega) (by omega) ?_ ?_ ?_ ?_ s hs
    · intro s1 hs1 a5
      obtain ⟨g34, -, -, -⟩ := keepP s1 _ hs1
      refine gM_layRuns_28 l n d _ a5 s1 ⟨fun _ => ⟨⟨by omega, by omega⟩, hnext s1 (hs1.skip (by unfold pl; omega) (by unfold pl; omega) (fun k k0 k1 => noRK k ?_)) _ _⟩, fun z => absurd (by rw [g34]; exact Int.le_refl _) z⟩
      refine frO _ ?_
      unfold pl at k0
      unfold frS inS
      omega
    · intro y s1 y0 y1 hs1 hF a5
      obtain ⟨g34, -, -, -⟩ := keepP s1 _ hs1
      exact gM_layRuns_28 l n d y a5 s1 ⟨fun z => absurd z (by rw [g34]; omega), fun _ => hF⟩
    · intro y s1 y0 y1 hs1
      obtain ⟨g34, -, -, -⟩ := keepP s1 _ hs1
      refine ⟨hs1.skip (by unfold pl; omega) (by unfold pl; omega) (fun k k0 k1 => noRK k (frO _ ?_)), fun hG => gM_layRuns_44 l n d y _ s1 ⟨fun _ => ⟨⟨by omega, by omega⟩, hG _⟩, fun z => absurd (by rw [g34]; exact Int.le_refl _) z⟩⟩
      unfold pl at k0 k1
      unfold frS inS
      omega
    · intro y x s1 y0 y1 x0 x1 hs1 hN
      obtain ⟨g34, gP, gw, gO⟩ := keepP s1 _ hs1
      have hc : inS s1 x y := by rw [inS_eq g34]; exact ⟨x0, x1, y0, y1⟩
      have hpr : 0 ≤ pl x y ∧ pl x y < 144 := by unfold pl; omega
      obtain ⟨t1, t2, t3⟩ := keyR_p (p := pl x y) (d := d) (n := n) hpr hd2
      unfold keyR at t1 t2 t3
      have eT : (n * 2 + d) * 144 + pl (x + 1) y = (n * 2 + d) * 144 + pl x y + 1 := by unfold pl; omega
      have hT0 : 0 ≤ (n * 2 + d) * 144 + pl x y := by omega
      have noTo : ¬ RK O f ((n * 2 + d) * 144 + pl x y) → WP cM_layRuns 44 [.inr (33, 0), .inl l, .inl n, .inl d, .inl y, .inl (x + 1)] [] s1 Q := by
        intro z
        refine hN s1 ?_
        show RI m2 O f ((n * 2 + d) * 144 + pl (x + 1) y) s1
        rw [eT]
        exact hs1.skip hT0 (by omega) (fun k k0 k1 => by
          have : k = (n * 2 + d) * 144 + pl x y := by omega
          rw [this]
          exact z)
      refine gM_layRuns_44 l n d y x s1 ⟨fun z => absurd z (by rw [g34]; omega), fun _ => sM_lengthFrom gw hl hc hd (fun hno => ⟨0, rfl, fun _ => ⟨⟨by omega, by omega⟩, noTo (fun z => ?_)⟩, fun z => absurd (by omega) z⟩) (fun n' hs' n1 n2 n3 n4 => ⟨n', rfl, fun hne => ⟨⟨by omega, by omega⟩, noTo (fun z => ?_)⟩, fun heq => ?_⟩)⟩
      · unfold RK at z
        rw [t1, t2, t3] at z
        rw [gO] at hno
        exact hno n z.1
      · unfold RK at z
        rw [t1, t2, t3] at z
        rw [gO] at hs'
        exact hne (hs'.len z.1)
      · have e : n' = n := Classical.byContradiction heq
        subst e
        have hfew := RK_few (f := f) hCel ((n' * 2 + d) * 144 + pl x y + 1).toNat
        have h14s := hs1.2.2.1
        have hrk : f (pl x y - stp d) ≠ f (pl x y + n' * stp d) → RK O f ((n' * 2 + d) * 144 + pl x y) := by
          intro z
          unfold RK
          rw [t1, t2, t3]
          rw [gO] at hs'
          exact ⟨hs', z⟩
        have hrg := cP_rng (P := RK O f) ((n' * 2 + d) * 144 + pl x y).toNat
        refine sM_addRun gw gP hc hd hs' ⟨n1, n2⟩ n3 n4 (by rw [h14s]; exact hrg.1) (fun z => ?_) (fun z => ⟨⟨by omega, by omega⟩, noTo (fun w => ?_)⟩) (fun z s2 hadd => ⟨⟨by omega, by omega⟩, hN s2 ?_⟩)
        · rw [show ((n' * 2 + d) * 144 + pl x y + 1).toNat = ((n' * 2 + d) * 144 + pl x y).toNat + 1 by omega, cP_yes (by rw [show ((((n' * 2 + d) * 144 + pl x y).toNat : Nat) : Int) = (n' * 2 + d) * 144 + pl x y by omega]; exact hrk z)] at hfew
          rw [h14s]
          omega
        · unfold RK at w
          rw [t1, t2, t3] at w
          exact w.2 z
        · rw [gO] at hadd
          show RI m2 O f ((n' * 2 + d) * 144 + pl (x + 1) y) s2
          rw [eT]
          exact hs1.add hT0 (hrk z) t1 t2 t3 (by omega) (by omega) hadd
  refine loopU (σ := Mem) (N := 11) (G := fun (k : Int) (s : Mem) => ∀ a3 a4 a5 : AV, WP cM_layRuns 12 [.inr (33, 0), .inl l, .inl k, a3, a4, a5] [] s Q) (I := fun (k : Int) (s : Mem) => 1 ≤ k ∧ RI m2 O f (k * 2 * 144 + 13) s) ?_ ?_ 1 m2 (by omega) (by omega) ⟨by omega, ?_⟩ uu uu uu
  · rintro s ⟨-, hs⟩ a3 a4 a5
    obtain ⟨g34, gP, gw, gO⟩ := keepP s _ hs
    refine gM_layRuns_12 l 11 a3 a4 a5 s ⟨fun _ => h s f (fun q q1 q2 q3 q4 q5 q6 q7 q8 q9 q10 => ?_) (fun j j1 j2 j3 => ?_) ⟨gP, ?_, fun k k0 k1 hk => ?_⟩, fun z => absurd (by omega) z⟩
    · rw [hs.1 q q1 q5 q6 q7 q8 q9 q10, hf2 q q1, hf1 q q1 q2 q3 q4]
    · rw [hs.2.1 j j3, hj2 j j3, hj1 j j1 j2]
    · rw [gO, hs.2.2.1]
      have : (11 * 2 * 144 + 13 : Int).toNat = 3168 + 13 := rfl
      rw [this]
      refine cP_skip 13 3168 (fun p p0 p1 => noRK p (fun z => ?_))
      have := hCel _ z
      omega
    · rw [gO] at hk ⊢
      exact hs.2.2.2 k k0 (by omega) hk
  · rintro k s k0 k1 ⟨kk, hs⟩ hN a3 a4 a5
    refine gM_layRuns_12 l k a3 a4 a5 s ⟨fun z => by omega, fun _ => ?_⟩
    refine gM_layRuns_20 l k 0 a4 a5 s ⟨fun z => by omega, fun _ => ?_⟩
    refine inner k 0 (by omega) (Or.inl rfl) (fun s1 hs1 b4 b5 => ?_) s (by rw [show (k * 2 + 0) * 144 + 13 = k * 2 * 144 + 13 by omega]; exact hs) a5
    refine gM_layRuns_20 l k (0 + 1) b4 b5 s1 ⟨fun z => by omega, fun _ => ?_⟩
    refine inner k (0 + 1) (by omega) (Or.inr rfl) (fun s2 hs2 d4 d5 => ?_) s1 (by rw [show (k * 2 + (0 + 1)) * 144 + 13 = (k * 2 + 0) * 144 + 157 by omega]; exact hs1) b5
    refine gM_layRuns_20 l k (0 + 1 + 1) d4 d5 s2 ⟨fun _ => ⟨⟨by omega, by omega⟩, hN s2 ⟨by omega, ?_⟩ _ _ _⟩, fun z => absurd (by omega) z⟩
    rw [show (k + 1) * 2 * 144 + 13 = (k * 2 + (0 + 1)) * 144 + 157 by omega]
    exact hs2
  · have base0 : RI m2 O f 0 m2 := ⟨fun _ _ _ _ _ _ _ _ => rfl, fun _ _ => rfl, by rw [h14]; simp [cP, sumN], fun k k0 k1 => by omega⟩
    refine base0.skip (Int.le_refl 0) (by omega) (fun k k0 k1 z => ?_)
    by_cases c : k < 288
    · have := z.1.1
      omega
    · refine noRK k (fun w => ?_) z
      have := hCel _ w
      omega
