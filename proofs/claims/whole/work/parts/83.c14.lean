/-! The class judges the picture; counts. -/
theorem Inv.opA {m : Mem} (hI : Inv m) (h : ∀ l, 0 ≤ l → l ≤ 3 → ¬ m 6 l 3 = 0) : OpA m := fun l l0 l1 => ((hI.2.2.1 l l0 l1).1 (h l l0 l1)).2.2.1.2.2.1
set_option maxHeartbeats 1000000 in
theorem iS_judge {Q : AV → Mem → Prop} {m : Mem} (hI : Inv m) (h : ∀ m', CF m m' → Inv m' → PicOK m' → Q (.inl 0) m') : WP cS_judgePicture 0 [.inr (0, 0), uu, uu] [] m Q := by
  refine gS_judgePicture_0 m ⟨fun _ => ?_, fun z => h m (CF.refl m) hI (hI.2.2.2 z)⟩
  refine loopU (σ := Mem) (N := 4) (G := fun (k : Int) (s : Mem) => WP cS_judgePicture 13 [.inr (0, 0), .inl k, uu] [] s Q) (I := fun (k : Int) (s : Mem) => CF m s ∧ Inv s ∧ ∀ l, 0 ≤ l → l < k → ¬ s 6 l 3 = 0) ?_ ?_ 0 m (Int.le_refl 0) (by omega) ⟨CF.refl m, hI, fun l l0 l1 => by omega⟩
  · rintro s ⟨cf, hIs, hfl⟩
    refine gS_judgePicture_13 _ s ⟨fun _ => ?_, fun z => absurd (by omega) z⟩
    have hw := hIs.1.mw
    have hR := hIs.1.crel
    have hOpA : OpA s := hIs.opA (fun l l0 l1 => hfl l l0 (by omega))
    refine gI_clear_0 s (fill_27 _ 0 0 s (fun m1 a1 a2 a3 => ?_))
    have hw' := hw
    obtain ⟨w1, w2, w3, w4⟩ := hw'
    have hfrT : ∀ M w q, frS s q → 0 ≤ q → q < 144 → ¬ (¬ frS s q ∧ mskP s q = M ∧ wiP s q = w) := fun M w q hq _ _ z => z.1 hq
    have hfrC : ∀ q, frS s q → 0 ≤ q → q < 144 → ¬ ¬ frS s q := fun q hq _ _ z => z hq
    refine scan (σ := Mem) (W := s 34 0 500) (H := s 34 0 501) (G := fun (y : Int) (t : Mem) => ∀ a2 : AV, WP cS_judgePicture 48 [.inr (0, 0), .inl y, a2] [] t Q) (F := fun (y x : Int) (t : Mem) => WP cS_judgePicture 61 [.inr (0, 0), .inl y, .inl x] [] t Q) (I := fun (y x : Int) (t : Mem) => (∀ q, q ≠ 26 → q ≠ 27 → t q = s q) ∧ (∀ M w, 0 ≤ M → M < 16 → 0 ≤ w → w ≤ 4 → t 27 0 (M * 5 + w) = cP (fun p => ¬ frS s p ∧ mskP s p = M ∧ wiP s p = w) (pl x y).toNat) ∧ t 26 0 1 = cP (fun p => ¬ frS s p) (pl x y).toNat) (by omega) (by omega) ?_ ?_ ?_ ?_ _ ⟨fun q q1 q2 => by rw [mset_k q1]; exact a1 q q2, fun M w M0 M1 w0 w1 => ?_, ?_⟩ uu
    · rintro t ⟨t1, t2, t3⟩ b2
      have e34 : t 34 = s 34 := t1 34 (by decide) (by decide)
      refine gS_judgePicture_48 _ b2 t ⟨fun _ => ?_, fun z => absurd (by rw [t1 1 (by decide) (by decide), hR.2.1]; exact Int.le_refl _) z⟩
      have hT : PicT t := by
        unfold PicT talN wiP
        rw [frS_eq e34, mskP_eq e34, e34]
        refine ⟨fun M w M0 M1 w0 w1 => ?_, ?_⟩
        · rw [t2 M w M0 M1 w0 w1]
          exact (row_end hw (hfrT M w)).symm
        · rw [t3]
          exact (row_end hw hfrC).symm
      refine sI_findBest hT (fun u u1 u2 v2 v3 v4 => ?_)
      generalize hv : mset u 26 0 5 1 = v
      have vq : ∀ q, q ≠ 26 → q ≠ 27 → v q = s q := fun q q1 q2 => by rw [← hv, mset_k q1, u1 q q1, t1 q q1 q2]
      have e34v : v 34 = s 34 := vq 34 (by decide) (by decide)
      have e34tv : v 34 = t 34 := by rw [e34v, e34]
      have hpic : PicOK v := by
        refine ⟨fun l l0 l1 => by rw [vq 6 (by decide) (by decide)]; exact hfl l l0 (by omega), (PicT_eq e34tv ?_ ?_).mpr hT, ?_, ?_, ?_⟩
        · rw [← hv, mset_k (by decide), u1 27 (by decide)]
        · rw [← hv, rd_s (by decide), u2 1 (by decide) (by decide) (by decide)]
        · rw [bstA_eq e34tv, ← hv, rd_s (by decide)]; exact v2
        · rw [bstA_eq e34tv, ← hv, rd_s (by decide)]; exact v3
        · rw [bstA_eq e34tv, ← hv, rd_s (by decide)]; exact v4
      refine h v (cf.trans (fun q hq => vq q (by omega) (by omega))) ⟨(Sh_eq e34v (vq 1 (by decide) (by decide)) (vq 2 (by decide) (by decide)) (vq 3 (by decide) (by decide))).mpr hIs.1, (Img_eq (fun q hq => vq q (by omega) (by omega))).mpr hIs.2.1, fun l l0 l1 => (CchL_eq e34v (by rw [vq 6 (by decide) (by decide)]) (fun q q0 q1 q2 => by rw [vq q (by omega) (by omega)])).mpr (hIs.2.2.1 l l0 l1), fun _ => hpic⟩ hpic
    · rintro y t y0 y1 ⟨t1, t2, t3⟩ hF b2
      exact gS_judgePicture_48 y b2 t ⟨fun z => absurd z (by rw [t1 1 (by decide) (by decide), hR.2.1]; omega), fun _ => hF⟩
    · rintro y t y0 y1 ⟨t1, t2, t3⟩
      refine ⟨⟨t1, fun M w M0 M1 w0 w1 => by rw [t2 M w M0 M1 w0 w1, row_skip hw (hfrT M w) y0 y1], by rw [t3, row_skip hw hfrC y0 y1]⟩, fun hG => gS_judgePicture_61 y _ t ⟨fun _ => ⟨⟨by omega, by omega⟩, hG _⟩, fun z => absurd (by rw [t1 1 (by decide) (by decide), hR.1]; exact Int.le_refl _) z⟩⟩
    · rintro y x t y0 y1 x0 x1 ⟨t1, t2, t3⟩ hN
      have e34 : t 34 = s 34 := t1 34 (by decide) (by decide)
      have hpl : 0 ≤ pl x y ∧ pl x y < 144 := by unfold pl; omega
      have epl : (pl (x + 1) y).toNat = (pl x y).toNat + 1 := by unfold pl; omega
      have ecast : (((pl x y).toNat : Nat) : Int) = pl x y := by omega
      have hOt : OpA t := fun l l0 l1 c c0 c1 => by
        rw [BL_eq e34, t1 19 (by decide) (by decide)]
        exact hOpA l l0 l1 c c0 c1
      have hnf : ¬ frS s (pl x y) := by
        unfold frS
        rw [pl_x (by omega), pl_y (by omega)]
        exact fun z => z ⟨x0, x1, y0, y1⟩
      have hwi : s 3 0 (y * 10 + x) = wiP s (pl x y) := by
        unfold wiP
        rw [pl_x (by omega), pl_y (by omega), hR.2.2.2.2.1 (y * 10 + x) (by omega) (by omega), show y * 10 + x = 10 * y + x by omega]
      have hwr : 0 ≤ wiP s (pl x y) ∧ wiP s (pl x y) ≤ 4 := by
        have := hIs.1.2.2.1 (10 * y + x) (by omega) (by omega)
        unfold wiP
        rw [pl_x (by omega), pl_y (by omega)]
        exact this
      have hm := mskP_rng (m := s) (p := pl x y)
      refine gS_judgePicture_61 y x t ⟨fun z => absurd z (by rw [t1 1 (by decide) (by decide), hR.1]; omega), fun _ => sS_placeOf (by omega) (by omega) ⟨_, rfl, sS_openLayers hOt hpl ⟨_, rfl, gH_wishAt_0 0 x y t ⟨⟨by omega, by omega⟩, ⟨by omega, by omega⟩, by omega, ?_⟩⟩⟩⟩
      rw [mskP_eq e34, t1 3 (by decide) (by decide), hwi]
      refine ⟨_, rfl, ?_⟩
      generalize hMM : mskP s (pl x y) = M at *
      generalize hWW : wiP s (pl x y) = w at *
      have hb := cP_rng (P := fun p => ¬ frS s p ∧ mskP s p = M ∧ wiP s p = w) (pl x y).toNat
      have hb2 := cP_rng (P := fun p => ¬ frS s p) (pl x y).toNat
      have gg := @gI_addCell_0 (fun _ m4 => (Rng (x + 1) ∧ WP cS_judgePicture 61 [.inr (0, 0), .inl y, .inl (x + 1)] [] m4 Q)) M w t
      rw [t2 M w hm.1 hm.2 hwr.1 hwr.2] at gg
      have e261 : ∀ v, (mset t 27 0 (M * 5 + w) v) 26 0 1 = cP (fun p => ¬ frS s p) (pl x y).toNat := fun v => by rw [mset_k (by decide)]; exact t3
      rw [e261] at gg
      refine gg ⟨⟨by omega, by omega⟩, ⟨by omega, by omega⟩, by omega, ⟨by omega, by omega⟩, by omega, ⟨by omega, by omega⟩, ⟨by omega, by omega⟩, hN _ ⟨fun q q1 q2 => by rw [mset_k q1, mset_k q2]; exact t1 q q1 q2, fun M' w' M0' M1' w0' w1' => ?_, ?_⟩⟩
      · rw [mset_k (by decide), mset_i, epl]
        by_cases e : M' = M ∧ w' = w
        · rw [if_pos (by rw [e.1, e.2]), cP_yes (by rw [ecast, e.1, e.2]; exact ⟨hnf, hMM, hWW⟩), e.1, e.2]
        · rw [if_neg (by omega), cP_no (by rw [ecast]; exact fun z => e ⟨z.2.1.symm.trans hMM, z.2.2.symm.trans hWW⟩)]
          exact t2 M' w' M0' M1' w0' w1'
      · rw [mset_i, if_pos rfl, epl, cP_yes (P := fun p => ¬ frS s p) (by rw [ecast]; exact hnf)]
    · rw [mset_k (by decide), a3 _ (by omega) (by omega), row_0 (hfrT M w)]
    · rw [mset_i, if_pos rfl, row_0 hfrC]
  · rintro k s k0 k1 ⟨cf, hIs, hfl⟩ hN
    refine gS_judgePicture_13 k s ⟨fun z => by omega, fun _ => ⟨by omega, iL_bridged hIs (by omega) (fun m1 f1 hI1 h3 hk _ _ _ => ⟨k, rfl, ⟨by omega, by omega⟩, hN m1 ⟨cf.trans f1, hI1, fun l l0 l1 => ?_⟩⟩)⟩⟩
    by_cases e : l = k
    · rw [e]; exact h3
    · exact hk l (hfl l l0 (by omega))
theorem sS_paint {Q : AV → Mem → Prop} {x y : Int} {m : Mem} (hI : Inv m) (h : ∀ m', CF m m' → Inv m' → Q (.inl (ansPaint m x y)) m') : WP cS_paint 0 [.inr (0, 0), .inl x, .inl y] [] m Q := by
  have h0 := h m (CF.refl m) hI
  have hw := hI.1.mw
  unfold ansPaint at h h0
  refine gS_paint_0 x y m (sH_hasCell hw hI.1.crel (fun c => ⟨1, rfl, fun _ => ?_, fun z => absurd (by omega) z⟩) (fun c => ⟨0, rfl, fun z => absurd rfl z, fun _ => by rw [cif_neg c] at h0; exact h0⟩))
  rw [cif_pos c] at h
  have hq := inS_pl hw c
  have c' := c
  obtain ⟨w1, w2, w3, w4⟩ := hw
  unfold inS at c'
  refine iS_judge hI (fun m1 f1 hI1 hP => ?_)
  have e34 : m1 34 = m 34 := f1 34 (by omega)
  have h := h m1 f1 hI1
  have hord : isOrd (bstA m).2.2 := bstA_ord
  refine sS_placeOf (by omega) (by omega) ⟨_, rfl, sS_openLayers (hI1.opA hP.1) (by omega) ⟨_, rfl, ?_⟩⟩
  rw [hP.2.2.1, bstA_eq e34, mskP_eq e34]
  refine sI_colourOf hord mskP_rng ⟨_, rfl, ?_⟩
  rw [colM_colO hord]
  exact h
theorem sS_wrong {Q : AV → Mem → Prop} {o : Int} {m : Mem} (hI : Inv m) (h : ∀ m', CF m m' → Inv m' → Q (.inl (ansWrong m o)) m') : WP cS_wrong 0 [.inr (0, 0), .inl o] [] m Q := by
  have h0 := h m (CF.refl m) hI
  unfold ansWrong at h h0
  refine gS_wrong_0 o m (sS_isOrder (fun c => ⟨1, rfl, fun _ => ?_, fun z => absurd (by omega) z⟩) (fun c => ⟨0, rfl, fun z => absurd rfl z, fun _ => by rw [cif_neg c] at h0; exact h0⟩))
  rw [cif_pos c] at h
  refine iS_judge hI (fun m1 f1 hI1 hP => sI_wrongBy hP.2.1 c ⟨_, rfl, ?_⟩)
  rw [wrnO_eq (f1 34 (by omega))]
  exact h m1 f1 hI1
theorem sS_best {Q : AV → Mem → Prop} {w : Int} {m : Mem} (hI : Inv m) (h : ∀ m', CF m m' → Inv m' → Q (.inl (ansBest m w)) m') : WP cS_best 0 [.inr (0, 0), .inl w] [] m Q := by
  have h0 := h m (CF.refl m) hI
  unfold ansBest at h h0
  refine gS_best_0 w m (sS_isWithin (fun c => ⟨1, rfl, fun _ => ?_, fun z => absurd (by omega) z⟩) (fun c => ⟨0, rfl, fun z => absurd rfl z, fun _ => by rw [cif_neg c] at h0; exact h0⟩))
  rw [cif_pos c] at h
  refine iS_judge hI (fun m1 f1 hI1 hP => ?_)
  have h := h m1 f1 hI1
  obtain ⟨-, -, p2, p3, p4⟩ := hP
  rw [bstA_eq (f1 34 (by omega))] at p2 p3 p4
  refine ⟨fun z => ?_, fun z => ⟨fun z1 => ?_, fun z1 => ?_⟩⟩
  · rw [if_pos z] at h; rw [p2]; exact h
  · rw [if_neg z, if_pos z1] at h; rw [p3]; exact h
  · rw [if_neg z, if_neg z1] at h; rw [p4]; exact h
theorem sS_openCellsOfAll {Q : AV → Mem → Prop} {m : Mem} (hS : Sh m) (h : Q (.inl (sumN (fun l => cutN m l) 4)) m) : WP cS_openCellsOfAll 0 [.inr (0, 0), uu, uu] [] m Q := by
  refine gS_openCellsOfAll_0 m ?_
  refine loopU (σ := Int) (N := 4) (G := fun (k : Int) (s : Int) => WP cS_openCellsOfAll 4 [.inr (0, 0), .inl s, .inl k] [] m Q) (I := fun (k : Int) (s : Int) => s = sumN (fun l => cutN m l) k.toNat) ?_ ?_ 0 0 (Int.le_refl 0) (by omega) rfl
  · intro s hs
    refine gS_openCellsOfAll_4 s _ m ⟨fun _ => ?_, fun z => absurd (by omega) z⟩
    rw [hs]; exact h
  · intro k s k0 k1 hs hN
    have hb := sumN_bnd (g := fun l => cutN m l) (c := 100) k.toNat (fun j j0 j1 => cutN_rng hS.m01 (by omega))
    have hc := cutN_rng hS.m01 (l := k) (by omega)
    exact gS_openCellsOfAll_4 s k m ⟨fun z => by omega, fun _ => sH_openCells hS (by omega) ⟨_, rfl, ⟨by omega, by omega⟩, ⟨by omega, by omega⟩, hN _ (by rw [sumN_suc k0, hs])⟩⟩
theorem sS_looseLayers {Q : AV → Mem → Prop} {m : Mem} (hI : Inv m) (h : ∀ m', CF m m' → Inv m' → Q (.inl (sumN (fun l => if looL m l ≤ 0 then 0 else 1) 4)) m') : WP cS_looseLayers 0 [.inr (0, 0), uu, uu] [] m Q := by
  refine gS_looseLayers_0 m ?_
  refine loopU (σ := Mem × Int) (N := 4) (G := fun (k : Int) (s : Mem × Int) => WP cS_looseLayers 4 [.inr (0, 0), .inl s.2, .inl k] [] s.1 Q) (I := fun (k : Int) (s : Mem × Int) => CF m s.1 ∧ Inv s.1 ∧ s.2 = sumN (fun l => if looL m l ≤ 0 then 0 else 1) k.toNat) ?_ ?_ 0 (m, 0) (Int.le_refl 0) (by omega) ⟨CF.refl m, hI, rfl⟩
  · rintro ⟨s, v⟩ ⟨h1, h2, h3⟩
    dsimp only at h1 h2 h3 ⊢
    refine gS_looseLayers_4 v _ s ⟨fun _ => ?_, fun z => absurd (by omega) z⟩
    rw [h3]; exact h s h1 h2
  · rintro k ⟨s, v⟩ k0 k1 ⟨h1, h2, h3⟩ hN
    dsimp only at h1 h2 h3 hN ⊢
    have e34 : s 34 = m 34 := h1 34 (by omega)
    have hb := sumN_01 (f := fun l => if looL m l ≤ 0 then 0 else 1) k.toNat (fun j _ _ => by split <;> omega)
    refine gS_looseLayers_4 v k s ⟨fun z => by omega, fun _ => ⟨by omega, iL_bridged h2 (by omega) (fun m1 f1 hI1 _ _ _ _ hB => ⟨k, rfl, sB_looseIslands (h2.few k) OM_0 hB ⟨_, rfl, ?_⟩⟩)⟩⟩
    rw [OM_eq e34]
    refine ⟨fun z => ⟨⟨by omega, by omega⟩, hN (m1, v) ⟨h1.trans f1, hI1, ?_⟩⟩, fun z => ⟨⟨by omega, by omega⟩, ⟨by omega, by omega⟩, hN (m1, v + 1) ⟨h1.trans f1, hI1, ?_⟩⟩⟩
    · rw [sumN_suc k0, if_pos (show looL m k ≤ 0 from z), Int.add_zero]; exact h3
    · rw [sumN_suc k0, if_neg (show ¬ looL m k ≤ 0 from z)]
      show v + 1 = _
      rw [h3]
theorem sS_count {Q : AV → Mem → Prop} {w : Int} {m : Mem} (hI : Inv m) (h : ∀ m', CF m m' → Inv m' → Q (.inl (ansCount m w)) m') : WP cS_count 0 [.inr (0, 0), .inl w] [] m Q := by
  have h0 := h m (CF.refl m) hI
  unfold ansCount at h h0
  have hR := hI.1.crel
  refine gS_count_0 w m ⟨fun z => ?_, fun z => ⟨fun z1 => ?_, fun z1 => ⟨fun z2 => ?_, fun z2 => ⟨fun z3 => ?_, fun z3 => ⟨fun z4 => ?_, fun z4 => ⟨fun z5 => ?_, fun z5 => ?_⟩⟩⟩⟩⟩⟩
  · rw [if_pos z, ← hR.1] at h0; exact h0
  · rw [if_neg z, if_pos z1, ← hR.2.1] at h0; exact h0
  · rw [if_neg z, if_neg z1, if_pos z2] at h0; exact sS_openCellsOfAll hI.1 ⟨_, rfl, h0⟩
  · rw [if_neg z, if_neg z1, if_neg z2, if_pos z3] at h0; exact sH_wishedCells hI.1 ⟨_, rfl, h0⟩
  · rw [if_neg z, if_neg z1, if_neg z2, if_neg z3, if_pos z4] at h; exact sS_looseLayers hI (fun m' a b => ⟨_, rfl, h m' a b⟩)
  · rw [if_neg z, if_neg z1, if_neg z2, if_neg z3, if_neg z4, if_pos z5] at h0
    obtain ⟨⟨i0, i1⟩, hk⟩ := hI.2.1
    have e0 : (if m 36 0 0 = 0 then (0 : Int) else 1) = bt (m 0 0 4) 0 := by
      rcases hk 0 (by omega) (by omega) with ⟨a, b⟩ | ⟨a, b, -⟩
      · rw [if_pos a, b]
      · rw [if_neg (by omega), b]
    have e1 : (if m 36 0 1 = 0 then (0 : Int) else 2) = 2 * bt (m 0 0 4) 1 := by
      rcases hk 1 (by omega) (by omega) with ⟨a, b⟩ | ⟨a, b, -⟩
      · rw [if_pos a, b]; rfl
      · rw [if_neg (by omega), b]; rfl
    rw [e0, e1, bt_0, bt_1, show m 0 0 4 % 2 + 2 * (m 0 0 4 / 2 % 2) = m 0 0 4 by omega] at h0
    exact h0
  · rw [if_neg z, if_neg z1, if_neg z2, if_neg z3, if_neg z4, if_neg z5] at h0; exact h0
