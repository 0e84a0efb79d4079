/-! What the model says of a layer. -/
theorem sumN_suc {g : Int → Int} {k : Int} (h : 0 ≤ k) : sumN g (k + 1).toNat = sumN g k.toNat + g k := by
  rw [show (k + 1).toNat = k.toNat + 1 by omega]
  show sumN g k.toNat + g ((k.toNat : Nat) : Int) = _
  rw [show ((k.toNat : Nat) : Int) = k by omega]
theorem sumN_bnd {g : Int → Int} {c : Int} : ∀ n : Nat, (∀ k : Int, 0 ≤ k → k < (n : Int) → 0 ≤ g k ∧ g k ≤ c) → 0 ≤ sumN g n ∧ sumN g n ≤ c * (n : Int)
  | 0, _ => ⟨by simp [sumN], by simp [sumN]⟩
  | n + 1, h => by
    have ih := sumN_bnd n (fun k k0 k1 => h k k0 (by omega))
    have h2 := h (n : Int) (by omega) (by omega)
    simp only [sumN]
    have : c * ((n + 1 : Nat) : Int) = c * (n : Int) + c := by rw [show ((n + 1 : Nat) : Int) = (n : Int) + 1 by omega, Int.mul_add, Int.mul_one]
    omega
/-- a sum over ranks is a sum over what is counted -/
theorem rank_sum {P : Int → Prop} {val v : Int → Int} : ∀ n : Nat, (∀ k : Int, 0 ≤ k → k < (n : Int) → P k → val (cP P k.toNat) = v k) → sumN val (cP P n).toNat = sumN (fun k => @ite _ (P k) (Classical.propDecidable _) (v k) 0) n
  | 0, _ => rfl
  | n + 1, h => by
    have ih := rank_sum n (fun k k0 k1 => h k k0 (by omega))
    have r0 := (cP_rng (P := P) n).1
    by_cases c : P (n : Int)
    · have h2 := h (n : Int) (by omega) (by omega) c
      rw [Int.toNat_natCast] at h2
      rw [cP_yes c, sumN_suc r0, ih, h2]
      simp only [sumN]
      rw [if_pos c]
    · rw [cP_no c, ih]
      simp only [sumN]
      rw [if_neg c, Int.add_zero]
def MAll (m : Mem) (l : Int) : Prop := MRn m l (labC (OM m l)) ∧ MBr m l (labC (OM m l)) (brS (OM m l) (labC (OM m l)) 3168)
def mf1 (m m' : Mem) : Prop := (∀ q, q ≠ 33 → q < 37 ∨ 48 < q → m' q = m q) ∧ ∀ j, j ≠ 6 → j ≠ 7 → j ≠ 14 → j ≠ 18 → m' 33 0 j = m 33 0 j
theorem sM_layBridges {Q : AV → Mem → Prop} {l : Int} {m : Mem} (hw : MW m) (hl : 0 ≤ l ∧ l ≤ 3) (h : ∀ m' : Mem, mf1 m m' → MAll m' l → Q (.inl 0) m') : WP cM_layBridges 0 [.inr (33, 0), .inl l, uu] [] m Q := by
  refine gM_layBridges_0 l m (sM_layRuns hw hl (fun m1 f f1 jj hR1 => ?_))
  have e34 : m1 34 = m 34 := f1 34 (by decide) (by decide) (by decide) (by decide) (by decide) (by decide) (by decide) (by decide) (by decide) (by decide)
  have hw1 : MW m1 := by rw [MW_eq e34]; exact hw
  have h100 : 0 ≤ m1 33 0 6 ∧ m1 33 0 6 ≤ 100 := by
    rw [hR1.1.2.2.1]
    exact ⟨(cP_rng _).1, IR_few (IR_cell hw1 hR1.1.1)⟩
  refine sM_untie h100 (fun m2 f2 t2 => ?_)
  refine loopU (σ := Mem) (N := 100) (G := fun (k : Int) (s : Mem) => WP cM_layBridges 16 [.inr (33, 0), .inl l, .inl k] [] s Q) (I := fun (k : Int) (s : Mem) => (∀ q, q ≠ 33 → q ≠ 48 → s q = m2 q) ∧ (∀ j, j ≠ 18 → s 33 0 j = m2 33 0 j) ∧ s 33 0 18 = 0 ∧ ∀ i, 0 ≤ i → i < k → s 48 0 i = -6) ?_ ?_ 0 _ (Int.le_refl 0) (by omega) ⟨fun q q1 _ => mset_k q1, fun j j1 => by rw [mset_i, if_neg j1], mset_at, fun i i0 i1 => by omega⟩
  · rintro s ⟨g1, g2, g3, g4⟩
    refine gM_layBridges_16 l _ s ⟨fun _ => ?_, fun z => absurd (by omega) z⟩
    have e34s : s 34 = m1 34 := by rw [g1 34 (by decide) (by decide)]; exact f2 34 (by decide)
    have hws : MW s := by rw [MW_eq e34s]; exact hw1
    have g37 : ∀ q, 37 ≤ q → q ≤ 45 → s q = m1 q := fun q q0 q1 => by rw [g1 q (by omega) (by omega)]; exact f2 q (by omega)
    have g33 : ∀ j, j ≠ 18 → s 33 0 j = m1 33 0 j := fun j j1 => by rw [g2 j j1, f2 33 (by decide)]
    have hRs : MRn s l f := (MRn_eq e34s g37 (g33 6 (by decide)) (g33 7 (by decide)) (g33 14 (by decide))).mpr hR1
    have hfc := labC_eq hRs.1.1 hRs.1.2.2.2.2
    refine sM_layBridges_38 hws hl hRs ⟨TieOK.init hRs.1.1 (fun a a0 a1 => ?_), fun x y hxy => ?_, g3, fun b b0 b1 => absurd b1 (by show ¬ b < 0; omega)⟩ (fun m3 f3 hB3 => h m3 ⟨fun q q1 q2 => ?_, fun j j1 j2 j3 j4 => ?_⟩ ?_)
    · rw [g1 46 (by decide) (by decide)]
      refine t2 a a0 ?_
      rw [hR1.1.2.2.1, ← OM_eq e34s]
      exact a1
    · have hxy' := hxy
      obtain ⟨w1, w2, w3, w4⟩ := hws
      unfold inS at hxy'
      exact g4 _ (by omega) (by omega)
    · rw [f3.1 q q1 (by omega) (by omega) (by omega), g1 q q1 (by omega), f2 q (by omega)]
      exact f1 q q1 (by omega) (by omega) (by omega) (by omega) (by omega) (by omega) (by omega) (by omega) (by omega)
    · rw [f3.2 j j4, g2 j j4, f2 33 (by decide)]
      exact jj j j1 j2 j3
    · have e34m : m3 34 = s 34 := f3.1 34 (by decide) (by decide) (by decide) (by decide)
      have hR3 := f3.rn hRs
      unfold MAll
      rw [OM_eq e34m, ← hfc]
      exact ⟨hR3, hB3⟩
  · rintro k s k0 k1 ⟨g1, g2, g3, g4⟩ hN
    refine gM_layBridges_16 l k s ⟨fun z => by omega, fun _ => ⟨by omega, ⟨by omega, by omega⟩, hN _ ⟨fun q q1 q2 => by rw [mset_k q2]; exact g1 q q1 q2, fun j j1 => by rw [mset_k (by decide)]; exact g2 j j1, by rw [mset_k (by decide)]; exact g3, fun i i0 i1 => ?_⟩⟩⟩
    rw [mset_i]
    split
    · rfl
    · exact g4 i i0 (by omega)
theorem lbS_ok {O : Int → Prop} (f : Int → Int) (hC : Cel O) : ∀ T : Nat, 0 ≤ (lbS O f T).2 ∧ (lbS O f T).2 ≤ 10 * cP (RK O f) T
  | 0 => ⟨Int.le_refl 0, by simp [lbS, cP, sumN]⟩
  | T + 1 => by
    have ih := lbS_ok f hC T
    have hm := cP_mono (P := RK O f) (show T ≤ T + 1 by omega)
    by_cases c : RK O f (T : Int) ∧ ¬ (lbS O f T).1 (eB f (T : Int)) (eA f (T : Int))
    · rw [lbS_yes c, cP_yes c.1]
      have := run_geo hC c.1
      show 0 ≤ (lbS O f T).2 + (T : Int) / 288 ∧ (lbS O f T).2 + (T : Int) / 288 ≤ _
      omega
    · rw [lbS_no c]
      omega
set_option maxHeartbeats 1000000 in
theorem sM_least {Q : AV → Mem → Prop} {l : Int} {f : Int → Int} {m : Mem} (hw : MW m) (hR : MRn m l f) (h : ∀ m', (∀ q, q ≠ 46 → m' q = m q) → Q (.inl (lbS (OM m l) f 3168).2) m') : WP cM_least 0 [.inr (33, 0), uu, uu] [] m Q := by
  have c0 := (cP_rng (P := RK (OM m l) f) 3168).1
  have h100 : 0 ≤ m 33 0 6 ∧ m 33 0 6 ≤ 100 := by
    rw [hR.1.2.2.1]
    exact ⟨(cP_rng _).1, IR_few (IR_cell hw hR.1.1)⟩
  refine gM_least_0 m (sM_untie h100 (fun m2 f2 t2 => ?_))
  generalize hO : OM m l = O at *
  refine loopU (σ := Mem × Int) (N := cP (RK O f) 3168) (G := fun (k : Int) (s : Mem × Int) => WP cM_least 8 [.inr (33, 0), .inl s.2, .inl k] [] s.1 Q) (I := fun (k : Int) (s : Mem × Int) => (∀ q, q ≠ 46 → s.1 q = m q) ∧ ∃ T : Nat, T ≤ 3168 ∧ cP (RK O f) T = k ∧ TieOK O f (s.1 46 0) (lbS O f T).1 ∧ s.2 = (lbS O f T).2) ?_ ?_ 0 (m2, 0) (Int.le_refl 0) c0 ⟨f2, 0, by omega, rfl, TieOK.init (by rw [← hO]; exact hR.1.1) (fun a a0 a1 => t2 a a0 (by rw [hR.1.2.2.1, hO]; exact a1)), rfl⟩
  · rintro ⟨s, v⟩ ⟨hf, T, T1, T2, T3, T4⟩
    dsimp only at hf T3 T4 ⊢
    have hRs : MRn s l f := (MRn_eq (hf 34 (by decide)) (fun q q0 q1 => hf q (by omega)) (by rw [hf 33 (by decide)]) (by rw [hf 33 (by decide)]) (by rw [hf 33 (by decide)])).mpr hR
    have hOs : OM s l = O := by rw [OM_eq (hf 34 (by decide)), hO]
    obtain ⟨j, ej, hj⟩ := rank_end T1 T2
    refine gM_least_8 v _ s ⟨fun _ => ?_, fun z => absurd (by rw [hRs.2.1, hOs]; exact Int.le_refl _) z⟩
    have := h s hf
    rw [ej, lbS_skip j T hj, ← T4] at this
    exact this
  · rintro r ⟨s, v⟩ r0 r1 ⟨hf, T, T1, T2, T3, T4⟩ hN
    dsimp only at hf T3 T4 hN ⊢
    have hRs : MRn s l f := (MRn_eq (hf 34 (by decide)) (fun q q0 q1 => hf q (by omega)) (by rw [hf 33 (by decide)]) (by rw [hf 33 (by decide)]) (by rw [hf 33 (by decide)])).mpr hR
    have e34 : s 34 = m 34 := hf 34 (by decide)
    have hOs : OM s l = O := by rw [OM_eq e34, hO]
    have hws : MW s := by rw [MW_eq e34]; exact hw
    have hC : Cel O := by rw [← hO]; exact OM_cel hw
    obtain ⟨k, k1, k2, k3, k4, j, ej, hj⟩ := rank_step r0 r1 T2
    have eS : lbS O f k = lbS O f T := by rw [ej]; exact lbS_skip j T hj
    rw [← eS] at T3 T4
    have k2' : RK (OM s l) f (k : Int) := by rw [hOs]; exact k2
    have hat := hRs.at hws (k := (k : Int)) (by omega) (by omega) k2'
    rw [Int.toNat_natCast, hOs, k3] at hat
    obtain ⟨⟨u1, u2, u3, u4, u5, u6⟩, hr, hp1, hp2, h100⟩ := hat
    have hgeo := run_geo (OM_cel hws) k2'
    have hTk := T3 _ _ hgeo.2.2.2.1.1 hgeo.2.2.2.1.2 hgeo.2.2.2.2.1.1 hgeo.2.2.2.2.1.2 (by rw [← hOs]; exact k2'.1.2.1) (by rw [← hOs]; exact k2'.1.2.2.2)
    have hbd := lbS_ok f hC k
    have hfew := RK_few (f := f) hC k
    refine gM_least_8 v r s ⟨fun z => absurd z (by rw [hRs.2.1, hOs]; omega), fun _ => ⟨hr, ?_⟩⟩
    rw [u5, u6]
    refine ⟨by omega, hr, by omega, fun z => ⟨⟨by omega, by omega⟩, hN (s, v) ⟨hf, k + 1, by omega, k4, ?_⟩⟩, fun z => ⟨hr, hr, sM_tieBoth (by omega) (by omega) (by omega) (fun s1 f1 t1 => ⟨hr, ?_⟩)⟩⟩
    · rw [lbS_no (fun y => y.2 (hTk.mp z))]
      exact ⟨T3, T4⟩
    · have hy : RK O f (k : Int) ∧ ¬ (lbS O f k).1 (eB f (k : Int)) (eA f (k : Int)) := ⟨k2, fun y => z (hTk.mpr y)⟩
      rw [f1 42 (by decide), u3]
      refine ⟨⟨by omega, by omega⟩, ⟨by omega, by omega⟩, hN (s1, v + (k : Int) / 288) ⟨fun q hq => (f1 q hq).trans (hf q hq), k + 1, by omega, k4, ?_⟩⟩
      rw [lbS_yes hy]
      refine ⟨?_, by rw [← T4]⟩
      have := tie_step (m' := s1) hRs hws k2' (by rw [hOs]; exact T3) (by rw [hOs]; exact z) (by rw [hOs]; exact t1)
      rw [hOs] at this
      exact this
