/-! The model lays its bridges. -/
def MBr (m : Mem) (l : Int) (f : Int → Int) (S : BS) : Prop := TieOK (OM m l) f (m 46 0) S.1 ∧ (∀ x y, inS m x y → m 48 0 (10 * y + x) = S.2.1 (pl x y)) ∧ m 33 0 18 = S.2.2.1 ∧ ∀ b, 0 ≤ b → b < S.2.2.1 → m 47 0 b = cP (RK (OM m l) f) (S.2.2.2 b).toNat
theorem MBr_eq {m m' : Mem} {l : Int} {f : Int → Int} {S : BS} (h34 : m' 34 = m 34) (h46 : m' 46 = m 46) (h47 : m' 47 = m 47) (h48 : m' 48 = m 48) (h18 : m' 33 0 18 = m 33 0 18) : MBr m' l f S ↔ MBr m l f S := by
  unfold MBr
  rw [OM_eq h34, inS_eq h34, h46, h47, h48, h18]
/-- the run of a key, as the model's rows have it -/
theorem MRn.at {m : Mem} {l : Int} {f : Int → Int} (hR : MRn m l f) (hw : MW m) {k : Int} (k0 : 0 ≤ k) (k1 : k < 3168) (hk : RK (OM m l) f k) : RunAt m (OM m l) f k (cP (RK (OM m l) f) k.toNat) ∧ (0 ≤ cP (RK (OM m l) f) k.toNat ∧ cP (RK (OM m l) f) k.toNat < 100) ∧ (0 ≤ PN (OM m l) f (k % 144 - stp (k / 144 % 2)) ∧ PN (OM m l) f (k % 144 - stp (k / 144 % 2)) ≤ m 33 0 6) ∧ (0 ≤ PN (OM m l) f (k % 144 + k / 288 * stp (k / 144 % 2)) ∧ PN (OM m l) f (k % 144 + k / 288 * stp (k / 144 % 2)) ≤ m 33 0 6) ∧ m 33 0 6 ≤ 100 := by
  have g := run_geo (OM_cel hw) hk
  have h1 := cP_lt (P := RK (OM m l) f) (a := k.toNat) (b := 3168) (by omega) (by rw [show ((k.toNat : Nat) : Int) = k by omega]; exact hk)
  have h2 := RK_few (f := f) (OM_cel (l := l) hw) 3168
  have h3 := (cP_rng (P := RK (OM m l) f) k.toNat).1
  rw [hR.1.2.2.1]
  exact ⟨hR.2.2 k k0 k1 hk, ⟨h3, by omega⟩, PN_rng hR.1.1 g.2.2.2.1 hk.1.2.1, PN_rng hR.1.1 g.2.2.2.2.1 hk.1.2.2.2, IR_few (IR_cell hw hR.1.1)⟩
theorem tie_step {m m' : Mem} {l : Int} {f : Int → Int} {R : Int → Int → Prop} (hR : MRn m l f) (hw : MW m) {k : Int} (hk : RK (OM m l) f k) (hT : TieOK (OM m l) f (m 46 0) R) (hne : m 46 0 (PN (OM m l) f (k % 144 - stp (k / 144 % 2))) ≠ m 46 0 (PN (OM m l) f (k % 144 + k / 288 * stp (k / 144 % 2)))) (h : ∀ c, 0 ≤ c → c ≤ m 33 0 6 → m' 46 0 c = if m 46 0 c = m 46 0 (PN (OM m l) f (k % 144 - stp (k / 144 % 2))) then m 46 0 (PN (OM m l) f (k % 144 + k / 288 * stp (k / 144 % 2))) else m 46 0 c) : TieOK (OM m l) f (m' 46 0) (tieR R (eB f k) (eA f k)) := by
  have g := run_geo (OM_cel hw) hk
  have := TieOK.tie hR.1.1 (u := k % 144 - stp (k / 144 % 2)) (v := k % 144 + k / 288 * stp (k / 144 % 2)) (t := m 46 0) (R := R) hT g.2.2.2.1 g.2.2.2.2.1 hk.1.2.1 hk.1.2.2.2 hne (t' := m' 46 0) (fun c c0 c1 => h c c0 (by rw [hR.1.2.2.1]; exact c1))
  exact this
theorem rank_step {P : Int → Prop} {N T : Nat} {r : Int} (h0 : 0 ≤ r) (hr : r < cP P N) (hT : cP P T = r) : ∃ k : Nat, k < N ∧ P (k : Int) ∧ cP P k = r ∧ cP P (k + 1) = r + 1 ∧ ∃ j, k = T + j ∧ ∀ p : Int, (T : Int) ≤ p → p < ((T + j : Nat) : Int) → ¬ P p := by
  obtain ⟨k, k1, k2, k3⟩ := cP_hit N h0 hr
  obtain ⟨n1, n2⟩ := cP_next (hT.trans k3.symm) k2
  exact ⟨k, k1, k2, k3, by rw [cP_yes k2, k3], k - T, by omega, fun p p0 p1 => n2 p p0 (by omega)⟩
theorem rank_end {P : Int → Prop} {N T : Nat} (hT : T ≤ N) (h : cP P T = cP P N) : ∃ j, N = T + j ∧ ∀ p : Int, (T : Int) ≤ p → p < ((T + j : Nat) : Int) → ¬ P p := by
  refine ⟨N - T, by omega, fun p p0 p1 hp => ?_⟩
  have h1 := cP_lt (P := P) (a := p.toNat) (b := N) (by omega) (by rw [show ((p.toNat : Nat) : Int) = p by omega]; exact hp)
  have h2 := cP_mono (P := P) (show T ≤ p.toNat by omega)
  omega
def mfr (m s : Mem) : Prop := (∀ q, q ≠ 33 → q ≠ 46 → q ≠ 47 → q ≠ 48 → s q = m q) ∧ ∀ j, j ≠ 18 → s 33 0 j = m 33 0 j
theorem mfr.rn {m s : Mem} {l : Int} {f : Int → Int} (h : mfr m s) (hR : MRn m l f) : MRn s l f :=
  (MRn_eq (h.1 34 (by decide) (by decide) (by decide) (by decide)) (fun q q0 q1 => h.1 q (by omega) (by omega) (by omega) (by omega)) (h.2 6 (by decide)) (h.2 7 (by decide)) (h.2 14 (by decide))).mpr hR
set_option maxHeartbeats 1000000 in
theorem sM_layBridges_38 {Q : AV → Mem → Prop} {l : Int} {f : Int → Int} {m : Mem} (hw : MW m) (hl : 0 ≤ l ∧ l ≤ 3) (hR : MRn m l f) (hB : MBr m l f (brS (OM m l) f 0)) (h : ∀ m', mfr m m' → MBr m' l f (brS (OM m l) f 3168) → Q (.inl 0) m') : WP cM_layBridges 38 [.inr (33, 0), .inl l, .inl 0] [] m Q := by
  have c0 := (cP_rng (P := RK (OM m l) f) 3168).1
  generalize hO : OM m l = O at *
  refine loopU (σ := Mem) (N := cP (RK O f) 3168) (G := fun (k : Int) (s : Mem) => WP cM_layBridges 38 [.inr (33, 0), .inl l, .inl k] [] s Q) (I := fun (k : Int) (s : Mem) => mfr m s ∧ ∃ T : Nat, T ≤ 3168 ∧ cP (RK O f) T = k ∧ MBr s l f (brS O f T)) ?_ ?_ 0 m (Int.le_refl 0) c0 ⟨⟨fun _ _ _ _ _ => rfl, fun _ _ => rfl⟩, 0, by omega, rfl, hB⟩
  · rintro s ⟨hf, T, T1, T2, hs⟩
    have hRs := hf.rn hR
    have e34 : s 34 = m 34 := hf.1 34 (by decide) (by decide) (by decide) (by decide)
    have hOs : OM s l = O := by rw [OM_eq e34, hO]
    obtain ⟨j, ej, hj⟩ := rank_end T1 T2
    refine gM_layBridges_38 l _ s ⟨fun _ => h s hf ?_, fun z => absurd (by rw [hRs.2.1, hOs]; exact Int.le_refl _) z⟩
    rw [ej, brS_skip j T hj]
    exact hs
  · rintro r s r0 r1 ⟨hf, T, T1, T2, hs⟩ hN
    have hRs := hf.rn hR
    have e34 : s 34 = m 34 := hf.1 34 (by decide) (by decide) (by decide) (by decide)
    have hOs : OM s l = O := by rw [OM_eq e34, hO]
    have hws : MW s := by rw [MW_eq e34]; exact hw
    obtain ⟨k, k1, k2, k3, k4, j, ej, hj⟩ := rank_step r0 r1 T2
    have eS : brS O f k = brS O f T := by rw [ej]; exact brS_skip j T hj
    rw [← eS] at hs
    have k2' : RK (OM s l) f (k : Int) := by rw [hOs]; exact k2
    have hat := hRs.at hws (k := (k : Int)) (by omega) (by omega) k2'
    rw [Int.toNat_natCast, hOs, k3] at hat
    obtain ⟨⟨u1, u2, u3, u4, u5, u6⟩, hr, hp1, hp2, h100⟩ := hat
    have hgeo := run_geo (OM_cel hws) k2'
    have hok := brS_ok O f k
    have hRN : MRn s l f := hRs
    obtain ⟨b1, b2, b3, b4⟩ := hs
    rw [hOs] at b1
    have hTk := b1 _ _ hgeo.2.2.2.1.1 hgeo.2.2.2.1.2 hgeo.2.2.2.2.1.1 hgeo.2.2.2.2.1.2 (by rw [← hOs]; exact k2'.1.2.1) (by rw [← hOs]; exact k2'.1.2.2.2)
    have hno : ¬ Sel O f (brS O f k) (k : Int) → WP cM_layBridges 38 [.inr (33, 0), .inl l, .inl (r + 1)] [] s Q := fun z =>
      hN s ⟨hf, k + 1, by omega, k4, by rw [brS_no z]; exact ⟨by rw [hOs]; exact b1, b2, b3, b4⟩⟩
    have hin := run_in hws k2'
    have hA : AtRun s r ((k : Int) % 144 % 12 - 1) ((k : Int) % 144 / 12 - 1) ((k : Int) / 288) ((k : Int) / 144 % 2) := ⟨u1, u2, u3, u4⟩
    have hfew := RK_few (f := f) (O := O) (by rw [← hO]; exact OM_cel hw) 3168
    refine gM_layBridges_38 l r s ⟨fun z => absurd z (by rw [hRs.2.1, hOs]; omega), fun _ => ⟨hr, ?_⟩⟩
    rw [u5, u6]
    refine ⟨by omega, hr, by omega, fun z => ⟨⟨by omega, by omega⟩, hno (fun y => y.2.1 (hTk.mp z))⟩, fun z => ?_⟩
    have hB48 : ∀ x y, inS s x y → s 48 0 (10 * y + x) = (brS O f k).2.1 (pl x y) := b2
    have hfrB : ∀ p, frS s p → (brS O f k).2.1 p < 0 := fun p hp => by
      rcases hok.2.1 p with e | ⟨-, -, e⟩
      · omega
      · exact absurd e (by rw [← hOs]; exact frS_OM hp)
    refine sM_touches hws hr hA hgeo.1 (by omega) hin hB48 hfrB (fun t => ⟨0, rfl, fun z => absurd rfl z, fun _ => ⟨hr, hr, ?_⟩⟩) (fun t => ⟨1, rfl, fun _ => ⟨⟨by omega, by omega⟩, hno (fun y => t ?_)⟩, fun z => absurd (by omega) z⟩)
    · rw [u5, u6]
      rw [pl_of] at t
      have hsel : Sel O f (brS O f k) (k : Int) := ⟨k2, fun y => z (hTk.mpr y), t⟩
      have hcnt : (brS O f k).2.2.1 < 100 := by
        have := hok.1.2
        rw [k3] at this
        omega
      refine sM_tieBoth (by omega) (by omega) (by omega) (fun s1 f1 t1 => ?_)
      have e34' : s1 34 = s 34 := f1 34 (by decide)
      refine sM_take (by rw [MW_eq e34']; exact hws) hr (x := (k : Int) % 144 % 12 - 1) (y := (k : Int) % 144 / 12 - 1) (n := (k : Int) / 288) (d := (k : Int) / 144 % 2) ?_ hgeo.1 (by omega) (by rw [inS_eq e34']; exact hin) ?_ (fun s2 f2 g1 g2 g3 g4 g5 => ⟨⟨by omega, by omega⟩, hN s2 ⟨⟨fun q q1 q2 q3 q4 => ?_, fun j j1 => ?_⟩, k + 1, by omega, k4, ?_⟩⟩)
      · unfold AtRun
        rw [f1 40 (by decide), f1 41 (by decide), f1 42 (by decide), f1 43 (by decide)]
        exact hA
      · rw [f1 33 (by decide), b3]
        exact ⟨hok.1.1, hcnt⟩
      · rw [f2 q q1 q3 q4, f1 q q2]; exact hf.1 q q1 q2 q3 q4
      · rw [g1 j j1, f1 33 (by decide)]; exact hf.2 j j1
      · rw [brS_yes hsel]
        rw [f1 33 (by decide), b3] at g2 g3 g4 g5
        have e34'' : s2 34 = s 34 := by rw [f2 34 (by decide) (by decide) (by decide)]; exact e34'
        have e46 : s2 46 = s1 46 := f2 46 (by decide) (by decide) (by decide)
        refine ⟨?_, fun x y hxy => ?_, ?_, fun b b0' b1' => ?_⟩
        · rw [OM_eq e34'', e46]
          show TieOK (OM s l) f (s1 46 0) (tieR (brS O f k).1 (eB f k) (eA f k))
          exact tie_step hRs hws k2' (by rw [hOs]; exact b1) (by rw [hOs]; exact z) (by rw [hOs]; exact t1)
        · rw [inS_eq e34''] at hxy
          have g5' := g5 x y (by rw [inS_eq e34']; exact hxy)
          rw [pl_of] at g5'
          show s2 48 0 (10 * y + x) = @ite _ (onR (k : Int) (pl x y)) (Classical.propDecidable _) (brS O f k).2.2.1 ((brS O f k).2.1 (pl x y))
          by_cases c : onR (k : Int) (pl x y)
          · rw [if_pos c]; exact g5'.1 c
          · rw [if_neg c, g5'.2 c, f1 48 (by decide)]; exact b2 x y hxy
        · exact g2
        · rw [OM_eq e34'', hOs]
          show s2 47 0 b = cP (RK O f) (if b = (brS O f k).2.2.1 then (k : Int) else (brS O f k).2.2.2 b).toNat
          have b1' : b < (brS O f k).2.2.1 + 1 := b1'
          by_cases c : b = (brS O f k).2.2.1
          · rw [if_pos c, c, g4, Int.toNat_natCast, k3]
          · rw [if_neg c, g3 b c, f1 47 (by decide)]
            have := b4 b b0' (by omega)
            rw [hOs] at this
            exact this
    · rw [pl_of]; exact y.2.2
