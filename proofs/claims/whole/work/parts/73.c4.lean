/-! The class's depths. -/
theorem rk_lab {O : Int → Prop} {f : Int → Int} (hL : LabOK O f) {a : Int} (a0 : 0 ≤ a) (a1 : a < 144) : 0 ≤ rkP f (f a) ∧ rkP f (f a) < cP (RTt f) 144 := rkP_rng (f := f) (r := f a) (n := 144) (hL.idem a0 a1) (hL a a0 a1).1.1 (by have := (hL a a0 a1).1.2.1; omega)
def CTi (m : Mem) (p : Int) (f : Int → Int) : Prop := (∀ q, 0 ≤ q → q < 144 → m 10 p q = rkP f (f q)) ∧ m 7 p 7 = cP (RTt f) 144 ∧ cP (RTt f) 144 ≤ 101
theorem CTi.of {m s : Mem} {p : Int} {f : Int → Int} (h : CTi m p f) (h10 : s 10 p = m 10 p) (h7 : s 7 p = m 7 p) : CTi s p f := by
  unfold CTi at *
  rw [h10, h7]
  exact h
theorem sP_partOf {Q : AV → Mem → Prop} {p x : Int} {O : Int → Prop} {f : Int → Int} {m : Mem} (hL : LabOK O f) (hC : CTi m p f) (h1 : 0 ≤ x ∧ x < 144 → Q (.inl (rkP f (f x))) m) (h0 : ¬ (0 ≤ x ∧ x < 144) → Q (.inl 0) m) : WP cP_partOf 0 [.inr (7, p), .inl x, uu] [] m Q := by
  obtain ⟨h10, h7, hfew⟩ := hC
  have n0 := (cP_rng (P := RTt f) 144).1
  refine gP_partOf_0 p x m (sS_isPlace (fun c => ⟨1, rfl, fun z => by omega, fun _ => ⟨c, ⟨by omega, by omega⟩, ?_⟩⟩) (fun c => ⟨0, rfl, fun _ => ⟨⟨by omega, by omega⟩, sS_isWithin (fun d => ⟨1, rfl, fun _ => h0 c, fun _ => h0 c⟩) (fun d => ⟨0, rfl, fun _ => h0 c, fun _ => h0 c⟩)⟩, fun z => absurd rfl z⟩))
  have hrk := rk_lab hL c.1 c.2
  rw [h10 x c.1 c.2, h7]
  exact sS_isWithin (fun d => ⟨1, rfl, fun z => by omega, fun _ => h1 c⟩) (fun d => absurd (by omega) d)
theorem sP_partIn {Q : AV → Mem → Prop} {p x : Int} {O : Int → Prop} {f : Int → Int} {m : Mem} (hL : LabOK O f) (hC : CTi m p f) (hx : 0 ≤ x ∧ x < 144) (h : Q (.inl (rkP f (f x))) m) : WP cP_partOf 0 [.inr (7, p), .inl x, uu] [] m Q :=
  sP_partOf hL hC (fun _ => h) (fun c => absurd hx c)
theorem sP_isOpen {Q : AV → Mem → Prop} {p x : Int} {O : Int → Prop} {m : Mem} (h9 : OpR m 9 p O) (hx : 0 ≤ x ∧ x < 144) (h1 : O x → Q (.inl 1) m) (h0 : ¬ O x → Q (.inl 0) m) : WP cP_isOpen 0 [.inr (7, p), .inl x] [] m Q := by
  refine gP_isOpen_0 p x m (sS_isPlace (fun _ => ⟨1, rfl, fun z => by omega, fun _ => ⟨hx, fun z => h0 ?_, fun z => h1 ?_⟩⟩) (fun c => absurd hx c))
  · rcases h9 x hx.1 hx.2 with ⟨_, o⟩ | ⟨e, _⟩
    · exact o
    · omega
  · rcases h9 x hx.1 hx.2 with ⟨e, _⟩ | ⟨_, o⟩
    · exact absurd e z
    · exact o
noncomputable def dC (m : Mem) (p : Int) (f : Int → Int) (q : Int) : Int := m 14 p (rkP f (f q))
def DI (m : Mem) (p : Int) (O : Int → Prop) (f : Int → Int) (k : Int) : Prop := (∀ q, 0 ≤ q → q < 144 → dC m p f q = -6 ∨ ((0 ≤ dC m p f q ∧ dC m p f q ≤ k) ∧ Rch O (dC m p f q) q)) ∧ (∀ q q', Adj q q' → dC m p f q ≠ -6 → dC m p f q < k → dC m p f q' ≠ -6 ∧ dC m p f q' ≤ dC m p f q + 1) ∧ dC m p f 0 = 0
def RcI (m s : Mem) (p : Int) (O : Int → Prop) (f : Int → Int) (k fl : Int) : Prop := FR p [14] m s ∧ (∀ q, 0 ≤ q → q < 144 → dC s p f q = dC m p f q ∨ (dC m p f q = -6 ∧ dC s p f q = k + 1 ∧ Rch O (k + 1) q)) ∧ (fl = 0 ∨ fl = 1) ∧ (fl = 0 → ∀ q, 0 ≤ q → q < 144 → dC s p f q = dC m p f q)
set_option maxHeartbeats 1000000 in
theorem sP_reachFrom {Q : AV → Mem → Prop} {p k : Int} {O : Int → Prop} {f : Int → Int} {m : Mem} (hL : LabOK O f) (hC : CTi m p f) (hk : 0 ≤ k ∧ k ≤ 101) (hD : DI m p O f k)
    (h : ∀ (fl : Int) (m' : Mem), FR p [14] m m' → DI m' p O f (k + 1) → (fl = 0 → DI m' p O f k ∧ ∀ q, 0 ≤ q → q < 144 → dC m' p f q = -6 ∨ dC m' p f q ≤ k) → Q (.inl fl) m') : WP cP_reachFrom 0 [.inr (7, p), .inl k, uu, uu, uu, uu, uu, uu, uu] [] m Q := by
  have hfew := hC.2.2
  have hrk : ∀ q, 0 ≤ q → q < 144 → 0 ≤ rkP f (f q) ∧ rkP f (f q) < 101 := fun q q0 q1 => by
    have := rkP_rng (f := f) (r := f q) (n := 144) (hL.idem q0 q1) (hL q q0 q1).1.1 (by have := (hL q q0 q1).1.2.1; omega)
    omega
  refine gP_reachFrom_0 p k m ?_
  refine loopU (σ := Mem × Int) (N := 144) (G := fun (x : Int) (s : Mem × Int) => ∀ a4 a5 a6 a7 a8 : AV, WP cP_reachFrom 4 [.inr (7, p), .inl k, .inl s.2, .inl x, a4, a5, a6, a7, a8] [] s.1 Q) (I := fun (x : Int) (s : Mem × Int) => RcI m s.1 p O f k s.2 ∧ ∀ q, 0 ≤ q → q < x → dC m p f q = k → ∀ j, 0 ≤ j → j < 4 → 0 ≤ q + stpL j → q + stpL j < 144 → dC s.1 p f (q + stpL j) ≠ -6) ?_ ?_ 0 (m, 0) (Int.le_refl 0) (by omega) ⟨⟨FR.refl m, fun _ _ _ => Or.inl rfl, Or.inl rfl, fun _ _ _ _ => rfl⟩, fun q q0 q1 => by omega⟩ uu uu uu uu uu
  · rintro ⟨s, fl⟩ ⟨⟨g1, g2, g3, g4⟩, g5⟩ a4 a5 a6 a7 a8
    dsimp only at g1 g2 g3 g4 g5 ⊢
    obtain ⟨d1, d2, d3⟩ := hD
    have h0s : dC s p f 0 = 0 := by
      rcases g2 0 (by omega) (by omega) with e | ⟨e, -, -⟩
      · rw [e]; exact d3
      · omega
    refine gP_reachFrom_4 p k fl _ a4 a5 a6 a7 a8 s ⟨fun _ => ⟨g3, h fl s g1 ⟨fun q q0 q1 => ?_, fun q q' hA hne hlt => ?_, h0s⟩ (fun e => ?_)⟩, fun z => absurd (by omega) z⟩
    · rcases g2 q q0 q1 with e | ⟨-, e, hr⟩
      · rw [e]
        rcases d1 q q0 q1 with e2 | ⟨e2, e3⟩
        · exact Or.inl e2
        · exact Or.inr ⟨by omega, e3⟩
      · rw [e]; exact Or.inr ⟨by omega, hr⟩
    · have hq : 0 ≤ q ∧ q < 144 := ⟨hA.1, hA.2.1⟩
      have hq' : 0 ≤ q' ∧ q' < 144 := ⟨hA.2.2.1, hA.2.2.2.1⟩
      have eq : dC s p f q = dC m p f q := by
        rcases g2 q hq.1 hq.2 with e | ⟨-, e, -⟩
        · exact e
        · omega
      rw [eq] at hne hlt ⊢
      by_cases e : dC m p f q = k
      · obtain ⟨j, j0, j1, ej⟩ := adj_stpL hA
        have hn := g5 q hq.1 hq.2 e j j0 j1 (by rw [← ej]; exact hq'.1) (by rw [← ej]; exact hq'.2)
        rw [← ej] at hn
        refine ⟨hn, ?_⟩
        rcases g2 q' hq'.1 hq'.2 with e2 | ⟨-, e2, -⟩
        · rw [e2] at hn ⊢
          rcases d1 q' hq'.1 hq'.2 with e3 | ⟨e3, -⟩
          · exact absurd e3 hn
          · omega
        · omega
      · obtain ⟨n1, n2⟩ := d2 q q' hA hne (by omega)
        rcases g2 q' hq'.1 hq'.2 with e2 | ⟨e2, -, -⟩
        · rw [e2]; exact ⟨n1, n2⟩
        · exact absurd e2 n1
    · have ee := g4 e
      refine ⟨⟨fun q q0 q1 => by rw [ee q q0 q1]; exact d1 q q0 q1, fun q q' hA => by rw [ee q hA.1 hA.2.1, ee q' hA.2.2.1 hA.2.2.2.1]; exact d2 q q' hA, h0s⟩, fun q q0 q1 => ?_⟩
      rw [ee q q0 q1]
      rcases d1 q q0 q1 with e2 | ⟨e2, -⟩
      · exact Or.inl e2
      · exact Or.inr e2.2
  · rintro x ⟨s, fl⟩ x0 x1 ⟨⟨g1, g2, g3, g4⟩, g5⟩ hN a4 a5 a6 a7 a8
    dsimp only at g1 g2 g3 g4 g5 hN ⊢
    have hCs : CTi s p f := hC.of (by rw [g1.1 10 (by decide)]) (by rw [g1.1 7 (by decide)])
    have hdx : dC s p f x = k ↔ dC m p f x = k := by
      rcases g2 x x0 x1 with e | ⟨e1, e2, -⟩
      · rw [e]
      · rw [e1, e2]; exact ⟨fun z => by omega, fun z => by omega⟩
    refine gP_reachFrom_4 p k fl x a4 a5 a6 a7 a8 s ⟨fun z => by omega, fun _ => sP_partIn hL hCs ⟨x0, x1⟩ ⟨_, rfl, hrk x x0 x1, fun z => ?_, fun z => ⟨⟨by omega, by omega⟩, hN (s, fl) ⟨⟨g1, g2, g3, g4⟩, fun q q0 q1 hq => ?_⟩ _ _ _ _ _⟩⟩⟩
    · have hmx : dC m p f x = k := hdx.mp z
      have hRx : Rch O k x := by
        rcases hD.1 x x0 x1 with e | ⟨-, e⟩
        · omega
        · rw [hmx] at e; exact e
      refine loopU (σ := Mem × Int) (N := 4) (G := fun (j : Int) (s : Mem × Int) => ∀ a7 a8 : AV, WP cP_reachFrom 41 [.inr (7, p), .inl k, .inl s.2, .inl x, .inr (28, 0), .inl 4, .inl j, a7, a8] [] s.1 Q) (I := fun (j : Int) (s : Mem × Int) => RcI m s.1 p O f k s.2 ∧ (∀ q, 0 ≤ q → q < x → dC m p f q = k → ∀ j, 0 ≤ j → j < 4 → 0 ≤ q + stpL j → q + stpL j < 144 → dC s.1 p f (q + stpL j) ≠ -6) ∧ ∀ i, 0 ≤ i → i < j → 0 ≤ x + stpL i → x + stpL i < 144 → dC s.1 p f (x + stpL i) ≠ -6) ?_ ?_ 0 (s, fl) (Int.le_refl 0) (by omega) ⟨⟨g1, g2, g3, g4⟩, g5, fun i i0 i1 => by omega⟩ a7 a8
      · rintro ⟨s2, fl2⟩ ⟨q1, q2, q3⟩ b7 b8
        dsimp only at q1 q2 q3 ⊢
        refine gP_reachFrom_41 p k fl2 x 4 _ b7 b8 s2 ⟨fun _ => ⟨⟨by omega, by omega⟩, hN (s2, fl2) ⟨q1, fun q q0' q1' hq => ?_⟩ _ _ _ _ _⟩, fun z => absurd (by omega) z⟩
        by_cases e : q = x
        · rw [e]; exact q3
        · exact q2 q q0' (by omega) hq
      · rintro j ⟨s2, fl2⟩ j0 j1 ⟨⟨r1, r2, r3, r4⟩, q2, q3⟩ hN2 b7 b8
        dsimp only at r1 r2 r3 r4 q2 q3 hN2 ⊢
        have hst := stpL_rng ⟨j0, j1⟩
        have hCs2 : CTi s2 p f := hC.of (by rw [r1.1 10 (by decide)]) (by rw [r1.1 7 (by decide)])
        have hf0 := (hL 0 (by omega) (by omega)).1
        have f00 : f 0 = 0 := by omega
        have hz0 : s2 14 p 0 = 0 := by
          have e0 : dC s2 p f 0 = s2 14 p 0 := by unfold dC; rw [f00]; rfl
          rw [← e0]
          rcases r2 0 (by omega) (by omega) with e | ⟨e, -, -⟩
          · rw [e]; exact hD.2.2
          · have := hD.2.2
            omega
        have enx : x + ([(-12), (-1), 1, 12].getD (Int.toNat j) 0 : Int) = x + stpL j := rfl
        have gg := @gP_reachFrom_41 Q p k fl2 x 4 j b7 b8 s2
        rw [enx] at gg
        have skip : (0 ≤ x + stpL j → x + stpL j < 144 → dC s2 p f (x + stpL j) ≠ -6) → ∀ b7 b8 : AV, WP cP_reachFrom 41 [.inr (7, p), .inl k, .inl fl2, .inl x, .inr (28, 0), .inl 4, .inl (j + 1), b7, b8] [] s2 Q := fun hs => hN2 (s2, fl2) ⟨⟨r1, r2, r3, r4⟩, q2, fun i i0 i1 => by
          by_cases e : i = j
          · rw [e]; exact hs
          · exact q3 i i0 (by omega)⟩
        refine gg ⟨fun z => by omega, fun _ => ⟨by omega, ⟨by omega, by omega⟩, sP_partOf hL hCs2 (fun c1 => ?_) (fun c1 => ⟨0, rfl, by omega, fun z => ⟨⟨by omega, by omega⟩, skip (fun a b => absurd ⟨a, b⟩ c1) _ _⟩, fun z => absurd (show ¬ s2 14 p 0 = -6 by omega) z⟩)⟩⟩
        have hAd := stpL_adj ⟨j0, j1⟩ ⟨x0, x1⟩ c1
        generalize hy : x + stpL j = y at *
        refine ⟨_, rfl, hrk y c1.1 c1.2, fun z => ⟨⟨by omega, by omega⟩, skip (fun _ _ => z) _ _⟩, fun z => ⟨⟨by omega, by omega⟩, hrk y c1.1 c1.2, ⟨by omega, by omega⟩, ?_⟩⟩
        have z : dC s2 p f y = -6 := Classical.byContradiction z
        have rd : ∀ q, 0 ≤ q → q < 144 → dC (mset s2 14 p (rkP f (f y)) (k + 1)) p f q = if f q = f y then k + 1 else dC s2 p f q := by
          intro q q0 q1
          unfold dC
          rw [mset_i]
          by_cases e : f q = f y
          · rw [e, if_pos rfl, if_pos rfl]
          · rw [if_neg e, if_neg (fun w => e (rkP_inj (hL.idem q0 q1) (hL.idem c1.1 c1.2) (hL q q0 q1).1.1 (hL y c1.1 c1.2).1.1 w))]
        have keep : ∀ q, 0 ≤ q → q < 144 → dC s2 p f q ≠ -6 → dC (mset s2 14 p (rkP f (f y)) (k + 1)) p f q ≠ -6 := by
          intro q q0 q1 hq
          rw [rd q q0 q1]
          split
          · omega
          · exact hq
        refine hN2 (mset s2 14 p (rkP f (f y)) (k + 1), 1) ⟨⟨r1.put (by decide) (Or.inr rfl), fun q q0' q1' => ?_, Or.inr rfl, fun e => absurd e (by dsimp only; omega)⟩, fun q q0' q1' hq i i0 i1 a b => keep _ a b (q2 q q0' q1' hq i i0 i1 a b), fun i i0 i1 a b => ?_⟩ _ _
        · dsimp only
          rw [rd q q0' q1']
          by_cases e : f q = f y
          · rw [if_pos e]
            have eD : ∀ t : Mem, dC t p f q = dC t p f y := fun t => by unfold dC; rw [e]
            have hmy : dC m p f y = -6 := by
              rcases r2 y c1.1 c1.2 with e2 | ⟨e2, -, -⟩
              · rw [← e2]; exact z
              · exact e2
            refine Or.inr ⟨by rw [eD m]; exact hmy, rfl, ?_⟩
            have hC1 : Con O y q := by
              have hq1 := (hL q q0' q1').1.2.2
              rw [e] at hq1
              exact (hL y c1.1 c1.2).1.2.2.symm.trans hq1
            exact (hRx.chg hAd).con hC1
          · rw [if_neg e]; exact r2 q q0' q1'
        · dsimp only
          by_cases e : i = j
          · rw [e, hy, rd y c1.1 c1.2, if_pos rfl]; omega
          · exact keep _ a b (q3 i i0 (by omega) a b)
    · by_cases e : q = x
      · rw [e] at hq; exact absurd (hdx.mpr hq) z
      · exact g5 q q0 (by omega) hq
theorem Rch_all {O : Int → Prop} : ∀ q, 0 ≤ q → q < 144 → ∃ n, 0 ≤ n ∧ n ≤ 22 ∧ Rch O n q := by
  have col : ∀ r : Nat, r < 12 → Rch O (r : Int) (12 * (r : Int)) := by
    intro r
    induction r with
    | zero => intro _; exact Rch.zero
    | succ r ih =>
      intro hr
      have h := (ih (by omega)).chg (q := 12 * ((r + 1 : Nat) : Int)) (by unfold Adj; omega)
      rw [show (r : Int) + 1 = ((r + 1 : Nat) : Int) by omega] at h
      exact h
  have row : ∀ r : Nat, r < 12 → ∀ c : Nat, c < 12 → Rch O ((r : Int) + (c : Int)) (12 * (r : Int) + (c : Int)) := by
    intro r hr c
    induction c with
    | zero =>
      intro _
      have := col r hr
      rw [show (r : Int) + ((0 : Nat) : Int) = (r : Int) by omega, show 12 * (r : Int) + ((0 : Nat) : Int) = 12 * (r : Int) by omega]
      exact this
    | succ c ih =>
      intro hc
      have h := (ih (by omega)).chg (q := 12 * (r : Int) + ((c + 1 : Nat) : Int)) (by unfold Adj; omega)
      rw [show (r : Int) + (c : Int) + 1 = (r : Int) + ((c + 1 : Nat) : Int) by omega] at h
      exact h
  intro q q0 q1
  have h := row (q / 12).toNat (by omega) (q % 12).toNat (by omega)
  refine ⟨q / 12 + q % 12, by omega, by omega, ?_⟩
  rw [show (((q / 12).toNat : Nat) : Int) = q / 12 by omega, show (((q % 12).toNat : Nat) : Int) = q % 12 by omega, show 12 * (q / 12) + q % 12 = q by omega] at h
  exact h
/-- what is reached in few changes has its depth -/
theorem DI.low {m : Mem} {p : Int} {O : Int → Prop} {f : Int → Int} {k : Int} (hL : LabOK O f) (hD : DI m p O f k) {n q : Int} (h : Rch O n q) (hn : n ≤ k) : 0 ≤ q ∧ q < 144 ∧ dC m p f q ≠ -6 ∧ dC m p f q ≤ n := by
  have key := h (fun n q => n ≤ k → 0 ≤ q ∧ q < 144 ∧ dC m p f q ≠ -6 ∧ dC m p f q ≤ n) (fun _ => ⟨by omega, by omega, by rw [hD.2.2]; omega, by rw [hD.2.2]; omega⟩) (fun n a b ha hA hO hnk => ?_) (fun n a b ha hA hnk => ?_)
  · exact key hn
  · obtain ⟨a0, a1, a2, a3⟩ := ha hnk
    have e : dC m p f b = dC m p f a := by unfold dC; rw [(hL a a0 a1).2 b hA hO]
    exact ⟨hA.2.2.1, hA.2.2.2.1, by rw [e]; exact a2, by rw [e]; exact a3⟩
  · obtain ⟨a0, a1, a2, a3⟩ := ha (by omega)
    obtain ⟨b1, b2⟩ := hD.2.1 a b hA a2 (by omega)
    exact ⟨hA.2.2.1, hA.2.2.2.1, b1, by omega⟩
theorem DI.ok {m : Mem} {p : Int} {O : Int → Prop} {f : Int → Int} {k : Int} (hL : LabOK O f) (hk : 22 ≤ k) (hD : DI m p O f k) : DepOK O (dC m p f) := by
  intro q q0 q1
  obtain ⟨n, n0, n1, hn⟩ := Rch_all (O := O) q q0 q1
  obtain ⟨-, -, c1, c2⟩ := hD.low hL hn (by omega)
  refine ⟨?_, fun n' hn' => ?_⟩
  · rcases hD.1 q q0 q1 with e | ⟨-, e⟩
    · exact absurd e c1
    · exact e
  · rcases Int.lt_or_le k n' with c | c
    · omega
    · exact (hD.low hL hn' c).2.2.2
theorem DI.up {m : Mem} {p : Int} {O : Int → Prop} {f : Int → Int} {k : Int} (hD : DI m p O f (k + 1)) (hk : 0 ≤ k) (hle : ∀ q, 0 ≤ q → q < 144 → dC m p f q = -6 ∨ dC m p f q ≤ k) : DI m p O f (k + 1 + 22) := by
  obtain ⟨d1, d2, d3⟩ := hD
  refine ⟨fun q q0 q1 => ?_, fun q q' hA hne _ => ?_, d3⟩
  · rcases d1 q q0 q1 with e | ⟨e, e2⟩
    · exact Or.inl e
    · exact Or.inr ⟨by omega, e2⟩
  · refine d2 q q' hA hne ?_
    rcases hle q hA.1 hA.2.1 with e | e
    · exact absurd e hne
    · omega
theorem sP_findDepths {Q : AV → Mem → Prop} {p : Int} {O : Int → Prop} {f : Int → Int} {m : Mem} (hL : LabOK O f) (hC : CTi m p f) (h : ∀ m', FR p [14] m m' → (∀ q, 0 ≤ q → q < 144 → m' 14 p (rkP f (f q)) = depC O q) → Q (.inl 0) m') : WP cP_findDepths 0 [.inr (7, p), uu, uu] [] m Q := by
  have fin : ∀ m', FR p [14] m m' → DepOK O (dC m' p f) → Q (.inl 0) m' := fun m' hf hd => h m' hf (fun q q0 q1 => depC_eq hd q0 q1)
  have loop : ∀ (t : Nat) (k fl : Int) (s : Mem), 0 ≤ k → k + (t : Int) = 101 → FR p [14] m s → DI s p O f k → (fl = 0 → DepOK O (dC s p f)) → WP cP_findDepths 20 [.inr (7, p), .inl fl, .inl k] [] s Q := by
    intro t
    induction t with
    | zero =>
      intro k fl s k0 kt hf hD hfl
      exact gP_findDepths_20 p fl k s ⟨fun z => fin s hf (hfl z), fun z => ⟨fun _ => fin s hf (hD.ok hL (by omega)), fun z2 => absurd (by omega) z2⟩⟩
    | succ t ih =>
      intro k fl s k0 kt hf hD hfl
      refine gP_findDepths_20 p fl k s ⟨fun z => fin s hf (hfl z), fun z => ⟨fun z2 => by omega, fun _ => sP_reachFrom hL (hC.of (by rw [hf.1 10 (by decide)]) (by rw [hf.1 7 (by decide)])) (by omega) hD (fun fl' m' hf' hD' hz => ⟨fl', rfl, ⟨by omega, by omega⟩, ih (k + 1) fl' m' (by omega) (by omega) (hf.trans hf') hD' (fun e => ?_)⟩)⟩⟩
      exact (hD'.up k0 (hz e).2).ok hL (by omega)
  have hfew := hC.2.2
  refine gP_findDepths_0 p m (fill_14 _ p (-6) m (fun m1 a1 a2 a3 => ?_))
  have hf1 : FR p [14] m m1 := ⟨fun q hq => a1 q (fun z => hq (by rw [z]; decide)), fun q hq i hi => by
    by_cases e : q = 14
    · rw [e]; exact a2 i hi
    · rw [a1 q e]⟩
  have hf0 := (hL 0 (by omega) (by omega)).1
  have f00 : f 0 = 0 := by omega
  have r0 : rkP f 0 = 0 := rfl
  have hd : ∀ q, 0 ≤ q → q < 144 → (f q = 0 → dC (mset m1 14 p 0 0) p f q = 0) ∧ (f q ≠ 0 → dC (mset m1 14 p 0 0) p f q = -6) := by
    intro q q0 q1
    have hb := rkP_rng (f := f) (r := f q) (n := 144) (hL.idem q0 q1) (hL q q0 q1).1.1 (by have := (hL q q0 q1).1.2.1; omega)
    unfold dC
    rw [mset_i]
    refine ⟨fun e => by rw [e, r0, if_pos rfl], fun e => ?_⟩
    rw [if_neg (fun z => e (rkP_inj (hL.idem q0 q1) (show RTt f 0 from f00) (hL q q0 q1).1.1 (by omega) (z.trans r0.symm)))]
    exact a3 _ hb.1 (by omega)
  refine loop 101 0 1 _ (by omega) (by omega) (hf1.put (by decide) (Or.inr rfl)) ⟨fun q q0 q1 => ?_, fun q q' hA hne hlt => ?_, (hd 0 (by omega) (by omega)).1 f00⟩ (fun z => by omega)
  · by_cases e : f q = 0
    · rw [(hd q q0 q1).1 e]
      refine Or.inr ⟨by omega, ?_⟩
      have hc := (hL q q0 q1).1.2.2
      rw [e] at hc
      exact Rch.zero.con hc
    · exact Or.inl ((hd q q0 q1).2 e)
  · by_cases e : f q = 0
    · rw [(hd q hA.1 hA.2.1).1 e] at hlt
      omega
    · exact absurd ((hd q hA.1 hA.2.1).2 e) hne
/-- what the class knows of the parts of a layer -/
def CPc (m : Mem) (p : Int) (O : Int → Prop) (f : Int → Int) : Prop := OpR m 9 p O ∧ (∀ q, 0 ≤ q → q < 144 → m 10 p q = rkP f (f q)) ∧ (m 7 p 7 = cP (RTt f) 144 ∧ m 7 p 8 = cP (IR O f) 144 ∧ m 7 p 9 = cP (HR O f) 144) ∧ ∀ r, 0 ≤ r → r < 144 → RTt f r → m 12 p (rkP f r) = r ∧ m 13 p (rkP f r) = cP (fun q => f q = r) 144 ∧ m 11 p (rkP f r) = numR O f r ∧ m 14 p (rkP f r) = depC O r
theorem sP_find {Q : Mem → Prop} {p l : Int} {m : Mem} (hw : MW m) (hR : CRel m) (hl : 0 ≤ l ∧ l ≤ 3) (h : ∀ m', FR p [7, 8, 9, 10, 11, 12, 13, 14] m m' → CPc m' p (OM m l) (labC (OM m l)) → Q m') : WP cP_find 0 [.inr (7, p), .inr (1, 0), .inl l, uu] [] m (fun _ m1 => WP cP_findDepths 0 [.inr (7, p), uu, uu] [] m1 (fun _ m2 => Q m2)) := by
  have hL := labC_ok (OM m l)
  generalize labC (OM m l) = f at *
  refine gP_find_0 p 0 l m (sP_lay hw hR hl (fun m1 f1 h9 => fill_10 _ p (-6) m1 (fun m2 a1 a2 a3 => ?_)))
  have hf2 : FR p [7, 8, 9, 10, 11, 12, 13, 14] m m2 := (f1.mono (by decide)).trans ⟨fun q hq => a1 q (fun z => hq (by rw [z]; decide)), fun q hq i hi => by
    by_cases e : q = 10
    · rw [e]; exact a2 i hi
    · rw [a1 q e]⟩
  generalize hm3 : mset (mset (mset m2 7 p 7 0) 7 p 8 0) 7 p 9 0 = m3
  have hf3 : FR p [7, 8, 9, 10, 11, 12, 13, 14] m m3 := by
    rw [← hm3]
    exact ((hf2.put (by decide) (Or.inr rfl)).put (by decide) (Or.inr rfl)).put (by decide) (Or.inr rfl)
  have k3 : ∀ q, q ≠ 7 → m3 q = m2 q := fun q hq => by rw [← hm3, mset_k hq, mset_k hq, mset_k hq]
  have e34 : m3 34 = m 34 := hf3.1 34 (by decide)
  have eO : OM m3 l = OM m l := by rw [OM_eq e34]
  have hw3 : MW m3 := by rw [MW_eq e34]; exact hw
  have h93 : OpR m3 9 p (OM m3 l) := by
    intro c c0 c1
    rw [eO, k3 9 (by decide), a1 9 (by decide)]
    exact h9 c c0 c1
  refine sP_find_32 (f := f) hw3 (by rw [eO]; exact hL) h93 ⟨FR.refl m3, fun q q0 q1 => ⟨fun z => by have := (hL q q0 q1).1.1; omega, fun _ => ?_⟩, ⟨?_, ?_, ?_⟩, fun r r0 r1 => by omega⟩ (fun m4 hF => ?_)
  · rw [k3 10 (by decide)]; exact a3 q q0 q1
  · rw [← hm3, rd_s (by decide), rd_s (by decide), mset_i, if_pos rfl]; rfl
  · rw [← hm3, rd_s (by decide), mset_i, if_pos rfl]; rfl
  · rw [← hm3, mset_i, if_pos rfl]; rfl
  · rw [eO] at hF
    obtain ⟨b1, b2, b3, b4⟩ := hF
    have hlt : ∀ q, 0 ≤ q → q < 144 → f q < 144 := fun q q0 q1 => by have := (hL q q0 q1).1.2.1; omega
    refine sP_findDepths (O := OM m l) (f := f) hL ⟨fun q q0 q1 => (b2 q q0 q1).1 (hlt q q0 q1), b3.1, by have := RT_few hw hL 144 (by omega); omega⟩ (fun m5 f5 hdep => h m5 ((hf3.trans (b1.mono (by decide))).trans (f5.mono (by decide))) ⟨?_, fun q q0 q1 => ?_, ?_, fun r r0 r1 hr => ?_⟩)
    · intro c c0 c1
      rw [f5.1 9 (by decide), b1.1 9 (by decide), ← eO]
      exact h93 c c0 c1
    · rw [f5.1 10 (by decide)]; exact (b2 q q0 q1).1 (hlt q q0 q1)
    · rw [f5.1 7 (by decide)]; exact b3
    · rw [f5.1 12 (by decide), f5.1 13 (by decide), f5.1 11 (by decide)]
      obtain ⟨c1, c2, c3⟩ := b4 r r0 r1 hr
      have hd := hdep r r0 r1
      have hr' : f r = r := hr
      rw [hr'] at hd
      exact ⟨c1, c2, c3, hd⟩
