/-! The class's loops. -/
def oneL (k : Int) : Int := [(-13 : Int), (-13), (-12), (-1)].getD (Int.toNat k) 0
def othL (k : Int) : Int := [(-12 : Int), (-1), 0, 0].getD (Int.toNat k) 0
theorem dE_iff {B : Int → Prop} {k c : Int} (hk : 0 ≤ k ∧ k < 4) : dE B k c ↔ ¬ (B (c + oneL k) ↔ B (c + othL k)) := by
  unfold dE Ea Ed
  rcases four_cases hk with e | e | e | e <;> subst e
  · have e1 : c + oneL 0 = c - 12 - 1 := by show c + -13 = _; omega
    have e2 : c + othL 0 = c - 12 := by show c + -12 = _; omega
    rw [if_pos rfl, e1, e2]
    exact ⟨fun h w => h w.symm, fun h w => h w.symm⟩
  · have e1 : c + oneL 1 = c - 1 - 12 := by show c + -13 = _; omega
    have e2 : c + othL 1 = c - 1 := by show c + -1 = _; omega
    rw [if_neg (by decide), if_pos rfl, e1, e2]
    exact ⟨fun h w => h w.symm, fun h w => h w.symm⟩
  · have e1 : c + oneL 2 = c - 12 := by show c + -12 = _; omega
    have e2 : c + othL 2 = c := by show c + 0 = _; omega
    rw [if_neg (by decide), if_neg (by decide), if_pos rfl, e1, e2]
    exact ⟨fun h w => h w.symm, fun h w => h w.symm⟩
  · have e1 : c + oneL 3 = c - 1 := by show c + -1 = _; omega
    have e2 : c + othL 3 = c := by show c + 0 = _; omega
    rw [if_neg (by decide), if_neg (by decide), if_neg (by decide), e1, e2]
    exact ⟨fun h w => h w.symm, fun h w => h w.symm⟩
theorem oneL_rng {k : Int} (hk : 0 ≤ k ∧ k < 4) : (-13 ≤ oneL k ∧ oneL k ≤ 0) ∧ (-13 ≤ othL k ∧ othL k ≤ 0) := by
  rcases four_cases hk with e | e | e | e <;> subst e <;> decide
theorem sK_hasEdge {Q : AV → Mem → Prop} {p c k : Int} {B : Int → Prop} {m : Mem} (hC : Cel B) (h19 : OpR m 19 p B) (hc : 0 ≤ c ∧ c < 144) (hk : 0 ≤ k ∧ k < 4) (h1 : dE B k c → Q (.inl 1) m) (h0 : ¬ dE B k c → Q (.inl 0) m) : WP cK_hasEdge 0 [.inr (21, p), .inl c, .inl k, uu, uu] [] m Q := by
  have hr := oneL_rng hk
  have hi := dE_iff (B := B) (c := c) hk
  have gg := @gK_hasEdge_0 Q p c k m
  have e1 : ([(-13), (-13), (-12), (-1)].getD (Int.toNat k) 0 : Int) = oneL k := rfl
  have e2 : ([(-12), (-1), 0, 0].getD (Int.toNat k) 0 : Int) = othL k := rfl
  rw [e1, e2] at gg
  have low : ¬ (0 ≤ c + oneL k ∧ c + oneL k < 144) ∨ ¬ (0 ≤ c + othL k ∧ c + othL k < 144) → ¬ dE B k c := fun z w => by
    have := hasE_geo hC (dE_EA hk w).has
    omega
  refine gg ⟨hk, ⟨by omega, by omega⟩, hk, ⟨by omega, by omega⟩, sS_isPlace (fun a => ⟨1, rfl, fun z => by omega, fun _ => sS_isPlace (fun b => ⟨1, rfl, fun z => by omega, fun _ => ⟨a, b, fun z => h0 (fun w => hi.mp w ((h19.eq_iff a b).mp z)), fun z => h1 (hi.mpr (fun w => z ((h19.eq_iff a b).mpr w)))⟩⟩) (fun b => ⟨0, rfl, fun _ => h0 (low (Or.inr b)), fun z => absurd rfl z⟩)⟩) (fun a => ⟨0, rfl, fun _ => h0 (low (Or.inl a)), fun z => absurd rfl z⟩)⟩
theorem sK_hasAnyEdge {Q : AV → Mem → Prop} {p c : Int} {B : Int → Prop} {m : Mem} (hC : Cel B) (h19 : OpR m 19 p B) (hc : 0 ≤ c ∧ c < 144) (h1 : hasE B c → Q (.inl 1) m) (h0 : ¬ hasE B c → Q (.inl 0) m) : WP cK_hasAnyEdge 0 [.inr (21, p), .inl c, uu] [] m Q := by
  refine gK_hasAnyEdge_0 p c m ?_
  refine loopU (σ := Unit) (N := 4) (G := fun (k : Int) (_ : Unit) => WP cK_hasAnyEdge 2 [.inr (21, p), .inl c, .inl k] [] m Q) (I := fun (k : Int) (_ : Unit) => ∀ j, 0 ≤ j → j < k → ¬ dE B j c) ?_ ?_ 0 () (Int.le_refl 0) (by omega) (fun j j0 j1 => by omega)
  · intro _ hs
    exact gK_hasAnyEdge_2 p c _ m ⟨fun _ => h0 (fun w => by obtain ⟨k, k0, k1, hk⟩ := hasE_dE.mp w; exact hs k k0 k1 hk), fun z => absurd (by omega) z⟩
  · intro k _ k0 k1 hs hN
    refine gK_hasAnyEdge_2 p c k m ⟨fun z => by omega, fun _ => sK_hasEdge hC h19 hc ⟨k0, k1⟩ (fun w => ⟨1, rfl, fun z => by omega, fun _ => h1 (hasE_dE.mpr ⟨k, k0, k1, w⟩)⟩) (fun w => ⟨0, rfl, fun _ => ⟨⟨by omega, by omega⟩, hN () (fun j j0 j1 => ?_)⟩, fun z => absurd rfl z⟩)⟩
    by_cases e : j = k
    · rw [e]; exact w
    · exact hs j j0 (by omega)
/-- what is true while a loop is followed -/
def FlI (p n s : Int) (B : Int → Prop) (g : Int → Int) (m0 m : Mem) (w : Int) : Prop :=
  FR p [8, 22] m0 m ∧ (∀ c, 0 ≤ c → c < 144 → (m 22 p c = n ∧ hasE B c ∧ g c = s) ∨ m 22 p c = m0 22 p c) ∧ w = cP (fun q => m 22 p q = n) 144 ∧ (∀ i, 0 ≤ i → i < w → (0 ≤ m 8 0 i ∧ m 8 0 i < 144) ∧ m 22 p (m 8 0 i) = n) ∧ (∀ q, 0 ≤ q → q < 144 → m 22 p q = n → ∃ i, 0 ≤ i ∧ i < w ∧ m 8 0 i = q) ∧ m 22 p s = n ∧ ∀ i j, 0 ≤ i → i < j → j < w → m 8 0 i ≠ m 8 0 j
def FlN (p : Int) (B : Int → Prop) (m : Mem) (c k : Int) : Prop := dE B k c → m 22 p (c + stpL k) ≠ -6
noncomputable def endS (B : Int → Prop) (m : Mem) (h : Int) : Int := sumN (fun c => cif (∃ i, 0 ≤ i ∧ i < h ∧ m 8 0 i = c) (dgs B c 4) 0) 144
theorem endS_rng {B : Int → Prop} {m : Mem} {h : Int} : 0 ≤ endS B m h ∧ endS B m h ≤ 4 * 144 := sumN_bnd 144 (fun c _ _ => by
  have := dgs_rng (B := B) (c := c) 4
  by_cases w : ∃ i, 0 ≤ i ∧ i < h ∧ m 8 0 i = c
  · rw [cif_pos w]; omega
  · rw [cif_neg w]; omega)
theorem endS_suc {B : Int → Prop} {m m' : Mem} {h c : Int} (h0 : 0 ≤ h) (hc : 0 ≤ c ∧ c < 144) (he : ∀ i, 0 ≤ i → i < h → m' 8 0 i = m 8 0 i) (hh : m' 8 0 h = c) (hn : ∀ i, 0 ≤ i → i < h → m 8 0 i ≠ c) : endS B m' (h + 1) = endS B m h + dgs B c 4 := by
  unfold endS
  have h1 := sumN_one (P := fun c => ∃ i, 0 ≤ i ∧ i < h ∧ m 8 0 i = c) (v := fun c => dgs B c 4) (r := c) 144 hc.1 (fun w => by obtain ⟨i, i0, i1, e⟩ := w; exact hn i i0 i1 e)
  rw [if_pos (by omega)] at h1
  rw [← h1]
  refine sumN_congr 144 (fun q q0 q1 => ?_)
  have hi : (∃ i, 0 ≤ i ∧ i < h + 1 ∧ m' 8 0 i = q) ↔ ((∃ i, 0 ≤ i ∧ i < h ∧ m 8 0 i = q) ∨ q = c) := by
    constructor
    · rintro ⟨i, i0, i1, e⟩
      by_cases c1 : i = h
      · rw [c1, hh] at e; exact Or.inr e.symm
      · exact Or.inl ⟨i, i0, by omega, by rw [← he i i0 (by omega)]; exact e⟩
    · rintro (⟨i, i0, i1, e⟩ | e)
      · exact ⟨i, i0, by omega, by rw [he i i0 i1]; exact e⟩
      · exact ⟨h, h0, by omega, by rw [hh, e]⟩
  by_cases w : ∃ i, 0 ≤ i ∧ i < h + 1 ∧ m' 8 0 i = q
  · rw [cif_pos w, cif_pos (hi.mp w)]
  · rw [cif_neg w, cif_neg (fun z => w (hi.mpr z))]
set_option maxHeartbeats 1000000 in
theorem sK_follow {Q : AV → Mem → Prop} {p n s : Int} {B : Int → Prop} {g : Int → Int} {m : Mem} (hC : Cel B) (hg : LabE B g) (h19 : OpR m 19 p B) (hr : LRt B g s) (hn : n ≠ -6) (hA : ∀ q, 0 ≤ q → q < 144 → hasE B q → g q = s → m 22 p q = -6) (hA2 : ∀ q, 0 ≤ q → q < 144 → m 22 p q ≠ n)
    (h : ∀ m', FR p [8, 22] m m' → (∀ q, 0 ≤ q → q < 144 → (hasE B q → g q = s → m' 22 p q = n) ∧ (¬ (hasE B q ∧ g q = s) → m' 22 p q = m 22 p q)) → Q (.inl (edN B (fun c => g c = s) 144)) m') : WP cK_follow 0 [.inr (21, p), .inl s, .inl n, uu, uu, uu, uu, uu] [] m Q := by
  have sgeo := hasE_geo hC hr.1
  have hs : 0 ≤ s ∧ s < 144 := by omega
  have fin : ∀ (m1 : Mem) (w : Int), FlI p n s B g m m1 w → (∀ i, 0 ≤ i → i < w → ∀ k, 0 ≤ k → k < 4 → FlN p B m1 (m1 8 0 i) k) → (0 ≤ endS B m1 w) ∧ Q (.inl (endS B m1 w / 2)) m1 := by
    rintro m1 w ⟨g1, g2, g3, g4, g5, g6, g7⟩ hd
    have lab : ∀ q, 0 ≤ q → q < 144 → m1 22 p q = n → hasE B q ∧ g q = s := fun q q0 q1 e => by
      rcases g2 q q0 q1 with ⟨_, e2⟩ | e2
      · exact e2
      · exact absurd (e2.symm.trans e) (hA2 q q0 q1)
    have vis : ∀ q, 0 ≤ q → q < 144 → (m1 22 p q = n ↔ (hasE B q ∧ g q = s)) := by
      intro q q0 q1
      refine ⟨lab q q0 q1, fun e => ?_⟩
      have hc := (hg.2 q e.1).1.2
      rw [e.2] at hc
      refine (hc (fun z => (0 ≤ z ∧ z < 144) ∧ m1 22 p z = n) ⟨hs, g6⟩ (fun a b ha hAd => ?_)).2
      obtain ⟨⟨a0, a1⟩, a2⟩ := ha
      have hbE := hAd.symm.has
      have hbg := hasE_geo hC hbE
      have hb0 : 0 ≤ b ∧ b < 144 := by omega
      refine ⟨hb0, ?_⟩
      obtain ⟨i, i0, i1, ei⟩ := g5 a a0 a1 a2
      obtain ⟨k, k0, k1, ek, hk⟩ := EA_dE hAd
      have hne := hd i i0 i1 k k0 k1
      unfold FlN at hne
      rw [ei, ← ek] at hne
      have hne := hne hk
      have hfa := (lab a a0 a1 a2).2
      have hfb : g b = s := by rw [← (hg.2 a hAd.has).2 b hAd]; exact hfa
      rcases g2 b hb0.1 hb0.2 with ⟨e2, _⟩ | e2
      · exact e2
      · exact absurd (e2.trans (hA b hb0.1 hb0.2 hbE hfb)) hne
    have es : endS B m1 w = 2 * edN B (fun c => g c = s) 144 := by
      rw [← hand hC hg s]
      refine sumN_congr 144 (fun q q0 q1 => ?_)
      have hi : (∃ i, 0 ≤ i ∧ i < w ∧ m1 8 0 i = q) ↔ (hasE B q ∧ g q = s) := by
        rw [← vis q q0 (by omega)]
        constructor
        · rintro ⟨i, i0, i1, e⟩
          rw [← e]; exact (g4 i i0 i1).2
        · intro e
          exact g5 q q0 (by omega) e
      by_cases c : ∃ i, 0 ≤ i ∧ i < w ∧ m1 8 0 i = q
      · rw [cif_pos c, cif_pos (hi.mp c)]
      · rw [cif_neg c, cif_neg (fun z => c (hi.mpr z))]
    have hnn := (endS_rng (B := B) (m := m1) (h := w)).1
    refine ⟨hnn, ?_⟩
    rw [es, show 2 * edN B (fun c => g c = s) 144 / 2 = edN B (fun c => g c = s) 144 by omega]
    refine h m1 g1 (fun q q0 q1 => ⟨fun e e2 => (vis q q0 q1).mpr ⟨e, e2⟩, fun e => ?_⟩)
    rcases g2 q q0 q1 with ⟨_, e2⟩ | e2
    · exact absurd e2 e
    · exact e2
  refine gK_follow_0 p s n m ⟨hs, ?_⟩
  have outer : ∀ (t : Nat) (hd w e : Int) (m1 : Mem), 0 ≤ hd → hd + (t : Int) = 144 → hd ≤ w → FlI p n s B g m m1 w → (∀ i, 0 ≤ i → i < hd → ∀ k, 0 ≤ k → k < 4 → FlN p B m1 (m1 8 0 i) k) → e = endS B m1 hd → ∀ a6 a7 : AV, WP cK_follow 22 [.inr (21, p), .inl s, .inl n, .inl w, .inl e, .inl hd, a6, a7] [] m1 Q := by
    intro t
    induction t with
    | zero =>
      intro hd w e m1 d0 dt dw hI hdn he a6 a7
      have hw144 : w ≤ 144 := by rw [hI.2.2.1]; exact (cP_rng 144).2
      have ew : hd = w := by omega
      rw [ew] at hdn he
      rw [he]
      refine gK_follow_22 p s n w _ hd a6 a7 m1 ⟨fun _ => fin m1 w hI hdn, fun z => absurd (by omega) z⟩
    | succ t ih =>
      intro hd w e m1 d0 dt dw hI hdn he a6 a7
      have eb := endS_rng (B := B) (m := m1) (h := hd)
      refine gK_follow_22 p s n w e hd a6 a7 m1 ⟨fun z => ?_, fun z => ⟨fun z2 => by omega, fun _ => ?_⟩⟩
      · have ew : hd = w := by omega
        rw [ew] at hdn he
        rw [he]
        exact fin m1 w hI hdn
      obtain ⟨hc, hcn⟩ := hI.2.2.2.1 hd d0 (by omega)
      generalize hcc : m1 8 0 hd = c at *
      refine loopU (σ := Mem × Int × Int) (N := 4) (G := fun (k : Int) (st : Mem × Int × Int) => ∀ a7 : AV, WP cK_follow 39 [.inr (21, p), .inl s, .inl n, .inl st.2.1, .inl st.2.2, .inl hd, .inl k, a7] [] st.1 Q) (I := fun (k : Int) (st : Mem × Int × Int) => hd < st.2.1 ∧ FlI p n s B g m st.1 st.2.1 ∧ (st.1 8 0 hd = c ∧ ∀ i, 0 ≤ i → i < hd → st.1 8 0 i = m1 8 0 i) ∧ (∀ i, 0 ≤ i → i < hd → ∀ k, 0 ≤ k → k < 4 → FlN p B st.1 (st.1 8 0 i) k) ∧ (∀ j, 0 ≤ j → j < k → FlN p B st.1 c j) ∧ st.2.2 = e + dgs B c k.toNat) ?_ ?_ 0 (m1, w, e) (Int.le_refl 0) (by omega) ⟨by dsimp only; omega, hI, ⟨hcc, fun _ _ _ => rfl⟩, hdn, fun j j0 j1 => by omega, by show e = e + 0; omega⟩ a7
      · rintro ⟨m2, w2, e2⟩ ⟨q1, q2, ⟨q3, q3'⟩, q4, q5, q6⟩ b7
        dsimp only at q1 q2 q3 q3' q4 q5 q6 ⊢
        refine gK_follow_39 p s n w2 e2 hd _ b7 m2 ⟨fun _ => ⟨⟨by omega, by omega⟩, ih (hd + 1) w2 e2 m2 (by omega) (by omega) (by omega) q2 (fun i i0 i1 k k0 k1 => ?_) ?_ _ _⟩, fun z => absurd (by omega) z⟩
        · by_cases e : i = hd
          · rw [e, q3]; exact q5 k k0 k1
          · exact q4 i i0 (by omega) k k0 k1
        · rw [endS_suc (m := m1) d0 hc q3' q3 (fun i i0 i1 => ?_), q6, he]
          · rfl
          · rw [← hcc]; exact hI.2.2.2.2.2.2 i hd i0 i1 (by omega)
      · rintro k ⟨m2, w2, e2⟩ k0 k1 ⟨q1, q2, ⟨q3, q3'⟩, q4, q5, q6⟩ hN b7
        dsimp only at q1 q2 q3 q3' q4 q5 q6 hN ⊢
        have hst := stpL_rng ⟨k0, k1⟩
        obtain ⟨g1, g2, g3, g4, g5, g6, g7⟩ := q2
        have db := dgs_rng (B := B) (c := c) k.toNat
        have dsu : dgs B c (k + 1).toNat = dgs B c k.toNat + cif (dE B k c) 1 0 := sumN_suc k0
        have hc2 : m2 22 p c = n := by
          have := (g4 hd (by omega) q1).2
          rw [q3] at this
          exact this
        have hfc : hasE B c ∧ g c = s := by
          rcases g2 c hc.1 hc.2 with ⟨_, e2⟩ | e2
          · exact e2
          · exact absurd (e2.symm.trans hc2) (hA2 c hc.1 hc.2)
        have h19' : OpR m2 19 p B := by intro x x0 x1; rw [g1.1 19 (by decide)]; exact h19 x x0 x1
        refine gK_follow_39 p s n w2 e2 hd k b7 m2 ⟨fun z => by omega, fun _ => ⟨by omega, ?_⟩⟩
        rw [q3]
        refine sK_hasEdge hC h19' hc ⟨k0, k1⟩ (fun hE => ⟨1, rfl, fun _ => ⟨⟨by omega, by omega⟩, by omega, by omega, ?_⟩, fun z => absurd (by omega) z⟩) (fun hE => ⟨0, rfl, fun z => absurd rfl z, fun _ => ⟨⟨by omega, by omega⟩, hN (m2, w2, e2) ⟨q1, ⟨g1, g2, g3, g4, g5, g6, g7⟩, ⟨q3, q3'⟩, q4, fun j j0 j1 => ?_, ?_⟩ _⟩⟩)
        · have enx : m2 8 0 hd + ([(-12), (-1), 1, 12].getD (Int.toNat k) 0 : Int) = c + stpL k := by rw [q3]; rfl
          rw [enx]
          have hEA := dE_EA ⟨k0, k1⟩ hE
          have hxE := hEA.symm.has
          have hxg := hasE_geo hC hxE
          have c1 : 0 ≤ c + stpL k ∧ c + stpL k < 144 := by omega
          have hfx : g (c + stpL k) = s := by rw [← (hg.2 c hfc.1).2 _ hEA]; exact hfc.2
          have e1 : e2 + 1 = e + dgs B c (k + 1).toNat := by rw [dsu, cif_pos hE, q6]; omega
          have skip : m2 22 p (c + stpL k) ≠ -6 → ∀ b7 : AV, WP cK_follow 39 [.inr (21, p), .inl s, .inl n, .inl w2, .inl (e2 + 1), .inl hd, .inl (k + 1), b7] [] m2 Q := fun hsp => hN (m2, w2, e2 + 1) ⟨q1, ⟨g1, g2, g3, g4, g5, g6, g7⟩, ⟨q3, q3'⟩, q4, fun j j0 j1 => by
            by_cases e : j = k
            · rw [e]; exact fun _ => hsp
            · exact q5 j j0 (by omega), e1⟩
          refine ⟨⟨by omega, by omega⟩, sS_isPlace (fun _ => ⟨1, rfl, fun z => by omega, fun _ => ⟨c1, fun z => ⟨⟨by omega, by omega⟩, skip z _⟩, fun z => ⟨fun z3 => ?_, fun z3 => ⟨c1, by omega, ⟨by omega, by omega⟩, ⟨by omega, by omega⟩, ?_⟩⟩⟩⟩) (fun z => absurd c1 z)⟩
          · have z := Classical.byContradiction z
            have := cP_miss (P := fun q => m2 22 p q = n) (q := c + stpL k) 144 c1.1 (by omega) (fun e => hn (e.symm.trans z))
            omega
          · have z := Classical.byContradiction z
            generalize hnx : c + stpL k = x at *
            have rd22 : ∀ q, (mset (mset m2 22 p x n) 8 0 w2 x) 22 p q = if q = x then n else m2 22 p q := fun q => by rw [mset_k (by decide), mset_i]
            have rd8 : ∀ i, (mset (mset m2 22 p x n) 8 0 w2 x) 8 0 i = if i = w2 then x else m2 8 0 i := fun i => by rw [mset_i, mset_k (by decide)]
            have w0 : 0 ≤ w2 := by omega
            have hne : ¬ (m2 22 p x = n) := fun e => hn (e.symm.trans z)
            refine hN (mset (mset m2 22 p x n) 8 0 w2 x, w2 + 1, e2 + 1) ⟨by dsimp only; omega, ⟨(g1.put (by decide) (Or.inr rfl)).put (by decide) (Or.inl rfl), fun q q0 q1 => ?_, ?_, fun i i0 i1 => ?_, fun q q0 q1 hq => ?_, ?_, fun i j i0 ij j1 => ?_⟩, ⟨?_, fun i i0 i1 => ?_⟩, fun i i0 i1 k' e0 e1 => ?_, fun j j0 j1 => ?_, e1⟩ _
            · dsimp only
              rw [rd22]
              by_cases e : q = x
              · rw [if_pos e, e]; exact Or.inl ⟨rfl, hxE, hfx⟩
              · rw [if_neg e]; exact g2 q q0 q1
            · dsimp only
              have ec := cP_add1 (P := fun q => m2 22 p q = n) (r := x) 144 c1.1 hne
              rw [if_pos (by omega), ← g3] at ec
              rw [← ec]
              refine cP_congr 144 (fun q q0 q1 => ?_)
              rw [rd22]
              by_cases e : q = x
              · rw [if_pos e]; exact ⟨fun _ => rfl, fun _ => Or.inr e⟩
              · rw [if_neg e]; exact ⟨fun w => w.elim id (fun w => absurd w e), Or.inl⟩
            · dsimp only at i1 ⊢
              rw [rd8, rd22]
              by_cases e : i = w2
              · rw [if_pos e, if_pos rfl]; exact ⟨c1, rfl⟩
              · rw [if_neg e]
                obtain ⟨a, b⟩ := g4 i i0 (by omega)
                refine ⟨a, ?_⟩
                by_cases e2 : m2 8 0 i = x
                · rw [if_pos e2]
                · rw [if_neg e2]; exact b
            · dsimp only at hq ⊢
              rw [rd22] at hq
              by_cases e : q = x
              · exact ⟨w2, w0, by omega, by rw [rd8, if_pos rfl, e]⟩
              · rw [if_neg e] at hq
                obtain ⟨i, i0, i1, ei⟩ := g5 q q0 q1 hq
                exact ⟨i, i0, by omega, by rw [rd8, if_neg (by omega)]; exact ei⟩
            · dsimp only
              rw [rd22]
              by_cases e : s = x
              · rw [if_pos e]
              · rw [if_neg e]; exact g6
            · dsimp only at j1 ⊢
              rw [rd8, rd8, if_neg (by omega)]
              by_cases e : j = w2
              · rw [if_pos e]
                intro w
                have := (g4 i i0 (by omega)).2
                rw [w] at this
                exact hne this
              · rw [if_neg e]; exact g7 i j i0 ij (by omega)
            · dsimp only
              rw [rd8, if_neg (by omega)]; exact q3
            · dsimp only
              rw [rd8, if_neg (by omega)]; exact q3' i i0 i1
            · dsimp only
              rw [rd8, if_neg (by omega)]
              have := q4 i i0 i1 k' e0 e1
              unfold FlN at *
              intro a
              rw [rd22]
              by_cases e : m2 8 0 i + stpL k' = x
              · rw [if_pos e]; exact hn
              · rw [if_neg e]; exact this a
            · dsimp only
              unfold FlN
              intro a
              rw [rd22]
              by_cases e : c + stpL j = x
              · rw [if_pos e]; exact hn
              · rw [if_neg e]
                have hjk : j ≠ k := fun z => e (by rw [z]; exact hnx)
                exact q5 j j0 (by omega) a
        · by_cases e : j = k
          · rw [e]; exact fun w => absurd w hE
          · exact q5 j j0 (by omega)
        · dsimp only
          rw [dsu, cif_neg hE, Int.add_zero]; exact q6
  refine outer 144 0 1 0 _ (by omega) (by omega) (by omega) ⟨(FR.set (by decide) (Or.inr rfl)).put (by decide) (Or.inl rfl), fun q q0 q1 => ?_, ?_, fun i i0 i1 => ?_, fun q q0 q1 hq => ?_, ?_, fun i j i0 ij j1 => by omega⟩ (fun i i0 i1 => by omega) ?_ _ _
  · rw [mset_k (by decide), mset_i]
    by_cases e : q = s
    · rw [if_pos e, e]; exact Or.inl ⟨rfl, hr.1, hr.2⟩
    · rw [if_neg e]; exact Or.inr rfl
  · have ec := cP_add1 (P := fun _ => False) (r := s) 144 hs.1 (fun z => z)
    rw [if_pos (by omega), cP_none (fun _ z => z)] at ec
    rw [show (1 : Int) = 0 + 1 by omega, ← ec]
    refine cP_congr 144 (fun q q0 q1 => ?_)
    rw [mset_k (by decide), mset_i]
    by_cases e : q = s
    · rw [if_pos e]; exact ⟨fun _ => rfl, fun _ => Or.inr e⟩
    · rw [if_neg e]; exact ⟨fun z => z.elim False.elim (fun z => absurd z e), fun z => absurd z (hA2 q q0 (by omega))⟩
  · have : i = 0 := by omega
    rw [this, mset_i, if_pos rfl]
    exact ⟨hs, by rw [mset_k (by decide), mset_i, if_pos rfl]⟩
  · refine ⟨0, by omega, by omega, ?_⟩
    rw [mset_k (by decide), mset_i] at hq
    by_cases e : q = s
    · rw [mset_i, if_pos rfl, e]
    · rw [if_neg e] at hq; exact absurd hq (hA2 q q0 q1)
  · rw [mset_k (by decide), mset_i, if_pos rfl]
  · unfold endS
    have : sumN (fun _ => (0 : Int)) 144 = 0 := sumN_zero 144
    refine this.symm.trans (sumN_congr 144 (fun q q0 q1 => ?_))
    rw [cif_neg (fun w => by obtain ⟨i, i0, i1, -⟩ := w; omega)]
