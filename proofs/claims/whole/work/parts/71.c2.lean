/-! The class finds the parts: laying, spreading. -/
def stpL (k : Int) : Int := [(-12 : Int), (-1), 1, 12].getD (Int.toNat k) 0
theorem four_cases {k : Int} (h : 0 ≤ k ∧ k < 4) : k = 0 ∨ k = 1 ∨ k = 2 ∨ k = 3 := by omega
theorem stpL_adj {c k : Int} (hk : 0 ≤ k ∧ k < 4) (hc : 0 ≤ c ∧ c < 144) (hn : 0 ≤ c + stpL k ∧ c + stpL k < 144) : Adj c (c + stpL k) := by
  unfold Adj
  rcases four_cases hk with e | e | e | e <;> subst e
  · have : stpL 0 = -12 := rfl
    omega
  · have : stpL 1 = -1 := rfl
    omega
  · have : stpL 2 = 1 := rfl
    omega
  · have : stpL 3 = 12 := rfl
    omega
theorem adj_stpL {c q : Int} (h : Adj c q) : ∃ k, 0 ≤ k ∧ k < 4 ∧ q = c + stpL k := by
  unfold Adj at h
  obtain ⟨_, _, _, _, h | h | h | h⟩ := h
  · exact ⟨2, by omega, by omega, by have : stpL 2 = 1 := rfl; omega⟩
  · exact ⟨1, by omega, by omega, by have : stpL 1 = -1 := rfl; omega⟩
  · exact ⟨3, by omega, by omega, by have : stpL 3 = 12 := rfl; omega⟩
  · exact ⟨0, by omega, by omega, by have : stpL 0 = -12 := rfl; omega⟩
theorem stpL_rng {k : Int} (hk : 0 ≤ k ∧ k < 4) : -12 ≤ stpL k ∧ stpL k ≤ 12 := by
  rcases four_cases hk with e | e | e | e <;> subst e <;> decide
/-- the row of open places -/
def OpR (m : Mem) (q : Nat) (p : Int) (O : Int → Prop) : Prop := ∀ c, 0 ≤ c → c < 144 → (m q p c = 0 ∧ ¬ O c) ∨ (m q p c = 1 ∧ O c)
theorem OpR.eq_iff {m : Mem} {q : Nat} {p : Int} {O : Int → Prop} (h : OpR m q p O) {a b : Int} (ha : 0 ≤ a ∧ a < 144) (hb : 0 ≤ b ∧ b < 144) : m q p a = m q p b ↔ (O a ↔ O b) := by
  rcases h a ha.1 ha.2 with ⟨e, o⟩ | ⟨e, o⟩ <;> rcases h b hb.1 hb.2 with ⟨e2, o2⟩ | ⟨e2, o2⟩
  · rw [e, e2]; exact ⟨fun _ => ⟨fun z => absurd z o, fun z => absurd z o2⟩, fun _ => rfl⟩
  · rw [e, e2]; exact ⟨fun z => by omega, fun z => absurd (z.mpr o2) o⟩
  · rw [e, e2]; exact ⟨fun z => by omega, fun z => absurd (z.mp o) o2⟩
  · rw [e, e2]; exact ⟨fun _ => ⟨fun _ => o2, fun _ => o⟩, fun _ => rfl⟩
theorem sP_lay {Q : AV → Mem → Prop} {p l : Int} {m : Mem} (hw : MW m) (hR : CRel m) (hl : 0 ≤ l ∧ l ≤ 3) (h : ∀ m', FR p [9] m m' → OpR m' 9 p (OM m l) → Q (.inl 0) m') : WP cP_lay 0 [.inr (7, p), .inr (1, 0), .inl l, uu, uu, uu] [] m Q := by
  refine gP_lay_0 p 0 l m ?_
  refine loopU (σ := Mem) (N := 144) (G := fun (k : Int) (s : Mem) => ∀ a4 a5 : AV, WP cP_lay 2 [.inr (7, p), .inr (1, 0), .inl l, .inl k, a4, a5] [] s Q) (I := fun (k : Int) (s : Mem) => FR p [9] m s ∧ ∀ c, 0 ≤ c → c < k → (s 9 p c = 0 ∧ ¬ OM m l c) ∨ (s 9 p c = 1 ∧ OM m l c)) ?_ ?_ 0 m (Int.le_refl 0) (by omega) ⟨FR.refl m, fun c c0 c1 => by omega⟩ uu uu
  · rintro s ⟨h1, h2⟩ a4 a5
    exact gP_lay_2 p 0 l _ a4 a5 s ⟨fun _ => h s h1 h2, fun z => absurd (by omega) z⟩
  · rintro k s k0 k1 ⟨h1, h2⟩ hN a4 a5
    have e34 : s 34 = m 34 := h1.1 34 (by decide)
    have hws : MW s := by rw [MW_eq e34]; exact hw
    have hRs : CRel s := (CRel_eq (by rw [h1.1 1 (by decide)]) (by rw [h1.1 2 (by decide)]) (by rw [h1.1 3 (by decide)]) e34).mpr hR
    have put : ∀ v, ((v = 0 ∧ ¬ OM m l k) ∨ (v = 1 ∧ OM m l k)) → ∀ a4 a5 : AV, WP cP_lay 2 [.inr (7, p), .inr (1, 0), .inl l, .inl (k + 1), a4, a5] [] (mset s 9 p k v) Q := by
      intro v hv
      refine hN _ ⟨h1.put (by decide) (Or.inr rfl), fun c c0 c1 => ?_⟩
      rw [mset_i]
      by_cases e : c = k
      · rw [if_pos e, e]; exact hv
      · rw [if_neg e]; exact h2 c c0 (by omega)
    refine gP_lay_2 p 0 l k a4 a5 s ⟨fun z => by omega, fun _ => sS_xOf (by omega) ⟨_, rfl, sS_yOf (by omega) ⟨_, rfl, sH_hasCell hws hRs (fun c => ⟨1, rfl, fun z => by omega, fun _ => sH_isOpen hws hRs hl c (fun d => ⟨1, rfl, fun z => by omega, fun _ => ⟨by omega, ⟨by omega, by omega⟩, put 1 (Or.inr ⟨rfl, ?_⟩) _ _⟩⟩) (fun d => ⟨0, rfl, fun _ => ⟨by omega, ⟨by omega, by omega⟩, put 0 (Or.inl ⟨rfl, ?_⟩) _ _⟩, fun z => absurd rfl z⟩)⟩) (fun c => ⟨0, rfl, fun _ => ⟨by omega, ⟨by omega, by omega⟩, put 0 (Or.inl ⟨rfl, ?_⟩) _ _⟩, fun z => absurd rfl z⟩)⟩⟩⟩
    · rw [← OM_eq e34]; exact d
    · rw [← OM_eq e34]; exact d
    · rw [← OM_eq e34]; exact fun z => c z.1
theorem cP_miss {P : Int → Prop} {q : Int} : ∀ n : Nat, 0 ≤ q → q < (n : Int) → ¬ P q → cP P n < (n : Int)
  | 0, h0, h1, _ => by omega
  | n + 1, h0, h1, hq => by
    by_cases e : q = (n : Int)
    · rw [cP_no (by rw [← e]; exact hq)]
      have := (cP_rng (P := P) n).2
      omega
    · have ih := cP_miss n h0 (by omega) hq
      by_cases c : P (n : Int)
      · rw [cP_yes c]; omega
      · rw [cP_no c]; omega
/-- what is true while a part is spread -/
def SpI (p n s : Int) (O : Int → Prop) (f : Int → Int) (m0 m : Mem) (w : Int) : Prop :=
  FR p [8, 10] m0 m ∧ (∀ q, 0 ≤ q → q < 144 → (m 10 p q = n ∧ f q = s) ∨ m 10 p q = m0 10 p q) ∧ w = cP (fun q => m 10 p q = n) 144 ∧ (∀ i, 0 ≤ i → i < w → (0 ≤ m 8 0 i ∧ m 8 0 i < 144) ∧ m 10 p (m 8 0 i) = n) ∧ (∀ q, 0 ≤ q → q < 144 → m 10 p q = n → ∃ i, 0 ≤ i ∧ i < w ∧ m 8 0 i = q) ∧ m 10 p s = n
def SpN (p : Int) (O : Int → Prop) (m : Mem) (c k : Int) : Prop := 0 ≤ c + stpL k → c + stpL k < 144 → (O c ↔ O (c + stpL k)) → m 10 p (c + stpL k) ≠ -6
set_option maxHeartbeats 1000000 in
theorem sP_spread {Q : AV → Mem → Prop} {p n s : Int} {O : Int → Prop} {f : Int → Int} {m : Mem} (hL : LabOK O f) (h9 : OpR m 9 p O) (hs : 0 ≤ s ∧ s < 144) (hfs : f s = s) (hn : n ≠ -6) (hA : ∀ q, 0 ≤ q → q < 144 → f q = s → m 10 p q = -6) (hA2 : ∀ q, 0 ≤ q → q < 144 → m 10 p q ≠ n)
    (h : ∀ m', FR p [8, 10] m m' → (∀ q, 0 ≤ q → q < 144 → (f q = s → m' 10 p q = n) ∧ (f q ≠ s → m' 10 p q = m 10 p q)) → Q (.inl (cP (fun q => f q = s) 144)) m') : WP cP_spread 0 [.inr (7, p), .inl s, .inl n, uu, uu, uu, uu, uu, uu, uu] [] m Q := by
  have alk : ∀ q, 0 ≤ q → q < 144 → f q = s → (O s ↔ O q) := fun q q0 q1 e => by rw [← e]; exact hL.alike q0 q1
  -- the end
  have fin : ∀ (m1 : Mem) (w : Int), SpI p n s O f m m1 w → (∀ i, 0 ≤ i → i < w → ∀ k, 0 ≤ k → k < 4 → SpN p O m1 (m1 8 0 i) k) → Q (.inl w) m1 := by
    rintro m1 w ⟨g1, g2, g3, g4, g5, g6⟩ hd
    have vis : ∀ q, 0 ≤ q → q < 144 → (m1 10 p q = n ↔ f q = s) := by
      intro q q0 q1
      constructor
      · intro e
        rcases g2 q q0 q1 with ⟨_, e2⟩ | e2
        · exact e2
        · exact absurd (e2.symm.trans e) (hA2 q q0 q1)
      · intro e
        have hc := (hL q q0 q1).1.2.2
        rw [e] at hc
        refine (hc (fun z => (0 ≤ z ∧ z < 144) ∧ m1 10 p z = n) ⟨hs, g6⟩ (fun a b ha hAd hO => ?_)).2
        obtain ⟨⟨a0, a1⟩, a2⟩ := ha
        have hb0 : 0 ≤ b ∧ b < 144 := ⟨hAd.2.2.1, hAd.2.2.2.1⟩
        refine ⟨hb0, ?_⟩
        obtain ⟨i, i0, i1, ei⟩ := g5 a a0 a1 a2
        obtain ⟨k, k0, k1, ek⟩ := adj_stpL hAd
        have hne := hd i i0 i1 k k0 k1
        unfold SpN at hne
        rw [ei, ← ek] at hne
        have hne := hne hb0.1 hb0.2 hO
        have hfa : f a = s := by
          rcases g2 a a0 a1 with ⟨_, e2⟩ | e2
          · exact e2
          · exact absurd (e2.symm.trans a2) (hA2 a a0 a1)
        have hfb : f b = s := by rw [← (hL a a0 a1).2 b hAd hO]; exact hfa
        rcases g2 b hb0.1 hb0.2 with ⟨e2, _⟩ | e2
        · exact e2
        · exact absurd (e2.trans (hA b hb0.1 hb0.2 hfb)) hne
    have ew : w = cP (fun q => f q = s) 144 := by
      rw [g3]
      exact cP_congr 144 (fun q q0 q1 => vis q q0 (by omega))
    rw [ew]
    refine h m1 g1 (fun q q0 q1 => ⟨fun e => (vis q q0 q1).mpr e, fun e => ?_⟩)
    rcases g2 q q0 q1 with ⟨_, e2⟩ | e2
    · exact absurd e2 e
    · exact e2
  refine gP_spread_0 p s n m ⟨hs, ?_⟩
  have outer : ∀ (t : Nat) (hd w : Int) (m1 : Mem), 0 ≤ hd → hd + (t : Int) = 144 → hd ≤ w → SpI p n s O f m m1 w → (∀ i, 0 ≤ i → i < hd → ∀ k, 0 ≤ k → k < 4 → SpN p O m1 (m1 8 0 i) k) → ∀ a5 a6 a7 a8 a9 : AV, WP cP_spread 19 [.inr (7, p), .inl s, .inl n, .inl w, .inl hd, a5, a6, a7, a8, a9] [] m1 Q := by
    intro t
    induction t with
    | zero =>
      intro hd w m1 d0 dt dw hI hdn a5 a6 a7 a8 a9
      have hw144 : w ≤ 144 := by rw [hI.2.2.1]; exact (cP_rng 144).2
      have ew : hd = w := by omega
      rw [ew] at hdn
      refine gP_spread_19 p s n w hd a5 a6 a7 a8 a9 m1 ⟨fun _ => fin m1 w hI hdn, fun z => absurd (by omega) z⟩
    | succ t ih =>
      intro hd w m1 d0 dt dw hI hdn a5 a6 a7 a8 a9
      refine gP_spread_19 p s n w hd a5 a6 a7 a8 a9 m1 ⟨fun z => fin m1 w hI (fun i i0 i1 => hdn i i0 (by omega)), fun z => ⟨fun z2 => by omega, fun _ => ?_⟩⟩
      obtain ⟨hc, hcn⟩ := hI.2.2.2.1 hd d0 (by omega)
      generalize hcc : m1 8 0 hd = c at *
      refine loopU (σ := Mem × Int) (N := 4) (G := fun (k : Int) (st : Mem × Int) => ∀ a8 a9 : AV, WP cP_spread 46 [.inr (7, p), .inl s, .inl n, .inl st.2, .inl hd, .inr (28, 0), .inl 4, .inl k, a8, a9] [] st.1 Q) (I := fun (k : Int) (st : Mem × Int) => hd < st.2 ∧ SpI p n s O f m st.1 st.2 ∧ st.1 8 0 hd = c ∧ (∀ i, 0 ≤ i → i < hd → ∀ k, 0 ≤ k → k < 4 → SpN p O st.1 (st.1 8 0 i) k) ∧ ∀ j, 0 ≤ j → j < k → SpN p O st.1 c j) ?_ ?_ 0 (m1, w) (Int.le_refl 0) (by omega) ⟨by dsimp only; omega, hI, hcc, hdn, fun j j0 j1 => by omega⟩ a8 a9
      · rintro ⟨m2, w2⟩ ⟨q1, q2, q3, q4, q5⟩ b8 b9
        dsimp only at q1 q2 q3 q4 q5 ⊢
        refine gP_spread_46 p s n w2 hd 4 _ b8 b9 m2 ⟨fun _ => ⟨⟨by omega, by omega⟩, ih (hd + 1) w2 m2 (by omega) (by omega) (by omega) q2 (fun i i0 i1 k k0 k1 => ?_) _ _ _ _ _⟩, fun z => absurd (by omega) z⟩
        by_cases e : i = hd
        · rw [e, q3]; exact q5 k k0 k1
        · exact q4 i i0 (by omega) k k0 k1
      · rintro k ⟨m2, w2⟩ k0 k1 ⟨q1, q2, q3, q4, q5⟩ hN b8 b9
        dsimp only at q1 q2 q3 q4 q5 hN ⊢
        have hst := stpL_rng ⟨k0, k1⟩
        obtain ⟨g1, g2, g3, g4, g5, g6⟩ := q2
        have hrow : ∀ x, m2 8 0 hd + ([(-12), (-1), 1, 12].getD (Int.toNat k) 0 : Int) = x ↔ c + stpL k = x := fun x => by rw [q3]; exact Iff.rfl
        have enx : m2 8 0 hd + ([(-12), (-1), 1, 12].getD (Int.toNat k) 0 : Int) = c + stpL k := by rw [q3]; rfl
        have hc2 : m2 10 p c = n := by
          have := (g4 hd (by omega) q1).2
          rw [q3] at this
          exact this
        have hfc : f c = s := by
          rcases g2 c hc.1 hc.2 with ⟨_, e2⟩ | e2
          · exact e2
          · exact absurd (e2.symm.trans hc2) (hA2 c hc.1 hc.2)
        have skip : SpN p O m2 c k → ∀ b8 b9 : AV, WP cP_spread 46 [.inr (7, p), .inl s, .inl n, .inl w2, .inl hd, .inr (28, 0), .inl 4, .inl (k + 1), b8, b9] [] m2 Q := fun hsp => hN (m2, w2) ⟨q1, ⟨g1, g2, g3, g4, g5, g6⟩, q3, q4, fun j j0 j1 => by
          by_cases e : j = k
          · rw [e]; exact hsp
          · exact q5 j j0 (by omega)⟩
        have hg := @gP_spread_46 Q p s n w2 hd 4 k b8 b9 m2
        rw [enx] at hg
        have h9' : m2 9 = m 9 := g1.1 9 (by decide)
        refine hg ⟨fun z => by omega, fun _ => ⟨by omega, by omega, ⟨by omega, by omega⟩, sS_isPlace (fun c1 => ⟨1, rfl, fun z => by omega, fun _ => ⟨c1, fun z => ⟨⟨by omega, by omega⟩, skip (fun _ _ _ => z) _ _⟩, fun z => ⟨c1, hs, fun z2 => ⟨⟨by omega, by omega⟩, skip (fun _ _ ho => absurd ?_ z2) _ _⟩, fun z2 => ⟨fun z3 => ?_, fun z3 => ⟨c1, by omega, ⟨by omega, by omega⟩, ⟨by omega, by omega⟩, ?_⟩⟩⟩⟩⟩) (fun c1 => ⟨0, rfl, fun _ => ⟨⟨by omega, by omega⟩, skip (fun a b _ => absurd ⟨a, b⟩ c1) _ _⟩, fun z => absurd rfl z⟩)⟩⟩
        · rw [h9', (h9.eq_iff c1 hs)]
          exact ho.symm.trans (alk c hc.1 hc.2 hfc).symm
        · have z := Classical.byContradiction z
          have := cP_miss (P := fun q => m2 10 p q = n) (q := c + stpL k) 144 c1.1 (by omega) (fun e => hn (e.symm.trans z))
          omega
        · have z := Classical.byContradiction z
          have z2 := Classical.byContradiction z2
          rw [h9', (h9.eq_iff c1 hs)] at z2
          have hO : O c ↔ O (c + stpL k) := (alk c hc.1 hc.2 hfc).symm.trans z2.symm
          have hAd := stpL_adj ⟨k0, k1⟩ hc c1
          have hfn : f (c + stpL k) = s := by rw [← (hL c hc.1 hc.2).2 _ hAd hO]; exact hfc
          generalize hnx : c + stpL k = x at *
          have rd10 : ∀ q, (mset (mset m2 10 p x n) 8 0 w2 x) 10 p q = if q = x then n else m2 10 p q := fun q => by rw [mset_k (by decide), mset_i]
          have rd8 : ∀ i, (mset (mset m2 10 p x n) 8 0 w2 x) 8 0 i = if i = w2 then x else m2 8 0 i := fun i => by rw [mset_i, mset_k (by decide)]
          have w0 : 0 ≤ w2 := by omega
          refine hN (mset (mset m2 10 p x n) 8 0 w2 x, w2 + 1) ⟨by dsimp only; omega, ⟨(g1.put (by decide) (Or.inr rfl)).put (by decide) (Or.inl rfl), fun q q0 q1 => ?_, ?_, fun i i0 i1 => ?_, fun q q0 q1 hq => ?_, ?_⟩, ?_, fun i i0 i1 k' e0 e1 => ?_, fun j j0 j1 => ?_⟩ _ _
          · dsimp only
            rw [rd10]
            by_cases e : q = x
            · rw [if_pos e, e]; exact Or.inl ⟨rfl, hfn⟩
            · rw [if_neg e]; exact g2 q q0 q1
          · dsimp only
            have hne : ¬ (m2 10 p x = n) := fun e => hn (e.symm.trans z)
            have ec := cP_add1 (P := fun q => m2 10 p q = n) (r := x) 144 c1.1 hne
            rw [if_pos (by omega), ← g3] at ec
            rw [← ec]
            refine cP_congr 144 (fun q q0 q1 => ?_)
            rw [rd10]
            by_cases e : q = x
            · rw [if_pos e]; exact ⟨fun _ => rfl, fun _ => Or.inr e⟩
            · rw [if_neg e]; exact ⟨fun w => w.elim id (fun w => absurd w e), Or.inl⟩
          · dsimp only at i1 ⊢
            rw [rd8, rd10]
            by_cases e : i = w2
            · rw [if_pos e, if_pos rfl]; exact ⟨c1, rfl⟩
            · rw [if_neg e]
              obtain ⟨a, b⟩ := g4 i i0 (by omega)
              refine ⟨a, ?_⟩
              by_cases e2 : m2 8 0 i = x
              · rw [if_pos e2]
              · rw [if_neg e2]; exact b
          · dsimp only at hq ⊢
            rw [rd10] at hq
            by_cases e : q = x
            · exact ⟨w2, w0, by omega, by rw [rd8, if_pos rfl, e]⟩
            · rw [if_neg e] at hq
              obtain ⟨i, i0, i1, ei⟩ := g5 q q0 q1 hq
              exact ⟨i, i0, by omega, by rw [rd8, if_neg (by omega)]; exact ei⟩
          · dsimp only
            rw [rd10]
            by_cases e : s = x
            · rw [if_pos e]
            · rw [if_neg e]; exact g6
          · dsimp only
            rw [rd8, if_neg (by omega)]; exact q3
          · dsimp only
            rw [rd8, if_neg (by omega)]
            have := q4 i i0 i1 k' e0 e1
            unfold SpN at *
            intro a b c'
            rw [rd10]
            by_cases e : m2 8 0 i + stpL k' = x
            · rw [if_pos e]; exact hn
            · rw [if_neg e]; exact this a b c'
          · dsimp only
            unfold SpN
            intro a b c'
            rw [rd10]
            by_cases e : c + stpL j = x
            · rw [if_pos e]; exact hn
            · rw [if_neg e]
              have hjk : j ≠ k := fun z => e (by rw [z]; exact hnx)
              exact q5 j j0 (by omega) a b c'
  refine outer 144 0 1 _ (by omega) (by omega) (by omega) ⟨(FR.set (by decide) (Or.inr rfl)).put (by decide) (Or.inl rfl), fun q q0 q1 => ?_, ?_, fun i i0 i1 => ?_, fun q q0 q1 hq => ?_, ?_⟩ (fun i i0 i1 => by omega) _ _ _ _ _
  · rw [mset_k (by decide), mset_i]
    by_cases e : q = s
    · rw [if_pos e, e]; exact Or.inl ⟨rfl, hfs⟩
    · rw [if_neg e]; exact Or.inr rfl
  · have ec := cP_add1 (P := fun _ => False) (r := s) 144 hs.1 (fun z => z)
    rw [if_pos (by omega), cP_none (fun _ z => z)] at ec
    rw [show (1 : Int) = 0 + 1 by omega, ← ec]
    refine cP_congr 144 (fun q q0 q1 => ?_)
    rw [mset_k (by decide), mset_i]
    by_cases e : q = s
    · rw [if_pos e]; exact ⟨fun _ => rfl, fun _ => Or.inr e⟩
    · rw [if_neg e]; exact ⟨fun z => z.elim False.elim (fun z => absurd z e), fun z => absurd z (hA2 q q0 (by omega))⟩
  · have : i = 0 := by omega
    rw [this, mset_i, if_pos rfl]
    exact ⟨hs, by rw [mset_k (by decide), mset_i, if_pos rfl]⟩
  · refine ⟨0, by omega, by omega, ?_⟩
    rw [mset_k (by decide), mset_i] at hq
    by_cases e : q = s
    · rw [mset_i, if_pos rfl, e]
    · rw [if_neg e] at hq; exact absurd hq (hA2 q q0 q1)
  · rw [mset_k (by decide), mset_i, if_pos rfl]
