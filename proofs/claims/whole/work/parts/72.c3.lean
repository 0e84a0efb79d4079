/-! The class's parts: numbers, first places, sizes. -/
def RTt (f : Int → Int) (r : Int) : Prop := f r = r
noncomputable def rkP (f : Int → Int) (r : Int) : Int := cP (RTt f) r.toNat
noncomputable def numR (O : Int → Prop) (f : Int → Int) (r : Int) : Int := if r = 0 then -6 else cif (O r) (cP (HR O f) r.toNat) (cP (IR O f) r.toNat)
theorem rkP_lt {f : Int → Int} {r r' : Int} (h : RTt f r) (h0 : 0 ≤ r) (h1 : r < r') : rkP f r < rkP f r' := by
  unfold rkP
  exact cP_lt (by omega) (by rw [show ((r.toNat : Nat) : Int) = r by omega]; exact h)
theorem rkP_inj {f : Int → Int} {r r' : Int} (h : RTt f r) (h' : RTt f r') (h0 : 0 ≤ r) (h0' : 0 ≤ r') (e : rkP f r = rkP f r') : r = r' := by
  rcases Int.lt_trichotomy r r' with c | c | c
  · have := rkP_lt h h0 c; omega
  · exact c
  · have := rkP_lt h' h0' c; omega
theorem rkP_rng {f : Int → Int} {r : Int} {n : Nat} (h : RTt f r) (h0 : 0 ≤ r) (h1 : r < (n : Int)) : 0 ≤ rkP f r ∧ rkP f r < cP (RTt f) n := by
  unfold rkP
  exact ⟨(cP_rng _).1, cP_lt (by omega) (by rw [show ((r.toNat : Nat) : Int) = r by omega]; exact h)⟩
theorem RT_few {m : Mem} {l : Int} {f : Int → Int} (hw : MW m) (hL : LabOK (OM m l) f) (n : Nat) (hn : n ≤ 144) : cP (RTt f) n ≤ 101 := by
  refine cP_slots (g := fun k => if k = 0 then 100 else 10 * (k / 12 - 1) + (k % 12 - 1)) 101 (RTt f) (fun a a0 a1 ha => ?_) (fun a b a0 a1 b0 b1 ha hb e => ?_)
  · by_cases c : a = 0
    · rw [if_pos c]; omega
    · have hin : inS m (a % 12 - 1) (a / 12 - 1) := by
        refine Classical.byContradiction (fun z => c ?_)
        have := fr_f hw hL a0 (by omega) z
        unfold RTt at ha
        omega
      obtain ⟨w1, w2, w3, w4⟩ := hw
      unfold inS at hin
      rw [if_neg c]
      omega
  · have key : ∀ a, 0 ≤ a → a < 144 → RTt f a → a ≠ 0 → 1 ≤ a % 12 ∧ a % 12 ≤ 10 ∧ 1 ≤ a / 12 ∧ a / 12 ≤ 10 := by
      intro a a0 a1 ha c
      have hin : inS m (a % 12 - 1) (a / 12 - 1) := by
        refine Classical.byContradiction (fun z => c ?_)
        have := fr_f hw hL a0 a1 z
        unfold RTt at ha
        omega
      obtain ⟨w1, w2, w3, w4⟩ := hw
      unfold inS at hin
      omega
    by_cases ca : a = 0
    · by_cases cb : b = 0
      · omega
      · have := key b b0 (by omega) hb cb
        rw [if_pos ca, if_neg cb] at e
        omega
    · by_cases cb : b = 0
      · have := key a a0 (by omega) ha ca
        rw [if_neg ca, if_pos cb] at e
        omega
      · have := key a a0 (by omega) ha ca
        have := key b b0 (by omega) hb cb
        rw [if_neg ca, if_neg cb] at e
        omega
/-- what is known when the places below T are through -/
def PFd (m0 m : Mem) (p : Int) (O : Int → Prop) (f : Int → Int) (T : Int) : Prop :=
  FR p [7, 8, 10, 11, 12, 13] m0 m ∧ (∀ q, 0 ≤ q → q < 144 → (f q < T → m 10 p q = rkP f (f q)) ∧ (T ≤ f q → m 10 p q = -6)) ∧ (m 7 p 7 = cP (RTt f) T.toNat ∧ m 7 p 8 = cP (IR O f) T.toNat ∧ m 7 p 9 = cP (HR O f) T.toNat) ∧
  ∀ r, 0 ≤ r → r < T → RTt f r → m 12 p (rkP f r) = r ∧ m 13 p (rkP f r) = cP (fun q => f q = r) 144 ∧ m 11 p (rkP f r) = numR O f r
theorem rd_s {m : Mem} {q : Nat} {i j v j' : Int} (h : j' ≠ j) : mset m q i j v q i j' = m q i j' := by rw [mset_i, if_neg h]
set_option maxHeartbeats 2000000 in
theorem sP_addPart {Q : AV → Mem → Prop} {p T : Int} {O : Int → Prop} {f : Int → Int} {m0 m : Mem} (hL : LabOK O f) (h9 : OpR m 9 p O) (ho0 : ¬ O 0) (hT : 0 ≤ T ∧ T < 144) (hr : RTt f T) (hn : cP (RTt f) T.toNat < 101) (hF : PFd m0 m p O f T) (h : ∀ m', PFd m0 m' p O f (T + 1) → Q (.inl 0) m') : WP cP_addPart 0 [.inr (7, p), .inl T] [] m Q := by
  obtain ⟨g1, g2, ⟨g7, g8, g9⟩, g4⟩ := hF
  have n0 := (cP_rng (P := RTt f) T.toNat).1
  have eT : (T + 1).toNat = T.toNat + 1 := by omega
  have ecT : ((T.toNat : Nat) : Int) = T := by omega
  have hrk : rkP f T = m 7 p 7 := g7.symm
  have hI0 := cP_rng (P := IR O f) T.toNat
  have hH0 := cP_rng (P := HR O f) T.toNat
  have c1 : cP (RTt f) (T + 1).toNat = m 7 p 7 + 1 := by rw [eT, cP_yes (by rw [ecT]; exact hr), g7]
  have rfl0 : ∀ q, 0 ≤ q → q < 144 → RTt f (f q) := fun q q0 q1 => hL.idem q0 q1
  generalize hnn : m 7 p 7 = n at *
  have T0 : n = 0 → T = 0 := by
    intro e
    refine Classical.byContradiction (fun z => ?_)
    have h0 := (hL 0 (by omega) (by omega)).1
    have := rkP_lt (f := f) (r := 0) (r' := T) (show f 0 = 0 by omega) (by omega) (by omega)
    have r0 : rkP f 0 = 0 := rfl
    omega
  have tail : ∀ mA : Mem, FR p [7, 8, 10, 11, 12, 13] m mA → mA 9 p = m 9 p → mA 10 p = m 10 p → mA 7 p 7 = n → mA 7 p 8 = cP (IR O f) (T + 1).toNat → mA 7 p 9 = cP (HR O f) (T + 1).toNat → mA 13 p = m 13 p → (∀ j, mA 12 p j = if j = n then T else m 12 p j) → (∀ j, mA 11 p j = if j = n then numR O f T else m 11 p j) →
      WP cP_spread 0 [.inr (7, p), .inl T, .inl n, uu, uu, uu, uu, uu, uu, uu] [] mA (fun r m1 => ∃ r1 : Int, r = .inl r1 ∧ ((0 ≤ n ∧ n < 101) ∧ (Rng (m1 7 p 7 + 1) ∧ Q (.inl 0) (mset (mset m1 13 p n r1) 7 p 7 (m1 7 p 7 + 1))))) := by
    intro mA a1 a9 a10 a7 a8 a8' a13 a12 a11
    refine sP_spread (O := O) (f := f) hL ?_ hT hr (by omega) (fun q q0 q1 e => ?_) (fun q q0 q1 e => ?_) (fun m1 f1 hv => ⟨_, rfl, ⟨by omega, by omega⟩, ?_⟩)
    · intro c c0 c1; rw [a9]; exact h9 c c0 c1
    · rw [a10]; exact (g2 q q0 q1).2 (by omega)
    · rw [a10] at e
      rcases Int.lt_or_le (f q) T with c | c
      · rw [(g2 q q0 q1).1 c] at e
        have := rkP_lt (rfl0 q q0 q1) (hL q q0 q1).1.1 c
        omega
      · rw [(g2 q q0 q1).2 c] at e
        omega
    · have e7 : m1 7 = mA 7 := f1.1 7 (by decide)
      have e11 : m1 11 = mA 11 := f1.1 11 (by decide)
      have e12 : m1 12 = mA 12 := f1.1 12 (by decide)
      have e13 : m1 13 = mA 13 := f1.1 13 (by decide)
      rw [e7, a7]
      refine ⟨⟨by omega, by omega⟩, h _ ⟨?_, fun q q0 q1 => ?_, ⟨?_, ?_, ?_⟩, fun r r0 r1 hrr => ?_⟩⟩
      · exact ((g1.trans (a1.trans (f1.mono (by decide)))).put (by decide) (Or.inr rfl)).put (by decide) (Or.inr rfl)
      · rw [mset_k (by decide), mset_k (by decide)]
        obtain ⟨v1, v2⟩ := hv q q0 q1
        refine ⟨fun z => ?_, fun z => ?_⟩
        · by_cases e : f q = T
          · rw [v1 e, e, hrk]
          · rw [v2 e, a10]; exact (g2 q q0 q1).1 (by omega)
        · rw [v2 (by omega), a10]; exact (g2 q q0 q1).2 (by omega)
      · rw [mset_i, if_pos rfl, c1]
      · rw [rd_s (by decide), mset_k (by decide), e7]; exact a8
      · rw [rd_s (by decide), mset_k (by decide), e7]; exact a8'
      · rw [mset_k (by decide), mset_k (by decide), mset_k (by decide), mset_i, mset_k (by decide), mset_k (by decide), e11, e12, e13, a12, a11]
        by_cases e : r = T
        · rw [e, hrk, if_pos rfl, if_pos rfl, if_pos rfl]
          exact ⟨rfl, rfl, rfl⟩
        · have hlt := rkP_lt hrr r0 (show r < T by omega)
          rw [if_neg (by omega), if_neg (by omega), if_neg (by omega), a13]
          exact g4 r r0 (by omega) hrr
  have gg := @gP_addPart_0 Q p T m
  simp only [hnn, rd_k, rd_s, ne_eq, Nat.reduceEqDiff, Int.reduceEq, not_false_eq_true] at gg
  refine gg ⟨fun z => ⟨hT, fun z2 => ⟨⟨by omega, by omega⟩, ⟨by omega, by omega⟩, ⟨by omega, by omega⟩, tail _ ?_ ?_ ?_ ?_ ?_ ?_ ?_ ?_ ?_⟩, fun z2 => ⟨⟨by omega, by omega⟩, ⟨by omega, by omega⟩, ⟨by omega, by omega⟩, tail _ ?_ ?_ ?_ ?_ ?_ ?_ ?_ ?_ ?_⟩⟩, fun z => ⟨⟨by omega, by omega⟩, ⟨by omega, by omega⟩, tail _ ?_ ?_ ?_ ?_ ?_ ?_ ?_ ?_ ?_⟩⟩
  -- a closed part
  · exact (((FR.refl m).put (by decide) (Or.inr rfl)).put (by decide) (Or.inr rfl)).put (by decide) (Or.inr rfl)
  · rw [mset_k (by decide), mset_k (by decide), mset_k (by decide)]
  · rw [mset_k (by decide), mset_k (by decide), mset_k (by decide)]
  · rw [mset_k (by decide), rd_s (by decide), mset_k (by decide)]; exact hnn
  · have hc : ¬ O T := by rcases h9 T hT.1 hT.2 with ⟨e, o⟩ | ⟨e, o⟩; exact o; omega
    have hT0 : T ≠ 0 := fun e => z (by rw [g7, e]; rfl)
    rw [mset_k (by decide), mset_i, if_pos rfl, eT, cP_yes (by rw [ecT]; exact ⟨hc, hr, hT0⟩), g8]
  · have hc : ¬ O T := by rcases h9 T hT.1 hT.2 with ⟨e, o⟩ | ⟨e, o⟩; exact o; omega
    rw [mset_k (by decide), rd_s (by decide), mset_k (by decide), eT, cP_no (by rw [ecT]; exact fun w => hc w.1), g9]
  · rw [mset_k (by decide), mset_k (by decide), mset_k (by decide)]
  · intro j; rw [mset_i, mset_k (by decide), mset_k (by decide)]
  · intro j
    have hc : ¬ O T := by rcases h9 T hT.1 hT.2 with ⟨e, o⟩ | ⟨e, o⟩; exact o; omega
    have hT0 : T ≠ 0 := fun e => z (by rw [g7, e]; rfl)
    rw [mset_k (by decide), mset_k (by decide), mset_i]
    unfold numR
    rw [if_neg hT0, cif_neg hc, g8]
  -- an open part
  · exact (((FR.refl m).put (by decide) (Or.inr rfl)).put (by decide) (Or.inr rfl)).put (by decide) (Or.inr rfl)
  · rw [mset_k (by decide), mset_k (by decide), mset_k (by decide)]
  · rw [mset_k (by decide), mset_k (by decide), mset_k (by decide)]
  · rw [mset_k (by decide), rd_s (by decide), mset_k (by decide)]; exact hnn
  · have hc : O T := by rcases h9 T hT.1 hT.2 with ⟨e, o⟩ | ⟨e, o⟩; omega; exact o
    rw [mset_k (by decide), rd_s (by decide), mset_k (by decide), eT, cP_no (by rw [ecT]; exact fun w => w.1 hc), g8]
  · have hc : O T := by rcases h9 T hT.1 hT.2 with ⟨e, o⟩ | ⟨e, o⟩; omega; exact o
    rw [mset_k (by decide), mset_i, if_pos rfl, eT, cP_yes (by rw [ecT]; exact ⟨hc, hr⟩), g9]
  · rw [mset_k (by decide), mset_k (by decide), mset_k (by decide)]
  · intro j; rw [mset_i, mset_k (by decide), mset_k (by decide)]
  · intro j
    have hc : O T := by rcases h9 T hT.1 hT.2 with ⟨e, o⟩ | ⟨e, o⟩; omega; exact o
    have hT0 : T ≠ 0 := fun e => z (by rw [g7, e]; rfl)
    rw [mset_k (by decide), mset_k (by decide), mset_i]
    unfold numR
    rw [if_neg hT0, cif_pos hc, g9]
  -- the frame's part
  · exact ((FR.refl m).put (by decide) (Or.inr rfl)).put (by decide) (Or.inr rfl)
  · rw [mset_k (by decide), mset_k (by decide)]
  · rw [mset_k (by decide), mset_k (by decide)]
  · rw [mset_k (by decide), mset_k (by decide)]; exact hnn
  · have hz := T0 (Classical.byContradiction z)
    rw [mset_k (by decide), mset_k (by decide), eT, cP_no (by rw [ecT]; exact fun w => w.2.2 hz), g8]
  · have hz := T0 (Classical.byContradiction z)
    rw [mset_k (by decide), mset_k (by decide), eT, cP_no (by rw [ecT]; exact fun w => ho0 (hz ▸ w.1)), g9]
  · rw [mset_k (by decide), mset_k (by decide)]
  · intro j; rw [mset_i, mset_k (by decide)]
  · intro j
    have hz := T0 (Classical.byContradiction z)
    rw [mset_k (by decide), mset_i]
    unfold numR
    rw [if_pos hz]
theorem sP_find_32 {Q : AV → Mem → Prop} {p l : Int} {f : Int → Int} {m : Mem} (hw : MW m) (hL : LabOK (OM m l) f) (h9 : OpR m 9 p (OM m l)) (hF : PFd m m p (OM m l) f 0)
    (h : ∀ m', PFd m m' p (OM m l) f 144 → Q (.inl 0) m') : WP cP_find 32 [.inr (7, p), .inr (1, 0), .inl l, .inl 0] [] m Q := by
  refine loopU (σ := Mem) (N := 144) (G := fun (k : Int) (s : Mem) => WP cP_find 32 [.inr (7, p), .inr (1, 0), .inl l, .inl k] [] s Q) (I := fun (k : Int) (s : Mem) => PFd m s p (OM m l) f k) ?_ ?_ 0 m (Int.le_refl 0) (by omega) hF
  · intro s hs
    exact gP_find_32 p 0 l _ s ⟨fun _ => h s hs, fun z => absurd (by omega) z⟩
  · intro k s k0 k1 hs hN
    have e9 : s 9 = m 9 := hs.1.1 9 (by decide)
    have hfk := (hL k k0 k1).1
    have h10 := hs.2.1 k k0 k1
    have hno : ¬ RTt f k → PFd m s p (OM m l) f (k + 1) := by
      intro hr
      have hr' : ¬ f k = k := hr
      have ek : ((k.toNat : Nat) : Int) = k := by omega
      have e1 : (k + 1).toNat = k.toNat + 1 := by omega
      obtain ⟨a1, a2, ⟨a3, a4, a5⟩, a6⟩ := hs
      refine ⟨a1, fun q q0 q1 => ⟨fun z => (a2 q q0 q1).1 ?_, fun z => (a2 q q0 q1).2 (by omega)⟩, ⟨?_, ?_, ?_⟩, fun r r0 r1 hrr => a6 r r0 ?_ hrr⟩
      · have hi : RTt f (f q) := hL.idem q0 q1
        rcases Int.lt_or_eq_of_le (Int.le_of_lt_add_one z) with c | c
        · exact c
        · rw [c] at hi; exact absurd hi hr
      · rw [e1, cP_no (by rw [ek]; exact hr)]; exact a3
      · rw [e1, cP_no (by rw [ek]; exact fun w => hr w.2.1)]; exact a4
      · rw [e1, cP_no (by rw [ek]; exact fun w => hr w.2)]; exact a5
      · rcases Int.lt_or_eq_of_le (Int.le_of_lt_add_one r1) with c | c
        · exact c
        · rw [c] at hrr; exact absurd hrr hr
    refine gP_find_32 p 0 l k s ⟨fun z => by omega, fun _ => ⟨by omega, fun z => ⟨⟨by omega, by omega⟩, hN s (hno (fun w => z (h10.2 ?_)))⟩, fun z => ?_⟩⟩
    · have w : f k = k := w
      omega
    · have hr : RTt f k := by
        refine Classical.byContradiction (fun w => ?_)
        have w : ¬ f k = k := w
        have e := h10.1 (by omega)
        have hi := rkP_rng (f := f) (r := f k) (n := 144) (hL.idem k0 k1) hfk.1 (by omega)
        have z := Classical.byContradiction z
        omega
      have hfew := RT_few hw hL (k + 1).toNat (by omega)
      rw [show (k + 1).toNat = k.toNat + 1 by omega, cP_yes (by rw [show ((k.toNat : Nat) : Int) = k by omega]; exact hr)] at hfew
      have h7 := hs.2.2.1.1
      refine ⟨fun z2 => by omega, fun _ => sP_addPart hL (fun c c0 c1 => by rw [e9]; exact h9 c c0 c1) OM_0 ⟨k0, k1⟩ hr (by omega) hs (fun m' hF' => ⟨⟨by omega, by omega⟩, hN m' hF'⟩)⟩
