/-! The class's runs, in their order. -/
theorem sB_startOf {Q : AV → Mem → Prop} {k : Int} {m : Mem} (hk : 0 ≤ k) (h : Q (.inl (k % 144)) m) : WP cB_startOf 0 [.inl k] [] m Q := gB_startOf_0 k m ⟨hk, h⟩
theorem sB_stepOf {Q : AV → Mem → Prop} {k : Int} {m : Mem} (hk : 0 ≤ k) (h : Q (.inl (stp (k / 144 % 2))) m) : WP cB_stepOf 0 [.inl k] [] m Q := by
  unfold stp at h
  refine gB_stepOf_0 k m ⟨hk, by omega, fun z => ?_, fun z => ?_⟩
  · rw [if_pos (by omega)] at h; exact h
  · rw [if_neg (by omega)] at h; exact h
theorem sB_lengthOf {Q : AV → Mem → Prop} {k : Int} {m : Mem} (hk : 0 ≤ k) (h : Q (.inl (k / 288)) m) : WP cB_lengthOf 0 [.inl k] [] m Q := by
  refine gB_lengthOf_0 k m ⟨hk, by omega, ?_⟩
  rw [show k / 144 / 2 = k / 288 by omega]
  exact h
theorem stp_rng {d : Int} : 1 ≤ stp d ∧ stp d ≤ 12 := by unfold stp; split <;> omega
theorem mul_stp_rng {n d : Int} (hn : 0 ≤ n ∧ n ≤ 20) : 0 ≤ n * stp d ∧ n * stp d ≤ 240 := by unfold stp; split <;> omega
theorem sB_placeBefore {Q : AV → Mem → Prop} {k : Int} {m : Mem} (hk : 0 ≤ k) (h : Q (.inl (k % 144 - stp (k / 144 % 2))) m) : WP cB_placeBefore 0 [.inl k] [] m Q := by
  have := stp_rng (d := k / 144 % 2)
  exact gB_placeBefore_0 k m (sB_startOf hk ⟨_, rfl, sB_stepOf hk ⟨_, rfl, ⟨by omega, by omega⟩, h⟩⟩)
theorem sB_placeAfter {Q : AV → Mem → Prop} {k : Int} {m : Mem} (hk : 0 ≤ k ∧ k < 4000) (h : Q (.inl (k % 144 + k / 288 * stp (k / 144 % 2))) m) : WP cB_placeAfter 0 [.inl k] [] m Q := by
  have := mul_stp_rng (n := k / 288) (d := k / 144 % 2) (by omega)
  exact gB_placeAfter_0 k m (sB_startOf hk.1 ⟨_, rfl, sB_lengthOf hk.1 ⟨_, rfl, sB_stepOf hk.1 ⟨_, rfl, ⟨by omega, by omega⟩, ⟨by omega, by omega⟩, h⟩⟩⟩)
theorem Str_RK {O : Int → Prop} {c d n : Int} (hc : 0 ≤ c ∧ c < 144) (hd : d = 0 ∨ d = 1) (h : Str O c d n) : RK O (fun x => x) (keyR c d n) := by
  obtain ⟨t1, t2, t3⟩ := keyR_p (p := c) (d := d) (n := n) hc (by omega)
  unfold RK
  rw [t1, t2, t3]
  refine ⟨h, ?_⟩
  have h1 := h.1
  have := stp_rng (d := d)
  have : 0 ≤ n * stp d := Int.mul_nonneg (by omega) (by omega)
  show c - stp d ≠ c + n * stp d
  omega
theorem Str_geo {O : Int → Prop} (hC : Cel O) {c d n : Int} (hc : 0 ≤ c ∧ c < 144) (hd : d = 0 ∨ d = 1) (h : Str O c d n) : (1 ≤ n ∧ n ≤ 10) ∧ (0 ≤ c - stp d ∧ c - stp d < 144) ∧ (0 ≤ c + n * stp d ∧ c + n * stp d < 144) := by
  have g := run_geo hC (Str_RK hc hd h)
  obtain ⟨t1, t2, t3⟩ := keyR_p (p := c) (d := d) (n := n) hc (by omega)
  rw [t1, t2, t3] at g
  exact ⟨⟨g.2.1, g.2.2.1⟩, g.2.2.2.1, g.2.2.2.2.1⟩
theorem sB_lengthFrom {Q : AV → Mem → Prop} {p c d : Int} {O : Int → Prop} {m : Mem} (hC : Cel O) (h9 : OpR m 9 p O) (hc : 0 ≤ c ∧ c < 144) (hd : d = 0 ∨ d = 1) (ho : O c) (hp : ¬ O (c - stp d)) (h : ∀ n, Str O c d n → Q (.inl n) m) : WP cB_lengthFrom 0 [.inr (15, p), .inl c, .inl (stp d), uu, uu] [] m Q := by
  have hst := stp_rng (d := d)
  refine gB_lengthFrom_0 p c (stp d) m ?_
  have key : ∀ (t : Nat) (n : Int), 0 ≤ n → n + (t : Int) = 12 → (∀ i, 0 ≤ i → i < n → O (c + i * stp d)) → (n = 0 → O c) → (0 ≤ c + n * stp d ∧ c + n * stp d < 144) → WP cB_lengthFrom 5 [.inr (15, p), .inl c, .inl (stp d), .inl n, .inl (c + n * stp d)] [] m Q := by
    intro t
    induction t with
    | zero =>
      intro n n0 nt hall _ _
      have h11 := run_xy hC hd hall 11 (by omega)
      have h0 := hC _ ho
      have hl := hC _ (hall 11 (by omega) (by omega))
      rcases hd with rfl | rfl <;> omega
    | succ t ih =>
      intro n n0 nt hall h0 hr
      refine gB_lengthFrom_5 p c (stp d) n _ m ⟨fun z => by omega, fun _ => ⟨hr, fun z => ?_, fun z => ⟨⟨by omega, by omega⟩, ⟨by omega, by omega⟩, ?_⟩⟩⟩
      · have hno : ¬ O (c + n * stp d) := by
          rcases h9 _ hr.1 hr.2 with ⟨_, o⟩ | ⟨e, _⟩
          · exact o
          · omega
        refine h n ⟨?_, hp, hall, hno⟩
        refine Classical.byContradiction (fun w => hno ?_)
        have : n = 0 := by omega
        rw [this, Int.zero_mul, Int.add_zero]
        exact ho
      · have hyes : O (c + n * stp d) := by
          rcases h9 _ hr.1 hr.2 with ⟨e, _⟩ | ⟨_, o⟩
          · exact absurd e z
          · exact o
        have e1 : c + n * stp d + stp d = c + (n + 1) * stp d := by rw [Int.add_mul, Int.one_mul]; omega
        have hgeo := hC _ hyes
        rw [e1]
        refine ih (n + 1) (by omega) (by omega) (fun i i0 i1 => ?_) (fun z => by omega) ?_
        · by_cases e : i = n
          · rw [e]; exact hyes
          · exact hall i i0 (by omega)
        · rw [← e1]; omega
  have := key 12 0 (by omega) (by omega) (fun i i0 i1 => by omega) (fun _ => ho) (by rw [Int.zero_mul, Int.add_zero]; exact hc)
  rw [Int.zero_mul, Int.add_zero] at this
  exact this
/-- the row of runs holds these keys in their order -/
def RunsI (m : Mem) (p : Int) (S : Int → Prop) : Prop := m 15 p 6 = cP S 3168 ∧ ∀ k, 0 ≤ k → k < 3168 → S k → m 16 p (cP S k.toNat) = k
theorem RunsI_congr {m : Mem} {p : Int} {S S' : Int → Prop} (h : ∀ k, 0 ≤ k → k < 3168 → (S k ↔ S' k)) (hR : RunsI m p S) : RunsI m p S' := by
  refine ⟨?_, fun k k0 k1 hk => ?_⟩
  · rw [hR.1]; exact cP_congr 3168 (fun k k0 k1 => h k k0 (by omega))
  · have := hR.2 k k0 k1 ((h k k0 k1).mpr hk)
    rw [← cP_congr (P := S) (P' := S') k.toNat (fun j j0 j1 => h j j0 (by omega))]
    exact this
theorem cP_imp {P P' : Int → Prop} {n : Nat} (h : ∀ p, 0 ≤ p → p < (n : Int) → P p → P' p) : cP P n ≤ cP P' n := by
  refine Classical.byContradiction (fun z => ?_)
  obtain ⟨p, p0, p1, p2, p3⟩ := cP_sub (P := P') (P' := P) n (by omega)
  exact p3 (h p p0 p1 p2)
set_option maxHeartbeats 1000000 in
theorem sB_insertRun {Q : AV → Mem → Prop} {p k0 : Int} {S : Int → Prop} {m : Mem} (hk : 0 ≤ k0 ∧ k0 < 3168) (hR : RunsI m p S) (hn : ¬ S k0) (hlt : cP S 3168 < 100) (h : ∀ m', FR p [15, 16] m m' → (∀ j, j ≠ 6 → m' 15 p j = m 15 p j) → RunsI m' p (fun k => S k ∨ k = k0) → Q (.inl 0) m') : WP cB_insertRun 0 [.inr (15, p), .inl k0, uu] [] m Q := by
  obtain ⟨r1, r2⟩ := hR
  have hN0 := (cP_rng (P := S) 3168).1
  generalize hN : cP S 3168 = N at *
  have hL : ∀ i, 0 ≤ i → i < N → ∃ k, 0 ≤ k ∧ k < 3168 ∧ S k ∧ cP S k.toNat = i ∧ m 16 p i = k := by
    intro i i0 i1
    obtain ⟨k, a, b, c⟩ := cP_hit (P := S) 3168 i0 (by rw [hN]; exact i1)
    refine ⟨(k : Int), by omega, by omega, b, by rw [Int.toNat_natCast]; exact c, ?_⟩
    have := r2 (k : Int) (by omega) (by omega) b
    rw [Int.toNat_natCast, c] at this
    exact this
  -- the end: at is the rank of the new one
  have fin : ∀ (a : Int) (s : Mem), 0 ≤ a → a ≤ N → (∀ q, q ≠ 16 → s q = m q) → (∀ i, i ≠ p → s 16 i = m 16 i) → (∀ i, 0 ≤ i → i < a → s 16 p i = m 16 p i) → (∀ i, a < i → i ≤ N → s 16 p i = m 16 p (i - 1)) → (∀ i, a ≤ i → i < N → k0 < m 16 p i) → (a = 0 ∨ m 16 p (a - 1) ≤ k0) → (0 ≤ a ∧ a < 100) ∧ (Rng (((mset s 16 p a k0) 15 p 6) + 1) ∧ Q (.inl 0) (mset (mset s 16 p a k0) 15 p 6 (((mset s 16 p a k0) 15 p 6) + 1))) := by
    intro a s a0 a1 s1 s2 s3 s4 s5 s6
    have e6 : (mset s 16 p a k0) 15 p 6 = N := by rw [mset_k (by decide), s1 15 (by decide)]; exact r1
    rw [e6]
    have hat : cP S k0.toNat = a := by
      have c0 := (cP_rng (P := S) k0.toNat).1
      rcases Int.lt_trichotomy (cP S k0.toNat) a with c | c | c
      · have hz : ¬ a = 0 := by omega
        have h6 := s6.resolve_left hz
        obtain ⟨k, q0, q1, q2, q3, q4⟩ := hL (a - 1) (by omega) (by omega)
        have hkk : k ≠ k0 := fun e => hn (e ▸ q2)
        have := cP_lt (P := S) (a := k.toNat) (b := k0.toNat) (by omega) (by rw [show ((k.toNat : Nat) : Int) = k by omega]; exact q2)
        omega
      · exact c
      · obtain ⟨k, q1, q2, q3⟩ := cP_hit (P := S) k0.toNat a0 c
        have h1 : cP S k < N := by rw [← hN]; exact cP_lt (by omega) q2
        have := s5 a (Int.le_refl a) (by omega)
        have h2 := r2 (k : Int) (by omega) (by omega) q2
        rw [Int.toNat_natCast, q3] at h2
        omega
    refine ⟨by omega, ⟨by omega, by omega⟩, h _ ?_ (fun j hj => by rw [rd_s hj, mset_k (by decide), s1 15 (by decide)]) ⟨?_, fun k q0 q1 hk => ?_⟩⟩
    · refine FR.put (FR.put ⟨fun q hq => s1 q (fun z => hq (by rw [z]; decide)), fun q hq i hi => ?_⟩ (by decide) (Or.inr rfl)) (by decide) (Or.inr rfl)
      by_cases e : q = 16
      · rw [e]; exact s2 i hi
      · rw [s1 q e]
    · rw [mset_i, if_pos rfl, cP_add1 3168 hk.1 hn, if_pos (by omega), hN]
    · rw [mset_k (by decide), mset_i]
      have ec := cP_add1 (P := S) (r := k0) k.toNat (by omega) hn
      by_cases e : k = k0
      · rw [if_neg (by omega), Int.add_zero] at ec
        rw [ec, if_pos (by rw [e]; exact hat), e]
      · have hS : S k := by rcases hk with w | w; exact w; exact absurd w e
        have hv := r2 k q0 q1 hS
        by_cases c : k0 < k
        · rw [if_pos (by omega)] at ec
          have h1 : a ≤ cP S k.toNat := by rw [← hat]; exact cP_mono (by omega)
          have h2 : cP S k.toNat < N := by rw [← hN]; exact cP_lt (by omega) (by rw [show ((k.toNat : Nat) : Int) = k by omega]; exact hS)
          rw [ec, if_neg (by omega), s4 _ (by omega) (by omega), show cP S k.toNat + 1 - 1 = cP S k.toNat by omega]
          exact hv
        · rw [if_neg (by omega), Int.add_zero] at ec
          have h1 : cP S k.toNat < a := by rw [← hat]; exact cP_lt (by omega) (by rw [show ((k.toNat : Nat) : Int) = k by omega]; exact hS)
          rw [ec, if_neg (by omega), s3 _ (cP_rng _).1 h1]
          exact hv
  refine gB_insertRun_0 p k0 m ⟨fun _ => ?_, fun z => absurd (by rw [r1]; exact hlt) z⟩
  rw [r1]
  have loop : ∀ (t : Nat) (a : Int) (s : Mem), a = (t : Int) → a ≤ N → (∀ q, q ≠ 16 → s q = m q) → (∀ i, i ≠ p → s 16 i = m 16 i) → (∀ i, 0 ≤ i → i < a → s 16 p i = m 16 p i) → (∀ i, a < i → i ≤ N → s 16 p i = m 16 p (i - 1)) → (∀ i, a ≤ i → i < N → k0 < m 16 p i) → WP cB_insertRun 15 [.inr (15, p), .inl k0, .inl a] [] s Q := by
    intro t
    induction t with
    | zero =>
      intro a s ea a1 s1 s2 s3 s4 s5
      exact gB_insertRun_15 p k0 a s ⟨fun _ => fin a s (by omega) a1 s1 s2 s3 s4 s5 (Or.inl (by omega)), fun z => absurd (by omega) z⟩
    | succ t ih =>
      intro a s ea a1 s1 s2 s3 s4 s5
      have e1 := s3 (a - 1) (by omega) (by omega)
      refine gB_insertRun_15 p k0 a s ⟨fun z => by omega, fun _ => ⟨⟨by omega, by omega⟩, by omega, fun z => fin a s (by omega) a1 s1 s2 s3 s4 s5 (Or.inr (by omega)), fun z => ⟨⟨by omega, by omega⟩, by omega, by omega, ⟨by omega, by omega⟩, ih (a + -1) _ (by omega) (by omega) (fun q hq => (mset_k hq).trans (s1 q hq)) (fun i hi => ?_) (fun i i0 i1 => ?_) (fun i i0 i1 => ?_) (fun i i0 i1 => ?_)⟩⟩⟩
      · rw [← s2 i hi]
        funext j
        exact mset_ne (fun z => hi z.2.1)
      · rw [mset_i, if_neg (by omega)]; exact s3 i i0 (by omega)
      · rw [mset_i]
        by_cases e : i = a
        · rw [if_pos e, e1, e]
        · rw [if_neg e]; exact s4 i (by omega) i1
      · by_cases e : i = a - 1
        · rw [e]; omega
        · exact s5 i (by omega) i1
  exact loop N.toNat N m (by omega) (Int.le_refl N) (fun _ _ => rfl) (fun _ _ => rfl) (fun _ _ _ => rfl) (fun i i0 i1 => by omega) (fun i i0 i1 => by omega)
/-- runs of lower direction, or of this one that begin below T -/
def RKd (O : Int → Prop) (f : Int → Int) (v T k : Int) : Prop := RK O f k ∧ (k / 144 % 2 < v ∨ (k / 144 % 2 = v ∧ k % 144 < T))
set_option maxHeartbeats 1000000 in
theorem sB_findRuns {Q : AV → Mem → Prop} {p v : Int} {O : Int → Prop} {f : Int → Int} {m : Mem} (hC : Cel O) (hL : LabOK O f) (h9 : OpR m 9 p O) (hT : CTi m p f) (hv : v = 0 ∨ v = 1) (hR : RunsI m p (RKd O f v 0)) (h : ∀ m', FR p [15, 16] m m' → (∀ j, j ≠ 6 → m' 15 p j = m 15 p j) → RunsI m' p (RKd O f v 144) → Q (.inl 0) m') : WP cB_findRuns 0 [.inr (15, p), .inl v, uu, uu, uu, uu] [] m Q := by
  have hst := stp_rng (d := v)
  have core : ∀ a4 a5 : AV, WP cB_findRuns 14 [.inr (15, p), .inl v, .inl (stp v), .inl (stp v), a4, a5] [] m Q := by
    refine loopU (σ := Mem) (N := 144) (G := fun (T : Int) (s : Mem) => ∀ a4 a5 : AV, WP cB_findRuns 14 [.inr (15, p), .inl v, .inl (stp v), .inl T, a4, a5] [] s Q) (I := fun (T : Int) (s : Mem) => stp v ≤ T ∧ FR p [15, 16] m s ∧ (∀ j, j ≠ 6 → s 15 p j = m 15 p j) ∧ RunsI s p (RKd O f v T)) ?_ ?_ (stp v) m (by omega) (by omega) ⟨Int.le_refl _, FR.refl m, fun _ _ => rfl, RunsI_congr (fun k k0 k1 => ?_) hR⟩
    · rintro s ⟨-, s1, s2, s3⟩ a4 a5
      exact gB_findRuns_14 p v (stp v) _ a4 a5 s ⟨fun _ => h s s1 s2 s3, fun z => absurd (by omega) z⟩
    · rintro T s T0 T1 ⟨T2, s1, s2, s3⟩ hNx a4 a5
      have h9s : OpR s 9 p O := by intro c c0 c1; rw [s1.1 9 (by decide)]; exact h9 c c0 c1
      have hTs : CTi s p f := hT.of (by rw [s1.1 10 (by decide)]) (by rw [s1.1 7 (by decide)])
      have no : (∀ n, ¬ isRun O f T v n) → ∀ a4 a5 : AV, WP cB_findRuns 14 [.inr (15, p), .inl v, .inl (stp v), .inl (T + 1), a4, a5] [] s Q := by
        intro hno
        refine hNx s ⟨by omega, s1, s2, RunsI_congr (fun k k0 k1 => ?_) s3⟩
        unfold RKd
        constructor
        · rintro ⟨a, b⟩; exact ⟨a, by omega⟩
        · rintro ⟨a, b⟩
          refine ⟨a, ?_⟩
          by_cases e : k / 144 % 2 = v ∧ k % 144 = T
          · unfold RK at a
            rw [e.1, e.2] at a
            exact absurd a (hno _)
          · omega
      have hrow : 0 ≤ T - stp v ∧ T - stp v < 144 := by omega
      refine gB_findRuns_14 p v (stp v) T a4 a5 s ⟨fun z => by omega, fun _ => ⟨by omega, fun z => ⟨⟨by omega, by omega⟩, no (fun n hn => ?_) _ _⟩, fun z => ⟨⟨by omega, by omega⟩, hrow, fun z2 => ⟨⟨by omega, by omega⟩, no (fun n hn => ?_) _ _⟩, fun z2 => ?_⟩⟩⟩
      · rcases h9s T T0 T1 with ⟨_, o⟩ | ⟨e, _⟩
        · exact o hn.1.at0
        · omega
      · rcases h9s _ hrow.1 hrow.2 with ⟨e, _⟩ | ⟨_, o⟩
        · exact z2 e
        · exact hn.1.2.1 o
      · have hoT : O T := by
          rcases h9s T T0 T1 with ⟨e, _⟩ | ⟨_, o⟩
          · exact absurd e z
          · exact o
        have hnp : ¬ O (T - stp v) := by
          rcases h9s _ hrow.1 hrow.2 with ⟨_, o⟩ | ⟨e, _⟩
          · exact o
          · exact absurd (fun w => by omega) z2
        refine sB_lengthFrom hC h9s ⟨T0, T1⟩ hv hoT hnp (fun n hn => ⟨n, rfl, ?_⟩)
        obtain ⟨n1, b1, b2⟩ := Str_geo hC ⟨T0, T1⟩ hv hn
        have hk : (n * 2 + v) * 144 + T = keyR T v n := rfl
        obtain ⟨t1, t2, t3⟩ := keyR_p (p := T) (d := v) (n := n) ⟨T0, T1⟩ (by omega)
        have hkr : 0 ≤ keyR T v n ∧ keyR T v n < 3168 := by unfold keyR; omega
        rw [hk]
        refine ⟨⟨by omega, by omega⟩, ⟨by omega, by omega⟩, ⟨by omega, by omega⟩, ⟨by omega, by omega⟩, sB_placeBefore hkr.1 ⟨_, rfl, ?_⟩⟩
        rw [t1, t2]
        refine sP_partIn hL hTs b1 ⟨_, rfl, sB_placeAfter (by omega) ⟨_, rfl, ?_⟩⟩
        rw [t1, t2, t3]
        refine sP_partIn hL hTs b2 ⟨_, rfl, ?_⟩
        have hiff : rkP f (f (T - stp v)) = rkP f (f (T + n * stp v)) ↔ f (T - stp v) = f (T + n * stp v) := ⟨fun e => rkP_inj (hL.idem b1.1 b1.2) (hL.idem b2.1 b2.2) (hL _ b1.1 b1.2).1.1 (hL _ b2.1 b2.2).1.1 e, fun e => by rw [e]⟩
        refine ⟨fun z3 => ⟨⟨by omega, by omega⟩, no (fun n' hn' => ?_) _ _⟩, fun z3 => ?_⟩
        · have : n' = n := hn'.1.len hn
          rw [this] at hn'
          exact hn'.2 (hiff.mp z3)
        · have hRK : RK O f (keyR T v n) := by
            unfold RK
            rw [t1, t2, t3]
            exact ⟨hn, fun e => z3 (hiff.mpr e)⟩
          have hnew : ¬ RKd O f v T (keyR T v n) := fun w => by
            have := w.2
            omega
          have hlt : cP (RKd O f v T) 3168 < 100 := by
            have ha := cP_add1 (P := RKd O f v T) (r := keyR T v n) 3168 hkr.1 hnew
            rw [if_pos (by omega)] at ha
            have hb := cP_imp (P := fun k => RKd O f v T k ∨ k = keyR T v n) (P' := RK O f) (n := 3168) (fun k _ _ hk => by
              rcases hk with w | w
              · exact w.1
              · rw [w]; exact hRK)
            have hc := RK_few (f := f) hC 3168
            omega
          refine sB_insertRun hkr s3 hnew hlt (fun m' f' hj' hR' => ⟨⟨by omega, by omega⟩, hNx m' ⟨by omega, s1.trans f', fun j hj => (hj' j hj).trans (s2 j hj), RunsI_congr (fun k k0 k1 => ?_) hR'⟩ _ _⟩)
          unfold RKd
          constructor
          · rintro (⟨a, b⟩ | w)
            · exact ⟨a, by omega⟩
            · rw [w, t1, t2]; exact ⟨hRK, Or.inr ⟨rfl, by omega⟩⟩
          · rintro ⟨a, b⟩
            by_cases e : k / 144 % 2 = v ∧ k % 144 = T
            · right
              have a' := a
              unfold RK at a'
              rw [e.1, e.2] at a'
              have := a'.1.len hn
              unfold keyR
              omega
            · left; exact ⟨a, by omega⟩
    · unfold RKd
      constructor
      · rintro ⟨a, b⟩; exact ⟨a, by omega⟩
      · rintro ⟨a, b⟩
        refine ⟨a, ?_⟩
        have := hC _ a.1.at0
        omega
  refine gB_findRuns_0 p v m ⟨fun z => ?_, fun z => ?_⟩
  · have e : stp v = 1 := by
      rcases hv with rfl | rfl
      · rfl
      · exact absurd rfl z
    rw [e] at core
    exact core _ _
  · have e : stp v = 12 := by
      rcases hv with rfl | rfl
      · exact absurd (fun w => by omega) z
      · rfl
    rw [e] at core
    exact core _ _
