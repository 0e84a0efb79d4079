/-! Wishes, images; questions on both sides. -/
theorem pr_wish {Q : AV → Mem → Prop} {x y o : Int} {m : Mem} (hI : Inv m) (k : ∀ r1 m1, Then cM_wish [.inl x, .inl y, .inl o, uu] m r1 m1 → Q (.inl r1) m1) : WP cS_wish 0 [.inr (0, 0), .inl x, .inl y, .inl o, uu] [] m Q := by
  have hw := hI.1.mw
  have hw' := hw
  obtain ⟨w1, w2, w3, w4⟩ := hw'
  obtain ⟨s1, s2, s3, s4, s5, s6, s7, s8, s9⟩ := hI.1
  have bad : ¬ (inS m x y ∧ (0 ≤ o ∧ o ≤ 4)) → Q (.inl (-2)) m := fun z => k _ m ⟨rfl, fun R hR => sM_wish hw (fun _ => hR m hI rfl) (fun y1 y2 => absurd ⟨y1, y2⟩ z)⟩
  refine gS_wish_0 x y o m (sH_hasCell hw hI.1.crel (fun b => ⟨1, rfl, fun z => by omega, fun _ => ?_⟩) (fun b => ⟨0, rfl, fun _ => bad (fun z => b z.1), fun z => absurd rfl z⟩))
  refine sS_isWithin (fun c => ⟨1, rfl, fun _ => ?_, fun z => absurd (by omega) z⟩) (fun c => ⟨0, rfl, fun z => absurd rfl z, fun _ => bad (fun z => c z.2)⟩)
  have b' := b
  unfold inS at b'
  refine gH_wishAt_0 0 x y m ⟨⟨by omega, by omega⟩, ⟨by omega, by omega⟩, by omega, ⟨_, rfl, gH_setWish_0 0 x y o m ⟨⟨by omega, by omega⟩, ⟨by omega, by omega⟩, by omega, ?_⟩⟩⟩
  rw [s8 _ (by omega) (by omega), show 400 + (y * 10 + x) = 400 + (10 * y + x) by omega]
  generalize hm1 : mset (mset m 3 0 (y * 10 + x) o) 26 0 5 0 = m1
  have k1 : ∀ q, q ≠ 3 → q ≠ 26 → m1 q = m q := fun q q3 q26 => by rw [← hm1, mset_k q26, mset_k q3]
  have e3 : ∀ j, m1 3 0 j = if j = y * 10 + x then o else m 3 0 j := fun j => by rw [← hm1, mset_k (by decide), mset_i]
  have e34 : m1 34 = m 34 := k1 34 (by decide) (by decide)
  refine k _ m1 ⟨k1 32 (by decide) (by decide), fun R hR => sM_wish (by rw [MW_eq e34]; exact hw) (fun z => absurd ⟨by rw [inS_eq e34]; exact b, c⟩ z) (fun _ _ => ?_)⟩
  rw [e34]
  generalize hm2 : mset m1 34 0 (400 + (10 * y + x)) o = m2
  have k2 : ∀ q, q ≠ 34 → m2 q = m1 q := fun q hq => by rw [← hm2, mset_k hq]
  have f34 : ∀ j, m2 34 0 j = if j = 400 + (10 * y + x) then o else m 34 0 j := fun j => by rw [← hm2, mset_i, e34]
  have f500 : m2 34 0 500 = m 34 0 500 := by rw [f34, if_neg (by omega)]
  have f501 : m2 34 0 501 = m 34 0 501 := by rw [f34, if_neg (by omega)]
  have hS2 : Sh m2 := by
    refine ⟨by rw [f500, f501]; exact s1, fun q q0 q1 => by rw [f34, if_neg (by omega)]; exact s2 q q0 q1, fun q q0 q1 => ?_, by rw [k2 1 (by decide), k1 1 (by decide) (by decide), f500]; exact s4, by rw [k2 1 (by decide), k1 1 (by decide) (by decide), f501]; exact s5, fun l' y' x' l0 l1 y0 y1 x0 x1 => ?_, fun j j0 j1 => by rw [k2 2 (by decide), k1 2 (by decide) (by decide)]; exact s7 j j0 j1, fun j j0 j1 => ?_, fun l' y' x' l0 l1 y0 y1 x0 x1 hn => ?_⟩
    · rw [f34]
      split
      · omega
      · exact s3 q q0 q1
    · rw [f34, if_neg (by omega), k2 2 (by decide), k1 2 (by decide) (by decide)]
      exact s6 l' y' x' l0 l1 y0 y1 x0 x1
    · rw [k2 3 (by decide), e3, f34]
      by_cases e : j = y * 10 + x
      · rw [if_pos e, if_pos (by omega)]
      · rw [if_neg e, if_neg (by omega)]; exact s8 j j0 j1
    · rw [f500, f501] at hn
      rw [f34, if_neg (by omega)]
      exact s9 l' y' x' l0 l1 y0 y1 x0 x1 hn
  refine hR m2 ⟨hS2, ?_, fun l l0 l1 => ?_, fun z => absurd ?_ z⟩ ?_
  · have f3 : ∀ q, 1 ≤ q → m2 3 q = m 3 q := fun q hq => by
      rw [k2 3 (by decide), ← hm1, mset_k (by decide)]
      funext j
      exact mset_ne (fun z => by have := z.2.1; omega)
    unfold Img
    rw [k2 0 (by decide), k1 0 (by decide) (by decide), k2 36 (by decide), k1 36 (by decide) (by decide), k2 35 (by decide), k1 35 (by decide) (by decide), k2 1 (by decide), k1 1 (by decide) (by decide), k2 2 (by decide), k1 2 (by decide) (by decide)]
    exact ⟨hI.2.1.1, fun q q0 q1 => by rw [f3 (1 + q) (by omega)]; exact hI.2.1.2 q q0 q1⟩
  · have hO : OM m2 l = OM m l := OM_congr hw f500 f501 (fun j j0 j1 => by rw [f34, if_neg (by omega)])
    have hc := hI.2.2.1 l l0 l1
    unfold CchL at *
    have kk : ∀ q, q ≠ 3 → q ≠ 26 → q ≠ 34 → m2 q = m q := fun q a b c => by rw [k2 q c, k1 q a b]
    rw [hO, kk 6 (by decide) (by decide) (by decide), CBd_eq (m := m) (fun q q0 q1 q2 => by rw [kk q (by omega) (by omega) (by omega)]), CKn_eq (m := m) (fun q q0 q1 => by rw [kk q (by omega) (by omega) (by omega)])]
    exact hc
  · rw [k2 26 (by decide), ← hm1, mset_i, if_pos rfl]
  · rw [k2 32 (by decide), k1 32 (by decide) (by decide)]
theorem sH_copyFrom {Q : AV → Mem → Prop} {p i : Int} {m : Mem} (hp : p ≠ i) (h : ∀ m', (∀ q, q ≠ 1 → q ≠ 2 → q ≠ 3 → m' q = m q) → (∀ q j, j ≠ p → m' q j = m q j) → m' 1 p 0 = m 1 i 0 → m' 1 p 1 = m 1 i 1 → (∀ j, 0 ≤ j → j < 40 → m' 2 p j = m 2 i j) → (∀ j, 0 ≤ j → j < 100 → m' 3 p j = m 3 i j) → Q (.inl 0) m') : WP cH_copyFrom 0 [.inr (1, p), .inr (1, i)] [] m Q := by
  refine gH_copyFrom_0 p i m (h _ (fun q q1 q2 q3 => ?_) (fun q j hj => ?_) ?_ ?_ (fun j j0 j1 => ?_) (fun j j0 j1 => ?_))
  · rw [mcpy_k q3, mcpy_k q2, mset_k q1, mset_k q1]
  · have hs : ∀ (a : Mem) (c v : Int), (mset a 1 p c v) q j = a q j := fun a c v => by
      funext x
      exact mset_ne (fun z => hj z.2.1)
    by_cases e3 : q = 3
    · rw [e3, mcpy_i hj, mcpy_k (by decide), ← e3, hs, hs]
    · rw [mcpy_k e3]
      by_cases e2 : q = 2
      · rw [e2, mcpy_i hj, ← e2, hs, hs]
      · rw [mcpy_k e2, hs, hs]
  · rw [mcpy_k (by decide), mcpy_k (by decide), rd_s (by decide), mset_i, if_pos rfl]
  · rw [mcpy_k (by decide), mcpy_k (by decide), mset_i, if_pos rfl, mset_ne (fun z => hp z.2.1.symm)]
  · rw [mcpy_k (by decide), mcpy_at (by omega) (by omega), mset_k (by decide), mset_k (by decide), show 0 + (j - 0) = j by omega]
  · rw [mcpy_at (by omega) (by omega), mcpy_k (by decide), mset_k (by decide), mset_k (by decide), show 0 + (j - 0) = j by omega]
theorem pr_image {Q : AV → Mem → Prop} {i : Int} {m : Mem} (hI : Inv m) (k : ∀ r1 m1, Then cM_image [.inl i, uu] m r1 m1 → Q (.inl r1) m1) : WP cS_image 0 [.inr (0, 0), .inl i] [] m Q := by
  refine gS_image_0 i m (sS_isWithin (fun a => ⟨1, rfl, fun _ => ⟨by omega, sH_copyFrom (by omega) (fun m1 c1 c2 c3 c4 c5 c6 => k 1 _ ⟨?_, fun R hR => sM_image (fun z => absurd a z) (fun _ m2 d1 d2 d3 d4 d5 => hR m2 ⟨?_, ?_, fun l l0 l1 => ?_, fun z => ?_⟩ ?_)⟩)⟩, fun z => absurd (by omega) z⟩) (fun a => ⟨0, rfl, fun z => absurd rfl z, fun _ => k _ m ⟨rfl, fun R hR => sM_image (fun _ => hR m hI rfl) (fun z => absurd z a)⟩⟩))
  · rw [mset_k (by decide), c1 32 (by decide) (by decide) (by decide)]
  · have e34 : m2 34 = m 34 := by rw [d1 34 (by decide) (by decide), mset_k (by decide), c1 34 (by decide) (by decide) (by decide)]
    have e0 : ∀ q, q ≠ 0 → q ≠ 35 → q ≠ 36 → m2 q 0 = m q 0 := fun q q0 q1 q2 => by rw [d1 q q1 q2, mset_k q0, c2 q 0 (by omega)]
    unfold Sh
    rw [e34, e0 1 (by decide) (by decide) (by decide), e0 2 (by decide) (by decide) (by decide), e0 3 (by decide) (by decide) (by decide)]
    exact hI.1
  · obtain ⟨⟨i0, i1⟩, hk⟩ := hI.2.1
    have e0 : m1 0 0 4 = m 0 0 4 := by rw [c1 0 (by decide) (by decide) (by decide)]
    have ev : m2 0 0 4 = m 0 0 4 + (1 - bt (m 0 0 4) i) * 2 ^ i.toNat := by
      rw [d1 0 (by decide) (by decide), mset_i, if_pos rfl, e0, bt_or (by omega) (by omega)]
    have hbits : ∀ j, 0 ≤ j → j < 10 → bt (m2 0 0 4) j = if j = i then 1 else bt (m 0 0 4) j := fun j j0 j1 => by rw [ev]; exact bt_on_at (by omega) (by omega) ⟨j0, j1⟩
    have hs : ∀ q, q ≠ 0 → q ≠ 35 → q ≠ 36 → ∀ j, m2 q j = m1 q j := fun q q0 q1 q2 j => by rw [d1 q q1 q2, mset_k q0]
    refine ⟨?_, fun j j0 j1 => ?_⟩
    · rw [ev]
      have := bt_01 (v := m 0 0 4) (x := i)
      have hi : i = 0 ∨ i = 1 := by omega
      rcases hi with e | e <;> subst e
      · simp only [bt_0, p2_0] at *; omega
      · simp only [bt_1, p2_1] at *; omega
    · rw [hbits j j0 (by omega), hs 1 (by decide) (by decide) (by decide), hs 2 (by decide) (by decide) (by decide), hs 3 (by decide) (by decide) (by decide)]
      by_cases e : j = i
      · rw [if_pos e, e]
        refine Or.inr ⟨d4, rfl, ShOK_congr (fun q q0 q1 => ?_) ⟨c3, c4⟩ c5 c6 hI.1⟩
        rw [d2 q q0 q1, mset_k (by decide), c1 34 (by decide) (by decide) (by decide)]
      · rw [if_neg e, d5 j e, mset_k (by decide), c1 36 (by decide) (by decide) (by decide)]
        rcases hk j j0 j1 with w | ⟨w1, w2, w3⟩
        · exact Or.inl w
        · refine Or.inr ⟨w1, w2, ?_⟩
          rw [c2 1 _ (by omega), c2 2 _ (by omega), c2 3 _ (by omega)]
          refine ShOK_congr (fun q q0 q1 => ?_) ⟨rfl, rfl⟩ (fun _ _ _ => rfl) (fun _ _ _ => rfl) w3
          show m2 35 0 (502 * j + q) = m 35 0 (502 * j + q)
          rw [d3 _ (by omega), mset_k (by decide), c1 35 (by decide) (by decide) (by decide)]
  · have kk : ∀ q, 4 ≤ q → q ≠ 35 → q ≠ 36 → m2 q = m q := fun q a b c => by rw [d1 q b c, mset_k (by omega), c1 q (by omega) (by omega) (by omega)]
    exact (CchL_eq (kk 34 (by decide) (by decide) (by decide)) (by rw [kk 6 (by decide) (by decide) (by decide)]) (fun q q0 q1 q2 => by rw [kk q (by omega) (by omega) (by omega)])).mpr (hI.2.2.1 l l0 l1)
  · have kk : ∀ q, 4 ≤ q → q ≠ 35 → q ≠ 36 → m2 q = m q := fun q a b c => by rw [d1 q b c, mset_k (by omega), c1 q (by omega) (by omega) (by omega)]
    rw [kk 26 (by decide) (by decide) (by decide)] at z
    exact (PicOK_eq (kk 34 (by decide) (by decide) (by decide)) (fun l => by rw [kk 6 (by decide) (by decide) (by decide)]) (kk 26 (by decide) (by decide) (by decide)) (kk 27 (by decide) (by decide) (by decide))).mpr (hI.2.2.2 z)
  · rw [d1 32 (by decide) (by decide), mset_k (by decide), c1 32 (by decide) (by decide) (by decide)]
theorem pr_restore {Q : AV → Mem → Prop} {i : Int} {m : Mem} (hI : Inv m) (k : ∀ r1 m1, Then cM_restore [.inl i, uu] m r1 m1 → Q (.inl r1) m1) : WP cS_restore 0 [.inr (0, 0), .inl i] [] m Q := by
  obtain ⟨⟨i0, i1⟩, hk⟩ := hI.2.1
  refine gS_restore_0 i m (sS_isWithin (fun a => ⟨1, rfl, fun _ => ?_, fun z => absurd (by omega) z⟩) (fun a => ⟨0, rfl, fun z => absurd rfl z, fun _ => k _ m ⟨rfl, fun R hR => sM_restore (fun _ => hR m hI rfl) (fun z => absurd z a) (fun z => absurd z a)⟩⟩))
  rw [bt_and (by omega) (by omega)]
  refine ⟨fun z => ⟨by omega, ?_⟩, fun z => ?_⟩
  · obtain ⟨w1, w3⟩ : m 36 0 i = 1 ∧ ShOK (fun j => m 35 0 (502 * i + j)) (m 1 (1 + i)) (m 2 (1 + i)) (m 3 (1 + i)) := by
      rcases hk i a.1 a.2 with w | ⟨w1, w2, w3⟩
      · exact absurd w.2 z
      · exact ⟨w1, w3⟩
    refine sH_copyFrom (by omega) (fun m1 c1 c2 c3 c4 c5 c6 => sS_forgetAll (fun m2 e1 e2 e3 => k 1 m2 ⟨?_, fun R hR => sM_restore (fun z => absurd a z) (fun _ w => ?_) (fun _ _ m3 d1 d2 => hR m3 (Inv.fresh ?_ ?_ ?_ ?_) ?_)⟩))
    · rw [e1 32 (by decide) (by decide), c1 32 (by decide) (by decide) (by decide)]
    · rw [e1 36 (by decide) (by decide), c1 36 (by decide) (by decide) (by decide)] at w
      omega
    · have e : ∀ q, q ≠ 6 → q ≠ 26 → q ≠ 34 → m3 q = m1 q := fun q a b c => by rw [d1 q c, e1 q a b]
      refine ShOK_congr (fun q q0 q1 => ?_) ⟨?_, ?_⟩ (fun j j0 j1 => ?_) (fun j j0 j1 => ?_) w3
      · rw [d2 q q0 q1, e1 35 (by decide) (by decide), c1 35 (by decide) (by decide) (by decide)]
      · rw [e 1 (by decide) (by decide) (by decide)]; exact c3
      · rw [e 1 (by decide) (by decide) (by decide)]; exact c4
      · rw [e 2 (by decide) (by decide) (by decide)]; exact c5 j j0 j1
      · rw [e 3 (by decide) (by decide) (by decide)]; exact c6 j j0 j1
    · have e : ∀ q, q ≠ 6 → q ≠ 26 → q ≠ 34 → ∀ j, j ≠ 0 → m3 q j = m q j := fun q a b c j hj => by rw [d1 q c, e1 q a b, c2 q j hj]
      have e' : ∀ q, q ≠ 1 → q ≠ 2 → q ≠ 3 → q ≠ 6 → q ≠ 26 → q ≠ 34 → m3 q = m q := fun q a b c d f g => by rw [d1 q g, e1 q d f, c1 q a b c]
      unfold Img
      rw [e' 0 (by decide) (by decide) (by decide) (by decide) (by decide) (by decide), e' 35 (by decide) (by decide) (by decide) (by decide) (by decide) (by decide), e' 36 (by decide) (by decide) (by decide) (by decide) (by decide) (by decide)]
      refine ⟨⟨i0, i1⟩, fun j j0 j1 => ?_⟩
      rw [e 1 (by decide) (by decide) (by decide) _ (by omega), e 2 (by decide) (by decide) (by decide) _ (by omega), e 3 (by decide) (by decide) (by decide) _ (by omega)]
      exact hk j j0 j1
    · intro l l0 l1; rw [d1 6 (by decide)]; exact e2 l l0 l1
    · rw [d1 26 (by decide)]; exact e3
    · rw [d1 32 (by decide), e1 32 (by decide) (by decide), c1 32 (by decide) (by decide) (by decide)]
  · have z := Classical.byContradiction z
    have w : m 36 0 i = 0 := by
      rcases hk i a.1 a.2 with w | ⟨w1, w2, w3⟩
      · exact w.1
      · omega
    exact k _ m ⟨rfl, fun R hR => sM_restore (fun z => absurd a z) (fun _ _ => hR m hI rfl) (fun _ z => absurd w z)⟩
theorem pr_cell {Q : AV → Mem → Prop} {l x y w : Int} {m : Mem} (hI : Inv m) (k : ∀ r1 m1, Then cM_cell [.inl l, .inl x, .inl y, .inl w, uu] m r1 m1 → Q (.inl r1) m1) : WP cS_cell 0 [.inr (0, 0), .inl l, .inl x, .inl y, .inl w, uu, uu] [] m Q := by
  refine sS_cell hI (fun m1 cf hI1 => k _ m1 ⟨cf 32 (by omega), fun R hR => sM_cell hI1.1.mw (fun m2 f2 => ?_)⟩)
  have e34 : m1 34 = m 34 := cf 34 (by omega)
  have e : ansCell m1 l x y w = ansCell m l x y w := by unfold ansCell; rw [OM_eq e34, inS_eq e34, e34]
  rw [e]
  exact hR m2 (hI1.mod f2) (by rw [f2 32 (by omega), cf 32 (by omega)])
theorem pr_layer {Q : AV → Mem → Prop} {l w : Int} {m : Mem} (hI : Inv m) (k : ∀ r1 m1, Then cM_layer [.inl l, .inl w] m r1 m1 → Q (.inl r1) m1) : WP cS_layer 0 [.inr (0, 0), .inl l, .inl w, uu] [] m Q := by
  refine sS_layer hI (fun m1 cf hI1 => k _ m1 ⟨cf 32 (by omega), fun R hR => sM_layer hI1.1.mw hI1.1.m01 (fun m2 f2 => ?_)⟩)
  have e34 : m1 34 = m 34 := cf 34 (by omega)
  have e : ansLayer m1 l w = ansLayer m l w := by unfold ansLayer; rw [OM_eq e34, e34]
  rw [e]
  exact hR m2 (hI1.mod f2) (by rw [f2 32 (by omega), cf 32 (by omega)])
theorem pr_island {Q : AV → Mem → Prop} {l i w : Int} {m : Mem} (hI : Inv m) (k : ∀ r1 m1, Then cM_island [.inl l, .inl i, .inl w, uu] m r1 m1 → Q (.inl r1) m1) : WP cS_island 0 [.inr (0, 0), .inl l, .inl i, .inl w, uu, uu] [] m Q := by
  refine sS_island hI (fun m1 cf hI1 => k _ m1 ⟨cf 32 (by omega), fun R hR => sM_island hI1.1.mw (fun m2 f2 => ?_)⟩)
  have e34 : m1 34 = m 34 := cf 34 (by omega)
  have e : ansIsland m1 l i w = ansIsland m l i w := by unfold ansIsland; rw [OM_eq e34]
  rw [e]
  exact hR m2 (hI1.mod f2) (by rw [f2 32 (by omega), cf 32 (by omega)])
theorem pr_bridge {Q : AV → Mem → Prop} {l i w : Int} {m : Mem} (hI : Inv m) (k : ∀ r1 m1, Then cM_bridge [.inl l, .inl i, .inl w, uu] m r1 m1 → Q (.inl r1) m1) : WP cS_bridge 0 [.inr (0, 0), .inl l, .inl i, .inl w, uu, uu] [] m Q := by
  refine sS_bridge hI (fun m1 cf hI1 => k _ m1 ⟨cf 32 (by omega), fun R hR => sM_bridge hI1.1.mw (fun m2 f2 => ?_)⟩)
  have e34 : m1 34 = m 34 := cf 34 (by omega)
  have e : ansBridge m1 l i w = ansBridge m l i w := by unfold ansBridge; rw [OM_eq e34]
  rw [e]
  exact hR m2 (hI1.mod f2) (by rw [f2 32 (by omega), cf 32 (by omega)])
theorem pr_knife {Q : AV → Mem → Prop} {l w : Int} {m : Mem} (hI : Inv m) (k : ∀ r1 m1, Then cM_knife [.inl l, .inl w] m r1 m1 → Q (.inl r1) m1) : WP cS_knife 0 [.inr (0, 0), .inl l, .inl w, uu] [] m Q := by
  refine sS_knife hI (fun m1 cf hI1 => k _ m1 ⟨cf 32 (by omega), fun R hR => sM_knife hI1.1.mw (fun m2 f2 => ?_)⟩)
  have e34 : m1 34 = m 34 := cf 34 (by omega)
  have e : ansKnife m1 l w = ansKnife m l w := by unfold ansKnife; rw [OM_eq e34]
  rw [e]
  exact hR m2 (hI1.mod f2) (by rw [f2 32 (by omega), cf 32 (by omega)])
theorem pr_loop {Q : AV → Mem → Prop} {l i w : Int} {m : Mem} (hI : Inv m) (k : ∀ r1 m1, Then cM_loop [.inl l, .inl i, .inl w] m r1 m1 → Q (.inl r1) m1) : WP cS_loop 0 [.inr (0, 0), .inl l, .inl i, .inl w, uu, uu, uu] [] m Q := by
  refine sS_loop hI (fun m1 cf hI1 => k _ m1 ⟨cf 32 (by omega), fun R hR => sM_loop hI1.1.mw (fun m2 f2 => ?_)⟩)
  have e34 : m1 34 = m 34 := cf 34 (by omega)
  have e : ansLoop m1 l i w = ansLoop m l i w := by unfold ansLoop; rw [OM_eq e34]
  rw [e]
  exact hR m2 (hI1.mod f2) (by rw [f2 32 (by omega), cf 32 (by omega)])
theorem pr_paint {Q : AV → Mem → Prop} {x y : Int} {m : Mem} (hI : Inv m) (k : ∀ r1 m1, Then cM_paint [.inl x, .inl y] m r1 m1 → Q (.inl r1) m1) : WP cS_paint 0 [.inr (0, 0), .inl x, .inl y] [] m Q := by
  refine sS_paint hI (fun m1 cf hI1 => k _ m1 ⟨cf 32 (by omega), fun R hR => sM_paint hI1.1.mw (fun m2 f2 => ?_)⟩)
  have e34 : m1 34 = m 34 := cf 34 (by omega)
  have e : ansPaint m1 x y = ansPaint m x y := by unfold ansPaint; rw [inS_eq e34, BL_eq e34, bstA_eq e34]
  rw [e]
  exact hR m2 (hI1.mod f2) (by rw [f2 32 (by omega), cf 32 (by omega)])
theorem pr_wrong {Q : AV → Mem → Prop} {o : Int} {m : Mem} (hI : Inv m) (k : ∀ r1 m1, Then cM_wrong [.inl o] m r1 m1 → Q (.inl r1) m1) : WP cS_wrong 0 [.inr (0, 0), .inl o] [] m Q := by
  refine sS_wrong hI (fun m1 cf hI1 => k _ m1 ⟨cf 32 (by omega), fun R hR => sM_wrong hI1.1.mw (fun m2 f2 => ?_)⟩)
  have e34 : m1 34 = m 34 := cf 34 (by omega)
  have e : ansWrong m1 o = ansWrong m o := by unfold ansWrong; rw [wrnO_eq e34]
  rw [e]
  exact hR m2 (hI1.mod f2) (by rw [f2 32 (by omega), cf 32 (by omega)])
theorem pr_best {Q : AV → Mem → Prop} {w : Int} {m : Mem} (hI : Inv m) (k : ∀ r1 m1, Then cM_best [.inl w, uu] m r1 m1 → Q (.inl r1) m1) : WP cS_best 0 [.inr (0, 0), .inl w] [] m Q := by
  refine sS_best hI (fun m1 cf hI1 => k _ m1 ⟨cf 32 (by omega), fun R hR => sM_best hI1.1.mw (fun m2 f2 => ?_)⟩)
  have e34 : m1 34 = m 34 := cf 34 (by omega)
  have e : ansBest m1 w = ansBest m w := by unfold ansBest; rw [bstA_eq e34]
  rw [e]
  exact hR m2 (hI1.mod f2) (by rw [f2 32 (by omega), cf 32 (by omega)])
theorem pr_count {Q : AV → Mem → Prop} {w : Int} {m : Mem} (hI : Inv m) (k : ∀ r1 m1, Then cM_count [.inl w] m r1 m1 → Q (.inl r1) m1) : WP cS_count 0 [.inr (0, 0), .inl w] [] m Q := by
  refine sS_count hI (fun m1 cf hI1 => k _ m1 ⟨cf 32 (by omega), fun R hR => sM_count hI1.1.mw hI1.1.m01 (fun m2 f2 => ?_)⟩)
  have e34 : m1 34 = m 34 := cf 34 (by omega)
  have e : ansCount m1 w = ansCount m w := by unfold ansCount cutN looL; rw [OM_eq e34, e34, cf 36 (by omega)]
  rw [e]
  exact hR m2 (hI1.mod f2) (by rw [f2 32 (by omega), cf 32 (by omega)])
