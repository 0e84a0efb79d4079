/-! The class's ties and bridges. -/
def TieC (O : Int → Prop) (f : Int → Int) (t : Int → Int) (R : Int → Int → Prop) : Prop := ∀ a b, 0 ≤ a → a < 144 → 0 ≤ b → b < 144 → ¬ O a → ¬ O b → (t (rkP f (f a)) = t (rkP f (f b)) ↔ R (f a) (f b))
theorem rk_iff {O : Int → Prop} {f : Int → Int} (hL : LabOK O f) {a b : Int} (a0 : 0 ≤ a) (a1 : a < 144) (b0 : 0 ≤ b) (b1 : b < 144) : rkP f (f a) = rkP f (f b) ↔ f a = f b := ⟨fun e => rkP_inj (hL.idem a0 a1) (hL.idem b0 b1) (hL a a0 a1).1.1 (hL b b0 b1).1.1 e, fun e => by rw [e]⟩
theorem TieC.init {O : Int → Prop} {f : Int → Int} (hL : LabOK O f) {t : Int → Int} (ht : ∀ a, 0 ≤ a → a < cP (RTt f) 144 → t a = a) : TieC O f t (fun a b => a = b) := by
  intro a b a0 a1 b0 b1 _ _
  have ra := rk_lab hL a0 a1
  have rb := rk_lab hL b0 b1
  rw [ht _ ra.1 ra.2, ht _ rb.1 rb.2]
  exact rk_iff hL a0 a1 b0 b1
theorem TieC.tie {O : Int → Prop} {f : Int → Int} (hL : LabOK O f) {t t' : Int → Int} {R : Int → Int → Prop} (h : TieC O f t R) {u v : Int} (hu : 0 ≤ u ∧ u < 144) (hv : 0 ≤ v ∧ v < 144) (cu : ¬ O u) (cv : ¬ O v) (ht : ∀ a, 0 ≤ a → a < cP (RTt f) 144 → t' a = if t a = t (rkP f (f v)) then t (rkP f (f u)) else t a) : TieC O f t' (tieR R (f u) (f v)) := by
  intro a b a0 a1 b0 b1 ca cb
  have ra := rk_lab hL a0 a1
  have rb := rk_lab hL b0 b1
  rw [ht _ ra.1 ra.2, ht _ rb.1 rb.2]
  have hab := h a b a0 a1 b0 b1 ca cb
  have hau := h a u a0 a1 hu.1 hu.2 ca cu
  have hav := h a v a0 a1 hv.1 hv.2 ca cv
  have hbu := h b u b0 b1 hu.1 hu.2 cb cu
  have hbv := h b v b0 b1 hv.1 hv.2 cb cv
  unfold tieR
  rw [← hab, ← hau, ← hav, ← hbu, ← hbv]
  generalize t (rkP f (f a)) = ta at *
  generalize t (rkP f (f b)) = tb at *
  generalize t (rkP f (f u)) = tu at *
  generalize t (rkP f (f v)) = tv at *
  clear hab hau hav hbu hbv ht h
  split <;> split <;> omega
theorem sB_untieAll {Q : AV → Mem → Prop} {p : Int} {O : Int → Prop} {f : Int → Int} {m : Mem} (hL : LabOK O f) (hC : CTi m p f) (h : ∀ m', FR p [20] m m' → TieC O f (m' 20 p) (fun a b => a = b) → Q (.inl 0) m') : WP cB_untieAll 0 [.inr (15, p), uu] [] m Q := by
  obtain ⟨-, h7, hfew⟩ := hC
  have n0 := (cP_rng (P := RTt f) 144).1
  refine gB_untieAll_0 p m ?_
  refine loopU (σ := Mem) (N := cP (RTt f) 144) (G := fun (k : Int) (s : Mem) => WP cB_untieAll 2 [.inr (15, p), .inl k] [] s Q) (I := fun (k : Int) (s : Mem) => FR p [20] m s ∧ ∀ j, 0 ≤ j → j < k → s 20 p j = j) ?_ ?_ 0 m (Int.le_refl 0) n0 ⟨FR.refl m, fun j j0 j1 => by omega⟩
  · rintro s ⟨h1, h2⟩
    exact gB_untieAll_2 p _ s ⟨fun _ => h s h1 (TieC.init hL h2), fun z => absurd (by rw [h1.1 7 (by decide), h7]; exact Int.le_refl _) z⟩
  · rintro k s k0 k1 ⟨h1, h2⟩ hN
    refine gB_untieAll_2 p k s ⟨fun z => absurd z (by rw [h1.1 7 (by decide), h7]; omega), fun _ => ⟨by omega, ⟨by omega, by omega⟩, hN _ ⟨h1.put (by decide) (Or.inr rfl), fun j j0 j1 => ?_⟩⟩⟩
    rw [mset_i]
    split
    · rename_i e; exact e.symm
    · exact h2 j j0 (by omega)
theorem sB_isUntied {Q : AV → Mem → Prop} {p k : Int} {O : Int → Prop} {f : Int → Int} {R : Int → Int → Prop} {m : Mem} (hCe : Cel O) (hL : LabOK O f) (hC : CTi m p f) (hk : 0 ≤ k ∧ k < 3168) (hr : RK O f k) (hT : TieC O f (m 20 p) R) (h1 : ¬ R (eB f k) (eA f k) → Q (.inl 1) m) (h0 : R (eB f k) (eA f k) → Q (.inl 0) m) : WP cB_isUntied 0 [.inr (15, p), .inl k, uu, uu] [] m Q := by
  have hfew := hC.2.2
  obtain ⟨-, -, -, gb, ga, -⟩ := run_geo hCe hr
  have hTk : _ ↔ R (eB f k) (eA f k) := hT _ _ gb.1 gb.2 ga.1 ga.2 hr.1.2.1 hr.1.2.2.2
  have r1 := rk_lab hL gb.1 gb.2
  have r2 := rk_lab hL ga.1 ga.2
  refine gB_isUntied_0 p k m (sB_placeBefore hk.1 ⟨_, rfl, sP_partIn hL hC gb ⟨_, rfl, sB_placeAfter (by omega) ⟨_, rfl, sP_partIn hL hC ga ⟨_, rfl, ?_⟩⟩⟩⟩)
  exact ⟨by omega, by omega, fun z => h0 (hTk.mp z), fun z => h1 (fun w => z (hTk.mpr w))⟩
theorem sB_tieEnds {Q : AV → Mem → Prop} {p k : Int} {O : Int → Prop} {f : Int → Int} {R : Int → Int → Prop} {m : Mem} (hCe : Cel O) (hL : LabOK O f) (hC : CTi m p f) (hk : 0 ≤ k ∧ k < 3168) (hr : RK O f k) (hT : TieC O f (m 20 p) R) (h : ∀ m', FR p [20] m m' → TieC O f (m' 20 p) (tieR R (eB f k) (eA f k)) → Q (.inl 0) m') : WP cB_tieEnds 0 [.inr (15, p), .inl k, uu, uu, uu] [] m Q := by
  have h7 := hC.2.1
  have hfew := hC.2.2
  have n0 := (cP_rng (P := RTt f) 144).1
  obtain ⟨-, -, -, gb, ga, -⟩ := run_geo hCe hr
  have r1 := rk_lab hL gb.1 gb.2
  have r2 := rk_lab hL ga.1 ga.2
  refine gB_tieEnds_0 p k m (sB_placeBefore hk.1 ⟨_, rfl, sP_partIn hL hC gb ⟨_, rfl, by omega, sB_placeAfter (by omega) ⟨_, rfl, sP_partIn hL hC ga ⟨_, rfl, by omega, ?_⟩⟩⟩⟩)
  generalize hkk : m 20 p (rkP f (f (k % 144 - stp (k / 144 % 2)))) = kept
  generalize hjj : m 20 p (rkP f (f (k % 144 + k / 288 * stp (k / 144 % 2)))) = joined
  refine loopU (σ := Mem) (N := cP (RTt f) 144) (G := fun (j : Int) (s : Mem) => WP cB_tieEnds 37 [.inr (15, p), .inl k, .inl kept, .inl joined, .inl j] [] s Q) (I := fun (j : Int) (s : Mem) => FR p [20] m s ∧ (∀ i, 0 ≤ i → i < j → s 20 p i = if m 20 p i = joined then kept else m 20 p i) ∧ ∀ i, j ≤ i → s 20 p i = m 20 p i) ?_ ?_ 0 m (Int.le_refl 0) n0 ⟨FR.refl m, fun i i0 i1 => by omega, fun _ _ => rfl⟩
  · rintro s ⟨h1, h2, h3⟩
    refine gB_tieEnds_37 p k _ _ _ s ⟨fun _ => h s h1 ?_, fun z => absurd (by rw [h1.1 7 (by decide), h7]; exact Int.le_refl _) z⟩
    exact TieC.tie hL hT gb ga hr.1.2.1 hr.1.2.2.2 (t' := s 20 p) (fun a a0 a1 => by rw [hkk, hjj]; exact h2 a a0 a1)
  · rintro j s j0 j1 ⟨h1, h2, h3⟩ hN
    have ej := h3 j (Int.le_refl j)
    refine gB_tieEnds_37 p k _ _ j s ⟨fun z => absurd z (by rw [h1.1 7 (by decide), h7]; omega), fun _ => ⟨by omega, fun z => ⟨⟨by omega, by omega⟩, hN s ⟨h1, fun i i0 i1 => ?_, fun i i0 => h3 i (by omega)⟩⟩, fun z => ⟨by omega, ⟨by omega, by omega⟩, hN _ ⟨h1.put (by decide) (Or.inr rfl), fun i i0 i1 => ?_, fun i i0 => ?_⟩⟩⟩⟩
    · by_cases e : i = j
      · rw [e, ej]
        rw [ej] at z
        rw [if_neg z]
      · exact h2 i i0 (by omega)
    · rw [mset_i]
      by_cases e : i = j
      · rw [if_pos e, e]
        rw [ej] at z
        rw [if_pos (Classical.byContradiction z)]
      · rw [if_neg e]; exact h2 i i0 (by omega)
    · rw [mset_i, if_neg (by omega)]; exact h3 i (by omega)
theorem sB_touchesBridge {Q : AV → Mem → Prop} {p c : Int} {B : Int → Int} {m : Mem} (hc : 12 ≤ c ∧ c < 132) (hB : ∀ q, 0 ≤ q → q < 144 → m 18 p q = B q) (hB6 : ∀ q, B q = -6 ∨ 0 ≤ B q) (h0 : clr1 B c → Q (.inl 0) m) (h1 : ¬ clr1 B c → Q (.inl 1) m) : WP cB_touchesBridge 0 [.inr (15, p), .inl c, uu, uu, uu, uu, uu] [] m Q := by
  have neg : ∀ q, 0 ≤ q → q < 144 → (m 18 p q = -6 ↔ B q < 0) := fun q q0 q1 => by
    rw [hB q q0 q1]
    have := hB6 q
    omega
  refine gB_touchesBridge_0 p c m (sS_isPlace (fun _ => ⟨1, rfl, fun z => by omega, fun _ => ⟨by omega, fun z => ?_, fun z => h1 (fun w => z ((neg c (by omega) (by omega)).mpr w.1))⟩⟩) (fun z => absurd (by omega) z))
  have key : ∀ (t : Nat) (j : Int) (a5 a6 : AV), 0 ≤ j → j + (t : Int) = 4 → (∀ i, 0 ≤ i → i < j → B (c + stpL i) < 0) → WP cB_touchesBridge 30 [.inr (15, p), .inl c, .inr (28, 0), .inl 4, .inl j, a5, a6] [] m Q := by
    intro t
    induction t with
    | zero =>
      intro j a5 a6 j0 jt hall
      refine gB_touchesBridge_30 p c 4 j a5 a6 m ⟨fun _ => h0 ⟨(neg c (by omega) (by omega)).mp z, ?_, ?_, ?_, ?_⟩, fun z => absurd (by omega) z⟩
      · exact hall 1 (by omega) (by omega)
      · exact hall 2 (by omega) (by omega)
      · exact hall 0 (by omega) (by omega)
      · exact hall 3 (by omega) (by omega)
    | succ t ih =>
      intro j a5 a6 j0 jt hall
      have hst := stpL_rng (k := j) (by omega)
      have enx : c + ([(-12), (-1), 1, 12].getD (Int.toNat j) 0 : Int) = c + stpL j := rfl
      have gg := @gB_touchesBridge_30 Q p c 4 j a5 a6 m
      rw [enx] at gg
      refine gg ⟨fun z => by omega, fun _ => ⟨by omega, ⟨by omega, by omega⟩, sS_isPlace (fun _ => ⟨1, rfl, fun z => by omega, fun _ => ⟨by omega, fun z2 => ⟨⟨by omega, by omega⟩, ih (j + 1) _ _ (by omega) (by omega) (fun i i0 i1 => ?_)⟩, fun z2 => h1 (fun w => z2 ((neg _ (by omega) (by omega)).mpr ?_))⟩⟩) (fun z => absurd (by omega) z)⟩⟩
      · by_cases e : i = j
        · rw [e]; exact (neg _ (by omega) (by omega)).mp z2
        · exact hall i i0 (by omega)
      · obtain ⟨w1, w2, w3, w4, w5⟩ := w
        rcases four_cases (k := j) (by omega) with e | e | e | e <;> subst e
        · exact w4
        · exact w2
        · exact w3
        · exact w5
  exact key 4 0 uu uu (by omega) (by omega) (fun i i0 i1 => by omega)
theorem run_cell {O : Int → Prop} (hC : Cel O) {k i : Int} {f : Int → Int} (hr : RK O f k) (i0 : 0 ≤ i) (i1 : i < k / 288) : 13 ≤ k % 144 + i * stp (k / 144 % 2) ∧ k % 144 + i * stp (k / 144 % 2) ≤ 130 := by
  have := hC _ (hr.1.2.2.1 i i0 i1)
  omega
theorem sB_isClear {Q : AV → Mem → Prop} {p k : Int} {O : Int → Prop} {f : Int → Int} {B : Int → Int} {m : Mem} (hC : Cel O) (hk : 0 ≤ k ∧ k < 3168) (hr : RK O f k) (hB : ∀ q, 0 ≤ q → q < 144 → m 18 p q = B q) (hB6 : ∀ q, B q = -6 ∨ 0 ≤ B q) (h1 : Clr B (k % 144) (k / 144 % 2) (k / 288) → Q (.inl 1) m) (h0 : ¬ Clr B (k % 144) (k / 144 % 2) (k / 288) → Q (.inl 0) m) : WP cB_isClear 0 [.inr (15, p), .inl k, uu, uu, uu] [] m Q := by
  have hst := stp_rng (d := k / 144 % 2)
  refine gB_isClear_0 p k m (sB_startOf hk.1 ⟨_, rfl, sB_lengthOf hk.1 ⟨_, rfl, ?_⟩⟩)
  have key : ∀ (t : Nat) (i : Int), 0 ≤ i → i + (t : Int) = k / 288 → (∀ j, 0 ≤ j → j < i → clr1 B (k % 144 + j * stp (k / 144 % 2))) → WP cB_isClear 13 [.inr (15, p), .inl k, .inl (k % 144 + i * stp (k / 144 % 2)), .inl (k / 288), .inl i] [] m Q := by
    intro t
    induction t with
    | zero =>
      intro i i0 it hall
      exact gB_isClear_13 p k _ _ i m ⟨fun _ => h1 (fun j j0 j1 => hall j j0 (by omega)), fun z => absurd (by omega) z⟩
    | succ t ih =>
      intro i i0 it hall
      have hc := run_cell hC hr i0 (by omega)
      refine gB_isClear_13 p k _ _ i m ⟨fun z => by omega, fun _ => sB_touchesBridge (by omega) hB hB6 (fun c => ⟨0, rfl, fun _ => sB_stepOf hk.1 ⟨_, rfl, ⟨by omega, by omega⟩, ⟨by omega, by omega⟩, ?_⟩, fun z => absurd rfl z⟩) (fun c => ⟨1, rfl, fun z => by omega, fun _ => h0 (fun w => c (w i i0 (by omega)))⟩)⟩
      have e1 : k % 144 + i * stp (k / 144 % 2) + stp (k / 144 % 2) = k % 144 + (i + 1) * stp (k / 144 % 2) := by rw [Int.add_mul, Int.one_mul]; omega
      rw [e1]
      refine ih (i + 1) (by omega) (by omega) (fun j j0 j1 => ?_)
      by_cases e : j = i
      · rw [e]; exact c
      · exact hall j j0 (by omega)
  have := key (k / 288).toNat 0 (by omega) (by omega) (fun j j0 j1 => by omega)
  rw [Int.zero_mul, Int.add_zero] at this
  exact this
def OpB (m : Mem) (p : Int) (O : Int → Prop) (B : Int → Int) : Prop := ∀ c, 0 ≤ c → c < 144 → (m 19 p c = 0 ∧ ¬ (O c ∧ B c < 0)) ∨ (m 19 p c = 1 ∧ O c ∧ B c < 0)
/-- what the class knows of the bridges -/
def CBr (m : Mem) (p : Int) (O : Int → Prop) (f : Int → Int) (S : BS) : Prop := TieC O f (m 20 p) S.1 ∧ (∀ c, 0 ≤ c → c < 144 → m 18 p c = S.2.1 c) ∧ OpB m p O S.2.1 ∧ m 15 p 7 = S.2.2.1 ∧ m 15 p 8 = celN S ∧ ∀ b, 0 ≤ b → b < S.2.2.1 → m 17 p b = S.2.2.2 b
set_option maxHeartbeats 1000000 in
theorem sB_addBridge {Q : AV → Mem → Prop} {p k : Int} {O : Int → Prop} {f : Int → Int} {S : BS} {m : Mem} (hC : Cel O) (hk : 0 ≤ k ∧ k < 3168) (hr : RK O f k) (hB : CBr m p O f (tieR S.1 (eB f k) (eA f k), S.2)) (hS : 0 ≤ S.2.2.1 ∧ S.2.2.1 < 100) (hcel : 0 ≤ celN S ∧ celN S ≤ 1000) (h : ∀ m', FR p [15, 17, 18, 19] m m' → (∀ j, j ≠ 7 → j ≠ 8 → m' 15 p j = m 15 p j) → CBr m' p O f (putB k f S) → Q (.inl 0) m') : WP cB_addBridge 0 [.inr (15, p), .inl k, uu, uu, uu] [] m Q := by
  obtain ⟨b1, b2, b3, b4, b5, b6⟩ := hB
  have b4 : m 15 p 7 = S.2.2.1 := b4
  have b5 : m 15 p 8 = celN S := b5
  have hst := stp_rng (d := k / 144 % 2)
  have hgeo := run_geo hC hr
  refine gB_addBridge_0 p k m ⟨fun _ => sB_startOf hk.1 ⟨_, rfl, sB_lengthOf hk.1 ⟨_, rfl, ?_⟩⟩, fun z => absurd (by omega) z⟩
  have ons : ∀ i q, onP (k % 144) (k / 144 % 2) (i + 1) q ↔ (onP (k % 144) (k / 144 % 2) i q ∨ (0 ≤ i ∧ q = k % 144 + i * stp (k / 144 % 2))) := by
    intro i q
    constructor
    · rintro ⟨j, j0, j1, ej⟩
      by_cases e : j = i
      · rw [e] at ej j0; exact Or.inr ⟨j0, ej⟩
      · exact Or.inl ⟨j, j0, by omega, ej⟩
    · rintro (⟨j, j0, j1, ej⟩ | ⟨i0, e⟩)
      · exact ⟨j, j0, by omega, ej⟩
      · exact ⟨i, i0, by omega, e⟩
  have key : ∀ (t : Nat) (i : Int) (s : Mem), 0 ≤ i → i + (t : Int) = k / 288 → FR p [18, 19] m s → (∀ q, 0 ≤ q → q < 144 → (onP (k % 144) (k / 144 % 2) i q → s 18 p q = S.2.2.1 ∧ s 19 p q = 0) ∧ (¬ onP (k % 144) (k / 144 % 2) i q → s 18 p q = m 18 p q ∧ s 19 p q = m 19 p q)) → WP cB_addBridge 23 [.inr (15, p), .inl k, .inl (k % 144 + i * stp (k / 144 % 2)), .inl (k / 288), .inl i] [] s Q := by
    intro t
    induction t with
    | zero =>
      intro i s i0 it hf hs
      have ei : i = k / 288 := by omega
      have e15 : s 15 = m 15 := hf.1 15 (by decide)
      have gg := @gB_addBridge_23 Q p k (k % 144 + i * stp (k / 144 % 2)) (k / 288) i s
      simp only [rd_k, rd_s, ne_eq, Nat.reduceEqDiff, Int.reduceEq, not_false_eq_true] at gg
      rw [e15, b4, b5] at gg
      refine gg ⟨fun _ => ⟨⟨by omega, by omega⟩, by omega, ⟨by omega, by omega⟩, h _ ?_ (fun j j1 j2 => ?_) ⟨?_, fun c c0 c1 => ?_, fun c c0 c1 => ?_, ?_, ?_, fun b q0 q1 => ?_⟩⟩, fun z => absurd (by omega) z⟩
      · exact (((hf.mono (by decide)).put (by decide) (Or.inr rfl)).put (by decide) (Or.inr rfl)).put (by decide) (Or.inr rfl)
      · rw [rd_s j1, mset_k (by decide), rd_s j2, e15]
      · rw [mset_k (by decide), mset_k (by decide), mset_k (by decide), hf.1 20 (by decide)]
        exact b1
      · rw [mset_k (by decide), mset_k (by decide), mset_k (by decide)]
        show s 18 p c = @ite _ (onR k c) (Classical.propDecidable _) S.2.2.1 (S.2.1 c)
        rw [ei] at hs
        by_cases e : onR k c
        · rw [if_pos e]; exact ((hs c c0 c1).1 e).1
        · rw [if_neg e, ((hs c c0 c1).2 e).1]; exact b2 c c0 c1
      · rw [mset_k (by decide), mset_k (by decide), mset_k (by decide)]
        show (s 19 p c = 0 ∧ ¬ (O c ∧ (@ite _ (onR k c) (Classical.propDecidable _) S.2.2.1 (S.2.1 c)) < 0)) ∨ (s 19 p c = 1 ∧ O c ∧ (@ite _ (onR k c) (Classical.propDecidable _) S.2.2.1 (S.2.1 c)) < 0)
        rw [ei] at hs
        by_cases e : onR k c
        · rw [if_pos e]
          exact Or.inl ⟨((hs c c0 c1).1 e).2, fun w => by have := w.2; omega⟩
        · rw [if_neg e, ((hs c c0 c1).2 e).2]; exact b3 c c0 c1
      · rw [mset_i, if_pos rfl]; rfl
      · rw [rd_s (by decide), mset_k (by decide), mset_i, if_pos rfl]
        show celN S + k / 288 = sumN (fun b => (if b = S.2.2.1 then k else S.2.2.2 b) / 288) (S.2.2.1 + 1).toNat
        rw [sumN_suc hS.1, if_pos rfl]
        unfold celN
        rw [sumN_congr (f := fun b => S.2.2.2 b / 288) (g := fun b => (if b = S.2.2.1 then k else S.2.2.2 b) / 288) S.2.2.1.toNat (fun b q0 q1 => by rw [if_neg (by omega)])]
      · have q1 : b < S.2.2.1 + 1 := q1
        rw [mset_k (by decide), mset_i]
        show (if b = S.2.2.1 then k else (mset s 15 p 8 (celN S + k / 288)) 17 p b) = if b = S.2.2.1 then k else S.2.2.2 b
        by_cases e : b = S.2.2.1
        · rw [if_pos e, if_pos e]
        · rw [if_neg e, if_neg e, mset_k (by decide), hf.1 17 (by decide)]
          exact b6 b q0 (by show b < S.2.2.1; omega)
    | succ t ih =>
      intro i s i0 it hf hs
      have hc := run_cell hC hr i0 (by omega)
      have e15 : s 15 = m 15 := hf.1 15 (by decide)
      refine gB_addBridge_23 p k _ _ i s ⟨fun z => by omega, fun _ => sS_isPlace (fun _ => ⟨1, rfl, fun z => by omega, fun _ => ⟨by omega, by omega, sB_stepOf hk.1 ⟨_, rfl, ⟨by omega, by omega⟩, ⟨by omega, by omega⟩, ?_⟩⟩⟩) (fun z => absurd (by omega) z)⟩
      have e1 : k % 144 + i * stp (k / 144 % 2) + stp (k / 144 % 2) = k % 144 + (i + 1) * stp (k / 144 % 2) := by rw [Int.add_mul, Int.one_mul]; omega
      rw [e1]
      refine ih (i + 1) _ (by omega) (by omega) ((hf.put (by decide) (Or.inr rfl)).put (by decide) (Or.inr rfl)) (fun q q0 q1 => ?_)
      rw [ons, mset_k (show (18 : Nat) ≠ 19 by decide), mset_i, mset_i, mset_k (show (19 : Nat) ≠ 18 by decide), e15, b4]
      generalize k % 144 + i * stp (k / 144 % 2) = c at *
      by_cases e : q = c
      · rw [if_pos e, if_pos e]
        exact ⟨fun _ => ⟨rfl, rfl⟩, fun z => absurd (Or.inr ⟨i0, e⟩) z⟩
      · rw [if_neg e, if_neg e]
        refine ⟨fun z => (hs q q0 q1).1 ?_, fun z => (hs q q0 q1).2 (fun w => z (Or.inl w))⟩
        rcases z with z | z
        · exact z
        · exact absurd z.2 e
  have := key (k / 288).toNat 0 m (by omega) (by omega) (FR.refl m) (fun q q0 q1 => ⟨fun z => by obtain ⟨j, j0, j1, -⟩ := z; omega, fun _ => ⟨rfl, rfl⟩⟩)
  rw [Int.zero_mul, Int.add_zero] at this
  exact this
