/-! The class's knife. -/
def FlS (m0 s : Mem) (p : Int) (B : Int → Prop) (g : Int → Int) (T : Int) : Prop :=
  FR p [8, 21, 22, 23] m0 s ∧ (∀ c, 0 ≤ c → c < 144 → (hasE B c → g c < T → s 22 p c = rkE B g (g c)) ∧ (¬ (hasE B c ∧ g c < T) → s 22 p c = -6)) ∧ (s 21 p 7 = cP (LRt B g) T.toNat ∧ s 21 p 6 = edN B (fun c => g c < T) 144) ∧ ∀ r, r < T → LRt B g r → s 23 p (rkE B g r) = edN B (fun c => g c = r) 144
theorem edN_congr {B P P' : Int → Prop} {n : Nat} (h : ∀ c, 0 ≤ c → c < (n : Int) → hasE B c → (P c ↔ P' c)) : edN B P n = edN B P' n := by
  refine sumN_congr n (fun c c0 c1 => ?_)
  unfold edV
  have h1 : cif (P c ∧ Ea B c) 1 0 = cif (P' c ∧ Ea B c) 1 0 := by
    by_cases w : Ea B c
    · have hi := h c c0 c1 (Or.inl w)
      by_cases v : P c
      · rw [cif_pos ⟨v, w⟩, cif_pos ⟨hi.mp v, w⟩]
      · rw [cif_neg (fun z => v z.1), cif_neg (fun z => v (hi.mpr z.1))]
    · rw [cif_neg (fun z => w z.2), cif_neg (fun z => w z.2)]
  have h2 : cif (P c ∧ Ed B c) 1 0 = cif (P' c ∧ Ed B c) 1 0 := by
    by_cases w : Ed B c
    · have hi := h c c0 c1 (Or.inr (Or.inl w))
      by_cases v : P c
      · rw [cif_pos ⟨v, w⟩, cif_pos ⟨hi.mp v, w⟩]
      · rw [cif_neg (fun z => v z.1), cif_neg (fun z => v (hi.mpr z.1))]
    · rw [cif_neg (fun z => w z.2), cif_neg (fun z => w z.2)]
  rw [h1, h2]
theorem edN_suc {B : Int → Prop} {g : Int → Int} {T : Int} {n : Nat} : edN B (fun c => g c < T + 1) n = edN B (fun c => g c < T) n + edN B (fun c => g c = T) n := by
  unfold edN
  rw [← sumN_add]
  refine sumN_congr n (fun c _ _ => ?_)
  unfold edV
  have h : ∀ E : Prop, cif (g c < T + 1 ∧ E) 1 0 = cif (g c < T ∧ E) 1 0 + cif (g c = T ∧ E) 1 0 := by
    intro E
    by_cases w : E
    · rcases Int.lt_trichotomy (g c) T with v | v | v
      · rw [cif_pos ⟨by omega, w⟩, cif_pos ⟨v, w⟩, cif_neg (fun z => by omega)]; rfl
      · rw [cif_pos ⟨by omega, w⟩, cif_neg (fun z => by omega), cif_pos ⟨v, w⟩]; rfl
      · rw [cif_neg (fun z => by omega), cif_neg (fun z => by omega), cif_neg (fun z => by omega)]; rfl
    · rw [cif_neg (fun z => w z.2), cif_neg (fun z => w z.2), cif_neg (fun z => w z.2)]; rfl
  rw [h, h]
  dsimp only
  omega
set_option maxHeartbeats 1000000 in
theorem sK_findLoops {Q : AV → Mem → Prop} {p : Int} {B : Int → Prop} {g : Int → Int} {m : Mem} (hC : Cel B) (hg : LabE B g) (h19 : OpR m 19 p B) (h : ∀ m', FlS m m' p B g 144 → Q (.inl 0) m') : WP cK_findLoops 0 [.inr (21, p), uu] [] m Q := by
  have h36 := LRt_36 hC hg
  have gpos : ∀ c, hasE B c → 13 ≤ g c ∧ g c ≤ c := fun c hc => by
    have := hasE_geo hC (hg.root hc)
    have := (hg.2 c hc).1.1
    omega
  refine gK_findLoops_0 p m (fill_22 _ p (-6) m (fun m1 a1 a2 a3 => ?_))
  have f1 : FR p [8, 21, 22, 23] m m1 := ⟨fun q hq => a1 q (fun z => hq (by rw [z]; decide)), fun q hq i hi => by
    by_cases e : q = 22
    · rw [e]; exact a2 i hi
    · rw [a1 q e]⟩
  refine loopU (σ := Mem) (N := 144) (G := fun (k : Int) (s : Mem) => WP cK_findLoops 21 [.inr (21, p), .inl k] [] s Q) (I := fun (k : Int) (s : Mem) => FlS m s p B g k) ?_ ?_ 0 _ (Int.le_refl 0) (by omega) ⟨(f1.put (by decide) (Or.inr rfl)).put (by decide) (Or.inr rfl), fun c c0 c1 => ⟨fun hE hlt => by have := gpos c hE; omega, fun _ => by rw [mset_k (by decide), mset_k (by decide)]; exact a3 c c0 c1⟩, ⟨by rw [mset_i, if_pos rfl]; rfl, ?_⟩, fun r r1 hr => by have := gpos r hr.1; have := hr.2; omega⟩
  · intro s hs
    exact gK_findLoops_21 p _ s ⟨fun _ => h s hs, fun z => absurd (by omega) z⟩
  · intro T s T0 T1 hs hN
    obtain ⟨s1, s2, ⟨s3, s4⟩, s5⟩ := hs
    have ecT : ((T.toNat : Nat) : Int) = T := by omega
    have eT : (T + 1).toNat = T.toNat + 1 := by omega
    have rootlt : ∀ c, hasE B c → g c < T + 1 → ¬ LRt B g T → g c < T := fun c hE hlt hr => by
      rcases Int.lt_or_eq_of_le (Int.le_of_lt_add_one hlt) with w | w
      · exact w
      · exact absurd ⟨w ▸ hg.root hE, by have := hg.idem hE; rw [w] at this; exact this⟩ hr
    have no : ¬ LRt B g T → WP cK_findLoops 21 [.inr (21, p), .inl (T + 1)] [] s Q := by
      intro hr
      refine hN s ⟨s1, fun c c0 c1 => ⟨fun hE hlt => (s2 c c0 c1).1 hE (rootlt c hE hlt hr), fun hno => (s2 c c0 c1).2 (fun w => hno ⟨w.1, by omega⟩)⟩, ⟨?_, ?_⟩, fun r r1 hrr => s5 r ?_ hrr⟩
      · rw [eT, cP_no (by rw [ecT]; exact hr)]; exact s3
      · rw [s4]
        exact edN_congr (fun c c0 c1 hE => ⟨fun w => by omega, fun w => rootlt c hE w hr⟩)
      · rcases Int.lt_or_eq_of_le (Int.le_of_lt_add_one r1) with w | w
        · exact w
        · exact absurd (w ▸ hrr) hr
    have h19s : OpR s 19 p B := by intro x x0 x1; rw [s1.1 19 (by decide)]; exact h19 x x0 x1
    refine gK_findLoops_21 p T s ⟨fun z => by omega, fun _ => ⟨by omega, fun z => ⟨⟨by omega, by omega⟩, no (fun hr => z ((s2 T T0 T1).2 (fun w => by have := hr.2; omega)))⟩, fun z => sK_hasAnyEdge hC h19s ⟨T0, T1⟩ (fun hE => ⟨1, rfl, fun y => by omega, fun _ => ?_⟩) (fun hE => ⟨0, rfl, fun _ => ⟨⟨by omega, by omega⟩, no (fun hr => hE hr.1)⟩, fun y => absurd rfl y⟩)⟩⟩
    have z := Classical.byContradiction z
    have hr : LRt B g T := by
      refine ⟨hE, Classical.byContradiction (fun w => ?_)⟩
      have hle := (gpos T hE).2
      have e := (s2 T T0 T1).1 hE (by omega)
      have := (cP_rng (P := LRt B g) (g T).toNat).1
      unfold rkE at e
      omega
    have hlt36 : cP (LRt B g) T.toNat < 36 := by
      have := cP_lt (P := LRt B g) (a := T.toNat) (b := 144) (by omega) (by rw [ecT]; exact hr)
      omega
    have hnn := (cP_rng (P := LRt B g) T.toNat).1
    have hrk : rkE B g T = cP (LRt B g) T.toNat := rfl
    generalize hn : cP (LRt B g) T.toNat = n at *
    have b1 := edN_bnd (B := B) (P := fun c => g c < T) 144
    have b2 := edN_bnd (B := B) (P := fun c => g c = T) 144
    rw [s3]
    refine ⟨fun y => by omega, fun _ => sK_follow hC hg h19s hr (by omega) (fun q q0 q1 hq e => (s2 q q0 q1).2 (fun w => by omega)) (fun q q0 q1 e => ?_) (fun m2 f2 hv => ⟨_, rfl, by omega, ?_⟩)⟩
    · by_cases w : hasE B q ∧ g q < T
      · rw [(s2 q q0 q1).1 w.1 w.2] at e
        have := (rkE_lt hC (r := g q) (r' := T) ⟨hg.root w.1, hg.idem w.1⟩ hr).mpr w.2
        omega
      · rw [(s2 q q0 q1).2 w] at e
        omega
    · have e21 : m2 21 = s 21 := f2.1 21 (by decide)
      have e23 : m2 23 = s 23 := f2.1 23 (by decide)
      have r7 : ∀ a b, (mset m2 23 p a b) 21 p 7 = n := fun a b => by rw [mset_k (by decide), e21]; exact s3
      have r6 : ∀ a b, (mset m2 23 p a b) 21 p 6 = edN B (fun c => g c < T) 144 := fun a b => by rw [mset_k (by decide), e21]; exact s4
      have r7' : ∀ a b v, (mset (mset m2 23 p a b) 21 p 6 v) 21 p 7 = n := fun a b v => by rw [rd_s (by decide)]; exact r7 a b
      rw [r7, r6, mset_i, if_pos rfl, r7']
      refine ⟨by omega, ⟨by omega, by omega⟩, ⟨by omega, by omega⟩, ⟨by omega, by omega⟩, hN _ ⟨?_, fun c c0 c1 => ?_, ⟨?_, ?_⟩, fun r r1 hrr => ?_⟩⟩
      · exact (((s1.trans (f2.mono (by decide))).put (by decide) (Or.inr rfl)).put (by decide) (Or.inr rfl)).put (by decide) (Or.inr rfl)
      · rw [mset_k (by decide), mset_k (by decide), mset_k (by decide)]
        obtain ⟨v1, v2⟩ := hv c c0 c1
        refine ⟨fun hE hlt => ?_, fun hno => ?_⟩
        · by_cases e : g c = T
          · rw [v1 hE e, e, hrk]
          · rw [v2 (fun w => e w.2)]; exact (s2 c c0 c1).1 hE (by omega)
        · rw [v2 (fun w => hno ⟨w.1, by omega⟩)]; exact (s2 c c0 c1).2 (fun w => hno ⟨w.1, by omega⟩)
      · rw [mset_i, if_pos rfl, eT, cP_yes (by rw [ecT]; exact hr), hn]
      · rw [rd_s (by decide), mset_i, if_pos rfl, edN_suc]
      · rw [mset_k (by decide), mset_k (by decide), mset_i]
        by_cases e : r = T
        · rw [e, hrk, if_pos rfl]
        · have := (rkE_lt hC hrr hr).mpr (by omega)
          rw [if_neg (by omega), e23]
          exact s5 r (by omega) hrr
  · rw [rd_s (by decide), mset_i, if_pos rfl]
    have h0 : sumN (fun _ => (0 : Int)) 144 = 0 := sumN_zero 144
    refine h0.symm.trans (sumN_congr 144 (fun c _ _ => ?_))
    unfold edV
    rw [cif_neg (fun w => by have := gpos c (Or.inl w.2); have := w.1; omega), cif_neg (fun w => by have := gpos c (Or.inr (Or.inl w.2)); have := w.1; omega)]
    rfl
theorem sK_distance {Q : AV → Mem → Prop} {a b : Int} {m : Mem} (ha : 0 ≤ a ∧ a < 144) (hb : 0 ≤ b ∧ b < 144) (h : Q (.inl (dst a b)) m) : WP cK_distance 0 [.inl a, .inl b] [] m Q := by
  have hd := dst_rng ha hb
  unfold dst at h hd
  refine gK_distance_0 a b m (sS_xOf (by omega) ⟨_, rfl, sS_xOf (by omega) ⟨_, rfl, ⟨by omega, by omega⟩, ⟨by omega, by omega⟩, sS_yOf (by omega) ⟨_, rfl, sS_yOf (by omega) ⟨_, rfl, ⟨by omega, by omega⟩, ⟨by omega, by omega⟩, ?_⟩⟩⟩⟩)
  rw [show a % 12 - 1 - (b % 12 - 1) = a % 12 - b % 12 by omega, show a / 12 - 1 - (b / 12 - 1) = a / 12 - b / 12 by omega]
  exact ⟨⟨by omega, by omega⟩, h⟩
theorem sK_loopOf {Q : AV → Mem → Prop} {p c : Int} {B : Int → Prop} {g : Int → Int} {m : Mem} (hC : Cel B) (hg : LabE B g) (h7 : m 21 p 7 = cP (LRt B g) 144) (h36 : cP (LRt B g) 144 ≤ 36) (h22 : ∀ c, 0 ≤ c → c < 144 → (hasE B c → m 22 p c = rkE B g (g c)) ∧ (¬ hasE B c → m 22 p c = -6)) (hc : 0 ≤ c ∧ c < 144) (h1 : hasE B c → Q (.inl (rkE B g (g c))) m) (h0 : ¬ hasE B c → Q (.inl (-6)) m) : WP cK_loopOf 0 [.inr (21, p), .inl c, uu] [] m Q := by
  have n0 := (cP_rng (P := LRt B g) 144).1
  refine gK_loopOf_0 p c m (sS_isPlace (fun _ => ⟨1, rfl, fun z => by omega, fun _ => ⟨hc, ⟨by omega, by omega⟩, ?_⟩⟩) (fun z => absurd hc z))
  rw [h7]
  by_cases hE : hasE B c
  · have hrk := rkE_rng hC (show LRt B g (g c) from ⟨hg.root hE, hg.idem hE⟩)
    rw [(h22 c hc.1 hc.2).1 hE]
    exact sS_isWithin (fun _ => ⟨1, rfl, fun z => by omega, fun _ => h1 hE⟩) (fun d => absurd (by omega) d)
  · rw [(h22 c hc.1 hc.2).2 hE]
    exact sS_isWithin (fun _ => ⟨1, rfl, fun z => by omega, fun _ => h0 hE⟩) (fun d => ⟨0, rfl, fun _ => h0 hE, fun z => absurd rfl z⟩)
def CutI (m : Mem) (p : Int) (B : Int → Prop) (g : Int → Int) (D : Int → Prop) : Prop := ∀ r, LRt B g r → (m 24 p (rkE B g r) = 0 ∧ ¬ D r) ∨ (m 24 p (rkE B g r) = 1 ∧ D r)
set_option maxHeartbeats 1000000 in
theorem sK_nearestFrom {Q : AV → Mem → Prop} {p a : Int} {B : Int → Prop} {g : Int → Int} {D : Int → Prop} {m : Mem} (hC : Cel B) (hg : LabE B g) (h7 : m 21 p 7 = cP (LRt B g) 144) (h36 : cP (LRt B g) 144 ≤ 36) (h22 : ∀ c, 0 ≤ c → c < 144 → (hasE B c → m 22 p c = rkE B g (g c)) ∧ (¬ hasE B c → m 22 p c = -6)) (hD : CutI m p B g D) (ha : 0 ≤ a ∧ a < 144) (hex : ∃ c, liv B g D c) (h : ∀ c, Nxt B g a D c → Q (.inl c) m) : WP cK_nearestFrom 0 [.inr (21, p), .inl a, uu, uu, uu, uu, uu, uu] [] m Q := by
  have rng : ∀ c, hasE B c → 0 ≤ c ∧ c < 144 := fun c hc => by have := hasE_geo hC hc; omega
  have lroot : ∀ c, hasE B c → LRt B g (g c) := fun c hc => ⟨hg.root hc, hg.idem hc⟩
  refine gK_nearestFrom_0 p a m ?_
  refine loopU (σ := Int × Int × Int) (N := 144) (G := fun (k : Int) (s : Int × Int × Int) => ∀ a6 a7 : AV, WP cK_nearestFrom 14 [.inr (21, p), .inl a, .inl s.1, .inl s.2.1, .inl s.2.2, .inl k, a6, a7] [] m Q) (I := fun (k : Int) (s : Int × Int × Int) => (s.2.1 = 144 ∧ ∀ c, liv B g D c → ¬ c < k) ∨ (liv B g D s.1 ∧ s.1 < k ∧ s.2.1 = dst a s.1 ∧ s.2.2 = rkE B g (g s.1) ∧ ∀ c, liv B g D c → c < k → btr g a s.1 c)) ?_ ?_ 0 (-6, 144, 36) (Int.le_refl 0) (by omega) (Or.inl ⟨rfl, fun c hc => by have := rng c hc.1; omega⟩) uu uu
  · rintro ⟨x2, x3, x4⟩ hs a6 a7
    refine gK_nearestFrom_14 p a x2 x3 x4 _ a6 a7 m ⟨fun _ => ?_, fun z => absurd (by omega) z⟩
    rcases hs with ⟨-, h2⟩ | ⟨b1, -, -, -, b5⟩
    · obtain ⟨c, hc⟩ := hex
      exact absurd (rng c hc.1).2 (h2 c hc)
    · exact h x2 ⟨b1, fun c hc => b5 c hc (rng c hc.1).2⟩
  · rintro k ⟨x2, x3, x4⟩ k0 k1 hs hN a6 a7
    dsimp only at hs hN ⊢
    have skip : ¬ liv B g D k → ∀ a6 a7 : AV, WP cK_nearestFrom 14 [.inr (21, p), .inl a, .inl x2, .inl x3, .inl x4, .inl (k + 1), a6, a7] [] m Q := by
      intro hl
      have hck : ∀ c, liv B g D c → c < k + 1 → c < k := fun c hc c1 => by
        rcases Int.lt_or_eq_of_le (Int.le_of_lt_add_one c1) with w | w
        · exact w
        · exact absurd (w ▸ hc) hl
      refine hN (x2, x3, x4) ?_
      rcases hs with ⟨h1, h2⟩ | ⟨b1, b2, b3, b4, b5⟩
      · exact Or.inl ⟨h1, fun c hc c1 => h2 c hc (hck c hc c1)⟩
      · exact Or.inr ⟨b1, by dsimp only; omega, b3, b4, fun c hc c1 => b5 c hc (hck c hc c1)⟩
    refine gK_nearestFrom_14 p a x2 x3 x4 k a6 a7 m ⟨fun z => by omega, fun _ => sK_loopOf hC hg h7 h36 h22 ⟨k0, k1⟩ (fun hE => ?_) (fun hE => ⟨_, rfl, fun _ => ⟨⟨by omega, by omega⟩, skip (fun w => hE w.1) _ _⟩, fun z => absurd rfl z⟩)⟩
    · have hrk := rkE_rng hC (lroot k hE)
      have hDk := hD (g k) (lroot k hE)
      refine ⟨_, rfl, fun z => by omega, fun _ => ⟨by omega, fun z => ?_, fun z => ⟨⟨by omega, by omega⟩, skip (fun w => ?_) _ _⟩⟩⟩
      · have hl : liv B g D k := ⟨hE, by
          rcases hDk with ⟨-, w⟩ | ⟨w, -⟩
          · exact w
          · omega⟩
        have hd := dst_rng ha (b := k) ⟨k0, k1⟩
        have new : (∀ c, liv B g D c → c < k → btr g a k c) → ∀ a6 a7 : AV, WP cK_nearestFrom 14 [.inr (21, p), .inl a, .inl k, .inl (dst a k), .inl (rkE B g (g k)), .inl (k + 1), a6, a7] [] m Q := fun hb => hN (k, dst a k, rkE B g (g k)) (Or.inr ⟨hl, by dsimp only; omega, rfl, rfl, fun c hc c1 => by
          by_cases e : c = k
          · rw [e]
            show btr g a k k
            unfold btr; omega
          · exact hb c hc (by omega)⟩)
        have keep : liv B g D x2 → x2 < k → x3 = dst a x2 → x4 = rkE B g (g x2) → (∀ c, liv B g D c → c < k → btr g a x2 c) → btr g a x2 k → ∀ a6 a7 : AV, WP cK_nearestFrom 14 [.inr (21, p), .inl a, .inl x2, .inl x3, .inl x4, .inl (k + 1), a6, a7] [] m Q := fun b1 b2 b3 b4 b5 hb => hN (x2, x3, x4) (Or.inr ⟨b1, by dsimp only; omega, b3, b4, fun c hc c1 => by
          by_cases e : c = k
          · rw [e]; exact hb
          · exact b5 c hc (by omega)⟩)
        refine sK_distance ha ⟨k0, k1⟩ ⟨_, rfl, fun z1 => ⟨⟨by omega, by omega⟩, new (fun c hc c1 => ?_) _ _⟩, fun z1 => ⟨fun z2 => ⟨⟨by omega, by omega⟩, ?_⟩, fun z2 => ⟨fun z3 => ⟨⟨by omega, by omega⟩, ?_⟩, fun z3 => ⟨⟨by omega, by omega⟩, new (fun c hc c1 => ?_) _ _⟩⟩⟩⟩
        · rcases hs with ⟨-, h2⟩ | ⟨b1, b2, b3, b4, b5⟩
          · exact absurd c1 (h2 c hc)
          · have := b5 c hc c1
            unfold btr at *
            omega
        · rcases hs with ⟨h1, -⟩ | ⟨b1, b2, b3, b4, b5⟩
          · omega
          · exact keep b1 b2 b3 b4 b5 (Or.inl (by omega)) _ _
        · rcases hs with ⟨h1, -⟩ | ⟨b1, b2, b3, b4, b5⟩
          · omega
          · refine keep b1 b2 b3 b4 b5 (Or.inr ⟨by omega, ?_⟩) _ _
            have i1 := rkE_lt hC (lroot k hE) (lroot x2 b1.1)
            omega
        · rcases hs with ⟨-, h2⟩ | ⟨b1, b2, b3, b4, b5⟩
          · exact absurd c1 (h2 c hc)
          · have hb := b5 c hc c1
            have i1 := (rkE_lt hC (lroot k hE) (lroot x2 b1.1)).mp (by omega)
            unfold btr at *
            omega
      · rcases hDk with ⟨e, -⟩ | ⟨-, e⟩
        · exact z e
        · exact w.2 e
/-- what the class knows of the knife -/
def CKn (m : Mem) (p : Int) (B : Int → Prop) : Prop := (∀ c, 0 ≤ c → c < 144 → (hasE B c → m 22 p c = rkE B (labEC B) (labEC B c)) ∧ (¬ hasE B c → m 22 p c = -6)) ∧ m 21 p 7 = lpN B ∧ m 21 p 6 = edN B (fun _ => True) 144 ∧ (∀ r, LRt B (labEC B) r → m 23 p (rkE B (labEC B) r) = edN B (fun c => labEC B c = r) 144) ∧ m 21 p 8 = (wayA B).2.2.1 ∧ ∀ k, 0 ≤ k → k < lpN B → m 25 p k = (wayA B).2.2.2 k
set_option maxHeartbeats 1000000 in
theorem sK_planWay {Q : AV → Mem → Prop} {p : Int} {B : Int → Prop} {g : Int → Int} {m : Mem} (hC : Cel B) (hg : LabE B g) (h22 : ∀ c, 0 ≤ c → c < 144 → (hasE B c → m 22 p c = rkE B g (g c)) ∧ (¬ hasE B c → m 22 p c = -6)) (h7 : m 21 p 7 = cP (LRt B g) 144) (h : ∀ m', FR p [21, 24, 25] m m' → (∀ j, j ≠ 8 → m' 21 p j = m 21 p j) → m' 21 p 8 = (wayS B g (cP (LRt B g) 144).toNat).2.2.1 → (∀ k, 0 ≤ k → k < cP (LRt B g) 144 → m' 25 p k = (wayS B g (cP (LRt B g) 144).toNat).2.2.2 k) → Q (.inl 0) m') : WP cK_planWay 0 [.inr (21, p), uu, uu, uu, uu] [] m Q := by
  have h36 := LRt_36 hC hg
  have hn0 := (cP_rng (P := LRt B g) 144).1
  have hwok := wayS_ok hC hg
  generalize hN : cP (LRt B g) 144 = N at *
  refine gK_planWay_0 p m ?_
  refine loopU (σ := Mem) (N := 36) (G := fun (k : Int) (s : Mem) => WP cK_planWay 2 [.inr (21, p), .inl k, uu, uu, uu] [] s Q) (I := fun (k : Int) (s : Mem) => FR p [21, 24, 25] m s ∧ (∀ q, q ≠ 24 → s q = m q) ∧ ∀ i, 0 ≤ i → i < k → s 24 p i = 0) ?_ ?_ 0 m (Int.le_refl 0) (by omega) ⟨FR.refl m, fun _ _ => rfl, fun i i0 i1 => by omega⟩
  · rintro s0 ⟨g1, g1', g2⟩
    refine gK_planWay_2 p _ s0 ⟨fun _ => sS_placeOf (by omega) (by omega) ⟨_, rfl, ?_⟩, fun z => absurd (by omega) z⟩
    show WP cK_planWay 34 [.inr (21, p), .inl 13, .inl 0, uu, uu] [] (mset s0 21 p 8 0) Q
    have start : ∀ a3 a4 : AV, WP cK_planWay 34 [.inr (21, p), .inl (wayS B g (0 : Int).toNat).1, .inl 0, a3, a4] [] (mset s0 21 p 8 0) Q := by
      refine loopU (σ := Mem) (N := N) (G := fun (k : Int) (s : Mem) => ∀ a3 a4 : AV, WP cK_planWay 34 [.inr (21, p), .inl (wayS B g k.toNat).1, .inl k, a3, a4] [] s Q) (I := fun (k : Int) (s : Mem) => FR p [21, 24, 25] m s ∧ (∀ j, j ≠ 8 → s 21 p j = m 21 p j) ∧ s 21 p 8 = (wayS B g k.toNat).2.2.1 ∧ CutI s p B g (wayS B g k.toNat).2.1 ∧ ∀ j, 0 ≤ j → j < k → s 25 p j = (wayS B g k.toNat).2.2.2 j) ?_ ?_ 0 _ (Int.le_refl 0) hn0 ⟨g1.put (by decide) (Or.inr rfl), fun j hj => by rw [rd_s hj, g1' 21 (by decide)], by rw [mset_i, if_pos rfl]; rfl, fun r hr => Or.inl ⟨?_, fun w => w⟩, fun j j0 j1 => by omega⟩
      · rintro s ⟨k1, k2, k3, k4, k5⟩ a3 a4
        exact gK_planWay_34 p _ _ a3 a4 s ⟨fun _ => h s k1 k2 k3 k5, fun z => absurd (by rw [k2 7 (by decide), h7]; exact Int.le_refl _) z⟩
      · rintro k s q0 q1 ⟨k1, k2, k3, k4, k5⟩ hNx a3 a4
        have hok := hwok k.toNat (by omega)
        have ekk : ((k.toNat : Nat) : Int) = k := by omega
        have hokN := wayS_nxt hC hg hok (by rw [hN]; omega)
        obtain ⟨w1, w2, w3, w4, w5, w6, w7⟩ := hok
        have eS : wayS B g (k + 1).toNat = stepW B g k (wayS B g k.toNat) := by
          rw [show (k + 1).toNat = k.toNat + 1 by omega]
          show stepW B g ((k.toNat : Nat) : Int) _ = _
          rw [ekk]
        rw [ekk] at w4
        have e22 : s 22 = m 22 := k1.1 22 (by decide)
        rw [eS] at hNx
        generalize hT : wayS B g k.toNat = T at *
        have h7s : s 21 p 7 = cP (LRt B g) 144 := by rw [k2 7 (by decide), h7, hN]
        refine gK_planWay_34 p _ k a3 a4 s ⟨fun z => absurd z (by rw [k2 7 (by decide), h7]; omega), fun _ => sK_nearestFrom hC hg h7s (by omega) (by rw [e22]; exact h22) k4 ⟨w3.1, w3.2.1⟩ (by obtain ⟨c, hc⟩ := hokN; exact ⟨c, hc.1⟩) (fun c hc => ⟨c, rfl, sK_loopOf hC hg h7s (by omega) (by rw [e22]; exact h22) (by have := hasE_geo hC hc.1.1; omega) (fun _ => ⟨_, rfl, fun _ => ?_, fun z => absurd (fun e => by have := rkE_rng hC (show LRt B g (g c) from ⟨hg.root hc.1.1, hg.idem hc.1.1⟩); omega) z⟩) (fun hE => absurd hc.1.1 hE)⟩)⟩
        have hgeo := hasE_geo hC hc.1.1
        have hroot : LRt B g (g c) := ⟨hg.root hc.1.1, hg.idem hc.1.1⟩
        have hrk := rkE_rng hC hroot
        have hdd := dst_rng (a := T.1) (b := c) ⟨w3.1, w3.2.1⟩ (by omega)
        refine sK_distance ⟨w3.1, w3.2.1⟩ (by omega) ⟨_, rfl, ?_⟩
        rw [k3]
        refine ⟨⟨by omega, by omega⟩, by omega, by omega, ⟨by omega, by omega⟩, ?_⟩
        have hstep : stepW B g k T = (c, (fun r => T.2.1 r ∨ r = g c), T.2.2.1 + dst T.1 c, fun j => if j = k then c else T.2.2.2 j) := by unfold stepW; rw [nxt_eq hc]
        rw [hstep] at hNx
        refine hNx _ ⟨((k1.put (by decide) (Or.inr rfl)).put (by decide) (Or.inr rfl)).put (by decide) (Or.inr rfl), fun j hj => by rw [mset_k (by decide), mset_k (by decide), rd_s hj]; exact k2 j hj, ?_, fun r hr => ?_, fun j j0 j1 => ?_⟩ _ _
        · rw [mset_k (by decide), mset_k (by decide), mset_i, if_pos rfl]
        · rw [mset_k (by decide), mset_i]
          by_cases e : r = g c
          · rw [e, if_pos rfl]; exact Or.inr ⟨rfl, Or.inr rfl⟩
          · rw [if_neg (fun z => e ((rkE_eq hC hr hroot).mp z)), mset_k (by decide)]
            rcases k4 r hr with ⟨a, b⟩ | ⟨a, b⟩
            · exact Or.inl ⟨a, fun z => z.elim b e⟩
            · exact Or.inr ⟨a, Or.inl b⟩
        · rw [mset_i]
          dsimp only
          by_cases e : j = k
          · rw [if_pos e, if_pos e]
          · rw [if_neg e, if_neg e, mset_k (by decide), mset_k (by decide)]
            exact k5 j j0 (by omega)
      · rw [mset_k (by decide)]
        have := rkE_rng hC hr
        exact g2 _ this.1 (by omega)
    exact start uu uu
  · rintro k s k0 k1 ⟨g1, g1', g2⟩ hNx
    refine gK_planWay_2 p k s ⟨fun z => by omega, fun _ => ⟨by omega, ⟨by omega, by omega⟩, hNx _ ⟨g1.put (by decide) (Or.inr rfl), fun q hq => (mset_k hq).trans (g1' q hq), fun i i0 i1 => ?_⟩⟩⟩
    rw [mset_i]
    split
    · rfl
    · exact g2 i i0 (by omega)
theorem CKn_eq {m m' : Mem} {p : Int} {B : Int → Prop} (h : ∀ q, 21 ≤ q → q ≤ 25 → m' q p = m q p) : CKn m' p B ↔ CKn m p B := by
  unfold CKn
  rw [h 21 (by omega) (by omega), h 22 (by omega) (by omega), h 23 (by omega) (by omega), h 25 (by omega) (by omega)]
abbrev ksK : List Nat := [6, 7, 8, 9, 10, 11, 12, 13, 14, 15, 16, 17, 18, 19, 20, 21, 22, 23, 24, 25]
theorem sL_routed {Q : AV → Mem → Prop} {l : Int} {m : Mem} (hw : MW m) (hR : CRel m) (hl : 0 ≤ l ∧ l ≤ 3) (hfresh : ¬ m 6 l 3 = 0 → CBd m l (OM m l)) (hfreshK : ¬ m 6 l 4 = 0 → ¬ m 6 l 3 = 0 ∧ CKn m l (BO (OM m l))) (h : ∀ m', FR l ksK m m' → m' 6 l 3 ≠ 0 → m' 6 l 4 ≠ 0 → CBd m' l (OM m l) → CKn m' l (BO (OM m l)) → Q (.inr (21, l)) m') : WP cL_routed 0 [.inr (6, l), .inr (1, 0), .inl l] [] m Q := by
  refine gL_routed_0 l 0 l m (sL_bridged hw hR hl hfresh (fun m1 f1 n3 e4 hsame hB => ⟨l, rfl, fun z => ?_, fun z => ?_⟩))
  · rw [e4] at z
    obtain ⟨a, b⟩ := hfreshK z
    have em := hsame a
    subst em
    exact h m1 (f1.mono (by decide)) n3 z hB b
  · have hC : Cel (BO (OM m l)) := BO_cel hw
    have hg := labE_ok hC
    have h19 : OpR m1 19 l (BO (OM m l)) := hB.2.2.1.2.2.1
    refine sK_findLoops hC hg h19 (fun m2 hF => ?_)
    obtain ⟨a1, a2, ⟨a3, a4⟩, a5⟩ := hF
    generalize hBB : BO (OM m l) = B at *
    have gle : ∀ c, 0 ≤ c → c < 144 → hasE B c → labEC B c < 144 := fun c _ c1 hE => by have := (hg.2 c hE).1.1; omega
    refine sK_planWay hC hg (fun c c0 c1 => ⟨fun hE => (a2 c c0 c1).1 hE (gle c c0 c1 hE), fun hE => (a2 c c0 c1).2 (fun w => hE w.1)⟩) a3 (fun m3 f3 j3 h8 h25 => ?_)
    have e6 : ∀ q, q < 21 → q ≠ 8 → m3 q = m1 q := fun q hq hq8 => by rw [f3.1 q (by simp; omega), a1.1 q (by simp; omega)]
    refine h _ (((f1.mono (by decide)).trans ((a1.mono (by decide)).trans (f3.mono (by decide)))).put (by decide) (Or.inr rfl)) ?_ ?_ ?_ ?_
    · rw [rd_s (by decide), e6 6 (by decide) (by decide)]; exact n3
    · rw [mset_i, if_pos rfl]; omega
    · exact (CBd_eq (fun q q0 q1 q2 => by rw [mset_k (by omega), e6 q (by omega) q1])).mpr hB
    · refine (CKn_eq (m := m3) (fun q q0 q1 => by rw [mset_k (by omega)])).mpr ?_
      unfold CKn wayA lpN
      refine ⟨fun c c0 c1 => ?_, ?_, ?_, fun r hr => ?_, h8, h25⟩
      · rw [f3.1 22 (by decide)]
        exact ⟨fun hE => (a2 c c0 c1).1 hE (gle c c0 c1 hE), fun hE => (a2 c c0 c1).2 (fun w => hE w.1)⟩
      · rw [j3 7 (by decide)]; exact a3
      · rw [j3 6 (by decide), a4]
        exact edN_congr (fun c c0 c1 hE => ⟨fun _ => trivial, fun _ => gle c c0 (by omega) hE⟩)
      · rw [f3.1 23 (by decide)]
        refine a5 r ?_ hr
        have := hasE_geo hC hr.1
        omega
