set_option maxHeartbeats 2000000 in
theorem sM_addRun {Q : AV → Mem → Prop} {l x y n d : Int} {f : Int → Int} {m : Mem} (hw : MW m) (hP : MPc m l f) (hc : inS m x y) (hd : d = 0 ∨ d = 1) (hs : Str (OM m l) (pl x y) d n) (hn : 1 ≤ n ∧ n ≤ 10) (hx : x + n * (1 - d) ≤ 10) (hy : y + n * d ≤ 10) (hr : 0 ≤ m 33 0 14)
    (hlt : f (pl x y - stp d) ≠ f (pl x y + n * stp d) → m 33 0 14 < 100)
    (h0 : f (pl x y - stp d) = f (pl x y + n * stp d) → Q (.inl 0) m)
    (h1 : f (pl x y - stp d) ≠ f (pl x y + n * stp d) → ∀ m', AddR m x y n d (PN (OM m l) f (pl x y - stp d)) (PN (OM m l) f (pl x y + n * stp d)) m' → Q (.inl 0) m') : WP cM_addRun 0 [.inr (33, 0), .inl x, .inl y, .inl n, .inl d, uu, uu] [] m Q := by
  have hw' := hw
  obtain ⟨w1, w2, w3, w4⟩ := hw'
  have hc' := hc
  unfold inS at hc'
  have e1 : pl (x - (1 - d)) (y - d) = pl x y - stp d := by
    unfold pl stp
    rcases hd with rfl | rfl
    · rw [if_pos rfl]; omega
    · rw [if_neg (by decide)]; omega
  have e2 : pl (x + n * (1 - d)) (y + n * d) = pl x y + n * stp d := by
    unfold pl stp
    rcases hd with rfl | rfl
    · rw [if_pos rfl]; omega
    · rw [if_neg (by decide)]; omega
  have b1 : -1 ≤ x - (1 - d) ∧ x - (1 - d) ≤ 10 := by omega
  have b2 : -1 ≤ y - d ∧ y - d ≤ 10 := by omega
  have b3 : -1 ≤ x + n * (1 - d) ∧ x + n * (1 - d) ≤ 10 := by rcases hd with rfl | rfl <;> omega
  have b4 : -1 ≤ y + n * d ∧ y + n * d ≤ 10 := by rcases hd with rfl | rfl <;> omega
  have p1 : 0 ≤ pl x y - stp d ∧ pl x y - stp d < 144 := by rw [← e1]; unfold pl; omega
  have p2 : 0 ≤ pl x y + n * stp d ∧ pl x y + n * stp d < 144 := by rw [← e2]; unfold pl; omega
  have hinj := PN_inj hP.1 p1 p2 hs.2.1 hs.2.2.2
  refine gM_addRun_0 x y n d m ⟨⟨by omega, by omega⟩, ⟨by omega, by omega⟩, ⟨by omega, by omega⟩, sM_pieceAt hw hP b1 b2 (by rw [e1]; exact hs.2.1) ⟨_, rfl, ⟨by omega, by omega⟩, ⟨by rcases hd with rfl | rfl <;> omega, by rcases hd with rfl | rfl <;> omega⟩, ⟨by omega, by omega⟩, ⟨by rcases hd with rfl | rfl <;> omega, by rcases hd with rfl | rfl <;> omega⟩, ⟨by omega, by omega⟩, sM_pieceAt hw hP b3 b4 (by rw [e2]; exact hs.2.2.2) ⟨_, rfl, fun z => ?_, fun z => ?_⟩⟩⟩
  · rw [e1, e2] at z
    exact h0 (hinj.mp z)
  · rw [e1, e2] at z ⊢
    have hne := fun q => z (hinj.mpr q)
    have hl := hlt hne
    have h1 := h1 hne
    generalize PN (OM m l) f (pl x y - stp d) = a at *
    generalize PN (OM m l) f (pl x y + n * stp d) = b at *
    simp only [rd_k, ne_eq, Nat.reduceEqDiff, not_false_eq_true]
    refine ⟨by omega, by omega, by omega, by omega, by omega, by omega, ⟨by omega, by omega⟩, h1 _ ⟨fun q q1 q2 q3 q4 q5 q6 q7 => ?_, fun j j1 => ?_, ?_, fun j j1 => ?_, ?_⟩⟩
    · rw [mset_k q1, mset_k q7, mset_k q6, mset_k q5, mset_k q4, mset_k q3, mset_k q2]
    · simp [rd_j, rd_k, j1]
    · simp [rd_j, rd_k]
    · simp [rd_j, rd_k, j1]
    · simp [rd_j, rd_k]
/-- the run with key k stands at place i -/
def RunAt (m : Mem) (O : Int → Prop) (f : Int → Int) (k i : Int) : Prop :=
  m 40 0 i = k % 144 % 12 - 1 ∧ m 41 0 i = k % 144 / 12 - 1 ∧ m 42 0 i = k / 288 ∧ m 43 0 i = k / 144 % 2 ∧ m 44 0 i = PN O f (k % 144 - stp (k / 144 % 2)) ∧ m 45 0 i = PN O f (k % 144 + k / 288 * stp (k / 144 % 2))
/-- all runs with keys below T stand, in their order -/
def RI (m1 : Mem) (O : Int → Prop) (f : Int → Int) (T : Int) (s : Mem) : Prop :=
  (∀ q, q ≠ 33 → q ≠ 40 → q ≠ 41 → q ≠ 42 → q ≠ 43 → q ≠ 44 → q ≠ 45 → s q = m1 q) ∧ (∀ j, j ≠ 14 → s 33 0 j = m1 33 0 j) ∧ s 33 0 14 = cP (RK O f) T.toNat ∧ ∀ k, 0 ≤ k → k < T → RK O f k → RunAt s O f k (cP (RK O f) k.toNat)
theorem RI.skip {m1 : Mem} {O : Int → Prop} {f : Int → Int} {T T' : Int} {s : Mem} (h : RI m1 O f T s) (h0 : 0 ≤ T) (hT : T ≤ T') (hn : ∀ k, T ≤ k → k < T' → ¬ RK O f k) : RI m1 O f T' s := by
  obtain ⟨a1, a2, a3, a4⟩ := h
  refine ⟨a1, a2, ?_, fun k k0 k1 hk => a4 k k0 (Classical.byContradiction (fun z => hn k (by omega) k1 hk)) hk⟩
  rw [a3, show T'.toNat = T.toNat + (T'.toNat - T.toNat) by omega]
  exact (cP_skip _ _ (fun p p0 p1 => hn p (by omega) (by omega))).symm
theorem RI.add {m1 : Mem} {O : Int → Prop} {f : Int → Int} {T x y n d : Int} {s s' : Mem} (h : RI m1 O f T s) (h0 : 0 ≤ T) (hk : RK O f T) (e1 : T % 144 = pl x y) (e2 : T / 144 % 2 = d) (e3 : T / 288 = n) (hx : 0 ≤ x ∧ x ≤ 9) (hy : 0 ≤ y ∧ y ≤ 9) (ha : AddR s x y n d (PN O f (pl x y - stp d)) (PN O f (pl x y + n * stp d)) s') : RI m1 O f (T + 1) s' := by
  obtain ⟨a1, a2, a3, a4⟩ := h
  obtain ⟨b1, b2, b3, b4, c1, c2, c3, c4, c5, c6⟩ := ha
  have eT : (T + 1).toNat = T.toNat + 1 := by omega
  have eT2 : ((T.toNat : Nat) : Int) = T := by omega
  refine ⟨fun q q1 q2 q3 q4 q5 q6 q7 => (b1 q q1 q2 q3 q4 q5 q6 q7).trans (a1 q q1 q2 q3 q4 q5 q6 q7), fun j j1 => (b2 j j1).trans (a2 j j1), ?_, fun k k0 k1 hkk => ?_⟩
  · rw [b3, a3, eT, cP_yes (by rw [eT2]; exact hk)]
  · by_cases e : k = T
    · subst e
      rw [a3] at c1 c2 c3 c4 c5 c6
      unfold RunAt
      rw [e1, e2, e3, pl_x (by omega), pl_y (by omega)]
      exact ⟨c1, c2, c3, c4, c5, c6⟩
    · have hlt : k < T := by omega
      have hr := cP_lt (P := RK O f) (a := k.toNat) (b := T.toNat) (by omega) (by rw [show ((k.toNat : Nat) : Int) = k by omega]; exact hkk)
      obtain ⟨g1, g2, g3, g4, g5, g6⟩ := b4 (cP (RK O f) k.toNat) (by rw [a3]; omega)
      unfold RunAt
      rw [g1, g2, g3, g4, g5, g6]
      exact a4 k k0 hlt hkk
/-- what the model knows of the runs of a layer -/
def MRn (m : Mem) (l : Int) (f : Int → Int) : Prop := MPc m l f ∧ m 33 0 14 = cP (RK (OM m l) f) 3168 ∧ ∀ k, 0 ≤ k → k < 3168 → RK (OM m l) f k → RunAt m (OM m l) f k (cP (RK (OM m l) f) k.toNat)
theorem MPc_eq {m m' : Mem} {l : Int} {f : Int → Int} (h34 : m' 34 = m 34) (h37 : m' 37 = m 37) (h38 : m' 38 = m 38) (h39 : m' 39 = m 39) (h6 : m' 33 0 6 = m 33 0 6) (h7 : m' 33 0 7 = m 33 0 7) : MPc m' l f ↔ MPc m l f := by
  unfold MPc NumOK mk
  rw [OM_eq h34, inS_eq h34, h37, h38, h39, h6, h7]
