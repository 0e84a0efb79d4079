/-! The model's numbers of islands and holes. -/
theorem rd_k {m : Mem} {q q' : Nat} {i j v i' j' : Int} (h : q' ≠ q) : mset m q i j v q' i' j' = m q' i' j' := by rw [mset_k h]
theorem rd_j {m : Mem} {q : Nat} {i j v i' j' : Int} : mset m q i j v q i' j' = if i' = i ∧ j' = j then v else m q i' j' := by
  unfold mset
  rw [if_pos rfl]
/-- what 'number' does at a cell -/
def NumR (m : Mem) (l x y : Int) (m' : Mem) : Prop :=
  (∀ q, q ≠ 33 → q ≠ 38 → q ≠ 39 → m' q = m q) ∧ (∀ j, j ≠ 6 → j ≠ 7 → m' 33 0 j = m 33 0 j) ∧ (∀ j, j ≠ 10 * y + x → m' 38 0 j = m 38 0 j ∧ m' 39 0 j = m 39 0 j) ∧
  ((mk m x y < 0 ∧ m' 38 0 (10 * y + x) = -6 ∧ m' 39 0 (10 * y + x) = -6 ∧ m' 33 0 6 = m 33 0 6 ∧ m' 33 0 7 = m 33 0 7) ∨
   (0 ≤ mk m x y ∧ Mo m l x y ∧ mk m x y = 10 * y + x ∧ m' 38 0 (10 * y + x) = -6 ∧ m' 39 0 (10 * y + x) = m 33 0 7 ∧ m' 33 0 6 = m 33 0 6 ∧ m' 33 0 7 = m 33 0 7 + 1) ∨
   (0 ≤ mk m x y ∧ Mo m l x y ∧ mk m x y ≠ 10 * y + x ∧ m' 38 0 (10 * y + x) = -6 ∧ m' 39 0 (10 * y + x) = m 39 0 (mk m x y) ∧ m' 33 0 6 = m 33 0 6 ∧ m' 33 0 7 = m 33 0 7) ∨
   (0 ≤ mk m x y ∧ ¬ Mo m l x y ∧ mk m x y = 10 * y + x ∧ m' 38 0 (10 * y + x) = m 33 0 6 ∧ m' 39 0 (10 * y + x) = -6 ∧ m' 33 0 6 = m 33 0 6 + 1 ∧ m' 33 0 7 = m 33 0 7) ∨
   (0 ≤ mk m x y ∧ ¬ Mo m l x y ∧ mk m x y ≠ 10 * y + x ∧ m' 38 0 (10 * y + x) = m 38 0 (mk m x y) ∧ m' 39 0 (10 * y + x) = -6 ∧ m' 33 0 6 = m 33 0 6 ∧ m' 33 0 7 = m 33 0 7))
set_option maxHeartbeats 1000000 in
theorem sM_number {Q : AV → Mem → Prop} {l x y : Int} {m : Mem} (hw : MW m) (hl : 0 ≤ l ∧ l ≤ 3) (hc : inS m x y) (hmk : mk m x y ≤ 10 * y + x) (hi : 0 ≤ m 33 0 6 ∧ m 33 0 6 ≤ 1000) (hh : 0 ≤ m 33 0 7 ∧ m 33 0 7 ≤ 1000) (h : ∀ m', NumR m l x y m' → Q (.inl 0) m') : WP cM_number 0 [.inr (33, 0), .inl l, .inl x, .inl y, uu] [] m Q := by
  have hw' := hw
  obtain ⟨w1, w2, w3, w4⟩ := hw'
  have hc' := hc
  unfold inS at hc'
  have hk : 0 ≤ 10 * y + x ∧ 10 * y + x < 100 := by omega
  generalize hkk : 10 * y + x = k at *
  have hmk' : mk m x y = m 37 0 k := by unfold mk; rw [hkk]
  have e34 : (mset (mset m 38 0 k (-6)) 39 0 k (-6)) 34 = m 34 := by rw [mset_k (by decide), mset_k (by decide)]
  have e37 : (mset (mset m 38 0 k (-6)) 39 0 k (-6)) 37 = m 37 := by rw [mset_k (by decide), mset_k (by decide)]
  have fr : ∀ (q : Nat), q ≠ 33 → q ≠ 38 → q ≠ 39 → ∀ a b c d e, mset (mset (mset (mset m 38 0 k (-6)) 39 0 k (-6)) a 0 k b) 33 0 c (d + e) q = (mset (mset (mset m 38 0 k (-6)) 39 0 k (-6)) a 0 k b) q := fun q h1 _ _ a b c d e => mset_k h1
  refine gM_number_0 l x y m (sM_at (by omega) (by omega) ⟨_, rfl, ?_⟩)
  rw [hkk]
  refine ⟨hk, hk, hk, fun c => ?_, fun c => ?_⟩
  · rw [e37] at c
    refine sM_isCut (by rw [MW_eq e34]; exact hw) hl (fun d => ⟨1, rfl, fun z => by omega, fun _ => ?_⟩) (fun d => ⟨0, rfl, fun _ => ?_, fun z => absurd rfl z⟩)
    · rw [Mo_eq e34] at d
      refine ⟨hk, fun z => ?_, fun z => ?_⟩
      · rw [e37] at z ⊢
        refine ⟨hk, ⟨by omega, by omega⟩, hk, hk, fun _ => ?_, fun z2 => absurd ?_ z2⟩
        · refine ⟨?_, h _ ⟨fun q q1 q2 q3 => ?_, fun j j1 j2 => ?_, fun j j1 => ?_, ?_⟩⟩
          · simp only [rd_k (show (33 : Nat) ≠ 39 by decide), rd_k (show (33 : Nat) ≠ 38 by decide)]
            exact ⟨by omega, by omega⟩
          · rw [mset_k q1, mset_k q3, mset_k q3, mset_k q2]
          · simp [rd_j, rd_k, j2]
          · rw [hkk] at j1
            simp [rd_j, rd_k, j1]
          · refine Or.inr (Or.inr (Or.inl ⟨by omega, d, by rw [hmk', hkk]; exact z, ?_⟩))
            rw [hkk, hmk']
            simp [rd_j, rd_k, z]
        · rw [mset_k (by decide), e37]; exact z
      · rw [e37] at z
        refine ⟨hk, hk, fun z2 => absurd ?_ z2, fun _ => ?_⟩
        · rw [mset_k (by decide), e37]; exact Classical.byContradiction z
        · refine ⟨?_, h _ ⟨fun q q1 q2 q3 => ?_, fun j j1 j2 => ?_, fun j j1 => ?_, ?_⟩⟩
          · simp only [rd_k (show (33 : Nat) ≠ 39 by decide), rd_k (show (33 : Nat) ≠ 38 by decide)]
            exact ⟨by omega, by omega⟩
          · rw [mset_k q1, mset_k q3, mset_k q3, mset_k q2]
          · simp [rd_j, rd_k, j2]
          · rw [hkk] at j1
            simp [rd_j, rd_k, j1]
          · refine Or.inr (Or.inl ⟨by omega, d, by rw [hmk', hkk]; exact Classical.byContradiction z, ?_⟩)
            rw [hkk]
            simp [rd_j, rd_k]
    · rw [Mo_eq e34] at d
      refine ⟨hk, fun z => ?_, fun z => ?_⟩
      · rw [e37] at z ⊢
        refine ⟨hk, ⟨by omega, by omega⟩, hk, hk, fun _ => ?_, fun z2 => absurd ?_ z2⟩
        · refine ⟨?_, h _ ⟨fun q q1 q2 q3 => ?_, fun j j1 j2 => ?_, fun j j1 => ?_, ?_⟩⟩
          · simp only [rd_k (show (33 : Nat) ≠ 39 by decide), rd_k (show (33 : Nat) ≠ 38 by decide)]
            exact ⟨by omega, by omega⟩
          · rw [mset_k q1, mset_k q2, mset_k q3, mset_k q2]
          · simp [rd_j, rd_k, j1]
          · rw [hkk] at j1
            simp [rd_j, rd_k, j1]
          · refine Or.inr (Or.inr (Or.inr (Or.inr ⟨by omega, d, by rw [hmk', hkk]; exact z, ?_⟩)))
            rw [hkk, hmk']
            simp [rd_j, rd_k, z]
        · rw [mset_k (by decide), e37]; exact z
      · rw [e37] at z
        refine ⟨hk, hk, fun z2 => absurd ?_ z2, fun _ => ?_⟩
        · rw [mset_k (by decide), e37]; exact Classical.byContradiction z
        · refine ⟨?_, h _ ⟨fun q q1 q2 q3 => ?_, fun j j1 j2 => ?_, fun j j1 => ?_, ?_⟩⟩
          · simp only [rd_k (show (33 : Nat) ≠ 39 by decide), rd_k (show (33 : Nat) ≠ 38 by decide)]
            exact ⟨by omega, by omega⟩
          · rw [mset_k q1, mset_k q2, mset_k q3, mset_k q2]
          · simp [rd_j, rd_k, j1]
          · rw [hkk] at j1
            simp [rd_j, rd_k, j1]
          · refine Or.inr (Or.inr (Or.inr (Or.inl ⟨by omega, d, by rw [hmk', hkk]; exact Classical.byContradiction z, ?_⟩)))
            rw [hkk]
            simp [rd_j, rd_k]
  · rw [e37] at c
    refine h _ ⟨fun q q1 q2 q3 => by rw [mset_k q3, mset_k q2], fun j j1 j2 => by simp [rd_k], fun j j1 => ?_, Or.inl ⟨by omega, ?_⟩⟩
    · rw [hkk] at j1
      simp [rd_j, rd_k, j1]
    · rw [hkk]
      simp [rd_j, rd_k]
/-- how many places below n are such -/
noncomputable def cP (P : Int → Prop) (n : Nat) : Int := sumN (fun p => @ite _ (P p) (Classical.propDecidable _) 1 0) n
theorem cP_yes {P : Int → Prop} {n : Nat} (h : P (n : Int)) : cP P (n + 1) = cP P n + 1 := by
  unfold cP
  simp only [sumN]
  rw [if_pos h]
theorem cP_no {P : Int → Prop} {n : Nat} (h : ¬ P (n : Int)) : cP P (n + 1) = cP P n := by
  unfold cP
  simp only [sumN]
  rw [if_neg h]
  omega
theorem cP_skip {P : Int → Prop} : ∀ (k a : Nat), (∀ p : Int, (a : Int) ≤ p → p < ((a + k : Nat) : Int) → ¬ P p) → cP P (a + k) = cP P a
  | 0, a, _ => rfl
  | k + 1, a, h => by
    rw [show a + (k + 1) = a + k + 1 by omega, cP_no (h _ (by omega) (by omega))]
    exact cP_skip k a (fun p h0 h1 => h p h0 (by omega))
theorem cP_rng {P : Int → Prop} : ∀ n : Nat, 0 ≤ cP P n ∧ cP P n ≤ (n : Int)
  | 0 => ⟨by simp [cP, sumN], by simp [cP, sumN]⟩
  | n + 1 => by
    have := cP_rng (P := P) n
    by_cases h : P (n : Int)
    · rw [cP_yes h]; omega
    · rw [cP_no h]; omega
theorem cP_congr {P P' : Int → Prop} (n : Nat) (h : ∀ p : Int, 0 ≤ p → p < (n : Int) → (P p ↔ P' p)) : cP P n = cP P' n := by
  unfold cP
  refine sumN_congr n (fun k h0 h1 => ?_)
  by_cases c : P k
  · rw [if_pos c, if_pos ((h k h0 h1).mp c)]
  · rw [if_neg c, if_neg (fun z => c ((h k h0 h1).mpr z))]
theorem cP_le {P : Int → Prop} : ∀ (k a : Nat), cP P a ≤ cP P (a + k)
  | 0, a => Int.le_refl _
  | k + 1, a => by
    have := cP_le (P := P) k a
    rw [show a + (k + 1) = a + k + 1 by omega]
    by_cases h : P ((a + k : Nat) : Int)
    · rw [cP_yes h]; omega
    · rw [cP_no h]; omega
/-- first places of islands, of holes -/
def IR (O : Int → Prop) (f : Int → Int) (p : Int) : Prop := ¬ O p ∧ f p = p ∧ p ≠ 0
def HR (O : Int → Prop) (f : Int → Int) (p : Int) : Prop := O p ∧ f p = p
