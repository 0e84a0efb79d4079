/-! The model's marks: spreading till nothing changes. -/
theorem inS_eq {m m' : Mem} (h : m' 34 = m 34) : inS m' = inS m := by funext x y; unfold inS; rw [h]
theorem Mo_eq {m m' : Mem} (h : m' 34 = m 34) : Mo m' = Mo m := by funext l x y; unfold Mo; rw [inS_eq h, h]
theorem OM_eq {m m' : Mem} (h : m' 34 = m 34) : OM m' = OM m := by funext l p; unfold OM; rw [Mo_eq h]
theorem MW_eq {m m' : Mem} (h : m' 34 = m 34) : MW m' = MW m := by unfold MW; rw [h]
theorem M01_eq {m m' : Mem} (h : m' 34 = m 34) : M01 m' = M01 m := by unfold M01; rw [h]
theorem rimS_eq {m m' : Mem} (h : m' 34 = m 34) : rimS m' = rimS m := by funext x y; unfold rimS; rw [h]
theorem frS_eq {m m' : Mem} (h : m' 34 = m 34) : frS m' = frS m := by funext p; unfold frS; rw [inS_eq h]
abbrev mk (m : Mem) (x y : Int) : Int := m 37 0 (10 * y + x)
def cpl (k : Int) : Int := pl (k % 10) (k / 10)
/-- what every mark is, while they spread -/
def MkI (m : Mem) (l : Int) : Prop := ∀ x y, inS m x y → (-1 ≤ mk m x y ∧ mk m x y ≤ 10 * y + x) ∧ (mk m x y = -1 → Con (OM m l) 0 (pl x y)) ∧ (0 ≤ mk m x y → inS m (mk m x y % 10) (mk m x y / 10) ∧ Con (OM m l) (cpl (mk m x y)) (pl x y)) ∧ (rimS m x y → ¬ Mo m l x y → mk m x y = -1)
def nb (x y sx sy : Int) : Prop := (sx = x - 1 ∧ sy = y) ∨ (sx = x + 1 ∧ sy = y) ∨ (sx = x ∧ sy = y - 1) ∨ (sx = x ∧ sy = y + 1)
def LMv (m : Mem) (l x y sx sy v : Int) : Prop := (v = mk m x y ∧ (inS m sx sy → (Mo m l x y ↔ Mo m l sx sy) → mk m x y ≤ mk m sx sy)) ∨ (inS m sx sy ∧ (Mo m l x y ↔ Mo m l sx sy) ∧ mk m sx sy < mk m x y ∧ v = mk m sx sy)
theorem sM_lesserMark {Q : AV → Mem → Prop} {l x y sx sy : Int} {m : Mem} (hw : MW m) (hl : 0 ≤ l ∧ l ≤ 3) (hc : inS m x y) (h : ∀ v, LMv m l x y sx sy v → Q (.inl v) m) : WP cM_lesserMark 0 [.inr (33, 0), .inl l, .inl x, .inl y, .inl sx, .inl sy, uu] [] m Q := by
  have hw' := hw
  obtain ⟨w1, w2, w3, w4⟩ := hw'
  have hc' := hc
  unfold inS at hc'
  have own : (inS m sx sy → (Mo m l x y ↔ Mo m l sx sy) → mk m x y ≤ mk m sx sy) → WP cM_at 0 [.inl x, .inl y] [] m (fun r m1 => ∃ r1 : Int, r = .inl r1 ∧ ((0 ≤ r1 ∧ r1 < 100) ∧ Q (.inl (m1 37 0 r1)) m1)) := fun z =>
    sM_at (by omega) (by omega) ⟨_, rfl, by omega, h _ (Or.inl ⟨rfl, z⟩)⟩
  refine gM_lesserMark_0 l x y sx sy m (sM_isCell hw (fun c => ⟨1, rfl, fun z => by omega, fun _ => ?_⟩) (fun c => ⟨0, rfl, fun _ => ⟨fun _ => own (fun z => absurd z c), fun z => absurd rfl z⟩, fun z => absurd rfl z⟩))
  have c' := c
  unfold inS at c'
  have both : (Mo m l x y ↔ Mo m l sx sy) → WP cM_at 0 [.inl sx, .inl sy] [] m (fun r m15 => ∃ r15 : Int, r = .inl r15 ∧ ((0 ≤ r15 ∧ r15 < 100) ∧ WP cM_at 0 [.inl x, .inl y] [] m15 (fun r m16 => ∃ r16 : Int, r = .inl r16 ∧ ((0 ≤ r16 ∧ r16 < 100) ∧ (((m16 37 0 r16) ≤ (m15 37 0 r15) → WP cM_at 0 [.inl x, .inl y] [] m16 (fun r m17 => ∃ r17 : Int, r = .inl r17 ∧ ((0 ≤ r17 ∧ r17 < 100) ∧ Q (.inl (m17 37 0 r17)) m17))) ∧ (¬ (m16 37 0 r16) ≤ (m15 37 0 r15) → WP cM_at 0 [.inl sx, .inl sy] [] m16 (fun r m18 => ∃ r18 : Int, r = .inl r18 ∧ ((0 ≤ r18 ∧ r18 < 100) ∧ Q (.inl (m18 37 0 r18)) m18)))))))) := fun hs =>
    sM_at (by omega) (by omega) ⟨_, rfl, by omega, sM_at (by omega) (by omega) ⟨_, rfl, by omega, fun d => own (fun _ _ => d), fun d => sM_at (by omega) (by omega) ⟨_, rfl, by omega, h _ (Or.inr ⟨c, hs, Int.not_le.mp d, rfl⟩)⟩⟩⟩
  refine sM_isCut hw hl (fun a => ⟨1, rfl, sM_isCut hw hl (fun b => ⟨1, rfl, fun z => absurd rfl z, fun _ => ⟨fun z => by omega, fun _ => both ⟨fun _ => b, fun _ => a⟩⟩⟩) (fun b => ⟨0, rfl, fun _ => ⟨fun _ => own (fun _ z => absurd (z.mp a) b), fun z => absurd rfl z⟩, fun z => absurd (by omega) z⟩)⟩) (fun a => ⟨0, rfl, sM_isCut hw hl (fun b => ⟨1, rfl, fun _ => ⟨fun _ => own (fun _ z => absurd (z.mpr b) a), fun z => absurd rfl z⟩, fun z => absurd (by omega) z⟩) (fun b => ⟨0, rfl, fun z => absurd rfl z, fun _ => ⟨fun z => by omega, fun _ => both ⟨fun z => absurd z a, fun z => absurd z b⟩⟩⟩)⟩)
theorem pl_adj {x y sx sy : Int} (hn : nb x y sx sy) (hx : 0 ≤ x ∧ x < 10) (hy : 0 ≤ y ∧ y < 10) : Adj (pl sx sy) (pl x y) := by
  unfold nb at hn
  unfold Adj pl
  omega
/-- a mark may take a lesser one from beside -/
theorem MkI.put {m : Mem} {l x y sx sy v : Int} (hw : MW m) (hI : MkI m l) (hc : inS m x y) (hn : nb x y sx sy) (hv : LMv m l x y sx sy v) : MkI (mset m 37 0 (10 * y + x) v) l := by
  have e34 : (mset m 37 0 (10 * y + x) v) 34 = m 34 := mset_k (by decide)
  rcases hv with ⟨rfl, -⟩ | ⟨hs, hsame, hlt, rfl⟩
  · rw [mset_same]; exact hI
  · intro a b hab
    rw [inS_eq e34] at hab ⊢
    rw [OM_eq e34, Mo_eq e34, rimS_eq e34]
    obtain ⟨w1, w2, w3, w4⟩ := hw
    have hab' := hab
    have hc' := hc
    have hs' := hs
    unfold inS at hab' hc' hs'
    by_cases e : a = x ∧ b = y
    · obtain ⟨rfl, rfl⟩ := e
      have ek : mk (mset m 37 0 (10 * b + a) (mk m sx sy)) a b = mk m sx sy := mset_at
      rw [ek]
      obtain ⟨i1, i2, i3, i4⟩ := hI a b hc
      obtain ⟨j1, j2, j3, j4⟩ := hI sx sy hs
      have hadj := pl_adj hn (by omega) (by omega)
      have ho : OM m l (pl sx sy) ↔ OM m l (pl a b) := by
        rw [OM_pl (by omega) (by omega), OM_pl (by omega) (by omega)]
        exact hsame.symm
      refine ⟨⟨j1.1, by omega⟩, fun z => (j2 z).step hadj ho, fun z => ⟨(j3 z).1, (j3 z).2.step hadj ho⟩, fun z1 z2 => ?_⟩
      have := i4 z1 z2
      have := j1.1
      omega
    · have ek : mk (mset m 37 0 (10 * y + x) (mk m sx sy)) a b = mk m a b := mset_ne (fun z => e (by have := z.2.2; omega))
      rw [ek]
      exact hI a b hab
def stab (m : Mem) (l x y : Int) : Prop := ∀ sx sy, nb x y sx sy → inS m sx sy → (Mo m l x y ↔ Mo m l sx sy) → mk m x y ≤ mk m sx sy
theorem LMv.le {m : Mem} {l x y sx sy v : Int} (h : LMv m l x y sx sy v) : v ≤ mk m x y := by
  rcases h with ⟨h, -⟩ | ⟨-, -, h1, h2⟩ <;> omega
theorem LMv.eq {m : Mem} {l x y sx sy v : Int} (h : LMv m l x y sx sy v) (e : v = mk m x y) : inS m sx sy → (Mo m l x y ↔ Mo m l sx sy) → mk m x y ≤ mk m sx sy := by
  rcases h with ⟨-, h⟩ | ⟨-, -, h1, h2⟩
  · exact h
  · omega
theorem sM_spread_body {Q : AV → Mem → Prop} {l x y x2 : Int} {a5 : AV} {m : Mem} (hw : MW m) (hl : 0 ≤ l ∧ l ≤ 3) (hc : inS m x y) (hI : MkI m l)
    (hA : stab m l x y → ∀ a : Int, WP cM_spreadOnce 19 [.inr (33, 0), .inl l, .inl (if x2 = 0 then 0 else 1), .inl y, .inl (x + 1), .inl a] [] m Q)
    (hB : ∀ v, v < mk m x y → MkI (mset m 37 0 (10 * y + x) v) l → ∀ a : Int, WP cM_spreadOnce 19 [.inr (33, 0), .inl l, .inl 1, .inl y, .inl (x + 1), .inl a] [] (mset m 37 0 (10 * y + x) v) Q) :
    WP cM_spreadOnce 19 [.inr (33, 0), .inl l, .inl x2, .inl y, .inl x, a5] [] m Q := by
  have hw' := hw
  obtain ⟨w1, w2, w3, w4⟩ := hw'
  have hc' := hc
  unfold inS at hc'
  have e34 : ∀ v, (mset m 37 0 (10 * y + x) v) 34 = m 34 := fun v => mset_k (by decide)
  have hwv : ∀ v, MW (mset m 37 0 (10 * y + x) v) := fun v => by rw [MW_eq (e34 v)]; exact hw
  have hcv : ∀ v, inS (mset m 37 0 (10 * y + x) v) x y := fun v => by rw [inS_eq (e34 v)]; exact hc
  refine gM_spreadOnce_19 l x2 y x a5 m ⟨fun c => absurd c (by omega), fun _ => sM_at (by omega) (by omega) ⟨_, rfl, by omega, sM_at (by omega) (by omega) ⟨_, rfl, ⟨by omega, by omega⟩, ?_⟩⟩⟩
  refine sM_lesserMark hw hl hc (fun v1 h1 => ⟨v1, rfl, by omega, sM_at (by omega) (by omega) ⟨_, rfl, ⟨by omega, by omega⟩, ?_⟩⟩)
  have I1 := MkI.put hw hI hc (Or.inl ⟨rfl, rfl⟩) h1
  refine sM_lesserMark (hwv v1) hl (hcv v1) (fun v2 h2 => ⟨v2, rfl, by omega, ?_⟩)
  have I2 := MkI.put (hwv v1) I1 (hcv v1) (Or.inr (Or.inl ⟨rfl, rfl⟩)) h2
  rw [mset2] at I2 ⊢
  refine sM_at (by omega) (by omega) ⟨_, rfl, ⟨by omega, by omega⟩, ?_⟩
  refine sM_lesserMark (hwv v2) hl (hcv v2) (fun v3 h3 => ⟨v3, rfl, by omega, ?_⟩)
  have I3 := MkI.put (hwv v2) I2 (hcv v2) (Or.inr (Or.inr (Or.inl ⟨rfl, rfl⟩))) h3
  rw [mset2] at I3 ⊢
  refine sM_at (by omega) (by omega) ⟨_, rfl, ⟨by omega, by omega⟩, ?_⟩
  refine sM_lesserMark (hwv v3) hl (hcv v3) (fun v4 h4 => ⟨v4, rfl, by omega, ?_⟩)
  have I4 := MkI.put (hwv v3) I3 (hcv v3) (Or.inr (Or.inr (Or.inr ⟨rfl, rfl⟩))) h4
  rw [mset2] at I4 ⊢
  have k1 : mk (mset m 37 0 (10 * y + x) v1) x y = v1 := mset_at
  have k2 : mk (mset m 37 0 (10 * y + x) v2) x y = v2 := mset_at
  have k3 : mk (mset m 37 0 (10 * y + x) v3) x y = v3 := mset_at
  have k4 : mset m 37 0 (10 * y + x) v4 37 0 (10 * y + x) = v4 := mset_at
  have l1 := h1.le
  have l2 := h2.le
  have l3 := h3.le
  have l4 := h4.le
  rw [k1] at l2
  rw [k2] at l3
  rw [k3] at l4
  have same : v4 = mk m x y → mset m 37 0 (10 * y + x) v4 = m ∧ stab m l x y := by
    intro e
    have e1 : v1 = mk m x y := by omega
    have e2 : v2 = mk m x y := by omega
    have e3 : v3 = mk m x y := by omega
    subst e1
    subst e2
    subst e3
    have s1 := h1.eq rfl
    rw [mset_same] at h2 h3 h4
    have s2 := h2.eq rfl
    have s3 := h3.eq rfl
    have s4 := h4.eq e
    refine ⟨by rw [e]; exact mset_same, fun sx sy hn => ?_⟩
    rcases hn with ⟨rfl, rfl⟩ | ⟨rfl, rfl⟩ | ⟨rfl, rfl⟩ | ⟨rfl, rfl⟩
    · exact s1
    · exact s2
    · exact s3
    · exact s4
  by_cases ev : v4 = mk m x y
  · obtain ⟨em, hst⟩ := same ev
    rw [em]
    have hA := hA hst
    refine ⟨fun c => ⟨⟨by omega, by omega⟩, ?_⟩, fun c => sM_at (by omega) (by omega) ⟨_, rfl, by omega, fun _ => ⟨⟨by omega, by omega⟩, ?_⟩, fun z => absurd rfl z⟩⟩
    · rw [if_neg c] at hA
      exact hA _
    · rw [if_pos (Classical.byContradiction c)] at hA
      exact hA _
  · have hB := hB v4 (by omega) I4
    refine ⟨fun c => ⟨⟨by omega, by omega⟩, hB _⟩, fun c => sM_at (by omega) (by omega) ⟨_, rfl, by omega, fun z => absurd (k4.symm.trans z) ev, fun z => ⟨⟨by omega, by omega⟩, hB _⟩⟩⟩
/-- how much is left to spread -/
def mkS (m : Mem) : Int := sumN (fun k => if 0 ≤ k % 10 ∧ k % 10 < m 34 0 500 ∧ 0 ≤ k / 10 ∧ k / 10 < m 34 0 501 then m 37 0 k + 1 else 0) 100
theorem sumN_le {f g : Int → Int} : ∀ (n : Nat), (∀ k : Int, 0 ≤ k → k < (n : Int) → f k ≤ g k) → sumN f n ≤ sumN g n
  | 0, _ => by simp [sumN]
  | n + 1, h => by
    have := sumN_le n (fun k h0 h1 => h k h0 (by omega))
    have := h (n : Int) (by omega) (by omega)
    simp only [sumN]
    omega
theorem sumN_lt {f g : Int → Int} : ∀ (n : Nat) (j : Int), 0 ≤ j → j < (n : Int) → f j < g j → (∀ k : Int, 0 ≤ k → k < (n : Int) → f k ≤ g k) → sumN f n < sumN g n
  | 0, j, h0, h1, _, _ => by omega
  | n + 1, j, h0, h1, h2, h => by
    have hn := h (n : Int) (by omega) (by omega)
    simp only [sumN]
    by_cases e : j = (n : Int)
    · subst e
      have := sumN_le n (fun k h0 h1 => h k h0 (by omega))
      omega
    · have := sumN_lt n j h0 (by omega) h2 (fun k h0 h1 => h k h0 (by omega))
      omega
theorem sumN_zero : ∀ n : Nat, sumN (fun _ => (0 : Int)) n = 0
  | 0 => rfl
  | n + 1 => by simp only [sumN, sumN_zero n]; rfl
theorem mkS_nonneg {m : Mem} {l : Int} (hI : MkI m l) : 0 ≤ mkS m := by
  have h0 : sumN (fun _ => 0) 100 ≤ mkS m := by
    refine sumN_le 100 (fun k k0 k1 => ?_)
    split
    · rename_i h
      have h2 := (hI (k % 10) (k / 10) ⟨h.1, h.2.1, h.2.2.1, h.2.2.2⟩).1.1
      have e : 10 * (k / 10) + k % 10 = k := by omega
      unfold mk at h2
      rw [e] at h2
      omega
    · omega
  have : sumN (fun _ => (0 : Int)) 100 = 0 := sumN_zero 100
  omega
theorem mkS_put {m : Mem} {x y v : Int} (hw : MW m) (hc : inS m x y) (hv : v < mk m x y) : mkS (mset m 37 0 (10 * y + x) v) < mkS m := by
  obtain ⟨w1, w2, w3, w4⟩ := hw
  unfold inS at hc
  have e34 : (mset m 37 0 (10 * y + x) v) 34 = m 34 := mset_k (by decide)
  unfold mkS
  rw [e34]
  refine sumN_lt 100 (10 * y + x) (by omega) (by omega) ?_ (fun k k0 k1 => ?_)
  · rw [if_pos (by omega), if_pos (by omega), mset_at]
    unfold mk at hv
    omega
  · split
    · rw [mset_i]
      split
      · rename_i e
        rw [e]
        unfold mk at hv
        omega
      · omega
    · omega
/-- one time over all cells -/
theorem sM_spreadOnce {Q : AV → Mem → Prop} {l : Int} {m : Mem} (hw : MW m) (hl : 0 ≤ l ∧ l ≤ 3) (hI : MkI m l) (h0 : (∀ x y, inS m x y → stab m l x y) → Q (.inl 0) m) (h1 : ∀ m' : Mem, (∀ q, q ≠ 37 → m' q = m q) → MkI m' l → mkS m' < mkS m → Q (.inl 1) m') : WP cM_spreadOnce 0 [.inr (33, 0), .inl l, uu, uu, uu, uu] [] m Q := by
  have hw' := hw
  obtain ⟨w1, w2, w3, w4⟩ := hw'
  refine gM_spreadOnce_0 l m ?_
  refine scan (σ := Mem × Int) (W := m 34 0 500) (H := m 34 0 501) (G := fun (y : Int) (s : Mem × Int) => ∀ (a4 a5 : AV), WP cM_spreadOnce 4 [.inr (33, 0), .inl l, .inl s.2, .inl y, a4, a5] [] s.1 Q) (F := fun (y x : Int) (s : Mem × Int) => ∀ a5 : AV, WP cM_spreadOnce 19 [.inr (33, 0), .inl l, .inl s.2, .inl y, .inl x, a5] [] s.1 Q) (I := fun (y x : Int) (s : Mem × Int) => (∀ q, q ≠ 37 → s.1 q = m q) ∧ MkI s.1 l ∧ ((s.2 = 0 ∧ s.1 = m ∧ ∀ a b, inS m a b → (b < y ∨ (b = y ∧ a < x)) → stab m l a b) ∨ (s.2 = 1 ∧ mkS s.1 < mkS m))) (by omega) (by omega) ?_ ?_ ?_ ?_ (m, 0) ⟨fun _ _ => rfl, hI, Or.inl ⟨rfl, rfl, fun a b hab hlt => by unfold inS at hab; omega⟩⟩ uu uu
  · rintro ⟨m1, c⟩ ⟨hf, hI1, hor⟩ a4 a5
    have e34 : m1 34 = m 34 := hf 34 (by decide)
    refine gM_spreadOnce_4 l c _ a4 a5 m1 ⟨fun _ => ?_, fun z => absurd (by rw [e34]; exact Int.le_refl _) z⟩
    rcases hor with ⟨e1, e2, hs⟩ | ⟨e1, e2⟩
    · dsimp only at e1 e2
      subst e1
      subst e2
      exact ⟨Or.inl rfl, h0 (fun x y hxy => hs x y hxy (Or.inl hxy.2.2.2))⟩
    · dsimp only at e1
      subst e1
      exact ⟨Or.inr rfl, h1 m1 hf hI1 e2⟩
  · rintro y ⟨m1, c⟩ y0 y1 ⟨hf, hI1, hor⟩ hF a4 a5
    have e34 : m1 34 = m 34 := hf 34 (by decide)
    exact gM_spreadOnce_4 l c y a4 a5 m1 ⟨fun z => absurd z (by rw [e34]; omega), fun _ => hF a5⟩
  · rintro y ⟨m1, c⟩ y0 y1 ⟨hf, hI1, hor⟩
    have e34 : m1 34 = m 34 := hf 34 (by decide)
    refine ⟨⟨hf, hI1, ?_⟩, fun hG a5 => gM_spreadOnce_19 l c y _ a5 m1 ⟨fun _ => ⟨⟨by omega, by omega⟩, hG _ _⟩, fun z => absurd (by rw [e34]; exact Int.le_refl _) z⟩⟩
    rcases hor with ⟨e1, e2, hs⟩ | h
    · refine Or.inl ⟨e1, e2, fun a b hab hlt => hs a b hab ?_⟩
      unfold inS at hab
      omega
    · exact Or.inr h
  · rintro y x ⟨m1, c⟩ y0 y1 x0 x1 ⟨hf, hI1, hor⟩ hN a5
    have e34 : m1 34 = m 34 := hf 34 (by decide)
    have hw1 : MW m1 := by rw [MW_eq e34]; exact hw
    have hc : inS m1 x y := by rw [inS_eq e34]; exact ⟨x0, x1, y0, y1⟩
    refine sM_spread_body hw1 hl hc hI1 (fun hst a => ?_) (fun v hv hI2 a => ?_)
    · refine hN (m1, if c = 0 then 0 else 1) ⟨hf, hI1, ?_⟩ _
      rcases hor with ⟨e1, e2, hs⟩ | ⟨e1, e2⟩
      · dsimp only at e1 e2
        subst e2
        refine Or.inl ⟨if_pos e1, rfl, fun a b hab hlt => ?_⟩
        by_cases e : a = x ∧ b = y
        · obtain ⟨rfl, rfl⟩ := e
          exact hst
        · exact hs a b hab (by omega)
      · dsimp only at e1
        exact Or.inr ⟨if_neg (by omega), e2⟩
    · refine hN (mset m1 37 0 (10 * y + x) v, 1) ⟨fun q hq => (mset_k hq).trans (hf q hq), hI2, Or.inr ⟨rfl, ?_⟩⟩ _
      have h3 := mkS_put hw1 hc hv
      rcases hor with ⟨e1, e2, hs⟩ | ⟨e1, e2⟩
      · dsimp only at e2 ⊢
        rw [e2] at h3 ⊢
        exact h3
      · dsimp only at e2 ⊢
        omega
/-- spreading till nothing changes -/
theorem sM_spread {Q : AV → Mem → Prop} {l : Int} (hl : 0 ≤ l ∧ l ≤ 3) (m0 : Mem) (hw0 : MW m0) (h : ∀ m' : Mem, (∀ q, q ≠ 37 → m' q = m0 q) → MkI m' l → (∀ x y, inS m' x y → stab m' l x y) → ∀ a3 : AV, WP cM_layPieces 80 [.inr (33, 0), .inl l, .inl 0, a3, uu] [] m' Q) : ∀ (n : Nat) (m : Mem), (∀ q, q ≠ 37 → m q = m0 q) → MkI m l → mkS m ≤ (n : Int) → ∀ a3 : AV, WP cM_layPieces 80 [.inr (33, 0), .inl l, .inl 1, a3, uu] [] m Q := by
  intro n
  induction n with
  | zero =>
    intro m hf hI hn a3
    have hw : MW m := by rw [MW_eq (hf 34 (by decide))]; exact hw0
    refine gM_layPieces_80 l 1 a3 m ⟨fun z => by omega, fun _ => sM_spreadOnce hw hl hI (fun hs => ⟨0, rfl, h m hf hI hs a3⟩) (fun m' hf' hI' hlt => ?_)⟩
    have := mkS_nonneg hI'
    omega
  | succ n ih =>
    intro m hf hI hn a3
    have hw : MW m := by rw [MW_eq (hf 34 (by decide))]; exact hw0
    refine gM_layPieces_80 l 1 a3 m ⟨fun z => by omega, fun _ => sM_spreadOnce hw hl hI (fun hs => ⟨0, rfl, h m hf hI hs a3⟩) (fun m' hf' hI' hlt => ⟨1, rfl, ?_⟩)⟩
    exact ih m' (fun q hq => (hf' q hq).trans (hf q hq)) hI' (by omega) a3
