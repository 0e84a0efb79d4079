/-! Depths; the model's depths. -/
def Rch (O : Int → Prop) (n p : Int) : Prop := ∀ S : Int → Int → Prop, S 0 0 → (∀ k p q, S k p → Adj p q → (O p ↔ O q) → S k q) → (∀ k p q, S k p → Adj p q → S (k + 1) q) → S n p
theorem Rch.zero {O : Int → Prop} : Rch O 0 0 := fun _ h _ _ => h
theorem Rch.same {O : Int → Prop} {n p q : Int} (h : Rch O n p) (hA : Adj p q) (hO : O p ↔ O q) : Rch O n q := fun S h0 h1 h2 => h1 n p q (h S h0 h1 h2) hA hO
theorem Rch.chg {O : Int → Prop} {n p q : Int} (h : Rch O n p) (hA : Adj p q) : Rch O (n + 1) q := fun S h0 h1 h2 => h2 n p q (h S h0 h1 h2) hA
theorem Rch.con {O : Int → Prop} {n p q : Int} (h : Rch O n p) (hC : Con O p q) : Rch O n q := hC (fun z => Rch O n z) h (fun _ _ hp hA hO => hp.same hA hO)
/-- the least number of changes on a way from the frame -/
def DepOK (O : Int → Prop) (D : Int → Int) : Prop := ∀ p, 0 ≤ p → p < 144 → Rch O (D p) p ∧ ∀ n, Rch O n p → D p ≤ n
theorem DepOK.of {O : Int → Prop} {D : Int → Int} (h0 : D 0 ≤ 0) (h1 : ∀ p, 0 ≤ p → p < 144 → Rch O (D p) p) (h2 : ∀ p q, Adj p q → (O p ↔ O q) → D q ≤ D p) (h3 : ∀ p q, Adj p q → D q ≤ D p + 1) : DepOK O D := by
  intro p p0 p1
  refine ⟨h1 p p0 p1, fun n hn => ?_⟩
  refine hn (fun k q => D q ≤ k) h0 (fun k p q hp hA hO => ?_) (fun k p q hp hA => ?_)
  · have := h2 p q hA hO
    have hp : D p ≤ k := hp
    show D q ≤ k
    omega
  · have := h3 p q hA
    have hp : D p ≤ k := hp
    show D q ≤ k + 1
    omega
theorem DepOK.uniq {O : Int → Prop} {D D' : Int → Int} (h : DepOK O D) (h' : DepOK O D') {p : Int} (p0 : 0 ≤ p) (p1 : p < 144) : D p = D' p := by
  have a := (h p p0 p1).2 _ (h' p p0 p1).1
  have b := (h' p p0 p1).2 _ (h p p0 p1).1
  omega
noncomputable def depC (O : Int → Prop) : Int → Int := fun p => if 0 ≤ p ∧ p < 144 then (@dite _ (∃ D, DepOK O D) (Classical.propDecidable _) (fun h => Classical.choose h p) (fun _ => 0)) else 0
theorem depC_eq {O : Int → Prop} {D : Int → Int} (h : DepOK O D) {p : Int} (p0 : 0 ≤ p) (p1 : p < 144) : D p = depC O p := by
  unfold depC
  rw [if_pos ⟨p0, p1⟩, dif_pos ⟨D, h⟩]
  exact h.uniq (Classical.choose_spec (⟨D, h⟩ : ∃ D, DepOK O D)) p0 p1
abbrev dk (m : Mem) (x y : Int) : Int := m 49 0 (10 * y + x)
def DkI (m : Mem) (l : Int) : Prop := ∀ x y, inS m x y → (0 ≤ dk m x y ∧ dk m x y ≤ 1000) ∧ (dk m x y < 1000 → Rch (OM m l) (dk m x y) (pl x y)) ∧ (rimS m x y → dk m x y ≤ 1) ∧ (rimS m x y → ¬ Mo m l x y → dk m x y ≤ 0)
noncomputable def chg (m : Mem) (l x y sx sy : Int) : Int := cif (Mo m l x y ↔ Mo m l sx sy) 0 1
def LDv (m : Mem) (l x y sx sy v : Int) : Prop := (v = dk m x y ∧ (inS m sx sy → dk m x y ≤ dk m sx sy + chg m l x y sx sy)) ∨ (inS m sx sy ∧ dk m sx sy + chg m l x y sx sy < dk m x y ∧ v = dk m sx sy + chg m l x y sx sy)
theorem sM_lesserDepth {Q : AV → Mem → Prop} {l x y sx sy : Int} {m : Mem} (hw : MW m) (hl : 0 ≤ l ∧ l ≤ 3) (hI : DkI m l) (hc : inS m x y) (h : ∀ v, LDv m l x y sx sy v → Q (.inl v) m) : WP cM_lesserDepth 0 [.inr (33, 0), .inl l, .inl x, .inl y, .inl sx, .inl sy, uu, uu] [] m Q := by
  have hw' := hw
  obtain ⟨w1, w2, w3, w4⟩ := hw'
  have hc' := hc
  unfold inS at hc'
  refine gM_lesserDepth_0 l x y sx sy m (sM_at (by omega) (by omega) ⟨_, rfl, by omega, sM_isCell hw (fun c => ⟨1, rfl, fun _ => ?_, fun z => absurd (by omega) z⟩) (fun c => ⟨0, rfl, fun z => absurd rfl z, fun _ => h _ (Or.inl ⟨rfl, fun z => absurd z c⟩)⟩)⟩)
  have c' := c
  unfold inS at c'
  have hs : 0 ≤ m 49 0 (10 * sy + sx) ∧ m 49 0 (10 * sy + sx) ≤ 1000 := (hI sx sy c).1
  have fin : ∀ k, k = chg m l x y sx sy → k = 0 ∨ k = 1 → (Rng (m 49 0 (10 * sy + sx) + k) ∧ ((m 49 0 (10 * y + x) ≤ m 49 0 (10 * sy + sx) + k → Q (.inl (m 49 0 (10 * y + x))) m) ∧ (¬ m 49 0 (10 * y + x) ≤ m 49 0 (10 * sy + sx) + k → Q (.inl (m 49 0 (10 * sy + sx) + k)) m))) := by
    intro k hk hk2
    refine ⟨⟨by omega, by omega⟩, fun z => h _ (Or.inl ⟨rfl, fun _ => by rw [← hk]; exact z⟩), fun z => h _ (Or.inr ⟨c, ?_, by rw [← hk]⟩)⟩
    rw [← hk]
    exact Int.not_le.mp z
  have same : (Mo m l x y ↔ Mo m l sx sy) → 0 = chg m l x y sx sy := fun z => (cif_pos z).symm
  have diff : ¬ (Mo m l x y ↔ Mo m l sx sy) → 1 = chg m l x y sx sy := fun z => (cif_neg z).symm
  refine sM_at (by omega) (by omega) ⟨_, rfl, by omega, sM_isCut hw hl (fun a => ⟨1, rfl, sM_isCut hw hl (fun b => ⟨1, rfl, fun z => absurd rfl z, fun _ => fin 0 (same ⟨fun _ => b, fun _ => a⟩) (Or.inl rfl)⟩) (fun b => ⟨0, rfl, fun _ => fin 1 (diff (fun z => b (z.mp a))) (Or.inr rfl), fun z => absurd (by omega) z⟩)⟩) (fun a => ⟨0, rfl, sM_isCut hw hl (fun b => ⟨1, rfl, fun _ => fin 1 (diff (fun z => a (z.mpr b))) (Or.inr rfl), fun z => absurd (by omega) z⟩) (fun b => ⟨0, rfl, fun z => absurd rfl z, fun _ => fin 0 (same ⟨fun z => absurd z a, fun z => absurd z b⟩) (Or.inl rfl)⟩)⟩)⟩
theorem DkI.put {m : Mem} {l x y sx sy v : Int} (hw : MW m) (hI : DkI m l) (hc : inS m x y) (hn : nb x y sx sy) (hv : LDv m l x y sx sy v) : DkI (mset m 49 0 (10 * y + x) v) l := by
  have e34 : (mset m 49 0 (10 * y + x) v) 34 = m 34 := mset_k (by decide)
  rcases hv with ⟨rfl, -⟩ | ⟨hs, hlt, rfl⟩
  · rw [mset_same]; exact hI
  · intro a b hab
    rw [inS_eq e34] at hab
    rw [OM_eq e34, Mo_eq e34, rimS_eq e34]
    obtain ⟨w1, w2, w3, w4⟩ := hw
    have hab' := hab
    have hc' := hc
    have hs' := hs
    unfold inS at hab' hc' hs'
    by_cases e : a = x ∧ b = y
    · obtain ⟨rfl, rfl⟩ := e
      have ek : dk (mset m 49 0 (10 * b + a) (dk m sx sy + chg m l a b sx sy)) a b = dk m sx sy + chg m l a b sx sy := mset_at
      rw [ek]
      obtain ⟨i1, i2, i3, i4⟩ := hI a b hc
      obtain ⟨j1, j2, j3, j4⟩ := hI sx sy hs
      have hadj := pl_adj hn (by omega) (by omega)
      have hch : chg m l a b sx sy = 0 ∨ chg m l a b sx sy = 1 := by
        unfold chg
        by_cases c : (Mo m l a b ↔ Mo m l sx sy)
        · rw [cif_pos c]; exact Or.inl rfl
        · rw [cif_neg c]; exact Or.inr rfl
      refine ⟨⟨by omega, by omega⟩, fun z => ?_, fun z => by have := i3 z; omega, fun z z2 => by have := i4 z z2; omega⟩
      by_cases c : (Mo m l a b ↔ Mo m l sx sy)
      · have e0 : chg m l a b sx sy = 0 := cif_pos c
        rw [e0, Int.add_zero] at z ⊢
        exact (j2 z).same hadj (by rw [OM_pl (by omega) (by omega), OM_pl (by omega) (by omega)]; exact c.symm)
      · have e0 : chg m l a b sx sy = 1 := cif_neg c
        rw [e0] at z ⊢
        exact (j2 (by omega)).chg hadj
    · have ek : dk (mset m 49 0 (10 * y + x) (dk m sx sy + chg m l x y sx sy)) a b = dk m a b := mset_ne (fun z => e (by have := z.2.2; omega))
      rw [ek]
      exact hI a b hab
def dstab (m : Mem) (l x y : Int) : Prop := ∀ sx sy, nb x y sx sy → inS m sx sy → dk m x y ≤ dk m sx sy + chg m l x y sx sy
theorem LDv.le {m : Mem} {l x y sx sy v : Int} (h : LDv m l x y sx sy v) : v ≤ dk m x y := by
  rcases h with ⟨h, -⟩ | ⟨-, h1, h2⟩ <;> omega
theorem LDv.eq {m : Mem} {l x y sx sy v : Int} (h : LDv m l x y sx sy v) (e : v = dk m x y) : inS m sx sy → dk m x y ≤ dk m sx sy + chg m l x y sx sy := by
  rcases h with ⟨-, h⟩ | ⟨-, h1, h2⟩
  · exact h
  · omega
theorem sM_deepen_body {Q : AV → Mem → Prop} {l x y x2 : Int} {a5 : AV} {m : Mem} (hw : MW m) (hl : 0 ≤ l ∧ l ≤ 3) (hc : inS m x y) (hI : DkI m l)
    (hA : dstab m l x y → ∀ a : Int, WP cM_deepenOnce 19 [.inr (33, 0), .inl l, .inl (if x2 = 0 then 0 else 1), .inl y, .inl (x + 1), .inl a] [] m Q)
    (hB : ∀ v, v < dk m x y → DkI (mset m 49 0 (10 * y + x) v) l → ∀ a : Int, WP cM_deepenOnce 19 [.inr (33, 0), .inl l, .inl 1, .inl y, .inl (x + 1), .inl a] [] (mset m 49 0 (10 * y + x) v) Q) :
    WP cM_deepenOnce 19 [.inr (33, 0), .inl l, .inl x2, .inl y, .inl x, a5] [] m Q := by
  have hw' := hw
  obtain ⟨w1, w2, w3, w4⟩ := hw'
  have hc' := hc
  unfold inS at hc'
  have e34 : ∀ v, (mset m 49 0 (10 * y + x) v) 34 = m 34 := fun v => mset_k (by decide)
  have hwv : ∀ v, MW (mset m 49 0 (10 * y + x) v) := fun v => by rw [MW_eq (e34 v)]; exact hw
  have hcv : ∀ v, inS (mset m 49 0 (10 * y + x) v) x y := fun v => by rw [inS_eq (e34 v)]; exact hc
  refine gM_deepenOnce_19 l x2 y x a5 m ⟨fun c => absurd c (by omega), fun _ => sM_at (by omega) (by omega) ⟨_, rfl, by omega, sM_at (by omega) (by omega) ⟨_, rfl, ⟨by omega, by omega⟩, ?_⟩⟩⟩
  refine sM_lesserDepth hw hl hI hc (fun v1 h1 => ⟨v1, rfl, by omega, sM_at (by omega) (by omega) ⟨_, rfl, ⟨by omega, by omega⟩, ?_⟩⟩)
  have I1 := DkI.put hw hI hc (Or.inl ⟨rfl, rfl⟩) h1
  refine sM_lesserDepth (hwv v1) hl I1 (hcv v1) (fun v2 h2 => ⟨v2, rfl, by omega, ?_⟩)
  have I2 := DkI.put (hwv v1) I1 (hcv v1) (Or.inr (Or.inl ⟨rfl, rfl⟩)) h2
  rw [mset2] at I2 ⊢
  refine sM_at (by omega) (by omega) ⟨_, rfl, ⟨by omega, by omega⟩, ?_⟩
  refine sM_lesserDepth (hwv v2) hl I2 (hcv v2) (fun v3 h3 => ⟨v3, rfl, by omega, ?_⟩)
  have I3 := DkI.put (hwv v2) I2 (hcv v2) (Or.inr (Or.inr (Or.inl ⟨rfl, rfl⟩))) h3
  rw [mset2] at I3 ⊢
  refine sM_at (by omega) (by omega) ⟨_, rfl, ⟨by omega, by omega⟩, ?_⟩
  refine sM_lesserDepth (hwv v3) hl I3 (hcv v3) (fun v4 h4 => ⟨v4, rfl, by omega, ?_⟩)
  have I4 := DkI.put (hwv v3) I3 (hcv v3) (Or.inr (Or.inr (Or.inr ⟨rfl, rfl⟩))) h4
  rw [mset2] at I4 ⊢
  have k1 : dk (mset m 49 0 (10 * y + x) v1) x y = v1 := mset_at
  have k2 : dk (mset m 49 0 (10 * y + x) v2) x y = v2 := mset_at
  have k3 : dk (mset m 49 0 (10 * y + x) v3) x y = v3 := mset_at
  have k4 : mset m 49 0 (10 * y + x) v4 49 0 (10 * y + x) = v4 := mset_at
  have l1 := h1.le
  have l2 := h2.le
  have l3 := h3.le
  have l4 := h4.le
  rw [k1] at l2
  rw [k2] at l3
  rw [k3] at l4
  have same : v4 = dk m x y → mset m 49 0 (10 * y + x) v4 = m ∧ dstab m l x y := by
    intro e
    have e1 : v1 = dk m x y := by omega
    have e2 : v2 = dk m x y := by omega
    have e3 : v3 = dk m x y := by omega
    subst e1
    subst e2
    subst e3
    have s1 := h1.eq rfl
    rw [mset_same] at h2 h3 h4
    have s2 := h2.eq rfl
    have s3 := h3.eq rfl
    have s4 := h4.eq e
    refine ⟨by rw [e]; exact mset_same, fun sx sy hn => ?_⟩
    rcases hn with ⟨rfl, rfl⟩ | ⟨rfl, rfl⟩ | ⟨rfl, rfl⟩ | ⟨rfl, rfl⟩
    · exact s1
    · exact s2
    · exact s3
    · exact s4
  by_cases ev : v4 = dk m x y
  · obtain ⟨em, hst⟩ := same ev
    rw [em]
    have hA := hA hst
    refine ⟨fun c => ⟨⟨by omega, by omega⟩, ?_⟩, fun c => sM_at (by omega) (by omega) ⟨_, rfl, by omega, fun _ => ⟨⟨by omega, by omega⟩, ?_⟩, fun z => absurd rfl z⟩⟩
    · rw [if_neg c] at hA
      exact hA _
    · rw [if_pos (Classical.byContradiction c)] at hA
      exact hA _
  · have hB := hB v4 (by omega) I4
    refine ⟨fun c => ⟨⟨by omega, by omega⟩, hB _⟩, fun c => sM_at (by omega) (by omega) ⟨_, rfl, by omega, fun z => absurd (k4.symm.trans z) ev, fun z => ⟨⟨by omega, by omega⟩, hB _⟩⟩⟩
def dkS (m : Mem) : Int := sumN (fun k => if 0 ≤ k % 10 ∧ k % 10 < m 34 0 500 ∧ 0 ≤ k / 10 ∧ k / 10 < m 34 0 501 then m 49 0 k + 1 else 0) 100
theorem dkS_nonneg {m : Mem} {l : Int} (hI : DkI m l) : 0 ≤ dkS m := by
  have h0 : sumN (fun _ => 0) 100 ≤ dkS m := by
    refine sumN_le 100 (fun k k0 k1 => ?_)
    split
    · rename_i h
      have h2 := (hI (k % 10) (k / 10) ⟨h.1, h.2.1, h.2.2.1, h.2.2.2⟩).1.1
      have e : 10 * (k / 10) + k % 10 = k := by omega
      unfold dk at h2
      rw [e] at h2
      omega
    · omega
  have : sumN (fun _ => (0 : Int)) 100 = 0 := sumN_zero 100
  omega
theorem dkS_put {m : Mem} {x y v : Int} (hw : MW m) (hc : inS m x y) (hv : v < dk m x y) : dkS (mset m 49 0 (10 * y + x) v) < dkS m := by
  obtain ⟨w1, w2, w3, w4⟩ := hw
  unfold inS at hc
  have e34 : (mset m 49 0 (10 * y + x) v) 34 = m 34 := mset_k (by decide)
  unfold dkS
  rw [e34]
  refine sumN_lt 100 (10 * y + x) (by omega) (by omega) ?_ (fun k k0 k1 => ?_)
  · rw [if_pos (by omega), if_pos (by omega), mset_at]
    unfold dk at hv
    omega
  · split
    · rw [mset_i]
      split
      · rename_i e
        rw [e]
        unfold dk at hv
        omega
      · omega
    · omega
theorem sM_deepenOnce {Q : AV → Mem → Prop} {l : Int} {m : Mem} (hw : MW m) (hl : 0 ≤ l ∧ l ≤ 3) (hI : DkI m l) (h0 : (∀ x y, inS m x y → dstab m l x y) → Q (.inl 0) m) (h1 : ∀ m' : Mem, (∀ q, q ≠ 49 → m' q = m q) → DkI m' l → dkS m' < dkS m → Q (.inl 1) m') : WP cM_deepenOnce 0 [.inr (33, 0), .inl l, uu, uu, uu, uu] [] m Q := by
  have hw' := hw
  obtain ⟨w1, w2, w3, w4⟩ := hw'
  refine gM_deepenOnce_0 l m ?_
  refine scan (σ := Mem × Int) (W := m 34 0 500) (H := m 34 0 501) (G := fun (y : Int) (s : Mem × Int) => ∀ (a4 a5 : AV), WP cM_deepenOnce 4 [.inr (33, 0), .inl l, .inl s.2, .inl y, a4, a5] [] s.1 Q) (F := fun (y x : Int) (s : Mem × Int) => ∀ a5 : AV, WP cM_deepenOnce 19 [.inr (33, 0), .inl l, .inl s.2, .inl y, .inl x, a5] [] s.1 Q) (I := fun (y x : Int) (s : Mem × Int) => (∀ q, q ≠ 49 → s.1 q = m q) ∧ DkI s.1 l ∧ ((s.2 = 0 ∧ s.1 = m ∧ ∀ a b, inS m a b → (b < y ∨ (b = y ∧ a < x)) → dstab m l a b) ∨ (s.2 = 1 ∧ dkS s.1 < dkS m))) (by omega) (by omega) ?_ ?_ ?_ ?_ (m, 0) ⟨fun _ _ => rfl, hI, Or.inl ⟨rfl, rfl, fun a b hab hlt => by unfold inS at hab; omega⟩⟩ uu uu
  · rintro ⟨m1, c⟩ ⟨hf, hI1, hor⟩ a4 a5
    have e34 : m1 34 = m 34 := hf 34 (by decide)
    refine gM_deepenOnce_4 l c _ a4 a5 m1 ⟨fun _ => ?_, fun z => absurd (by rw [e34]; exact Int.le_refl _) z⟩
    rcases hor with ⟨e1, e2, hs⟩ | ⟨e1, e2⟩
    · dsimp only at e1 e2
      subst e1
      subst e2
      exact ⟨Or.inl rfl, h0 (fun x y hxy => hs x y hxy (Or.inl hxy.2.2.2))⟩
    · dsimp only at e1
      subst e1
      exact ⟨Or.inr rfl, h1 m1 hf hI1 e2⟩
  · rintro y ⟨m1, c⟩ y0 y1 ⟨hf, hI1, hor⟩ hF a4 a5
    have e34 : m1 34 = m 34 := hf 34 (by decide)
    exact gM_deepenOnce_4 l c y a4 a5 m1 ⟨fun z => absurd z (by rw [e34]; omega), fun _ => hF a5⟩
  · rintro y ⟨m1, c⟩ y0 y1 ⟨hf, hI1, hor⟩
    have e34 : m1 34 = m 34 := hf 34 (by decide)
    refine ⟨⟨hf, hI1, ?_⟩, fun hG a5 => gM_deepenOnce_19 l c y _ a5 m1 ⟨fun _ => ⟨⟨by omega, by omega⟩, hG _ _⟩, fun z => absurd (by rw [e34]; exact Int.le_refl _) z⟩⟩
    rcases hor with ⟨e1, e2, hs⟩ | h
    · refine Or.inl ⟨e1, e2, fun a b hab hlt => hs a b hab ?_⟩
      unfold inS at hab
      omega
    · exact Or.inr h
  · rintro y x ⟨m1, c⟩ y0 y1 x0 x1 ⟨hf, hI1, hor⟩ hN a5
    have e34 : m1 34 = m 34 := hf 34 (by decide)
    have hw1 : MW m1 := by rw [MW_eq e34]; exact hw
    have hc : inS m1 x y := by rw [inS_eq e34]; exact ⟨x0, x1, y0, y1⟩
    refine sM_deepen_body hw1 hl hc hI1 (fun hst a => ?_) (fun v hv hI2 a => ?_)
    · refine hN (m1, if c = 0 then 0 else 1) ⟨hf, hI1, ?_⟩ _
      rcases hor with ⟨e1, e2, hs⟩ | ⟨e1, e2⟩
      · dsimp only at e1 e2
        subst e2
        refine Or.inl ⟨if_pos e1, rfl, fun a b hab hlt => ?_⟩
        by_cases e : a = x ∧ b = y
        · obtain ⟨rfl, rfl⟩ := e
          exact hst
        · exact hs a b hab (by omega)
      · dsimp only at e1
        exact Or.inr ⟨if_neg (by omega), e2⟩
    · refine hN (mset m1 49 0 (10 * y + x) v, 1) ⟨fun q hq => (mset_k hq).trans (hf q hq), hI2, Or.inr ⟨rfl, ?_⟩⟩ _
      have h3 := dkS_put hw1 hc hv
      rcases hor with ⟨e1, e2, hs⟩ | ⟨e1, e2⟩
      · dsimp only at e2 ⊢
        rw [e2] at h3 ⊢
        exact h3
      · dsimp only at e2 ⊢
        omega
theorem sM_deepen {Q : AV → Mem → Prop} {l : Int} (hl : 0 ≤ l ∧ l ≤ 3) (m0 : Mem) (hw0 : MW m0) (h : ∀ m' : Mem, (∀ q, q ≠ 49 → m' q = m0 q) → DkI m' l → (∀ x y, inS m' x y → dstab m' l x y) → Q (.inl 0) m') : ∀ (n : Nat) (m : Mem), (∀ q, q ≠ 49 → m q = m0 q) → DkI m l → dkS m ≤ (n : Int) → ∀ a3 : AV, WP cM_layDepths 82 [.inr (33, 0), .inl l, .inl 1, a3] [] m Q := by
  intro n
  induction n with
  | zero =>
    intro m hf hI hn a3
    have hw : MW m := by rw [MW_eq (hf 34 (by decide))]; exact hw0
    refine gM_layDepths_82 l 1 a3 m ⟨fun z => by omega, fun _ => sM_deepenOnce hw hl hI (fun hs => ⟨0, rfl, gM_layDepths_82 l 0 a3 m ⟨fun _ => h m hf hI hs, fun z => absurd rfl z⟩⟩) (fun m' hf' hI' hlt => ?_)⟩
    have := dkS_nonneg hI'
    omega
  | succ n ih =>
    intro m hf hI hn a3
    have hw : MW m := by rw [MW_eq (hf 34 (by decide))]; exact hw0
    refine gM_layDepths_82 l 1 a3 m ⟨fun z => by omega, fun _ => sM_deepenOnce hw hl hI (fun hs => ⟨0, rfl, gM_layDepths_82 l 0 a3 m ⟨fun _ => h m hf hI hs, fun z => absurd rfl z⟩⟩) (fun m' hf' hI' hlt => ⟨1, rfl, ?_⟩)⟩
    exact ih m' (fun q hq => (hf' q hq).trans (hf q hq)) hI' (by omega) a3
/-- the depth of a place, by the model's row -/
noncomputable def dM (m : Mem) (p : Int) : Int := cif (inS m (p % 12 - 1) (p / 12 - 1)) (dk m (p % 12 - 1) (p / 12 - 1)) 0
theorem dk_less {m : Mem} {l : Int} (hw : MW m) (hI : DkI m l) (hs : ∀ x y, inS m x y → dstab m l x y) : ∀ (n : Nat) (y : Int), inS m (n : Int) y → dk m (n : Int) y ≤ (n : Int) + 1
  | 0, y, hc => by
    have := (hI _ y hc).2.2.1 (Or.inl rfl)
    omega
  | n + 1, y, hc => by
    have hc' := hc
    unfold inS at hc'
    have hp : inS m (n : Int) y := ⟨by omega, by omega, by omega, by omega⟩
    have ih := dk_less hw hI hs n y hp
    have h2 := hs _ y hc (n : Int) y (Or.inl ⟨by omega, rfl⟩) hp
    have hch : chg m l ((n + 1 : Nat) : Int) y (n : Int) y ≤ 1 := by
      unfold chg
      by_cases c : (Mo m l ((n + 1 : Nat) : Int) y ↔ Mo m l (n : Int) y)
      · rw [cif_pos c]; omega
      · rw [cif_neg c]; omega
    omega
theorem dM_ok {m : Mem} {l : Int} (hw : MW m) (hI : DkI m l) (hs : ∀ x y, inS m x y → dstab m l x y) : DepOK (OM m l) (dM m) := by
  have hw' := hw
  obtain ⟨w1, w2, w3, w4⟩ := hw'
  have hfr : ∀ p, frS m p → dM m p = 0 := fun p hp => cif_neg hp
  have hin : ∀ p, ¬ frS m p → dM m p = dk m (p % 12 - 1) (p / 12 - 1) := fun p hp => cif_pos (Classical.byContradiction hp)
  have hr : ∀ p, 0 ≤ p → p < 144 → frS m p → Rch (OM m l) 0 p := fun p p0 p1 hp => Rch.zero.con (fr_con hw p0 p1 hp)
  refine DepOK.of ?_ (fun p p0 p1 => ?_) (fun p q hA hO => ?_) (fun p q hA => ?_)
  · rw [hfr 0 (by unfold frS inS; omega)]; omega
  · by_cases hp : frS m p
    · rw [hfr p hp]; exact hr p p0 p1 hp
    · have hc : inS m (p % 12 - 1) (p / 12 - 1) := Classical.byContradiction hp
      have hc' := hc
      unfold inS at hc'
      have h1 := dk_less hw hI hs (p % 12 - 1).toNat (p / 12 - 1) (by rw [show (((p % 12 - 1).toNat : Nat) : Int) = p % 12 - 1 by omega]; exact hc)
      rw [show (((p % 12 - 1).toNat : Nat) : Int) = p % 12 - 1 by omega] at h1
      have h2 := (hI _ _ hc).2.1 (by omega)
      rw [pl_of] at h2
      rw [hin p hp]
      exact h2
  · by_cases hq : frS m q
    · rw [hfr q hq]
      by_cases hp : frS m p
      · rw [hfr p hp]; exact Int.le_refl 0
      · rw [hin p hp]; exact (hI _ _ (Classical.byContradiction hp)).1.1
    · have hcq : inS m (q % 12 - 1) (q / 12 - 1) := Classical.byContradiction hq
      by_cases hp : frS m p
      · rw [hfr p hp, hin q hq]
        exact (hI _ _ hcq).2.2.2 (rim_of_adj hw hA hp hq) (fun z => frS_OM hp (hO.mpr z))
      · have hcp : inS m (p % 12 - 1) (p / 12 - 1) := Classical.byContradiction hp
        rw [hin p hp, hin q hq]
        have h2 := hs _ _ hcq (p % 12 - 1) (p / 12 - 1) (by
          unfold inS at hcp hcq
          unfold Adj at hA
          unfold nb
          omega) hcp
        have e : chg m l (q % 12 - 1) (q / 12 - 1) (p % 12 - 1) (p / 12 - 1) = 0 := cif_pos hO.symm
        omega
  · by_cases hq : frS m q
    · rw [hfr q hq]
      by_cases hp : frS m p
      · rw [hfr p hp]; omega
      · rw [hin p hp]; have := (hI _ _ (Classical.byContradiction hp)).1.1; omega
    · have hcq : inS m (q % 12 - 1) (q / 12 - 1) := Classical.byContradiction hq
      by_cases hp : frS m p
      · rw [hfr p hp, hin q hq]
        have := (hI _ _ hcq).2.2.1 (rim_of_adj hw hA hp hq)
        omega
      · have hcp : inS m (p % 12 - 1) (p / 12 - 1) := Classical.byContradiction hp
        rw [hin p hp, hin q hq]
        have h2 := hs _ _ hcq (p % 12 - 1) (p / 12 - 1) (by
          unfold inS at hcp hcq
          unfold Adj at hA
          unfold nb
          omega) hcp
        have e : chg m l (q % 12 - 1) (q / 12 - 1) (p % 12 - 1) (p / 12 - 1) ≤ 1 := by
          unfold chg
          by_cases c : (Mo m l (q % 12 - 1) (q / 12 - 1) ↔ Mo m l (p % 12 - 1) (p / 12 - 1))
          · rw [cif_pos c]; omega
          · rw [cif_neg c]; omega
        omega
theorem sM_layDepths {Q : AV → Mem → Prop} {l : Int} {m : Mem} (hw : MW m) (hl : 0 ≤ l ∧ l ≤ 3) (h : ∀ m' : Mem, (∀ q, q ≠ 49 → m' q = m q) → DepOK (OM m l) (dM m') → Q (.inl 0) m') : WP cM_layDepths 0 [.inr (33, 0), .inl l, uu, uu] [] m Q := by
  have hw' := hw
  obtain ⟨w1, w2, w3, w4⟩ := hw'
  refine gM_layDepths_0 l m ?_
  refine scan (σ := Mem) (W := m 34 0 500) (H := m 34 0 501) (G := fun (y : Int) (s : Mem) => ∀ a3 : AV, WP cM_layDepths 2 [.inr (33, 0), .inl l, .inl y, a3] [] s Q) (F := fun (y x : Int) (s : Mem) => WP cM_layDepths 16 [.inr (33, 0), .inl l, .inl y, .inl x] [] s Q) (I := fun (y x : Int) (s : Mem) => (∀ q, q ≠ 49 → s q = m q) ∧ ∀ a b, inS m a b → (b < y ∨ (b = y ∧ a < x)) → ((rimS m a b ∧ ((Mo m l a b ∧ dk s a b = 1) ∨ (¬ Mo m l a b ∧ dk s a b = 0))) ∨ (¬ rimS m a b ∧ dk s a b = 1000))) (by omega) (by omega) ?_ ?_ ?_ ?_ m ⟨fun _ _ => rfl, fun a b hab hlt => by unfold inS at hab; omega⟩ uu
  · rintro m1 ⟨hf, hd⟩ a3
    have e34 : m1 34 = m 34 := hf 34 (by decide)
    refine gM_layDepths_2 l _ a3 m1 ⟨fun _ => ?_, fun z => absurd (by rw [e34]; exact Int.le_refl _) z⟩
    have hw1 : MW m1 := by rw [MW_eq e34]; exact hw
    have hI1 : DkI m1 l := by
      intro x y hxy
      rw [inS_eq e34] at hxy
      rw [OM_eq e34, rimS_eq e34, Mo_eq e34]
      have hxy' := hxy
      unfold inS at hxy'
      rcases hd x y hxy (Or.inl hxy.2.2.2) with ⟨r, ⟨o, e⟩ | ⟨o, e⟩⟩ | ⟨r, e⟩
      · refine ⟨by omega, fun _ => ?_, fun _ => by omega, fun _ z => absurd o z⟩
        rw [e]
        have go : ∀ p, 0 ≤ p → p < 144 → frS m p → Adj p (pl x y) → Rch (OM m l) 1 (pl x y) := fun p p0 p1 hf hA => (Rch.zero.con (fr_con hw p0 p1 hf)).chg hA
        rcases r with e | e | e | e
        · exact go (pl x y - 1) (by unfold pl; omega) (by unfold pl; omega) (by unfold frS inS pl; omega) (by unfold Adj pl; omega)
        · exact go (pl x y - 12) (by unfold pl; omega) (by unfold pl; omega) (by unfold frS inS pl; omega) (by unfold Adj pl; omega)
        · exact go (pl x y + 1) (by unfold pl; omega) (by unfold pl; omega) (by unfold frS inS pl; omega) (by unfold Adj pl; omega)
        · exact go (pl x y + 12) (by unfold pl; omega) (by unfold pl; omega) (by unfold frS inS pl; omega) (by unfold Adj pl; omega)
      · refine ⟨by omega, fun _ => ?_, fun _ => by omega, fun _ _ => by omega⟩
        rw [e]
        exact Rch.zero.con (rim_con hw hxy r o)
      · exact ⟨by omega, fun z => by omega, fun z => absurd z r, fun z => absurd z r⟩
    have hnn := dkS_nonneg hI1
    refine sM_deepen hl m1 hw1 (fun m2 hf2 hI2 hs2 => h m2 (fun q hq => (hf2 q hq).trans (hf q hq)) ?_) (dkS m1).toNat m1 (fun _ _ => rfl) hI1 (by omega) a3
    have e34' : m2 34 = m1 34 := hf2 34 (by decide)
    have := dM_ok (by rw [MW_eq e34']; exact hw1) hI2 hs2
    rw [OM_eq e34', OM_eq e34] at this
    exact this
  · rintro y m1 y0 y1 ⟨hf, hd⟩ hF a3
    have e34 : m1 34 = m 34 := hf 34 (by decide)
    exact gM_layDepths_2 l y a3 m1 ⟨fun z => absurd z (by rw [e34]; omega), fun _ => hF⟩
  · rintro y m1 y0 y1 ⟨hf, hd⟩
    have e34 : m1 34 = m 34 := hf 34 (by decide)
    refine ⟨⟨hf, fun a b hab hlt => hd a b hab (by unfold inS at hab; omega)⟩, fun hG => gM_layDepths_16 l y _ m1 ⟨fun _ => ⟨⟨by omega, by omega⟩, hG _⟩, fun z => absurd (by rw [e34]; exact Int.le_refl _) z⟩⟩
  · rintro y x m1 y0 y1 x0 x1 ⟨hf, hd⟩ hN
    have e34 : m1 34 = m 34 := hf 34 (by decide)
    have hw1 : MW m1 := by rw [MW_eq e34]; exact hw
    have put : ∀ v, ((rimS m x y ∧ ((Mo m l x y ∧ v = 1) ∨ (¬ Mo m l x y ∧ v = 0))) ∨ (¬ rimS m x y ∧ v = 1000)) → WP cM_layDepths 16 [.inr (33, 0), .inl l, .inl y, .inl (x + 1)] [] (mset m1 49 0 (10 * y + x) v) Q := by
      intro v hv
      refine hN _ ⟨fun q hq => (mset_k hq).trans (hf q hq), fun a b hab hlt => ?_⟩
      unfold inS at hab
      by_cases e : a = x ∧ b = y
      · obtain ⟨rfl, rfl⟩ := e
        have ek : dk (mset m1 49 0 (10 * b + a) v) a b = v := mset_at
        rw [ek]
        exact hv
      · have ek : dk (mset m1 49 0 (10 * y + x) v) a b = dk m1 a b := mset_ne (fun z => e (by have := z.2.2; omega))
        rw [ek]
        exact hd a b hab (by omega)
    refine gM_layDepths_16 l y x m1 ⟨fun z => absurd z (by rw [e34]; omega), fun _ => sM_at (by omega) (by omega) ⟨_, rfl, sM_isRim hw1 (fun c => ⟨1, rfl, fun _ => sM_isCut hw1 hl (fun d => ⟨1, rfl, fun z => by omega, fun _ => ⟨by omega, ⟨by omega, by omega⟩, ?_⟩⟩) (fun d => ⟨0, rfl, fun _ => ⟨by omega, ⟨by omega, by omega⟩, ?_⟩, fun z => absurd rfl z⟩), fun z => absurd (by omega) z⟩) (fun c => ⟨0, rfl, fun z => absurd rfl z, fun _ => ⟨by omega, ⟨by omega, by omega⟩, ?_⟩⟩)⟩⟩
    · rw [rimS_eq e34] at c
      rw [Mo_eq e34] at d
      exact put _ (Or.inl ⟨c, Or.inl ⟨d, rfl⟩⟩)
    · rw [rimS_eq e34] at c
      rw [Mo_eq e34] at d
      exact put _ (Or.inl ⟨c, Or.inr ⟨d, rfl⟩⟩)
    · rw [rimS_eq e34] at c
      exact put _ (Or.inr ⟨c, rfl⟩)
noncomputable def ansIsland (m : Mem) (l i w : Int) : Int := cif (0 ≤ l ∧ l ≤ 3) (cif (0 ≤ w ∧ w ≤ 5) (cif (0 ≤ i ∧ i < cP (IR (OM m l) (labC (OM m l))) 144) (if w = 0 then cP (fun q => labC (OM m l) q = nthP (IR (OM m l) (labC (OM m l))) i) 144 else if w = 1 then depC (OM m l) (nthP (IR (OM m l) (labC (OM m l))) i) else if w = 2 then nthP (IR (OM m l) (labC (OM m l))) i % 12 - 1 else if w = 3 then nthP (IR (OM m l) (labC (OM m l))) i / 12 - 1 else if w = 4 then cif ((brA (OM m l)).1 (nthP (IR (OM m l) (labC (OM m l))) i) 0) 0 1 else endN (labC (OM m l)) (brA (OM m l)) (nthP (IR (OM m l) (labC (OM m l))) i)) (-6)) (-2)) (-1)
theorem sM_island {Q : AV → Mem → Prop} {l i w : Int} {m : Mem} (hw : MW m) (h : ∀ m', mfQ m m' → Q (.inl (ansIsland m l i w)) m') : WP cM_island 0 [.inr (33, 0), .inl l, .inl i, .inl w, uu] [] m Q := by
  have h0 := h m (fun _ _ => rfl)
  unfold ansIsland at h h0
  refine gM_island_0 l i w m (sM_isLayer (fun c => ⟨1, rfl, fun _ => ?_, fun z => absurd (by omega) z⟩) (fun c => ⟨0, rfl, fun z => absurd rfl z, fun _ => by rw [cif_neg c] at h0; exact h0⟩))
  rw [cif_pos c] at h h0
  refine sM_in (fun d => ⟨1, rfl, fun _ => ?_, fun z => absurd (by omega) z⟩) (fun d => ⟨0, rfl, fun z => absurd rfl z, fun _ => by rw [cif_neg d] at h0; exact h0⟩)
  rw [cif_pos d] at h
  refine sM_layBridges hw c (fun m1 f1 hA => ?_)
  have e34 : m1 34 = m 34 := f1.1 34 (by decide) (by decide)
  have hw1 : MW m1 := by rw [MW_eq e34]; exact hw
  rw [← OM_eq e34] at h
  obtain ⟨n0, n1, i0, i1, hb⟩ := hA.few hw1
  have e6 := hA.1.1.2.2.1
  refine ⟨⟨by omega, by omega⟩, sM_in (fun e => ⟨1, rfl, fun _ => ?_, fun z => absurd (by omega) z⟩) (fun e => ⟨0, rfl, fun z => absurd rfl z, fun _ => by have h := h m1 f1.q; rw [cif_neg (by rw [← e6]; omega)] at h; exact h⟩)⟩
  rw [cif_pos (by rw [← e6]; omega)] at h
  obtain ⟨p0, p1, hp, hpi⟩ := nthP_spec (P := IR (OM m1 l) (labC (OM m1 l))) (i := i) (n := 144) e.1 (by rw [← e6]; omega)
  generalize nthP (IR (OM m1 l) (labC (OM m1 l))) i = p at *
  have p1 : p < 144 := p1
  have hin : inS m1 (p % 12 - 1) (p / 12 - 1) := by
    refine Classical.byContradiction (fun z => ?_)
    have := fr_f hw1 hA.1.1.1 p0 p1 z
    have := hp.2.1
    have := hp.2.2
    omega
  have hin' := hin
  unfold inS at hin'
  have hw' := hw1
  obtain ⟨w1, w2, w3, w4⟩ := hw'
  have h1 := h m1 f1.q
  refine sM_firstOf hw1 hA.1.1 p0 p1 hp hpi.symm ⟨_, rfl, fun z => ?_, fun z => ⟨fun z1 => ?_, fun z1 => ⟨fun z2 => ⟨by omega, ?_⟩, fun z2 => ⟨fun z3 => ⟨by omega, ?_⟩, fun z3 => ⟨fun z4 => ⟨⟨by omega, by omega⟩, by omega, fun z5 => ?_, fun z5 => ?_⟩, fun z4 => ⟨⟨by omega, by omega⟩, ?_⟩⟩⟩⟩⟩⟩
  · rw [if_pos z] at h1
    exact sM_sizeOf hw1 hA.1.1 p0 p1 hp hpi.symm ⟨_, rfl, h1⟩
  · refine gM_depthOf_0 _ _ m1 (sM_layDepths hw1 c (fun m2 f2 hD => ⟨by omega, _, rfl, ?_⟩))
    have h2 := h m2 (fun q hq => (f2 q (by omega)).trans (f1.q q hq))
    rw [if_neg z, if_pos z1, ← depC_eq hD p0 p1] at h2
    unfold dM at h2
    rw [inS_eq (f2 34 (by decide)), cif_pos hin] at h2
    exact h2
  · rw [if_neg z, if_neg z1, if_pos z2] at h1
    rw [show (10 * (p / 12 - 1) + (p % 12 - 1)) % 10 = p % 12 - 1 by omega]
    exact h1
  · rw [if_neg z, if_neg z1, if_neg z2, if_pos z3] at h1
    rw [show (10 * (p / 12 - 1) + (p % 12 - 1)) / 10 = p / 12 - 1 by omega]
    exact h1
  · rw [if_neg z, if_neg z1, if_neg z2, if_neg z3, if_pos z4] at h1
    have ht : _ ↔ (brA (OM m1 l)).1 p 0 := tie_num hw1 hA.1.1.1 hA.2.1 p0 p1 hp
    rw [hpi] at ht
    rw [cif_neg (fun y => z5 (ht.mpr y))] at h1
    exact h1
  · rw [if_neg z, if_neg z1, if_neg z2, if_neg z3, if_pos z4] at h1
    have ht : _ ↔ (brA (OM m1 l)).1 p 0 := tie_num hw1 hA.1.1.1 hA.2.1 p0 p1 hp
    rw [hpi] at ht
    rw [cif_pos (ht.mp (Classical.byContradiction z5))] at h1
    exact h1
  · rw [if_neg z, if_neg z1, if_neg z2, if_neg z3, if_neg z4] at h1
    exact sM_endsAt hw1 hA p0 hp (by rw [hpi]) ⟨_, rfl, h1⟩
