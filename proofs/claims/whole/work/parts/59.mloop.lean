/-! The model's loops. -/
theorem sM_corner {Q : AV → Mem → Prop} {x y : Int} {m : Mem} (hx : -100 ≤ x ∧ x ≤ 100) (hy : -100 ≤ y ∧ y ≤ 100) (h : Q (.inl (11 * y + x)) m) : WP cM_corner 0 [.inl x, .inl y] [] m Q :=
  gM_corner_0 x y m ⟨⟨by omega, by omega⟩, ⟨by omega, by omega⟩, h⟩
theorem sM_joinBoth {Q : AV → Mem → Prop} {a b : Int} {m : Mem} (ha : 0 ≤ a ∧ a < 121) (hb : 0 ≤ b ∧ b < 121) (h0 : m 51 0 a = m 51 0 b → Q (.inl 0) m) (h1 : m 51 0 a ≠ m 51 0 b → ∀ v, v = (if m 51 0 b ≤ m 51 0 a then m 51 0 b else m 51 0 a) → Q (.inl 1) (mset (mset m 51 0 a v) 51 0 b v)) : WP cM_joinBoth 0 [.inr (33, 0), .inl a, .inl b, uu, uu] [] m Q := by
  refine gM_joinBoth_0 a b m ⟨ha, hb, fun z => ⟨hb, ha, fun z2 => ⟨ha, hb, h1 z2 _ (if_pos z).symm⟩, fun z2 => ⟨hb, fun _ => ⟨ha, hb, ?_⟩, fun z3 => absurd rfl z3⟩⟩, fun z => ⟨ha, ha, fun z2 => absurd rfl z2, fun z2 => ⟨hb, fun z3 => absurd (by omega) z, fun z3 => ⟨ha, hb, h1 (fun e => z3 e.symm) _ (if_neg z).symm⟩⟩⟩⟩
  have e : m 51 0 a = m 51 0 b := Classical.byContradiction z2
  have e1 : mset m 51 0 a (m 51 0 b) = m := by rw [← e]; exact mset_same
  rw [e1, mset_same]
  exact h0 e
abbrev lk (m : Mem) (x y : Int) : Int := m 51 0 (11 * y + x)
def cpk (k : Int) : Int := pl (k % 11) (k / 11)
def kc (c : Int) : Int := 11 * (c / 12 - 1) + (c % 12 - 1)
def cor (m : Mem) (x y : Int) : Prop := 0 ≤ x ∧ x ≤ m 34 0 500 ∧ 0 ≤ y ∧ y ≤ m 34 0 501
theorem cor_eq {m m' : Mem} (h : m' 34 = m 34) : cor m' = cor m := by funext x y; unfold cor; rw [h]
def LkI (m : Mem) (B : Int → Prop) : Prop := (∀ x y, cor m x y → (hasE B (pl x y) → (0 ≤ lk m x y ∧ lk m x y ≤ 11 * y + x) ∧ ConE B (cpk (lk m x y)) (pl x y)) ∧ (¬ hasE B (pl x y) → lk m x y = -6)) ∧ ∀ k, 0 ≤ k → k < 121 → -6 ≤ m 51 0 k ∧ (¬ cor m (k % 11) (k / 11) → m 51 0 k = -6)
def lkS (m : Mem) : Int := sumN (fun k => m 51 0 k + 6) 121
theorem lkS_nonneg {m : Mem} {B : Int → Prop} (hI : LkI m B) : 0 ≤ lkS m := by
  have h0 : sumN (fun _ => 0) 121 ≤ lkS m := sumN_le 121 (fun k k0 k1 => by have := (hI.2 k k0 (by omega)).1; omega)
  have : sumN (fun _ => (0 : Int)) 121 = 0 := sumN_zero 121
  omega
theorem join_put {m : Mem} {B : Int → Prop} {a b a' b' v : Int} (hw : MW m) (hI : LkI m B) (hc : cor m a b) (hc' : cor m a' b') (hE : EA B (pl a b) (pl a' b')) (hne : lk m a b ≠ lk m a' b') (hv : v = (if lk m a' b' ≤ lk m a b then lk m a' b' else lk m a b)) : LkI (mset (mset m 51 0 (11 * b + a) v) 51 0 (11 * b' + a') v) B ∧ lkS (mset (mset m 51 0 (11 * b + a) v) 51 0 (11 * b' + a') v) < lkS m := by
  obtain ⟨w1, w2, w3, w4⟩ := hw
  have e34 : (mset (mset m 51 0 (11 * b + a) v) 51 0 (11 * b' + a') v) 34 = m 34 := by rw [mset_k (by decide), mset_k (by decide)]
  have hcc := hc
  have hcc' := hc'
  unfold cor at hcc hcc'
  obtain ⟨⟨i1, i2⟩, i3⟩ := (hI.1 a b hc).1 hE.has
  obtain ⟨⟨j1, j2⟩, j3⟩ := (hI.1 a' b' hc').1 hE.symm.has
  have rd : ∀ k, (mset (mset m 51 0 (11 * b + a) v) 51 0 (11 * b' + a') v) 51 0 k = if k = 11 * b' + a' then v else if k = 11 * b + a then v else m 51 0 k := fun k => by rw [mset_i, mset_i]
  have hv1 : v ≤ lk m a b ∧ v ≤ lk m a' b' ∧ (v = lk m a b ∨ v = lk m a' b') := by
    rw [hv]; split <;> omega
  have ca : ConE B (cpk v) (pl a b) := by
    rcases hv1.2.2 with e | e
    · rw [e]; exact i3
    · rw [e]; exact j3.step hE.symm
  have cb : ConE B (cpk v) (pl a' b') := by
    rcases hv1.2.2 with e | e
    · rw [e]; exact i3.step hE
    · rw [e]; exact j3
  unfold lk at *
  refine ⟨⟨fun x y hxy => ?_, fun k k0 k1 => ?_⟩, ?_⟩
  · rw [cor_eq e34] at hxy
    have hxy' := hxy
    unfold cor at hxy'
    unfold lk
    rw [rd]
    by_cases e1 : 11 * y + x = 11 * b' + a'
    · rw [if_pos e1]
      have : x = a' ∧ y = b' := by omega
      rw [this.1, this.2]
      exact ⟨fun _ => ⟨⟨by omega, by omega⟩, cb⟩, fun z => absurd hE.symm.has z⟩
    · rw [if_neg e1]
      by_cases e2 : 11 * y + x = 11 * b + a
      · rw [if_pos e2]
        have : x = a ∧ y = b := by omega
        rw [this.1, this.2]
        exact ⟨fun _ => ⟨⟨by omega, by omega⟩, ca⟩, fun z => absurd hE.has z⟩
      · rw [if_neg e2]
        exact hI.1 x y hxy
  · rw [cor_eq e34, rd]
    by_cases e1 : k = 11 * b' + a'
    · rw [if_pos e1]
      refine ⟨by omega, fun z => absurd ?_ z⟩
      unfold cor; omega
    · rw [if_neg e1]
      by_cases e2 : k = 11 * b + a
      · rw [if_pos e2]
        refine ⟨by omega, fun z => absurd ?_ z⟩
        unfold cor; omega
      · rw [if_neg e2]
        exact hI.2 k k0 k1
  · unfold lkS
    by_cases e : v = m 51 0 (11 * b + a)
    · refine sumN_lt 121 (11 * b' + a') (by omega) (by omega) ?_ (fun k k0 k1 => ?_)
      · rw [rd, if_pos rfl]; omega
      · rw [rd]
        by_cases e1 : k = 11 * b' + a'
        · rw [if_pos e1, e1]; omega
        · rw [if_neg e1]
          by_cases e2 : k = 11 * b + a
          · rw [if_pos e2, e2]; omega
          · rw [if_neg e2]; omega
    · refine sumN_lt 121 (11 * b + a) (by omega) (by omega) ?_ (fun k k0 k1 => ?_)
      · rw [rd]
        by_cases e1 : 11 * b + a = 11 * b' + a'
        · rw [if_pos e1]; omega
        · rw [if_neg e1, if_pos rfl]; omega
      · rw [rd]
        by_cases e1 : k = 11 * b' + a'
        · rw [if_pos e1, e1]; omega
        · rw [if_neg e1]
          by_cases e2 : k = 11 * b + a
          · rw [if_pos e2, e2]; omega
          · rw [if_neg e2]; omega
def lst (m : Mem) (B : Int → Prop) (x y : Int) : Prop := (Ea B (pl x y) → lk m x y = lk m (x + 1) y) ∧ (Ed B (pl x y) → lk m x y = lk m x (y + 1))
theorem cor_Ea {m : Mem} {B : Int → Prop} {x y : Int} (hw : MW m) (hF : ∀ p, B p → ¬ frS m p) (hc : cor m x y) (h : Ea B (pl x y)) : x + 1 ≤ m 34 0 500 := by
  obtain ⟨w1, w2, w3, w4⟩ := hw
  unfold cor at hc
  have e : pl x y - 12 = pl x (y - 1) := by unfold pl; omega
  have hin : inS m x y ∨ inS m x (y - 1) := by
    refine Classical.byContradiction (fun z => h ⟨fun w => absurd (hF _ w) (fun k => k ?_), fun w => absurd (hF _ w) (fun k => k ?_)⟩)
    · unfold frS; rw [pl_x (by omega), pl_y (by omega)]; exact fun c => z (Or.inl c)
    · unfold frS; rw [e, pl_x (by omega), pl_y (by omega)]; exact fun c => z (Or.inr c)
  unfold inS at hin
  omega
theorem cor_Ed {m : Mem} {B : Int → Prop} {x y : Int} (hw : MW m) (hF : ∀ p, B p → ¬ frS m p) (hc : cor m x y) (h : Ed B (pl x y)) : y + 1 ≤ m 34 0 501 := by
  obtain ⟨w1, w2, w3, w4⟩ := hw
  unfold cor at hc
  have e : pl x y - 1 = pl (x - 1) y := by unfold pl; omega
  have hin : inS m x y ∨ inS m (x - 1) y := by
    refine Classical.byContradiction (fun z => h ⟨fun w => absurd (hF _ w) (fun k => k ?_), fun w => absurd (hF _ w) (fun k => k ?_)⟩)
    · unfold frS; rw [pl_x (by omega), pl_y (by omega)]; exact fun c => z (Or.inl c)
    · unfold frS; rw [e, pl_x (by omega), pl_y (by omega)]; exact fun c => z (Or.inr c)
  unfold inS at hin
  omega
theorem SC_eq {m m' : Mem} {l : Int} {B : Int → Prop} (h34 : m' 34 = m 34) (h50 : m' 50 = m 50) : SC m' l B ↔ SC m l B := by
  unfold SC
  rw [inS_eq h34, frS_eq h34, h50]
/-- a pass that joins: what is true on its way -/
def PJ (m : Mem) (B : Int → Prop) (st : Int → Int → Prop) (s : Mem × Int) : Prop := (∀ q, q ≠ 51 → s.1 q = m q) ∧ LkI s.1 B ∧ ((s.2 = 0 ∧ s.1 = m ∧ ∀ a b, cor m a b → st a b → lst m B a b) ∨ (s.2 = 1 ∧ lkS s.1 < lkS m))
set_option maxHeartbeats 1000000 in
theorem sM_joinOnce {Q : AV → Mem → Prop} {l : Int} {B : Int → Prop} {m : Mem} (hw : MW m) (hl : 0 ≤ l ∧ l ≤ 3) (hS : SC m l B) (hI : LkI m B) (h0 : (∀ x y, cor m x y → lst m B x y) → Q (.inl 0) m) (h1 : ∀ m' : Mem, (∀ q, q ≠ 51 → m' q = m q) → LkI m' B → lkS m' < lkS m → Q (.inl 1) m') : WP cM_joinOnce 0 [.inr (33, 0), .inl l, uu, uu, uu] [] m Q := by
  have hw' := hw
  obtain ⟨w1, w2, w3, w4⟩ := hw'
  refine gM_joinOnce_0 l m ?_
  refine scan (σ := Mem × Int) (W := m 34 0 500 + 1) (H := m 34 0 501 + 1) (G := fun (y : Int) (s : Mem × Int) => ∀ (a4 : AV), WP cM_joinOnce 4 [.inr (33, 0), .inl l, .inl s.2, .inl y, a4] [] s.1 Q) (F := fun (y x : Int) (s : Mem × Int) => WP cM_joinOnce 19 [.inr (33, 0), .inl l, .inl s.2, .inl y, .inl x] [] s.1 Q) (I := fun (y x : Int) (s : Mem × Int) => PJ m B (fun a b => b < y ∨ (b = y ∧ a < x)) s) (by omega) (by omega) ?_ ?_ ?_ ?_ (m, 0) ⟨fun _ _ => rfl, hI, Or.inl ⟨rfl, rfl, fun a b hab hlt => by unfold cor at hab; omega⟩⟩ uu
  · rintro ⟨m1, c⟩ ⟨hf, hI1, hor⟩ a4
    have e34 : m1 34 = m 34 := hf 34 (by decide)
    refine gM_joinOnce_4 l c _ a4 m1 ⟨fun _ => ?_, fun z => absurd (by rw [e34]; omega) z⟩
    rcases hor with ⟨e1, e2, hs⟩ | ⟨e1, e2⟩
    · dsimp only at e1 e2
      subst e1
      subst e2
      exact ⟨Or.inl rfl, h0 (fun x y hxy => hs x y hxy (Or.inl (by unfold cor at hxy; omega)))⟩
    · dsimp only at e1
      subst e1
      exact ⟨Or.inr rfl, h1 m1 hf hI1 e2⟩
  · rintro y ⟨m1, c⟩ y0 y1 ⟨hf, hI1, hor⟩ hF a4
    have e34 : m1 34 = m 34 := hf 34 (by decide)
    exact gM_joinOnce_4 l c y a4 m1 ⟨fun z => absurd z (by rw [e34]; omega), fun _ => hF⟩
  · rintro y ⟨m1, c⟩ y0 y1 ⟨hf, hI1, hor⟩
    have e34 : m1 34 = m 34 := hf 34 (by decide)
    refine ⟨⟨hf, hI1, ?_⟩, fun hG => gM_joinOnce_19 l c y _ m1 ⟨fun _ => ⟨⟨by omega, by omega⟩, hG _⟩, fun z => absurd (by rw [e34]; omega) z⟩⟩
    rcases hor with ⟨e1, e2, hs⟩ | h
    · refine Or.inl ⟨e1, e2, fun a b hab hlt => hs a b hab ?_⟩
      unfold cor at hab
      omega
    · exact Or.inr h
  · rintro y x ⟨m1, c⟩ y0 y1 x0 x1 ⟨hf, hI1, hor⟩ hN
    have e34 : m1 34 = m 34 := hf 34 (by decide)
    have hw1 : MW m1 := by rw [MW_eq e34]; exact hw
    have hS1 : SC m1 l B := (SC_eq e34 (hf 50 (by decide))).mpr hS
    have hcm : cor m x y := ⟨x0, by omega, y0, by omega⟩
    have hc1 : cor m1 x y := by rw [cor_eq e34]; exact hcm
    -- behind the first edge
    have mid : ∀ s : Mem × Int, (∀ q, q ≠ 51 → s.1 q = m q) → LkI s.1 B → ((s.2 = 0 ∧ s.1 = m ∧ (∀ a b, cor m a b → (b < y ∨ (b = y ∧ a < x)) → lst m B a b) ∧ (Ea B (pl x y) → lk m x y = lk m (x + 1) y)) ∨ (s.2 = 1 ∧ lkS s.1 < lkS m)) → WP cM_joinOnce 75 [.inr (33, 0), .inl l, .inl s.2, .inl y, .inl x] [] s.1 Q := by
      rintro ⟨m2, c2⟩ hf2 hI2 hor2
      dsimp only at hf2 hI2 hor2 ⊢
      have e34' : m2 34 = m 34 := hf2 34 (by decide)
      have hw2 : MW m2 := by rw [MW_eq e34']; exact hw
      have hS2 : SC m2 l B := (SC_eq e34' (hf2 50 (by decide))).mpr hS
      have hc2 : cor m2 x y := by rw [cor_eq e34']; exact hcm
      have nx : ∀ s : Mem × Int, PJ m B (fun a b => b < y ∨ (b = y ∧ a < x + 1)) s → WP cM_joinOnce 118 [.inr (33, 0), .inl l, .inl s.2, .inl y, .inl x] [] s.1 Q := fun s hs => gM_joinOnce_118 l s.2 y x s.1 ⟨⟨by omega, by omega⟩, hN s hs⟩
      have nx0 : ((Ed B (pl x y) → lk m2 x y = lk m2 x (y + 1))) → PJ m B (fun a b => b < y ∨ (b = y ∧ a < x + 1)) (m2, c2) := by
        intro hd
        refine ⟨hf2, hI2, ?_⟩
        rcases hor2 with ⟨e1, e2, hs, ha⟩ | e
        · subst e2
          refine Or.inl ⟨e1, rfl, fun a b hab hlt => ?_⟩
          by_cases e : a = x ∧ b = y
          · obtain ⟨rfl, rfl⟩ := e
            exact ⟨ha, hd⟩
          · exact hs a b hab (by omega)
        · exact Or.inr e
      refine gM_joinOnce_75 l c2 y x m2 (sM_isEdge hw2 hl hS2 (Or.inr rfl) (by omega) (by omega) (fun b => ⟨1, rfl, fun z => by omega, fun _ => ?_⟩) (fun b => ⟨0, rfl, fun _ => nx (m2, c2) (nx0 (fun z => absurd z b)), fun z => absurd rfl z⟩))
      have hy1 := cor_Ed hw2 hS2.2 hc2 b
      have hc2' : cor m2 x (y + 1) := by unfold cor at hc2 ⊢; omega
      rw [e34'] at hy1
      refine sM_corner (by omega) (by omega) ⟨_, rfl, ⟨by omega, by omega⟩, sM_corner (by omega) (by omega) ⟨_, rfl, sM_joinBoth (by omega) (by omega) (fun e => ⟨0, rfl, fun z => absurd rfl z, fun _ => ⟨fun z => ?_, fun z => ?_⟩⟩) (fun e v hv => ⟨1, rfl, fun _ => ?_, fun z => absurd (by omega) z⟩)⟩⟩
      · have := nx (m2, c2) (nx0 (fun _ => e))
        dsimp only at this
        rw [z] at this
        exact this
      · have hc1' : c2 = 1 := by rcases hor2 with ⟨e1, -⟩ | ⟨e1, -⟩ <;> omega
        have := nx (m2, c2) (nx0 (fun _ => e))
        dsimp only at this
        rw [hc1'] at this
        exact this
      · obtain ⟨g1, g2⟩ := join_put hw2 hI2 hc2 hc2' (Or.inr (Or.inr (Or.inl ⟨by unfold pl; omega, b⟩))) e hv
        refine nx (mset (mset m2 51 0 (11 * y + x) v) 51 0 (11 * (y + 1) + x) v, 1) ⟨fun q hq => by dsimp only; rw [mset_k hq, mset_k hq]; exact hf2 q hq, g1, Or.inr ⟨rfl, ?_⟩⟩
        dsimp only
        rcases hor2 with ⟨e1, e2, -, -⟩ | ⟨e1, e2⟩
        · rw [e2] at g2 ⊢; exact g2
        · omega
    have mid0 : ((Ea B (pl x y) → lk m1 x y = lk m1 (x + 1) y)) → WP cM_joinOnce 75 [.inr (33, 0), .inl l, .inl c, .inl y, .inl x] [] m1 Q := by
      intro ha
      refine mid (m1, c) hf hI1 ?_
      rcases hor with ⟨e1, e2, hs⟩ | e
      · dsimp only at e1 e2
        subst e2
        exact Or.inl ⟨e1, rfl, hs, ha⟩
      · exact Or.inr e
    refine gM_joinOnce_19 l c y x m1 ⟨fun z => absurd z (by rw [e34]; omega), fun _ => sM_isEdge hw1 hl hS1 (Or.inl rfl) (by omega) (by omega) (fun b => ⟨1, rfl, fun z => by omega, fun _ => ?_⟩) (fun b => ⟨0, rfl, fun _ => mid0 (fun z => absurd z b), fun z => absurd rfl z⟩)⟩
    have hx1 := cor_Ea hw1 hS1.2 hc1 b
    have hc1' : cor m1 (x + 1) y := by unfold cor at hc1 ⊢; omega
    rw [e34] at hx1
    refine sM_corner (by omega) (by omega) ⟨_, rfl, ⟨by omega, by omega⟩, sM_corner (by omega) (by omega) ⟨_, rfl, sM_joinBoth (by omega) (by omega) (fun e => ⟨0, rfl, fun z => absurd rfl z, fun _ => ⟨fun z => ?_, fun z => ?_⟩⟩) (fun e v hv => ⟨1, rfl, fun _ => ?_, fun z => absurd (by omega) z⟩)⟩⟩
    · have := mid0 (fun _ => e)
      rw [z] at this
      exact this
    · have hcc : c = 1 := by rcases hor with ⟨e1, -⟩ | ⟨e1, -⟩ <;> dsimp only at e1 <;> omega
      have := mid0 (fun _ => e)
      rw [hcc] at this
      exact this
    · obtain ⟨g1, g2⟩ := join_put hw1 hI1 hc1 hc1' (Or.inl ⟨by unfold pl; omega, b⟩) e hv
      refine mid (mset (mset m1 51 0 (11 * y + x) v) 51 0 (11 * y + (x + 1)) v, 1) (fun q hq => by dsimp only; rw [mset_k hq, mset_k hq]; exact hf q hq) g1 (Or.inr ⟨rfl, ?_⟩)
      rcases hor with ⟨e1, e2, -⟩ | ⟨e1, e2⟩
      · dsimp only at e2 ⊢
        rw [e2] at g2 ⊢; exact g2
      · dsimp only at e2 ⊢
        omega
theorem sM_joins {Q : AV → Mem → Prop} {l : Int} {B : Int → Prop} (hl : 0 ≤ l ∧ l ≤ 3) (m0 : Mem) (hw0 : MW m0) (hS0 : SC m0 l B) (h : ∀ m' : Mem, (∀ q, q ≠ 51 → m' q = m0 q) → LkI m' B → (∀ x y, cor m' x y → lst m' B x y) → ∀ a3 : AV, WP cM_layLoops 99 [.inr (33, 0), .inl l, .inl 0, a3] [] m' Q) : ∀ (n : Nat) (m : Mem), (∀ q, q ≠ 51 → m q = m0 q) → LkI m B → lkS m ≤ (n : Int) → ∀ a3 : AV, WP cM_layLoops 99 [.inr (33, 0), .inl l, .inl 1, a3] [] m Q := by
  intro n
  induction n with
  | zero =>
    intro m hf hI hn a3
    have hw : MW m := by rw [MW_eq (hf 34 (by decide))]; exact hw0
    have hS : SC m l B := (SC_eq (hf 34 (by decide)) (hf 50 (by decide))).mpr hS0
    refine gM_layLoops_99 l 1 a3 m ⟨fun z => by omega, fun _ => sM_joinOnce hw hl hS hI (fun hs => ⟨0, rfl, h m hf hI hs a3⟩) (fun m' hf' hI' hlt => ?_)⟩
    have := lkS_nonneg hI'
    omega
  | succ n ih =>
    intro m hf hI hn a3
    have hw : MW m := by rw [MW_eq (hf 34 (by decide))]; exact hw0
    have hS : SC m l B := (SC_eq (hf 34 (by decide)) (hf 50 (by decide))).mpr hS0
    refine gM_layLoops_99 l 1 a3 m ⟨fun z => by omega, fun _ => sM_joinOnce hw hl hS hI (fun hs => ⟨0, rfl, h m hf hI hs a3⟩) (fun m' hf' hI' hlt => ⟨1, rfl, ?_⟩)⟩
    exact ih m' (fun q hq => (hf' q hq).trans (hf q hq)) hI' (by omega) a3
