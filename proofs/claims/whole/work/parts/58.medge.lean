/-! The bridged layer, its edges. -/
def BO (O : Int → Prop) (p : Int) : Prop := O p ∧ (brA O).2.1 p < 0
def Ea (B : Int → Prop) (c : Int) : Prop := ¬ (B c ↔ B (c - 12))
def Ed (B : Int → Prop) (c : Int) : Prop := ¬ (B c ↔ B (c - 1))
def EA (B : Int → Prop) (c d : Int) : Prop := (d = c + 1 ∧ Ea B c) ∨ (c = d + 1 ∧ Ea B d) ∨ (d = c + 12 ∧ Ed B c) ∨ (c = d + 12 ∧ Ed B d)
def hasE (B : Int → Prop) (c : Int) : Prop := Ea B c ∨ Ed B c ∨ Ea B (c - 1) ∨ Ed B (c - 12)
theorem EA.symm {B : Int → Prop} {c d : Int} (h : EA B c d) : EA B d c := by
  rcases h with h | h | h | h
  · exact Or.inr (Or.inl h)
  · exact Or.inl h
  · exact Or.inr (Or.inr (Or.inr h))
  · exact Or.inr (Or.inr (Or.inl h))
theorem EA.has {B : Int → Prop} {c d : Int} (h : EA B c d) : hasE B c := by
  rcases h with ⟨e, h⟩ | ⟨e, h⟩ | ⟨e, h⟩ | ⟨e, h⟩
  · exact Or.inl h
  · refine Or.inr (Or.inr (Or.inl ?_))
    rw [show c - 1 = d by omega]; exact h
  · exact Or.inr (Or.inl h)
  · refine Or.inr (Or.inr (Or.inr ?_))
    rw [show c - 12 = d by omega]; exact h
theorem Ea_geo {B : Int → Prop} (hC : Cel B) {c : Int} (h : Ea B c) : 1 ≤ c % 12 ∧ c % 12 ≤ 10 ∧ 1 ≤ c / 12 ∧ c / 12 ≤ 11 := by
  by_cases b : B c
  · have := hC _ b; omega
  · have b2 : B (c - 12) := Classical.byContradiction (fun z => h ⟨fun w => absurd w b, fun w => absurd w z⟩)
    have := hC _ b2; omega
theorem Ed_geo {B : Int → Prop} (hC : Cel B) {c : Int} (h : Ed B c) : 1 ≤ c % 12 ∧ c % 12 ≤ 11 ∧ 1 ≤ c / 12 ∧ c / 12 ≤ 10 := by
  by_cases b : B c
  · have := hC _ b; omega
  · have b2 : B (c - 1) := Classical.byContradiction (fun z => h ⟨fun w => absurd w b, fun w => absurd w z⟩)
    have := hC _ b2; omega
theorem hasE_geo {B : Int → Prop} (hC : Cel B) {c : Int} (h : hasE B c) : 1 ≤ c % 12 ∧ c % 12 ≤ 11 ∧ 1 ≤ c / 12 ∧ c / 12 ≤ 11 := by
  rcases h with h | h | h | h
  · have := Ea_geo hC h; omega
  · have := Ed_geo hC h; omega
  · have := Ea_geo hC h; omega
  · have := Ed_geo hC h; omega
def ConE (B : Int → Prop) (a b : Int) : Prop := ∀ S : Int → Prop, S a → (∀ p q, S p → EA B p q → S q) → S b
theorem ConE.refl {B : Int → Prop} (a : Int) : ConE B a a := fun _ h _ => h
theorem ConE.step {B : Int → Prop} {a p q : Int} (h : ConE B a p) (hA : EA B p q) : ConE B a q := fun S h0 hs => hs p q (h S h0 hs) hA
theorem ConE.trans {B : Int → Prop} {a b c : Int} (h : ConE B a b) (h2 : ConE B b c) : ConE B a c := fun S h0 hs => h2 S (h S h0 hs) hs
theorem ConE.symm {B : Int → Prop} {a b : Int} (h : ConE B a b) : ConE B b a :=
  h (fun z => ConE B z a) (ConE.refl a) (fun p q hp hA => ConE.trans (ConE.step (ConE.refl q) hA.symm) hp)
theorem ConE.has {B : Int → Prop} {a b : Int} (h : ConE B a b) (ha : hasE B a) : hasE B b := h (fun z => hasE B z) ha (fun _ _ _ hA => hA.symm.has)
/-- labels of corners: the first corner of a loop; -6 where there is no edge -/
def LabE (B : Int → Prop) (g : Int → Int) : Prop := (∀ c, ¬ hasE B c → g c = -6) ∧ ∀ c, hasE B c → (g c ≤ c ∧ ConE B (g c) c) ∧ ∀ d, EA B c d → g c = g d
theorem LabE.const {B : Int → Prop} {g : Int → Int} (h : LabE B g) {a b : Int} (ha : hasE B a) (hc : ConE B a b) : g b = g a :=
  (hc (fun z => hasE B z ∧ g z = g a) ⟨ha, rfl⟩ (fun p q hp hA => ⟨hA.symm.has, by rw [← (h.2 p hp.1).2 q hA]; exact hp.2⟩)).2
theorem LabE.root {B : Int → Prop} {g : Int → Int} (h : LabE B g) {c : Int} (hc : hasE B c) : hasE B (g c) := (h.2 c hc).1.2.symm.has hc
theorem LabE.idem {B : Int → Prop} {g : Int → Int} (h : LabE B g) {c : Int} (hc : hasE B c) : g (g c) = g c := (h.const (h.root hc) (h.2 c hc).1.2).symm
theorem LabE.le {B : Int → Prop} {f g : Int → Int} (hf : LabE B f) (hg : LabE B g) {c : Int} (hc : hasE B c) : g c ≤ f c := by
  have e := hg.const (hf.root hc) (hf.2 c hc).1.2
  have := (hg.2 (f c) (hf.root hc)).1.1
  omega
theorem LabE.uniq {B : Int → Prop} {f g : Int → Int} (hf : LabE B f) (hg : LabE B g) : f = g := by
  funext c
  by_cases hc : hasE B c
  · have := hf.le hg hc
    have := hg.le hf hc
    omega
  · rw [hf.1 c hc, hg.1 c hc]
noncomputable def labEC (B : Int → Prop) : Int → Int := @dite _ (∃ g, LabE B g) (Classical.propDecidable _) (fun h => Classical.choose h) (fun _ _ => 0)
theorem labEC_eq {B : Int → Prop} {g : Int → Int} (h : LabE B g) : g = labEC B := by
  unfold labEC
  rw [dif_pos ⟨g, h⟩]
  exact h.uniq (Classical.choose_spec (⟨g, h⟩ : ∃ g, LabE B g))
/-- the model's row of still open cells -/
def SC (m : Mem) (l : Int) (B : Int → Prop) : Prop := (∀ x y, inS m x y → (m 50 0 (100 * l + (10 * y + x)) = 0 ∧ ¬ B (pl x y)) ∨ (m 50 0 (100 * l + (10 * y + x)) = 1 ∧ B (pl x y))) ∧ ∀ p, B p → ¬ frS m p
def mf2 (m m' : Mem) : Prop := (∀ q, q ≠ 33 → q < 37 ∨ 50 < q → m' q = m q) ∧ ∀ j, j ≠ 6 → j ≠ 7 → j ≠ 14 → j ≠ 18 → m' 33 0 j = m 33 0 j
set_option maxHeartbeats 1000000 in
theorem sM_layBridged {Q : AV → Mem → Prop} {l : Int} {m : Mem} (hw : MW m) (hl : 0 ≤ l ∧ l ≤ 3) (h : ∀ m', mf2 m m' → SC m' l (BO (OM m l)) → (∀ j, ¬ (100 * l ≤ j ∧ j < 100 * l + 100) → m' 50 0 j = m 50 0 j) → Q (.inl 0) m') : WP cM_layBridged 0 [.inr (33, 0), .inl l, uu] [] m Q := by
  refine gM_layBridged_0 l m (sM_layBridges hw hl (fun m1 f1 hA => ?_))
  have e34 : m1 34 = m 34 := f1.1 34 (by decide) (by decide)
  have hw1 : MW m1 := by rw [MW_eq e34]; exact hw
  have hw' := hw1
  obtain ⟨w1, w2, w3, w4⟩ := hw'
  have hB := hA.2.2.1
  rw [OM_eq e34] at hB
  refine loopU (σ := Mem) (N := 100) (G := fun (k : Int) (s : Mem) => WP cM_layBridged 7 [.inr (33, 0), .inl l, .inl k] [] s Q) (I := fun (k : Int) (s : Mem) => (∀ q, q ≠ 50 → s q = m1 q) ∧ (∀ j, ¬ (100 * l ≤ j ∧ j < 100 * l + 100) → s 50 0 j = m1 50 0 j) ∧ ∀ i, 0 ≤ i → i < k → ((s 50 0 (100 * l + i) = 0 ∧ ¬ (m1 34 0 (100 * l + i) = 1 ∧ m1 48 0 i < 0)) ∨ (s 50 0 (100 * l + i) = 1 ∧ m1 34 0 (100 * l + i) = 1 ∧ m1 48 0 i < 0))) ?_ ?_ 0 m1 (Int.le_refl 0) (by omega) ⟨fun _ _ => rfl, fun _ _ => rfl, fun i i0 i1 => by omega⟩
  · rintro s ⟨g1, g2, g3⟩
    refine gM_layBridged_7 l _ s ⟨fun _ => h s ⟨fun q q1 q2 => ?_, fun j j1 j2 j3 j4 => ?_⟩ ⟨fun x y hxy => ?_, fun p hp => ?_⟩ (fun j hj => ?_), fun z => absurd (by omega) z⟩
    · rw [g1 q (by omega)]; exact f1.1 q q1 (by omega)
    · rw [g1 33 (by decide)]; exact f1.2 j j1 j2 j3 j4
    · have e34s : s 34 = m1 34 := g1 34 (by decide)
      rw [inS_eq e34s] at hxy
      have hxy' := hxy
      unfold inS at hxy'
      have hb := hB x y hxy
      have hb : m1 48 0 (10 * y + x) = (brA (OM m l)).2.1 (pl x y) := hb
      have ho : OM m l (pl x y) ↔ m1 34 0 (100 * l + (10 * y + x)) = 1 := by
        rw [← OM_eq e34, OM_pl (by omega) (by omega)]
        exact ⟨fun z => z.2, fun z => ⟨hxy, z⟩⟩
      unfold BO
      rw [ho, ← hb]
      exact g3 _ (by omega) (by omega)
    · have e34s : s 34 = m1 34 := g1 34 (by decide)
      rw [frS_eq e34s, frS_eq e34]
      exact fun z => frS_OM z hp.1
    · rw [g2 j hj, f1.1 50 (by decide) (by decide)]
  · rintro k s k0 k1 ⟨g1, g2, g3⟩ hN
    have e34s : s 34 = m1 34 := g1 34 (by decide)
    have e48s : s 48 = m1 48 := g1 48 (by decide)
    have go : ∀ v, ((v = 0 ∧ ¬ (m1 34 0 (100 * l + k) = 1 ∧ m1 48 0 k < 0)) ∨ (v = 1 ∧ m1 34 0 (100 * l + k) = 1 ∧ m1 48 0 k < 0)) → WP cM_layBridged 7 [.inr (33, 0), .inl l, .inl (k + 1)] [] (mset s 50 0 (100 * l + k) v) Q := by
      intro v hv
      refine hN _ ⟨fun q hq => (mset_k hq).trans (g1 q hq), fun j hj => ?_, fun i i0 i1 => ?_⟩
      · rw [mset_i, if_neg (by omega)]; exact g2 j hj
      · rw [mset_i]
        by_cases e : i = k
        · rw [if_pos (by omega), e]; exact hv
        · rw [if_neg (by omega)]; exact g3 i i0 (by omega)
    refine gM_layBridged_7 l k s ⟨fun z => by omega, fun _ => ⟨⟨by omega, by omega⟩, ⟨by omega, by omega⟩, ⟨by omega, by omega⟩, ⟨by omega, by omega⟩, by omega, fun z => ⟨by omega, ⟨by omega, by omega⟩, go 0 (Or.inl ⟨rfl, ?_⟩)⟩, fun z => ⟨by omega, fun z2 => ⟨by omega, ⟨by omega, by omega⟩, go 0 (Or.inl ⟨rfl, ?_⟩)⟩, fun z2 => ⟨by omega, ⟨by omega, by omega⟩, go 1 (Or.inr ⟨rfl, ?_⟩)⟩⟩⟩⟩
    · rw [e34s] at z; exact fun w => z w.1
    · rw [e48s] at z2; omega
    · rw [e34s] at z; rw [e48s] at z2
      exact ⟨Classical.byContradiction z, by omega⟩
theorem sM_isStillCut {Q : AV → Mem → Prop} {l x y : Int} {B : Int → Prop} {m : Mem} (hw : MW m) (hl : 0 ≤ l ∧ l ≤ 3) (hS : SC m l B) (hx : -1 ≤ x ∧ x ≤ 10) (h1 : B (pl x y) → Q (.inl 1) m) (h0 : ¬ B (pl x y) → Q (.inl 0) m) : WP cM_isStillCut 0 [.inr (33, 0), .inl l, .inl x, .inl y] [] m Q := by
  have hw' := hw
  obtain ⟨w1, w2, w3, w4⟩ := hw'
  refine gM_isStillCut_0 l x y m (sM_isCell hw (fun c => ⟨1, rfl, fun z => by omega, fun _ => ⟨⟨by omega, by omega⟩, ?_⟩⟩) (fun c => ⟨0, rfl, fun _ => h0 (fun z => hS.2 _ z ?_), fun z => absurd rfl z⟩))
  · have c' := c
    unfold inS at c'
    refine sM_at (by omega) (by omega) ⟨_, rfl, ⟨by omega, by omega⟩, by omega, fun z => h0 ?_, fun z => h1 ?_⟩
    · rcases hS.1 x y c with ⟨e, b⟩ | ⟨e, b⟩
      · exact b
      · omega
    · rcases hS.1 x y c with ⟨e, b⟩ | ⟨e, b⟩
      · exact absurd e z
      · exact b
  · unfold frS
    rw [pl_x hx, pl_y hx]
    exact c
def EdD (B : Int → Prop) (d c : Int) : Prop := if d = 0 then Ea B c else Ed B c
theorem sM_isEdge {Q : AV → Mem → Prop} {l x y d : Int} {B : Int → Prop} {m : Mem} (hw : MW m) (hl : 0 ≤ l ∧ l ≤ 3) (hS : SC m l B) (hd : d = 0 ∨ d = 1) (hx : d - 1 ≤ x ∧ x ≤ 10) (hy : -d ≤ y ∧ y ≤ 10) (h1 : EdD B d (pl x y) → Q (.inl 1) m) (h0 : ¬ EdD B d (pl x y) → Q (.inl 0) m) : WP cM_isEdge 0 [.inr (33, 0), .inl l, .inl x, .inl y, .inl d] [] m Q := by
  have hw' := hw
  obtain ⟨w1, w2, w3, w4⟩ := hw'
  have e2 : pl (x - d) (y - (1 - d)) = pl x y - (if d = 0 then 12 else 1) := by
    rcases hd with rfl | rfl
    · rw [if_pos rfl]; unfold pl; omega
    · rw [if_neg (by decide)]; unfold pl; omega
  have hE : EdD B d (pl x y) ↔ ¬ (B (pl x y) ↔ B (pl (x - d) (y - (1 - d)))) := by
    rw [e2]
    unfold EdD Ea Ed
    rcases hd with rfl | rfl
    · rw [if_pos rfl, if_pos rfl]
    · rw [if_neg (by decide), if_neg (by decide)]
  have neq : ¬ (B (pl x y) ↔ B (pl (x - d) (y - (1 - d)))) → Rng (1 - d) ∧ (Rng ((m 34 0 500) - (1 - d)) ∧ WP cM_in 0 [.inl x, .inl 0, .inl ((m 34 0 500) - (1 - d))] [] m (fun r m3 => ∃ r3 : Int, r = .inl r3 ∧ ((r3 = 0 → Q (.inl 0) m3) ∧ (¬ r3 = 0 → (Rng ((m3 34 0 501) - d) ∧ WP cM_in 0 [.inl y, .inl 0, .inl ((m3 34 0 501) - d)] [] m3 (fun r m4 => ∃ r4 : Int, r = .inl r4 ∧ ((r4 = 0 → Q (.inl 0) m4) ∧ (¬ r4 = 0 → Q (.inl 1) m4)))))))) := by
    intro hne
    have hin : inS m x y ∨ inS m (x - d) (y - (1 - d)) := by
      refine Classical.byContradiction (fun z => hne ⟨fun w => absurd (hS.2 _ w) (fun k => k ?_), fun w => absurd (hS.2 _ w) (fun k => k ?_)⟩)
      · unfold frS
        rw [pl_x (by omega), pl_y (by omega)]
        exact fun c => z (Or.inl c)
      · unfold frS
        rw [pl_x (by omega), pl_y (by omega)]
        exact fun c => z (Or.inr c)
    unfold inS at hin
    refine ⟨⟨by omega, by omega⟩, ⟨by omega, by omega⟩, sM_in (fun a => ⟨1, rfl, fun z => by omega, fun _ => ⟨⟨by omega, by omega⟩, sM_in (fun b => ⟨1, rfl, fun z => by omega, fun _ => h1 (hE.mpr hne)⟩) (fun b => absurd ?_ b)⟩⟩) (fun a => absurd ?_ a)⟩
    · rcases hd with rfl | rfl <;> omega
    · rcases hd with rfl | rfl <;> omega
  refine gM_isEdge_0 l x y d m (sM_isStillCut hw hl hS (by omega) (fun b1 => ⟨1, rfl, ⟨by omega, by omega⟩, ⟨by omega, by omega⟩, ⟨by omega, by omega⟩, sM_isStillCut hw hl hS (by omega) (fun b2 => ⟨1, rfl, fun _ => h0 (fun z => hE.mp z ⟨fun _ => b2, fun _ => b1⟩), fun z => absurd rfl z⟩) (fun b2 => ⟨0, rfl, fun z => by omega, fun _ => neq (fun z => b2 (z.mp b1))⟩)⟩) (fun b1 => ⟨0, rfl, ⟨by omega, by omega⟩, ⟨by omega, by omega⟩, ⟨by omega, by omega⟩, sM_isStillCut hw hl hS (by omega) (fun b2 => ⟨1, rfl, fun z => by omega, fun _ => neq (fun z => b1 (z.mpr b2))⟩) (fun b2 => ⟨0, rfl, fun _ => h0 (fun z => hE.mp z ⟨fun w => absurd w b1, fun w => absurd w b2⟩), fun z => absurd rfl z⟩)⟩))
theorem sM_hasEdge {Q : AV → Mem → Prop} {l x y : Int} {B : Int → Prop} {m : Mem} (hw : MW m) (hl : 0 ≤ l ∧ l ≤ 3) (hS : SC m l B) (hx : 0 ≤ x ∧ x ≤ 10) (hy : 0 ≤ y ∧ y ≤ 10) (h1 : hasE B (pl x y) → Q (.inl 1) m) (h0 : ¬ hasE B (pl x y) → Q (.inl 0) m) : WP cM_hasEdge 0 [.inr (33, 0), .inl l, .inl x, .inl y] [] m Q := by
  have e1 : pl (x - 1) y = pl x y - 1 := by unfold pl; omega
  have e2 : pl x (y - 1) = pl x y - 12 := by unfold pl; omega
  refine gM_hasEdge_0 l x y m (sM_isEdge hw hl hS (Or.inl rfl) (by omega) (by omega) (fun a => ⟨1, rfl, fun _ => h1 (Or.inl a), fun z => absurd (by omega) z⟩) (fun a => ⟨0, rfl, fun z => absurd rfl z, fun _ => ?_⟩))
  refine sM_isEdge hw hl hS (Or.inr rfl) (by omega) (by omega) (fun b => ⟨1, rfl, fun _ => h1 (Or.inr (Or.inl b)), fun z => absurd (by omega) z⟩) (fun b => ⟨0, rfl, fun z => absurd rfl z, fun _ => ⟨⟨by omega, by omega⟩, ?_⟩⟩)
  refine sM_isEdge hw hl hS (Or.inl rfl) (by omega) (by omega) (fun c => ⟨1, rfl, fun _ => h1 (Or.inr (Or.inr (Or.inl ?_))), fun z => absurd (by omega) z⟩) (fun c => ⟨0, rfl, fun z => absurd rfl z, fun _ => ⟨⟨by omega, by omega⟩, ?_⟩⟩)
  · rw [e1] at c; exact c
  refine sM_isEdge hw hl hS (Or.inr rfl) (by omega) (by omega) (fun d => ⟨1, rfl, fun z => by omega, fun _ => h1 (Or.inr (Or.inr (Or.inr ?_)))⟩) (fun d => ⟨0, rfl, fun _ => h0 (fun z => ?_), fun z => absurd rfl z⟩)
  · rw [e2] at d; exact d
  · rw [e1] at c
    rw [e2] at d
    rcases z with z | z | z | z
    · exact a z
    · exact b z
    · exact c z
    · exact d z
