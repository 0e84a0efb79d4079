/-! The model's marks are labels of parts. -/
theorem pl_x {x y : Int} (hx : -1 ≤ x ∧ x ≤ 10) : pl x y % 12 - 1 = x := by unfold pl; omega
theorem pl_y {x y : Int} (hx : -1 ≤ x ∧ x ≤ 10) : pl x y / 12 - 1 = y := by unfold pl; omega
theorem pl_of {p : Int} : pl (p % 12 - 1) (p / 12 - 1) = p := by unfold pl; omega
theorem inS_pl {m : Mem} {x y : Int} (hw : MW m) (h : inS m x y) : 13 ≤ pl x y ∧ pl x y < 143 := by
  obtain ⟨w1, w2, w3, w4⟩ := hw
  unfold inS at h
  unfold pl
  omega
theorem cpl_idx {m : Mem} {x y : Int} (hw : MW m) (h : inS m x y) : cpl (10 * y + x) = pl x y := by
  obtain ⟨w1, w2, w3, w4⟩ := hw
  unfold inS at h
  unfold cpl pl
  omega
/-- beside the frame there are cells of the rim alone -/
theorem rim_of_adj {m : Mem} {p q : Int} (hw : MW m) (hA : Adj p q) (hp : frS m p) (hq : ¬ frS m q) : rimS m (q % 12 - 1) (q / 12 - 1) := by
  obtain ⟨w1, w2, w3, w4⟩ := hw
  unfold frS inS at hp hq
  unfold rimS
  unfold Adj at hA
  omega
theorem rim_con {m : Mem} {l x y : Int} (hw : MW m) (hc : inS m x y) (hr : rimS m x y) (ho : ¬ Mo m l x y) : Con (OM m l) 0 (pl x y) := by
  have hw' := hw
  obtain ⟨w1, w2, w3, w4⟩ := hw'
  have hc' := hc
  unfold inS at hc'
  have go : ∀ p, 0 ≤ p → p < 144 → frS m p → Adj p (pl x y) → Con (OM m l) 0 (pl x y) := fun p p0 p1 hf hA =>
    (fr_con hw p0 p1 hf).step hA ⟨fun z => absurd z (frS_OM hf), fun z => absurd ((OM_pl (by omega) (by omega)).mp z) ho⟩
  rcases hr with e | e | e | e
  · exact go (pl x y - 1) (by unfold pl; omega) (by unfold pl; omega) (by unfold frS inS pl; omega) (by unfold Adj pl; omega)
  · exact go (pl x y - 12) (by unfold pl; omega) (by unfold pl; omega) (by unfold frS inS pl; omega) (by unfold Adj pl; omega)
  · exact go (pl x y + 1) (by unfold pl; omega) (by unfold pl; omega) (by unfold frS inS pl; omega) (by unfold Adj pl; omega)
  · exact go (pl x y + 12) (by unfold pl; omega) (by unfold pl; omega) (by unfold frS inS pl; omega) (by unfold Adj pl; omega)
def mk0 (m : Mem) (l x y v : Int) : Prop := (rimS m x y ∧ ¬ Mo m l x y ∧ v = -1) ∨ (¬ (rimS m x y ∧ ¬ Mo m l x y) ∧ v = 10 * y + x)
theorem MkI.init {m : Mem} {l : Int} (hw : MW m) (h : ∀ x y, inS m x y → mk0 m l x y (mk m x y)) : MkI m l := by
  intro x y hc
  have h1 := h x y hc
  have hc' := hc
  unfold inS at hc'
  have hw' := hw
  obtain ⟨w1, w2, w3, w4⟩ := hw'
  rcases h1 with ⟨a, b, e⟩ | ⟨a, e⟩
  · refine ⟨⟨by omega, by omega⟩, fun _ => rim_con hw hc a b, fun z => by omega, fun _ _ => e⟩
  · refine ⟨⟨by omega, by omega⟩, fun z => by omega, fun _ => ?_, fun z1 z2 => absurd ⟨z1, z2⟩ a⟩
    rw [e, cpl_idx hw hc]
    refine ⟨?_, Con.refl _⟩
    rw [show (10 * y + x) % 10 = x by omega, show (10 * y + x) / 10 = y by omega]
    exact hc
/-- the label of a place, by the marks -/
noncomputable def fM (m : Mem) (p : Int) : Int := @ite _ (inS m (p % 12 - 1) (p / 12 - 1)) (Classical.propDecidable _) (if mk m (p % 12 - 1) (p / 12 - 1) < 0 then 0 else cpl (mk m (p % 12 - 1) (p / 12 - 1))) 0
theorem fM_fr {m : Mem} {p : Int} (h : frS m p) : fM m p = 0 := by unfold fM; exact if_neg h
theorem fM_in {m : Mem} {p : Int} (h : ¬ frS m p) : fM m p = if mk m (p % 12 - 1) (p / 12 - 1) < 0 then 0 else cpl (mk m (p % 12 - 1) (p / 12 - 1)) := by unfold fM; exact if_pos (Classical.byContradiction h)
theorem fM_lab {m : Mem} {l : Int} (hw : MW m) (hI : MkI m l) (hs : ∀ x y, inS m x y → stab m l x y) : LabOK (OM m l) (fM m) := by
  have hw' := hw
  obtain ⟨w1, w2, w3, w4⟩ := hw'
  have rim0 : ∀ p q, Adj p q → frS m p → ¬ frS m q → (OM m l p ↔ OM m l q) → fM m q = 0 := by
    intro p q hA hp hq hO
    have hin : inS m (q % 12 - 1) (q / 12 - 1) := Classical.byContradiction hq
    have := (hI _ _ hin).2.2.2 (rim_of_adj hw hA hp hq) (fun z => frS_OM hp (hO.mpr z))
    rw [fM_in hq, if_pos (by omega)]
  intro p p0 p1
  by_cases hf : frS m p
  · refine ⟨⟨?_, ?_, ?_⟩, fun q hA hO => ?_⟩
    · rw [fM_fr hf]; exact Int.le_refl 0
    · rw [fM_fr hf]; exact p0
    · rw [fM_fr hf]; exact fr_con hw p0 p1 hf
    · rw [fM_fr hf]
      by_cases hg : frS m q
      · rw [fM_fr hg]
      · rw [rim0 p q hA hf hg hO]
  · have hin : inS m (p % 12 - 1) (p / 12 - 1) := Classical.byContradiction hf
    obtain ⟨i1, i2, i3, i4⟩ := hI _ _ hin
    have hin' := hin
    unfold inS at hin'
    rw [pl_of] at i2 i3
    refine ⟨?_, fun q hA hO => ?_⟩
    · rw [fM_in hf]
      split
      · rename_i c
        exact ⟨Int.le_refl 0, p0, i2 (by omega)⟩
      · rename_i c
        obtain ⟨j1, j2⟩ := i3 (by omega)
        refine ⟨?_, ?_, j2⟩
        · unfold cpl pl; omega
        · unfold cpl pl; omega
    · by_cases hg : frS m q
      · rw [fM_fr hg]
        exact rim0 q p hA.symm hg hf hO.symm
      · have hin2 : inS m (q % 12 - 1) (q / 12 - 1) := Classical.byContradiction hg
        have hin2' := hin2
        unfold inS at hin2'
        have hn : nb (p % 12 - 1) (p / 12 - 1) (q % 12 - 1) (q / 12 - 1) := by
          unfold Adj at hA
          unfold nb
          omega
        have hn2 : nb (q % 12 - 1) (q / 12 - 1) (p % 12 - 1) (p / 12 - 1) := by
          unfold nb at *
          omega
        have s1 := hs _ _ hin _ _ hn hin2 hO
        have s2 := hs _ _ hin2 _ _ hn2 hin hO.symm
        have e : mk m (p % 12 - 1) (p / 12 - 1) = mk m (q % 12 - 1) (q / 12 - 1) := Int.le_antisymm s1 s2
        rw [fM_in hf, fM_in hg, e]
/-- the model finds its marks -/
theorem sM_marks {Q : AV → Mem → Prop} {l : Int} {m : Mem} (hw : MW m) (hl : 0 ≤ l ∧ l ≤ 3) (h : ∀ m' : Mem, (∀ q, q ≠ 37 → m' q = m q) → MkI m' l → LabOK (OM m' l) (fM m') → ∀ a3 : AV, WP cM_layPieces 80 [.inr (33, 0), .inl l, .inl 0, a3, uu] [] m' Q) : WP cM_layPieces 0 [.inr (33, 0), .inl l, uu, uu, uu] [] m Q := by
  have hw' := hw
  obtain ⟨w1, w2, w3, w4⟩ := hw'
  refine gM_layPieces_0 l m ?_
  refine scan (σ := Mem) (W := m 34 0 500) (H := m 34 0 501) (G := fun (y : Int) (s : Mem) => ∀ a3 : AV, WP cM_layPieces 2 [.inr (33, 0), .inl l, .inl y, a3, uu] [] s Q) (F := fun (y x : Int) (s : Mem) => WP cM_layPieces 16 [.inr (33, 0), .inl l, .inl y, .inl x, uu] [] s Q) (I := fun (y x : Int) (s : Mem) => (∀ q, q ≠ 37 → s q = m q) ∧ ∀ a b, inS m a b → (b < y ∨ (b = y ∧ a < x)) → mk0 m l a b (mk s a b)) (by omega) (by omega) ?_ ?_ ?_ ?_ m ⟨fun _ _ => rfl, fun a b hab hlt => by unfold inS at hab; omega⟩ uu
  · rintro m1 ⟨hf, hd⟩ a3
    have e34 : m1 34 = m 34 := hf 34 (by decide)
    refine gM_layPieces_2 l _ a3 m1 ⟨fun _ => ?_, fun z => absurd (by rw [e34]; exact Int.le_refl _) z⟩
    have hw1 : MW m1 := by rw [MW_eq e34]; exact hw
    have hI1 : MkI m1 l := MkI.init hw1 (fun x y hxy => by
      rw [inS_eq e34] at hxy
      have := hd x y hxy (Or.inl hxy.2.2.2)
      unfold mk0 at *
      rw [rimS_eq e34, Mo_eq e34]
      exact this)
    have hnn := mkS_nonneg hI1
    refine sM_spread hl m1 hw1 (fun m2 hf2 hI2 hs2 a => h m2 (fun q hq => (hf2 q hq).trans (hf q hq)) hI2 (fM_lab (by rw [MW_eq (hf2 34 (by decide))]; exact hw1) hI2 hs2) a) (mkS m1).toNat m1 (fun _ _ => rfl) hI1 (by omega) a3
  · rintro y m1 y0 y1 ⟨hf, hd⟩ hF a3
    have e34 : m1 34 = m 34 := hf 34 (by decide)
    exact gM_layPieces_2 l y a3 m1 ⟨fun z => absurd z (by rw [e34]; omega), fun _ => hF⟩
  · rintro y m1 y0 y1 ⟨hf, hd⟩
    have e34 : m1 34 = m 34 := hf 34 (by decide)
    refine ⟨⟨hf, fun a b hab hlt => hd a b hab (by unfold inS at hab; omega)⟩, fun hG => gM_layPieces_16 l y _ m1 ⟨fun _ => ⟨⟨by omega, by omega⟩, hG _⟩, fun z => absurd (by rw [e34]; exact Int.le_refl _) z⟩⟩
  · rintro y x m1 y0 y1 x0 x1 ⟨hf, hd⟩ hN
    have e34 : m1 34 = m 34 := hf 34 (by decide)
    have hw1 : MW m1 := by rw [MW_eq e34]; exact hw
    have put : ∀ v, mk0 m l x y v → WP cM_layPieces 16 [.inr (33, 0), .inl l, .inl y, .inl (x + 1), uu] [] (mset m1 37 0 (10 * y + x) v) Q := by
      intro v hv
      refine hN _ ⟨fun q hq => (mset_k hq).trans (hf q hq), fun a b hab hlt => ?_⟩
      unfold inS at hab
      by_cases e : a = x ∧ b = y
      · obtain ⟨rfl, rfl⟩ := e
        have ek : mk (mset m1 37 0 (10 * b + a) v) a b = v := mset_at
        rw [ek]
        exact hv
      · have ek : mk (mset m1 37 0 (10 * y + x) v) a b = mk m1 a b := mset_ne (fun z => e (by have := z.2.2; omega))
        rw [ek]
        exact hd a b hab (by omega)
    refine gM_layPieces_16 l y x m1 ⟨fun z => absurd z (by rw [e34]; omega), fun _ => sM_at (by omega) (by omega) ⟨_, rfl, sM_isRim hw1 (fun c => ⟨1, rfl, fun z => by omega, fun _ => sM_isCut hw1 hl (fun d => ⟨1, rfl, fun _ => sM_at (by omega) (by omega) ⟨_, rfl, by omega, ⟨by omega, by omega⟩, ?_⟩, fun z => absurd (by omega) z⟩) (fun d => ⟨0, rfl, fun z => absurd rfl z, fun _ => ⟨by omega, ⟨by omega, by omega⟩, ?_⟩⟩)⟩) (fun c => ⟨0, rfl, fun _ => sM_at (by omega) (by omega) ⟨_, rfl, by omega, ⟨by omega, by omega⟩, ?_⟩, fun z => absurd rfl z⟩)⟩⟩
    · rw [Mo_eq e34] at d
      exact put _ (Or.inr ⟨fun z => z.2 d, rfl⟩)
    · rw [Mo_eq e34] at d
      rw [rimS_eq e34] at c
      exact put _ (Or.inl ⟨c, d, rfl⟩)
    · rw [rimS_eq e34] at c
      exact put _ (Or.inr ⟨fun z => c z.1, rfl⟩)
