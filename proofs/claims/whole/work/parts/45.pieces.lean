/-! The model's pieces: labels and numbers. -/
def NumOK (m : Mem) (O : Int → Prop) (f : Int → Int) (x y : Int) : Prop :=
  (O (pl x y) → m 39 0 (10 * y + x) = cP (HR O f) (f (pl x y)).toNat ∧ m 38 0 (10 * y + x) = -6) ∧ (¬ O (pl x y) → f (pl x y) ≠ 0 → m 38 0 (10 * y + x) = cP (IR O f) (f (pl x y)).toNat ∧ m 39 0 (10 * y + x) = -6) ∧ (¬ O (pl x y) → f (pl x y) = 0 → m 38 0 (10 * y + x) = -6 ∧ m 39 0 (10 * y + x) = -6)
/-- what the model knows of the pieces of a layer -/
def MPc (m : Mem) (l : Int) (f : Int → Int) : Prop :=
  LabOK (OM m l) f ∧ (∀ x y, inS m x y → ((mk m x y < 0 ↔ f (pl x y) = 0) ∧ (0 ≤ mk m x y → f (pl x y) = cpl (mk m x y))) ∧ NumOK m (OM m l) f x y) ∧ m 33 0 6 = cP (IR (OM m l) f) 144 ∧ m 33 0 7 = cP (HR (OM m l) f) 144 ∧ ∀ p, ¬ (0 ≤ p ∧ p < 144) → f p = 0
theorem OM_0 {m : Mem} {l : Int} : ¬ OM m l 0 := by
  intro h
  unfold OM Mo inS at h
  omega
theorem fM_pl {m : Mem} {x y : Int} (hw : MW m) (hc : inS m x y) : fM m (pl x y) = if mk m x y < 0 then 0 else cpl (mk m x y) := by
  have hw' := hw
  obtain ⟨w1, w2, w3, w4⟩ := hw'
  have hc' := hc
  unfold inS at hc'
  have hx := pl_x (x := x) (y := y) (by omega)
  have hy := pl_y (x := x) (y := y) (by omega)
  have hf : ¬ frS m (pl x y) := by
    unfold frS
    rw [hx, hy]
    exact fun z => z hc
  rw [fM_in hf, hx, hy]
set_option maxHeartbeats 1000000 in
theorem sM_layPieces {Q : AV → Mem → Prop} {l : Int} {m : Mem} (hw : MW m) (hl : 0 ≤ l ∧ l ≤ 3) (h : ∀ (m' : Mem) (f : Int → Int), (∀ q, q ≠ 33 → q ≠ 37 → q ≠ 38 → q ≠ 39 → m' q = m q) → (∀ j, j ≠ 6 → j ≠ 7 → m' 33 0 j = m 33 0 j) → MPc m' l f → Q (.inl 0) m') : WP cM_layPieces 0 [.inr (33, 0), .inl l, uu, uu, uu] [] m Q := by
  refine sM_marks hw hl (fun m1 hf1 hI1 hL1 a3 => ?_)
  have e34 : m1 34 = m 34 := hf1 34 (by decide)
  have hw1 : MW m1 := by rw [MW_eq e34]; exact hw
  have hw' := hw1
  obtain ⟨w1, w2, w3, w4⟩ := hw'
  generalize hO : OM m1 l = O at hL1
  generalize hF : fM m1 = f at hL1
  refine gM_layPieces_80 l 0 a3 m1 ⟨fun _ => ?_, fun z => absurd rfl z⟩
  have fpl : ∀ x y, inS m1 x y → f (pl x y) = if mk m1 x y < 0 then 0 else cpl (mk m1 x y) := fun x y hc => by rw [← hF]; exact fM_pl hw1 hc
  have opl : ∀ x y, inS m1 x y → (O (pl x y) ↔ Mo m1 l x y) := fun x y hc => by
    have hc' := hc
    unfold inS at hc'
    rw [← hO]
    exact OM_pl (by omega) (by omega)
  have ono : ∀ p, frS m1 p → ¬ O p := fun p hp => by rw [← hO]; exact frS_OM hp
  have o0 : ¬ O 0 := by rw [← hO]; exact OM_0
  have omk : ∀ x y, inS m1 x y → O (pl x y) → 0 ≤ mk m1 x y := by
    intro x y hc ho
    refine Classical.byContradiction (fun z => ?_)
    obtain ⟨i1, i2, i3, i4⟩ := hI1 x y hc
    have := (i2 (by omega)).alike
    rw [hO] at this
    exact o0 (this.mpr ho)
  have frI : ∀ p, frS m1 p → 0 ≤ p → p < 144 → ¬ IR O f p ∧ ¬ HR O f p := by
    intro p hp p0 p1
    refine ⟨fun z => ?_, fun z => ono p hp z.1⟩
    have e : f p = 0 := by rw [← hF]; exact fM_fr hp
    have := z.2.1
    have := z.2.2
    omega
  refine scan (σ := Mem) (W := m1 34 0 500) (H := m1 34 0 501) (G := fun (y : Int) (s : Mem) => ∀ a4 : AV, WP cM_layPieces 105 [.inr (33, 0), .inl l, .inl 0, .inl y, a4] [] s Q) (F := fun (y x : Int) (s : Mem) => WP cM_layPieces 120 [.inr (33, 0), .inl l, .inl 0, .inl y, .inl x] [] s Q) (I := fun (y x : Int) (s : Mem) => (∀ q, q ≠ 33 → q ≠ 38 → q ≠ 39 → s q = m1 q) ∧ (∀ j, j ≠ 6 → j ≠ 7 → s 33 0 j = m1 33 0 j) ∧ s 33 0 6 = cP (IR O f) (pl x y).toNat ∧ s 33 0 7 = cP (HR O f) (pl x y).toNat ∧ ∀ a b, inS m1 a b → (b < y ∨ (b = y ∧ a < x)) → NumOK s O f a b) (by omega) (by omega) ?_ ?_ ?_ ?_ _ ?_ uu
  · rintro s ⟨hf, hj, hi6, hi7, hd⟩ a4
    have e34s : s 34 = m1 34 := hf 34 (by decide) (by decide) (by decide)
    refine gM_layPieces_105 l 0 _ a4 s ⟨fun _ => ?_, fun z => absurd (by rw [e34s]; exact Int.le_refl _) z⟩
    have e37s : s 37 = m1 37 := hf 37 (by decide) (by decide) (by decide)
    have hOs : OM s l = O := by rw [OM_eq e34s]; exact hO
    have hend : ∀ P : Int → Prop, (∀ p, frS m1 p → 0 ≤ p → p < 144 → ¬ P p) → cP P 144 = cP P (pl 0 (m1 34 0 501)).toNat := by
      intro P hP
      have e : 144 = (pl 0 (m1 34 0 501)).toNat + (144 - (pl 0 (m1 34 0 501)).toNat) := by unfold pl; omega
      rw [e]
      refine cP_skip _ _ (fun p p0 p1 => hP p ?_ (by omega) (by omega))
      unfold frS inS
      unfold pl at p0
      omega
    refine h s f (fun q q1 q2 q3 q4 => (hf q q1 q3 q4).trans (hf1 q q2)) (fun j j1 j2 => (hj j j1 j2).trans (by rw [hf1 33 (by decide)])) ⟨by rw [hOs]; exact hL1, fun x y hxy => ?_, ?_, ?_, fun p hp => by rw [← hF]; exact fM_fr (by unfold frS inS; omega)⟩
    · rw [inS_eq e34s] at hxy
      rw [hOs]
      have hmk : mk s x y = mk m1 x y := by unfold mk; rw [e37s]
      rw [hmk]
      have hfp := fpl x y hxy
      have hIx := hI1 x y hxy
      refine ⟨⟨⟨fun z => by rw [hfp, if_pos z], fun z => ?_⟩, fun z => by rw [hfp, if_neg (by omega)]⟩, hd x y hxy (Or.inl hxy.2.2.2)⟩
      refine Classical.byContradiction (fun c => ?_)
      rw [hfp, if_neg c] at z
      unfold cpl pl at z
      omega
    · rw [hOs, hi6, hend _ (fun p hp p0 p1 => (frI p hp p0 p1).1)]
    · rw [hOs, hi7, hend _ (fun p hp p0 p1 => (frI p hp p0 p1).2)]
  · rintro y s y0 y1 ⟨hf, hj, hi6, hi7, hd⟩ hG a4
    have e34s : s 34 = m1 34 := hf 34 (by decide) (by decide) (by decide)
    exact gM_layPieces_105 l 0 y a4 s ⟨fun z => absurd z (by rw [e34s]; omega), fun _ => hG⟩
  · rintro y s y0 y1 ⟨hf, hj, hi6, hi7, hd⟩
    have e34s : s 34 = m1 34 := hf 34 (by decide) (by decide) (by decide)
    have hrow : ∀ P : Int → Prop, (∀ p, frS m1 p → 0 ≤ p → p < 144 → ¬ P p) → cP P (pl 0 (y + 1)).toNat = cP P (pl (m1 34 0 500) y).toNat := by
      intro P hP
      have e : (pl 0 (y + 1)).toNat = (pl (m1 34 0 500) y).toNat + ((pl 0 (y + 1)).toNat - (pl (m1 34 0 500) y).toNat) := by unfold pl; omega
      rw [e]
      refine cP_skip _ _ (fun p p0 p1 => ?_)
      unfold pl at p0 p1
      refine hP p ?_ (by omega) (by omega)
      unfold frS inS
      omega
    refine ⟨⟨hf, hj, ?_, ?_, fun a b hab hlt => hd a b hab (by unfold inS at hab; omega)⟩, fun hG => gM_layPieces_120 l 0 y _ s ⟨fun _ => ⟨⟨by omega, by omega⟩, hG _⟩, fun z => absurd (by rw [e34s]; exact Int.le_refl _) z⟩⟩
    · rw [hi6, hrow _ (fun p hp p0 p1 => (frI p hp p0 p1).1)]
    · rw [hi7, hrow _ (fun p hp p0 p1 => (frI p hp p0 p1).2)]
  · rintro y x s y0 y1 x0 x1 ⟨hf, hj, hi6, hi7, hd⟩ hN
    have e34s : s 34 = m1 34 := hf 34 (by decide) (by decide) (by decide)
    have e37s : s 37 = m1 37 := hf 37 (by decide) (by decide) (by decide)
    have hc1 : inS m1 x y := ⟨x0, x1, y0, y1⟩
    have hc : inS s x y := by rw [inS_eq e34s]; exact hc1
    have hmk : mk s x y = mk m1 x y := by unfold mk; rw [e37s]
    obtain ⟨i1, i2, i3, i4⟩ := hI1 x y hc1
    have hfp := fpl x y hc1
    have hop := opl x y hc1
    have hp0 : 0 ≤ pl x y ∧ pl x y < 144 := by unfold pl; omega
    have r6 := cP_rng (P := IR O f) (pl x y).toNat
    have r7 := cP_rng (P := HR O f) (pl x y).toNat
    have epl : (pl (x + 1) y).toNat = (pl x y).toNat + 1 := by unfold pl; omega
    have ecast : (((pl x y).toNat : Nat) : Int) = pl x y := by unfold pl; omega
    have hpc : cpl (10 * y + x) = pl x y := cpl_idx hw1 hc1
    refine gM_layPieces_120 l 0 y x s ⟨fun z => absurd z (by rw [e34s]; omega), fun _ => sM_number (by rw [MW_eq e34s]; exact hw1) hl hc (by rw [hmk]; exact i1.2) (by rw [hi6]; omega) (by rw [hi7]; omega) (fun s' hnr => ⟨⟨by omega, by omega⟩, hN s' ?_⟩)⟩
    obtain ⟨n1, n2, n3, n4⟩ := hnr
    rw [hmk, Mo_eq e34s] at n4
    have old : ∀ a b, inS m1 a b → (b < y ∨ (b = y ∧ a < x)) → NumOK s' O f a b := by
      intro a b hab hlt
      have hab' := hab
      unfold inS at hab'
      have hne : 10 * b + a ≠ 10 * y + x := by omega
      have := hd a b hab hlt
      unfold NumOK at *
      rw [(n3 _ hne).1, (n3 _ hne).2]
      exact this
    have back : 0 ≤ mk m1 x y → mk m1 x y ≠ 10 * y + x → inS m1 (mk m1 x y % 10) (mk m1 x y / 10) ∧ pl (mk m1 x y % 10) (mk m1 x y / 10) = f (pl x y) ∧ NumOK s O f (mk m1 x y % 10) (mk m1 x y / 10) ∧ 10 * (mk m1 x y / 10) + mk m1 x y % 10 = mk m1 x y := by
      intro z0 z1
      obtain ⟨j1, j2⟩ := i3 z0
      refine ⟨j1, by rw [hfp, if_neg (by omega)]; rfl, hd _ _ j1 ?_, by omega⟩
      have := i1.2
      omega
    have noI : (¬ (¬ Mo m1 l x y ∧ 0 ≤ mk m1 x y ∧ mk m1 x y = 10 * y + x)) → ¬ IR O f (pl x y) := by
      intro z w
      obtain ⟨wa, wb, wc⟩ := w
      refine z ⟨fun v => wa (hop.mpr v), ?_⟩
      rw [hfp] at wb
      split at wb
      · omega
      · refine ⟨by omega, ?_⟩
        unfold cpl pl at wb
        omega
    have noH : (¬ (Mo m1 l x y ∧ 0 ≤ mk m1 x y ∧ mk m1 x y = 10 * y + x)) → ¬ HR O f (pl x y) := by
      intro z w
      obtain ⟨wa, wb⟩ := w
      have := omk x y hc1 wa
      refine z ⟨hop.mp wa, this, ?_⟩
      rw [hfp, if_neg (by omega)] at wb
      unfold cpl pl at wb
      omega
    have fin : (s' 33 0 6 = cP (IR O f) (pl (x + 1) y).toNat ∧ s' 33 0 7 = cP (HR O f) (pl (x + 1) y).toNat ∧ NumOK s' O f x y) → (∀ q, q ≠ 33 → q ≠ 38 → q ≠ 39 → s' q = m1 q) ∧ (∀ j, j ≠ 6 → j ≠ 7 → s' 33 0 j = m1 33 0 j) ∧ s' 33 0 6 = cP (IR O f) (pl (x + 1) y).toNat ∧ s' 33 0 7 = cP (HR O f) (pl (x + 1) y).toNat ∧ ∀ a b, inS m1 a b → (b < y ∨ (b = y ∧ a < x + 1)) → NumOK s' O f a b := by
      rintro ⟨g1, g2, g3⟩
      refine ⟨fun q q1 q2 q3 => (n1 q q1 q2 q3).trans (hf q q1 q2 q3), fun j j1 j2 => (n2 j j1 j2).trans (hj j j1 j2), g1, g2, fun a b hab hlt => ?_⟩
      by_cases e : a = x ∧ b = y
      · obtain ⟨rfl, rfl⟩ := e
        exact g3
      · exact old a b hab (by omega)
    refine fin ?_
    rw [epl]
    rcases n4 with ⟨c1, a1, a2, a3, a4⟩ | ⟨c1, c2, c3, a1, a2, a3, a4⟩ | ⟨c1, c2, c3, a1, a2, a3, a4⟩ | ⟨c1, c2, c3, a1, a2, a3, a4⟩ | ⟨c1, c2, c3, a1, a2, a3, a4⟩
    · have hf0 : f (pl x y) = 0 := by rw [hfp, if_pos c1]
      rw [cP_no (by rw [ecast]; exact noI (fun z => by omega)), cP_no (by rw [ecast]; exact noH (fun z => by omega))]
      refine ⟨a3.trans hi6, a4.trans hi7, fun z => ?_, fun _ z => absurd hf0 z, fun _ _ => ⟨a1, a2⟩⟩
      have := omk x y hc1 z
      omega
    · have hfpp : f (pl x y) = pl x y := by rw [hfp, if_neg (by omega), c3, hpc]
      have ho := hop.mpr c2
      rw [cP_no (by rw [ecast]; exact noI (fun z => z.1 c2)), cP_yes (by rw [ecast]; exact ⟨ho, hfpp⟩)]
      refine ⟨a3.trans hi6, by rw [a4, hi7], fun _ => ⟨by rw [a2, hi7, hfpp], a1⟩, fun z => absurd ho z, fun z => absurd ho z⟩
    · obtain ⟨b1, b2, b3, b4⟩ := back c1 c3
      have ho := hop.mpr c2
      rw [cP_no (by rw [ecast]; exact noI (fun z => z.1 c2)), cP_no (by rw [ecast]; exact noH (fun z => c3 z.2.2))]
      have hor : O (pl (mk m1 x y % 10) (mk m1 x y / 10)) := by rw [b2]; exact (hL1.alike hp0.1 hp0.2).mpr ho
      have hid := hL1.idem hp0.1 hp0.2
      have b5 := (b3.1 hor).1
      rw [b4, b2, hid] at b5
      refine ⟨a3.trans hi6, a4.trans hi7, fun _ => ⟨a2.trans b5, a1⟩, fun z => absurd ho z, fun z => absurd ho z⟩
    · have hfpp : f (pl x y) = pl x y := by rw [hfp, if_neg (by omega), c3, hpc]
      have ho : ¬ O (pl x y) := fun z => c2 (hop.mp z)
      have hne : pl x y ≠ 0 := by unfold pl; omega
      rw [cP_yes (by rw [ecast]; exact ⟨ho, hfpp, hne⟩), cP_no (by rw [ecast]; exact noH (fun z => c2 z.1))]
      refine ⟨by rw [a3, hi6], a4.trans hi7, fun z => absurd z ho, fun _ _ => ⟨by rw [a1, hi6, hfpp], a2⟩, fun _ z => ?_⟩
      rw [hfpp] at z
      exact absurd z hne
    · obtain ⟨b1, b2, b3, b4⟩ := back c1 c3
      have ho : ¬ O (pl x y) := fun z => c2 (hop.mp z)
      rw [cP_no (by rw [ecast]; exact noI (fun z => c3 z.2.2)), cP_no (by rw [ecast]; exact noH (fun z => c2 z.1))]
      have hor : ¬ O (pl (mk m1 x y % 10) (mk m1 x y / 10)) := by rw [b2]; exact fun z => ho ((hL1.alike hp0.1 hp0.2).mp z)
      have hid := hL1.idem hp0.1 hp0.2
      have hf0 : f (pl x y) ≠ 0 := by
        rw [hfp, if_neg (by omega)]
        unfold cpl pl
        omega
      have b5 := (b3.2.1 hor (by rw [b2, hid]; exact hf0)).1
      rw [b4, b2, hid] at b5
      refine ⟨a3.trans hi6, a4.trans hi7, fun z => absurd z ho, fun _ _ => ⟨a1.trans b5, a2⟩, fun _ z => absurd z hf0⟩
  · have hst : ∀ P : Int → Prop, (∀ p, frS m1 p → 0 ≤ p → p < 144 → ¬ P p) → cP P (pl 0 0).toNat = 0 := by
      intro P hP
      have := cP_skip (P := P) 13 0 (fun p p0 p1 => hP p (by unfold frS inS; omega) (by omega) (by omega))
      exact this
    refine ⟨fun q q1 q2 q3 => by rw [mset_k q1, mset_k q1], fun j j1 j2 => by simp [rd_j, j1, j2], ?_, ?_, fun a b hab hlt => by unfold inS at hab; omega⟩
    · rw [hst _ (fun p hp p0 p1 => (frI p hp p0 p1).1)]
      simp [rd_j]
    · rw [hst _ (fun p hp p0 p1 => (frI p hp p0 p1).2)]
      simp [rd_j]
