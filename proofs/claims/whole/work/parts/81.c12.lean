/-! The class's picture. -/
noncomputable def mskP (m : Mem) (p : Int) : Int := cif (BL m 0 p) 1 0 + 2 * cif (BL m 1 p) 1 0 + 4 * cif (BL m 2 p) 1 0 + 8 * cif (BL m 3 p) 1 0
theorem mskP_rng {m : Mem} {p : Int} : 0 ≤ mskP m p ∧ mskP m p < 16 := by
  have h0 := cif_01 (P := BL m 0 p)
  have h1 := cif_01 (P := BL m 1 p)
  have h2 := cif_01 (P := BL m 2 p)
  have h3 := cif_01 (P := BL m 3 p)
  unfold mskP
  omega
theorem mskP_bt {m : Mem} {p d : Int} (hd : 0 ≤ d ∧ d ≤ 3) : bt (mskP m p) d = cif (BL m d p) 1 0 := by
  have h0 := cif_01 (P := BL m 0 p)
  have h1 := cif_01 (P := BL m 1 p)
  have h2 := cif_01 (P := BL m 2 p)
  have h3 := cif_01 (P := BL m 3 p)
  have hd' : d = 0 ∨ d = 1 ∨ d = 2 ∨ d = 3 := by omega
  unfold mskP
  rcases hd' with e | e | e | e <;> subst e <;> simp only [bt_0, bt_1, bt_2, bt_3] <;> omega
theorem mskP_iff {m : Mem} {p d : Int} (hd : 0 ≤ d ∧ d ≤ 3) : bt (mskP m p) d = 0 ↔ ¬ BL m d p := by
  rw [mskP_bt hd]
  by_cases c : BL m d p
  · rw [cif_pos c]; exact ⟨fun z => by omega, fun z => absurd c z⟩
  · rw [cif_neg c]; exact ⟨fun _ => c, fun _ => rfl⟩
theorem mskP_eq {m m' : Mem} (h : m' 34 = m 34) : mskP m' = mskP m := by funext p; unfold mskP; rw [BL_eq h]
def OpA (m : Mem) : Prop := ∀ l, 0 ≤ l → l ≤ 3 → OpR m 19 l (BL m l)
theorem sS_openLayers {Q : AV → Mem → Prop} {c : Int} {m : Mem} (hO : OpA m) (hc : 0 ≤ c ∧ c < 144) (h : Q (.inl (mskP m c)) m) : WP cS_openLayers 0 [.inr (0, 0), .inl c, uu, uu] [] m Q := by
  refine gS_openLayers_0 c m ?_
  have step : ∀ (l v b : Int), 0 ≤ l ∧ l ≤ 3 → 0 ≤ v ∧ v < b → (b = 2 ^ l.toNat ∧ b ≤ 8) → WP cS_openLayers 4 [.inr (0, 0), .inl c, .inl (v + b * cif (BL m l c) 1 0), .inl (l + 1)] [] m Q → WP cS_openLayers 4 [.inr (0, 0), .inl c, .inl v, .inl l] [] m Q := by
    intro l v b hl hv hb hn
    have gg := @gS_openLayers_4 Q c v l m
    rw [Int.zero_add] at gg
    refine gg ⟨fun z => by omega, fun _ => ⟨by omega, hc, fun z => ⟨⟨by omega, by omega⟩, ?_⟩, fun z => ⟨⟨by omega, by omega⟩, ?_⟩⟩⟩
    · have : ¬ BL m l c := by
        rcases hO l hl.1 hl.2 c hc.1 hc.2 with ⟨_, o⟩ | ⟨e, _⟩
        · exact o
        · omega
      rw [cif_neg this, Int.mul_zero, Int.add_zero] at hn
      exact hn
    · have : BL m l c := by
        rcases hO l hl.1 hl.2 c hc.1 hc.2 with ⟨e, _⟩ | ⟨_, o⟩
        · exact absurd e z
        · exact o
      rw [cif_pos this, Int.mul_one] at hn
      have hbt : bt v l = 0 := by
        unfold bt
        rw [← hb.1, Int.ediv_eq_zero_of_lt hv.1 hv.2]
        rfl
      rw [bt_or (by omega) (by omega), hbt, ← hb.1, show (1 - 0) * b = b by omega]
      exact hn
  have h0 := cif_01 (P := BL m 0 c)
  have h1 := cif_01 (P := BL m (0 + 1) c)
  have h2 := cif_01 (P := BL m (0 + 1 + 1) c)
  refine step 0 0 1 (by omega) (by omega) ⟨rfl, by omega⟩ ?_
  refine step (0 + 1) _ 2 (by omega) (by omega) ⟨rfl, by omega⟩ ?_
  refine step (0 + 1 + 1) _ 4 (by omega) (by omega) ⟨rfl, by omega⟩ ?_
  refine step (0 + 1 + 1 + 1) _ 8 (by omega) (by omega) ⟨rfl, by omega⟩ ?_
  refine gS_openLayers_4 c _ _ m ⟨fun _ => ?_, fun z => absurd (by omega) z⟩
  unfold mskP at h
  rw [show (0 : Int) + 1 * cif (BL m 0 c) 1 0 + 2 * cif (BL m (0 + 1) c) 1 0 + 4 * cif (BL m (0 + 1 + 1) c) 1 0 + 8 * cif (BL m (0 + 1 + 1 + 1) c) 1 0 = cif (BL m 0 c) 1 0 + 2 * cif (BL m 1 c) 1 0 + 4 * cif (BL m 2 c) 1 0 + 8 * cif (BL m 3 c) 1 0 by
    show (0 : Int) + 1 * cif (BL m 0 c) 1 0 + 2 * cif (BL m 1 c) 1 0 + 4 * cif (BL m 2 c) 1 0 + 8 * cif (BL m 3 c) 1 0 = _
    omega]
  exact h
def colM (o M : Int) : Int := if bt M (o % 10) = 0 then (if bt M (o / 10 % 10) = 0 then (if bt M (o / 100 % 10) = 0 then (if bt M (o / 1000) = 0 then 0 else o / 1000 + 1) else o / 100 % 10 + 1) else o / 10 % 10 + 1) else o % 10 + 1
theorem colM_colO {m : Mem} {o p : Int} (ho : isOrd o) : colM o (mskP m p) = colO (BL m) o p := by
  obtain ⟨d0, d1, d2, d3, -⟩ := isOrd_dig o ho
  unfold colM colO
  by_cases c3 : BL m (o % 10) p
  · rw [if_neg (fun z => (mskP_iff d3).mp z c3), cif_pos c3]
  · rw [if_pos ((mskP_iff d3).mpr c3), cif_neg c3]
    by_cases c2 : BL m (o / 10 % 10) p
    · rw [if_neg (fun z => (mskP_iff d2).mp z c2), cif_pos c2]
    · rw [if_pos ((mskP_iff d2).mpr c2), cif_neg c2]
      by_cases c1 : BL m (o / 100 % 10) p
      · rw [if_neg (fun z => (mskP_iff d1).mp z c1), cif_pos c1]
      · rw [if_pos ((mskP_iff d1).mpr c1), cif_neg c1]
        by_cases c0 : BL m (o / 1000) p
        · rw [if_neg (fun z => (mskP_iff d0).mp z c0), cif_pos c0]
        · rw [if_pos ((mskP_iff d0).mpr c0), cif_neg c0]
theorem colM_rng {o M : Int} (ho : isOrd o) : 0 ≤ colM o M ∧ colM o M ≤ 4 := by
  obtain ⟨d0, d1, d2, d3, -⟩ := isOrd_dig o ho
  unfold colM
  split
  · split
    · split
      · split <;> omega
      · omega
    · omega
  · omega
theorem sI_colourOf {Q : AV → Mem → Prop} {o M : Int} {m : Mem} (ho : isOrd o) (hM : 0 ≤ M ∧ M < 16) (h : Q (.inl (colM o M)) m) : WP cI_colourOf 0 [.inl o, .inl M, uu, uu, uu] [] m Q := by
  obtain ⟨d0, d1, d2, d3, d4⟩ := isOrd_dig o ho
  have e2 : o / 10 / 10 % 10 = o / 100 % 10 := by omega
  have e3 : o / 10 / 10 / 10 % 10 = o / 1000 := by omega
  have b3 := bt_and (v := M) (x := o % 10) (by omega) (by omega)
  have b2 := bt_and (v := M) (x := o / 10 % 10) (by omega) (by omega)
  have b1 := bt_and (v := M) (x := o / 100 % 10) (by omega) (by omega)
  have b0 := bt_and (v := M) (x := o / 1000) (by omega) (by omega)
  unfold colM at h
  refine gI_colourOf_0 o M m (gI_colourOf_4 o M o 0 uu m ⟨fun z => by omega, fun _ => ⟨by omega, fun z => ⟨by omega, ⟨by omega, by omega⟩, ?_⟩, fun z => ⟨⟨by omega, by omega⟩, ?_⟩⟩⟩)
  · rw [b3] at z
    rw [if_pos z] at h
    refine gI_colourOf_4 o M _ _ _ m ⟨fun z => by omega, fun _ => ⟨by omega, fun z => ⟨by omega, ⟨by omega, by omega⟩, ?_⟩, fun z => ⟨⟨by omega, by omega⟩, ?_⟩⟩⟩
    · rw [b2] at z
      rw [if_pos z] at h
      refine gI_colourOf_4 o M _ _ _ m ⟨fun z => by omega, fun _ => ⟨by omega, ?_⟩⟩
      rw [e2, b1]
      refine ⟨fun z => ⟨by omega, ⟨by omega, by omega⟩, ?_⟩, fun z => ⟨⟨by omega, by omega⟩, ?_⟩⟩
      · rw [if_pos z] at h
        refine gI_colourOf_4 o M _ _ _ m ⟨fun z => by omega, fun _ => ⟨by omega, ?_⟩⟩
        rw [e3, b0]
        refine ⟨fun z => ⟨by omega, ⟨by omega, by omega⟩, ?_⟩, fun z => ⟨⟨by omega, by omega⟩, ?_⟩⟩
        · rw [if_pos z] at h
          exact gI_colourOf_4 o M _ _ _ m ⟨fun _ => h, fun z => absurd (by omega) z⟩
        · rw [if_neg z] at h; exact h
      · rw [if_neg z] at h; exact h
    · rw [b2] at z
      rw [if_neg z] at h; exact h
  · rw [b3] at z
    rw [if_neg z] at h; exact h
noncomputable def talN (m : Mem) (M w : Int) : Int := cP (fun p => ¬ frS m p ∧ mskP m p = M ∧ wiP m p = w) 144
def PicT (m : Mem) : Prop := (∀ M w, 0 ≤ M → M < 16 → 0 ≤ w → w ≤ 4 → m 27 0 (M * 5 + w) = talN m M w) ∧ m 26 0 1 = cP (fun p => ¬ frS m p) 144
theorem sum16 {X : Prop} {k w : Int} {c : Int → Int} (hk : 0 ≤ k ∧ k < 16) : sumN (fun M => cif (X ∧ k = M ∧ w = c M) 1 0) 16 = cif (X ∧ w = c k) 1 0 := by
  have h := sumN_one (P := fun _ => False) (v := fun M => cif (X ∧ w = c M) 1 0) (r := k) 16 hk.1 (fun z => z)
  rw [if_pos (by omega)] at h
  have h0 : sumN (fun M => cif False (cif (X ∧ w = c M) 1 0) 0) 16 = 0 := by
    have : sumN (fun _ => (0 : Int)) 16 = 0 := sumN_zero 16
    exact (sumN_congr 16 (fun M _ _ => cif_neg (fun z => z))).trans this
  rw [h0] at h
  rw [sumN_congr (g := fun M => cif (False ∨ M = k) (cif (X ∧ w = c M) 1 0) 0) 16 (fun M _ _ => ?_), h]
  · omega
  · by_cases e : M = k
    · rw [cif_pos (c := False ∨ M = k) (Or.inr e)]
      by_cases d : X ∧ w = c M
      · rw [cif_pos ⟨d.1, e.symm, d.2⟩, cif_pos d]
      · rw [cif_neg (fun z => d ⟨z.1, z.2.2⟩), cif_neg d]
    · rw [cif_neg (fun z => e z.2.1.symm), cif_neg (c := False ∨ M = k) (fun z => z.elim id e)]
/-- cells that are right, by masks -/
theorem tal_right {m : Mem} {c : Int → Int} : ∀ n : Nat, sumN (fun M => cP (fun p => ¬ frS m p ∧ mskP m p = M ∧ wiP m p = c M) n) 16 = cP (fun p => ¬ frS m p ∧ wiP m p = c (mskP m p)) n
  | 0 => sumN_zero 16
  | n + 1 => by
    have ih := tal_right (m := m) (c := c) n
    have h1 : ∀ (P : Int → Prop), cP P (n + 1) = cP P n + cif (P (n : Int)) 1 0 := fun P => by
      by_cases d : P (n : Int)
      · rw [cP_yes d, cif_pos d]
      · rw [cP_no d, cif_neg d, Int.add_zero]
    rw [sumN_congr (g := fun M => cP (fun p => ¬ frS m p ∧ mskP m p = M ∧ wiP m p = c M) n + cif (¬ frS m (n : Int) ∧ mskP m (n : Int) = M ∧ wiP m (n : Int) = c M) 1 0) 16 (fun M _ _ => h1 _), sumN_add, ih, sum16 mskP_rng, h1]
theorem wrong_right {P R : Int → Prop} : ∀ n : Nat, cP (fun p => P p ∧ ¬ R p) n = cP P n - cP (fun p => P p ∧ R p) n
  | 0 => rfl
  | n + 1 => by
    have ih := wrong_right (P := P) (R := R) n
    by_cases c : P (n : Int)
    · by_cases d : R (n : Int)
      · rw [cP_no (P := fun p => P p ∧ ¬ R p) (fun z => z.2 d), cP_yes c, cP_yes (P := fun p => P p ∧ R p) ⟨c, d⟩, ih]; omega
      · rw [cP_yes (P := fun p => P p ∧ ¬ R p) ⟨c, d⟩, cP_yes c, cP_no (P := fun p => P p ∧ R p) (fun z => d z.2), ih]; omega
    · rw [cP_no (P := fun p => P p ∧ ¬ R p) (fun z => c z.1), cP_no c, cP_no (P := fun p => P p ∧ R p) (fun z => c z.1), ih]
theorem wrn_tal {m : Mem} {o : Int} (ho : isOrd o) : cP (fun p => ¬ frS m p) 144 - sumN (fun M => talN m M (colM o M)) 16 = wrnO m o := by
  unfold wrnO talN
  rw [tal_right (m := m) (c := colM o) 144]
  have h1 := wrong_right (P := fun p => ¬ frS m p) (R := fun p => wiP m p = colM o (mskP m p)) 144
  rw [← h1]
  refine cP_congr 144 (fun p _ _ => ?_)
  rw [colM_colO ho]
  exact ⟨fun z => ⟨z.1, fun w => z.2 w.symm⟩, fun z => ⟨z.1, fun w => z.2 w.symm⟩⟩
theorem sI_wrongBy {Q : AV → Mem → Prop} {o : Int} {m : Mem} (hT : PicT m) (ho : isOrd o) (h : Q (.inl (wrnO m o)) m) : WP cI_wrongBy 0 [.inr (26, 0), .inl o, uu, uu] [] m Q := by
  have hcell := cP_rng (P := fun p => ¬ frS m p) 144
  refine gI_wrongBy_0 o m ?_
  refine loopU (σ := Int) (N := 16) (G := fun (M : Int) (s : Int) => WP cI_wrongBy 4 [.inr (26, 0), .inl o, .inl s, .inl M] [] m Q) (I := fun (M : Int) (s : Int) => s = sumN (fun M => talN m M (colM o M)) M.toNat) ?_ ?_ 0 0 (Int.le_refl 0) (by omega) rfl
  · intro s hs
    have hw := wrnO_rng (m := m) (o := o)
    rw [← wrn_tal ho] at h hw
    refine gI_wrongBy_4 o s _ m ⟨fun _ => ?_, fun z => absurd (by omega) z⟩
    rw [hT.2, hs]
    exact ⟨⟨by show -2147483648 ≤ cP (fun p => ¬ frS m p) 144 - sumN (fun M => talN m M (colM o M)) 16; omega, by show cP (fun p => ¬ frS m p) 144 - sumN (fun M => talN m M (colM o M)) 16 ≤ 2147483647; omega⟩, h⟩
  · intro M s M0 M1 hs hN
    have hc := colM_rng (M := M) ho
    have hb := sumN_bnd (g := fun M => talN m M (colM o M)) (c := 144) M.toNat (fun j _ _ => by have := cP_rng (P := fun p => ¬ frS m p ∧ mskP m p = j ∧ wiP m p = colM o j) 144; unfold talN; omega)
    have ht : 0 ≤ talN m M (colM o M) ∧ talN m M (colM o M) ≤ 144 := by have := cP_rng (P := fun p => ¬ frS m p ∧ mskP m p = M ∧ wiP m p = colM o M) 144; unfold talN; omega
    refine gI_wrongBy_4 o s M m ⟨fun z => by omega, fun _ => ⟨⟨by omega, by omega⟩, sI_colourOf ho ⟨M0, M1⟩ ⟨_, rfl, ⟨by omega, by omega⟩, by omega, ?_⟩⟩⟩
    rw [hT.1 M _ M0 M1 hc.1 hc.2]
    exact ⟨⟨by omega, by omega⟩, ⟨by omega, by omega⟩, hN _ (by rw [sumN_suc M0, hs])⟩
def nxO (j : Int) : Int := ordL.getD j.toNat 3211
theorem nxO_all : ∀ j : Fin 24, (ordL.getD j.val 0 = ordL.getD j.val 3211) ∧ (ordL.getD j.val 3211 ∈ ordL) ∧ ordL.getD j.val 3211 < ordL.getD (j.val + 1) 3211 ∧ ∀ o ∈ ordL, o ≤ ordL.getD j.val 3211 ∨ ordL.getD (j.val + 1) 3211 ≤ o := by decide
theorem nxO_spec {j : Int} (hj : 0 ≤ j ∧ j < 24) : ordL.getD (Int.toNat j) 0 = nxO j ∧ isOrd (nxO j) ∧ nxO j < nxO (j + 1) ∧ ∀ o, nxO j < o → o < nxO (j + 1) → ¬ isOrd o := by
  have h := nxO_all ⟨j.toNat, by omega⟩
  dsimp only at h
  unfold nxO
  rw [show (j + 1).toNat = j.toNat + 1 by omega]
  refine ⟨h.1, h.2.1, h.2.2.1, fun o o0 o1 ho => ?_⟩
  have := h.2.2.2 o ho
  omega
theorem PicT_eq {m m' : Mem} (h34 : m' 34 = m 34) (h27 : m' 27 = m 27) (h1 : m' 26 0 1 = m 26 0 1) : PicT m' ↔ PicT m := by
  unfold PicT talN wiP
  rw [frS_eq h34, mskP_eq h34, h34, h27, h1]
set_option maxHeartbeats 1000000 in
theorem sI_findBest {Q : AV → Mem → Prop} {m : Mem} (hT : PicT m) (h : ∀ m', (∀ q, q ≠ 26 → m' q = m q) → (∀ j, j ≠ 2 → j ≠ 3 → j ≠ 4 → m' 26 0 j = m 26 0 j) → m' 26 0 2 = (bstA m).2.2 → m' 26 0 3 = (bstA m).1 → m' 26 0 4 = (bstA m).2.1 → Q (.inl 0) m') : WP cI_findBest 0 [.inr (26, 0), uu, uu, uu, uu, uu] [] m Q := by
  have hcell := cP_rng (P := fun p => ¬ frS m p) 144
  have hwle : ∀ o, wrnO m o ≤ cP (fun p => ¬ frS m p) 144 := fun o => cP_imp (fun p _ _ hp => hp.1)
  have e1 := hT.2
  refine gI_findBest_0 m ⟨by rw [e1]; exact ⟨by omega, by omega⟩, ?_⟩
  have e2 : nxO 24 = 3211 := by decide
  refine loopU (σ := Mem) (N := 24) (G := fun (j : Int) (s : Mem) => ∀ a4 a5 : AV, WP cI_findBest 24 [.inr (26, 0), .inr (29, 0), .inl 24, .inl j, a4, a5] [] s Q) (I := fun (j : Int) (s : Mem) => (∀ q, q ≠ 26 → s q = m q) ∧ (∀ i, i ≠ 2 → i ≠ 3 → i ≠ 4 → s 26 0 i = m 26 0 i) ∧ ((j = 0 ∧ s 26 0 3 = cP (fun p => ¬ frS m p) 144 + 1) ∨ (1 ≤ j ∧ s 26 0 3 = (bstS (wrnO m) (nxO j).toNat).1 ∧ s 26 0 4 = (bstS (wrnO m) (nxO j).toNat).2.1 ∧ s 26 0 2 = (bstS (wrnO m) (nxO j).toNat).2.2))) ?_ ?_ 0 _ (Int.le_refl 0) (by omega) ⟨fun q hq => by rw [mset_k hq, mset_k hq], fun i i2 i3 i4 => by rw [rd_s i4, rd_s i3], Or.inl ⟨rfl, by rw [rd_s (by decide), mset_i, if_pos rfl, e1]⟩⟩ uu uu
  · rintro s ⟨s1, s2, s3⟩ a4 a5
    refine gI_findBest_24 24 _ a4 a5 s ⟨fun _ => ?_, fun z => absurd (by omega) z⟩
    rcases s3 with ⟨e, -⟩ | ⟨-, r3, r4, r2⟩
    · omega
    · rw [e2] at r3 r4 r2
      exact h s s1 s2 r2 r3 r4
  · rintro j s j0 j1 ⟨s1, s2, s3⟩ hN a4 a5
    obtain ⟨n1, n2, n3, n4⟩ := nxO_spec ⟨j0, j1⟩
    have e34 : s 34 = m 34 := s1 34 (by decide)
    have hTs : PicT s := (PicT_eq e34 (s1 27 (by decide)) (s2 1 (by decide) (by decide) (by decide))).mpr hT
    have hdig := isOrd_dig _ n2
    have hwr := wrnO_rng (m := m) (o := nxO j)
    have hwl := hwle (nxO j)
    -- the next stage
    have enx : bstS (wrnO m) (nxO (j + 1)).toNat = updB (bstS (wrnO m) (nxO j).toNat) (nxO j) (wrnO m (nxO j)) := by
      have ec : (((nxO j).toNat : Nat) : Int) = nxO j := by omega
      rw [show (nxO (j + 1)).toNat = ((nxO j).toNat + 1) + ((nxO (j + 1)).toNat - ((nxO j).toNat + 1)) by omega, bstS_skip _ _ (fun p p0 p1 => n4 p (by omega) (by omega)), bstS_yes (by rw [ec]; exact n2), ec]
    have hb := bstS_rng (w := wrnO m) (fun _ => wrnO_rng) (nxO j).toNat
    have base : j = 0 → bstS (wrnO m) (nxO j).toNat = (1000, 0, -6) := by
      intro e
      have e0 : (nxO j).toNat = 0 + 123 := by rw [e]; decide
      rw [e0]
      exact bstS_skip 123 0 (fun p p0 p1 z => by have := isOrd_dig p z; omega)
    generalize hTT : bstS (wrnO m) (nxO j).toNat = T at *
    have gg := @gI_findBest_24 Q 24 j a4 a5 s
    have n1' : ([123, 132, 213, 231, 312, 321, 1023, 1032, 1203, 1230, 1302, 1320, 2013, 2031, 2103, 2130, 2301, 2310, 3012, 3021, 3102, 3120, 3201, 3210].getD (Int.toNat j) 0 : Int) = nxO j := n1
    rw [n1'] at gg
    refine gg ⟨fun z => by omega, fun _ => ⟨by omega, sI_wrongBy hTs n2 ⟨_, rfl, ?_⟩⟩⟩
    rw [wrnO_eq e34]
    refine ⟨fun z => ?_, fun z => ?_⟩
    · rcases s3 with ⟨e, r3⟩ | ⟨jj, r3, r4, r2⟩
      · omega
      · refine ⟨fun z2 => ⟨⟨by omega, by omega⟩, hN s ⟨s1, s2, Or.inr ⟨by omega, ?_⟩⟩ _ _⟩, fun z2 => ⟨⟨by omega, by omega⟩, ⟨by omega, by omega⟩, hN _ ⟨fun q hq => (mset_k hq).trans (s1 q hq), fun i i2 i3 i4 => by rw [rd_s i4]; exact s2 i i2 i3 i4, Or.inr ⟨by omega, ?_⟩⟩ _ _⟩⟩
        · rw [enx]
          unfold updB
          rw [if_neg (by omega), if_neg (by omega)]
          exact ⟨r3, r4, r2⟩
        · rw [enx]
          unfold updB
          rw [if_neg (by omega), if_pos (by omega)]
          refine ⟨by rw [rd_s (by decide)]; exact r3, by rw [mset_i, if_pos rfl, r4], by rw [rd_s (by decide)]; exact r2⟩
    · have e3 : (mset (mset (mset s 26 0 2 (nxO j)) 26 0 3 (wrnO m (nxO j))) 26 0 4 0) 26 0 3 = wrnO m (nxO j) := by rw [rd_s (by decide), mset_i, if_pos rfl]
      have e4 : (mset (mset (mset s 26 0 2 (nxO j)) 26 0 3 (wrnO m (nxO j))) 26 0 4 0) 26 0 4 = 0 := by rw [mset_i, if_pos rfl]
      rw [e3, e4]
      refine ⟨fun z2 => absurd rfl z2, fun _ => ⟨⟨by omega, by omega⟩, ⟨by omega, by omega⟩, hN _ ⟨fun q hq => by rw [mset_k hq, mset_k hq, mset_k hq, mset_k hq]; exact s1 q hq, fun i i2 i3 i4 => by rw [rd_s i4, rd_s i4, rd_s i3, rd_s i2]; exact s2 i i2 i3 i4, Or.inr ⟨by omega, ?_⟩⟩ _ _⟩⟩
      have hlt : wrnO m (nxO j) < T.1 := by
        rcases s3 with ⟨e, r3⟩ | ⟨jj, r3, r4, r2⟩
        · have hT0 := base e
          rw [hT0]
          show wrnO m (nxO j) < 1000
          omega
        · omega
      rw [enx]
      unfold updB
      rw [if_pos hlt]
      refine ⟨by rw [rd_s (by decide), rd_s (by decide), mset_i, if_pos rfl], by rw [mset_i, if_pos rfl]; rfl, by rw [rd_s (by decide), rd_s (by decide), rd_s (by decide), mset_i, if_pos rfl]⟩
theorem sS_isOrder {Q : AV → Mem → Prop} {o : Int} {m : Mem} (h1 : isOrd o → Q (.inl 1) m) (h0 : ¬ isOrd o → Q (.inl 0) m) : WP cS_isOrder 0 [.inl o, uu, uu, uu, uu] [] m Q := by
  refine gS_isOrder_0 o m ?_
  refine loopU (σ := Unit) (N := 24) (G := fun (j : Int) (_ : Unit) => ∀ a4 : AV, WP cS_isOrder 9 [.inl o, .inr (29, 0), .inl 24, .inl j, a4] [] m Q) (I := fun (j : Int) (_ : Unit) => isOrd o → nxO j ≤ o) ?_ ?_ 0 () (Int.le_refl 0) (by omega) (fun ho => ?_) uu
  · intro _ hs a4
    refine gS_isOrder_9 o 24 _ a4 m ⟨fun _ => h0 (fun w => ?_), fun z => absurd (by omega) z⟩
    have := hs w
    have e2 : nxO 24 = 3211 := by decide
    have := isOrd_dig o w
    omega
  · intro j _ j0 j1 hs hN a4
    obtain ⟨n1, n2, n3, n4⟩ := nxO_spec ⟨j0, j1⟩
    have gg := @gS_isOrder_9 Q o 24 j a4 m
    have n1' : ([123, 132, 213, 231, 312, 321, 1023, 1032, 1203, 1230, 1302, 1320, 2013, 2031, 2103, 2130, 2301, 2310, 3012, 3021, 3102, 3120, 3201, 3210].getD (Int.toNat j) 0 : Int) = nxO j := n1
    rw [n1'] at gg
    refine gg ⟨fun z => by omega, fun _ => ⟨by omega, fun z => ⟨⟨by omega, by omega⟩, hN () (fun ho => ?_) _⟩, fun z => h1 ?_⟩⟩
    · have := hs ho
      refine Classical.byContradiction (fun w => n4 o (by omega) (by omega) ho)
    · rw [← Classical.byContradiction z]; exact n2
  · have := isOrd_dig o ho
    have e : nxO 0 = 123 := by decide
    omega
