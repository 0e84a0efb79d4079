/-! What stays true between calls. -/
def ShOK (st a ln ws : Int → Int) : Prop :=
  (3 ≤ st 500 ∧ st 500 ≤ 10 ∧ 3 ≤ st 501 ∧ st 501 ≤ 10) ∧ (∀ k, 0 ≤ k → k < 400 → st k = 0 ∨ st k = 1) ∧ (∀ k, 0 ≤ k → k < 100 → 0 ≤ st (400 + k) ∧ st (400 + k) ≤ 4) ∧ a 0 = st 500 ∧ a 1 = st 501 ∧ (∀ l y x, 0 ≤ l → l ≤ 3 → 0 ≤ y → y < 10 → 0 ≤ x → x < 10 → st (100 * l + (10 * y + x)) = bt (ln (l * 10 + y)) x) ∧ (∀ j, 0 ≤ j → j < 40 → 0 ≤ ln j ∧ ln j < 1024) ∧ (∀ j, 0 ≤ j → j < 100 → ws j = st (400 + j)) ∧ ∀ l y x, 0 ≤ l → l ≤ 3 → 0 ≤ y → y < 10 → 0 ≤ x → x < 10 → ¬ (0 ≤ x ∧ x < st 500 ∧ 0 ≤ y ∧ y < st 501) → st (100 * l + (10 * y + x)) = 0
theorem ShOK_congr {st a ln ws st' a' ln' ws' : Int → Int} (h1 : ∀ i, 0 ≤ i → i < 502 → st' i = st i) (h2 : a' 0 = a 0 ∧ a' 1 = a 1) (h3 : ∀ j, 0 ≤ j → j < 40 → ln' j = ln j) (h4 : ∀ j, 0 ≤ j → j < 100 → ws' j = ws j) (h : ShOK st a ln ws) : ShOK st' a' ln' ws' := by
  obtain ⟨b1, b2, b3, b4, b5, b6, b7, b8, b9⟩ := h
  have e0 := h1 500 (by omega) (by omega)
  have e1 := h1 501 (by omega) (by omega)
  refine ⟨by rw [e0, e1]; exact b1, fun k k0 k1 => by rw [h1 k k0 (by omega)]; exact b2 k k0 k1, fun k k0 k1 => by rw [h1 (400 + k) (by omega) (by omega)]; exact b3 k k0 k1, by rw [h2.1, e0]; exact b4, by rw [h2.2, e1]; exact b5, fun l y x l0 l1 y0 y1 x0 x1 => ?_, fun j j0 j1 => by rw [h3 j j0 j1]; exact b7 j j0 j1, fun j j0 j1 => by rw [h4 j j0 j1, h1 (400 + j) (by omega) (by omega)]; exact b8 j j0 j1, fun l y x l0 l1 y0 y1 x0 x1 hn => ?_⟩
  · rw [h1 _ (by omega) (by omega), h3 _ (by omega) (by omega)]; exact b6 l y x l0 l1 y0 y1 x0 x1
  · rw [e0, e1] at hn
    rw [h1 _ (by omega) (by omega)]; exact b9 l y x l0 l1 y0 y1 x0 x1 hn
def Sh (m : Mem) : Prop := ShOK (m 34 0) (m 1 0) (m 2 0) (m 3 0)
theorem Sh.mw {m : Mem} (h : Sh m) : MW m := h.1
theorem Sh.m01 {m : Mem} (h : Sh m) : M01 m := h.2.1
theorem Sh.crel {m : Mem} (h : Sh m) : CRel m := ⟨h.2.2.2.1, h.2.2.2.2.1, h.2.2.2.2.2.1, h.2.2.2.2.2.2.1, h.2.2.2.2.2.2.2.1, h.2.2.2.2.2.2.2.2⟩
def Img (m : Mem) : Prop := (0 ≤ m 0 0 4 ∧ m 0 0 4 < 4) ∧ ∀ k, 0 ≤ k → k ≤ 1 → (m 36 0 k = 0 ∧ bt (m 0 0 4) k = 0) ∨ (m 36 0 k = 1 ∧ bt (m 0 0 4) k = 1 ∧ ShOK (fun i => m 35 0 (502 * k + i)) (m 1 (1 + k)) (m 2 (1 + k)) (m 3 (1 + k)))
def CchL (m : Mem) (l : Int) : Prop := (¬ m 6 l 3 = 0 → CBd m l (OM m l)) ∧ (¬ m 6 l 4 = 0 → ¬ m 6 l 3 = 0 ∧ CKn m l (BO (OM m l)))
def PicOK (m : Mem) : Prop := (∀ l, 0 ≤ l → l ≤ 3 → ¬ m 6 l 3 = 0) ∧ PicT m ∧ m 26 0 2 = (bstA m).2.2 ∧ m 26 0 3 = (bstA m).1 ∧ m 26 0 4 = (bstA m).2.1
def Inv (m : Mem) : Prop := Sh m ∧ Img m ∧ (∀ l, 0 ≤ l → l ≤ 3 → CchL m l) ∧ (¬ m 26 0 5 = 0 → PicOK m)
def CF (m m' : Mem) : Prop := ∀ q, q ≤ 5 ∨ 28 ≤ q → m' q = m q
theorem CF.refl (m : Mem) : CF m m := fun _ _ => rfl
theorem CF.trans {a b c : Mem} (h : CF a b) (h' : CF b c) : CF a c := fun q hq => (h' q hq).trans (h q hq)
theorem Sh_eq {m m' : Mem} (h34 : m' 34 = m 34) (h1 : m' 1 = m 1) (h2 : m' 2 = m 2) (h3 : m' 3 = m 3) : Sh m' ↔ Sh m := by unfold Sh; rw [h34, h1, h2, h3]
theorem Img_eq {m m' : Mem} (h : ∀ q, q ≤ 5 ∨ (34 ≤ q ∧ q ≤ 36) → m' q = m q) : Img m' ↔ Img m := by
  unfold Img
  rw [h 0 (by omega), h 1 (by omega), h 2 (by omega), h 3 (by omega), h 35 (by omega), h 36 (by omega)]
theorem CchL_eq {m m' : Mem} {l : Int} (h34 : m' 34 = m 34) (h6 : m' 6 l = m 6 l) (h : ∀ q, 7 ≤ q → q ≠ 8 → q ≤ 25 → m' q l = m q l) : CchL m' l ↔ CchL m l := by
  unfold CchL
  rw [h6, OM_eq h34, CBd_eq (fun q q0 q1 q2 => h q q0 q1 (by omega)), CKn_eq (fun q q0 q1 => h q (by omega) (by omega) q1)]
theorem PicOK_eq {m m' : Mem} (h34 : m' 34 = m 34) (h6 : ∀ l, m' 6 l 3 = m 6 l 3) (h26 : m' 26 = m 26) (h27 : m' 27 = m 27) : PicOK m' ↔ PicOK m := by
  unfold PicOK
  rw [PicT_eq h34 h27 (by rw [h26]), bstA_eq h34, h26]
  constructor
  · rintro ⟨a, b⟩; exact ⟨fun l l0 l1 => by rw [← h6 l]; exact a l l0 l1, b⟩
  · rintro ⟨a, b⟩; exact ⟨fun l l0 l1 => by rw [h6 l]; exact a l l0 l1, b⟩
theorem Inv.mod {m m' : Mem} (hI : Inv m) (h : mfQ m m') : Inv m' := by
  obtain ⟨a, b, c, d⟩ := hI
  have e34 : m' 34 = m 34 := h 34 (by omega)
  refine ⟨(Sh_eq e34 (h 1 (by omega)) (h 2 (by omega)) (h 3 (by omega))).mpr a, (Img_eq (fun q hq => h q (by omega))).mpr b, fun l l0 l1 => (CchL_eq e34 (by rw [h 6 (by omega)]) (fun q q0 q1 q2 => by rw [h q (by omega)])).mpr (c l l0 l1), fun z => ?_⟩
  rw [h 26 (by omega)] at z
  exact (PicOK_eq e34 (fun l => by rw [h 6 (by omega)]) (h 26 (by omega)) (h 27 (by omega))).mpr (d z)
theorem Inv.plan {m m' : Mem} {l : Int} (hI : Inv m) (hl : 0 ≤ l ∧ l ≤ 3) (hf : FR l ksK m m') (h3 : m' 6 l 3 ≠ 0) (hB : CBd m' l (OM m l)) (hK : ¬ m' 6 l 4 = 0 → CKn m' l (BO (OM m l))) : Inv m' ∧ CF m m' := by
  have cf : CF m m' := fun q hq => hf.1 q (by simp; omega)
  obtain ⟨a, b, c, d⟩ := hI
  have e34 : m' 34 = m 34 := cf 34 (by omega)
  have e26 : m' 26 = m 26 := hf.1 26 (by decide)
  have e27 : m' 27 = m 27 := hf.1 27 (by decide)
  refine ⟨⟨(Sh_eq e34 (cf 1 (by omega)) (cf 2 (by omega)) (cf 3 (by omega))).mpr a, (Img_eq (fun q hq => cf q (by omega))).mpr b, fun k k0 k1 => ?_, fun z => ?_⟩, cf⟩
  · by_cases e : k = l
    · rw [e]
      unfold CchL
      rw [OM_eq e34]
      exact ⟨fun _ => hB, fun z => ⟨h3, hK z⟩⟩
    · exact (CchL_eq e34 (hf.2 6 (by decide) k e) (fun q q0 q1 q2 => hf.2 q q1 k e)).mpr (c k k0 k1)
  · rw [e26] at z
    obtain ⟨p1, p2, p3⟩ := d z
    refine ⟨fun k k0 k1 => ?_, (PicT_eq e34 e27 (by rw [e26])).mpr p2, by rw [bstA_eq e34, e26]; exact p3⟩
    by_cases e : k = l
    · rw [e]; exact h3
    · rw [hf.2 6 (by decide) k e]; exact p1 k k0 k1
theorem iL_bridged {Q : AV → Mem → Prop} {l : Int} {m : Mem} (hI : Inv m) (hl : 0 ≤ l ∧ l ≤ 3) (h : ∀ m', CF m m' → Inv m' → m' 6 l 3 ≠ 0 → (∀ k, m 6 k 3 ≠ 0 → m' 6 k 3 ≠ 0) → m' 26 = m 26 → m' 27 = m 27 → CBd m' l (OM m l) → Q (.inr (6, l)) m') : WP cL_bridged 0 [.inr (6, 0 + l), .inr (1, 0), .inl l] [] m Q := by
  rw [Int.zero_add]
  have hc := hI.2.2.1 l hl.1 hl.2
  refine sL_bridged hI.1.mw hI.1.crel hl hc.1 (fun m' hf h3 h4 hs hB => ?_)
  obtain ⟨a, b⟩ := hI.plan hl (hf.mono (by decide)) h3 hB (fun z => by
    rw [h4] at z
    obtain ⟨z3, hk⟩ := hc.2 z
    rw [hs z3]
    exact hk)
  refine h m' b a h3 (fun k hk => ?_) (hf.1 26 (by decide)) (hf.1 27 (by decide)) hB
  by_cases e : k = l
  · rw [e]; exact h3
  · rw [hf.2 6 (by decide) k e]; exact hk
theorem iL_routed {Q : AV → Mem → Prop} {l : Int} {m : Mem} (hI : Inv m) (hl : 0 ≤ l ∧ l ≤ 3) (h : ∀ m', CF m m' → Inv m' → CKn m' l (BO (OM m l)) → Q (.inr (21, l)) m') : WP cL_routed 0 [.inr (6, 0 + l), .inr (1, 0), .inl l] [] m Q := by
  rw [Int.zero_add]
  have hc := hI.2.2.1 l hl.1 hl.2
  refine sL_routed hI.1.mw hI.1.crel hl hc.1 hc.2 (fun m' hf h3 h4 hB hK => ?_)
  obtain ⟨a, b⟩ := hI.plan hl hf h3 hB (fun _ => hK)
  exact h m' b a hK
theorem sumN_split {f : Int → Int} (a : Nat) : ∀ b : Nat, sumN f (a + b) = sumN f a + sumN (fun x => f ((a : Int) + x)) b
  | 0 => by show sumN f a = sumN f a + 0; omega
  | b + 1 => by
    show sumN f (a + b) + f ((a + b : Nat) : Int) = sumN f a + (sumN (fun x => f ((a : Int) + x)) b + f ((a : Int) + (b : Int)))
    rw [sumN_split a b, show ((a + b : Nat) : Int) = (a : Int) + (b : Int) by omega]
    omega
theorem sumN_rows {f : Int → Int} : ∀ n : Nat, sumN f (10 * n) = sumN (fun y => sumN (fun x => f (10 * y + x)) 10) n
  | 0 => rfl
  | n + 1 => by
    rw [show 10 * (n + 1) = 10 * n + 10 by omega, sumN_split, sumN_rows n]
    show _ = sumN (fun y => sumN (fun x => f (10 * y + x)) 10) n + sumN (fun x => f (10 * (n : Int) + x)) 10
    rw [show ((10 * n : Nat) : Int) = 10 * (n : Int) by omega]
theorem btS_rng {v : Int} : 0 ≤ btS v ∧ btS v ≤ 10 := sumN_01 10 (fun x _ _ => bt_01)
theorem sH_openCells {Q : AV → Mem → Prop} {l : Int} {m : Mem} (hS : Sh m) (hl : 0 ≤ l ∧ l ≤ 3) (h : Q (.inl (cutN m l)) m) : WP cH_openCells 0 [.inr (1, 0), .inl l, uu, uu] [] m Q := by
  have hS' := hS
  obtain ⟨b1, b2, b3, b4, b5, b6, b7, b8, b9⟩ := hS'
  have hrow : ∀ y, 0 ≤ y → y < 10 → sumN (fun x => m 34 0 (100 * l + (10 * y + x))) 10 = btS (m 2 0 (l * 10 + y)) := fun y y0 y1 => sumN_congr 10 (fun x x0 x1 => b6 l y x hl.1 hl.2 y0 y1 x0 (by omega))
  have hcut : cutN m l = sumN (fun y => btS (m 2 0 (l * 10 + y))) (m 34 0 501).toNat := by
    unfold cutN
    rw [show 100 = 10 * 10 by rfl, sumN_rows 10, sumN_congr 10 (fun y y0 y1 => hrow y y0 (by omega)), show 10 = (m 34 0 501).toNat + (10 - (m 34 0 501).toNat) by omega]
    refine sumN_skip _ _ (fun y y0 y1 => ?_)
    rw [← hrow y (by omega) (by omega)]
    have : sumN (fun _ => (0 : Int)) 10 = 0 := sumN_zero 10
    exact (sumN_congr 10 (fun x x0 x1 => b9 l y x hl.1 hl.2 (by omega) (by omega) x0 (by omega) (by omega))).trans this
  refine gH_openCells_0 0 l m ?_
  refine loopU (σ := Int) (N := m 34 0 501) (G := fun (y : Int) (s : Int) => WP cH_openCells 4 [.inr (1, 0), .inl l, .inl s, .inl y] [] m Q) (I := fun (y : Int) (s : Int) => s = sumN (fun y => btS (m 2 0 (l * 10 + y))) y.toNat) ?_ ?_ 0 0 (Int.le_refl 0) (by omega) rfl
  · intro s hs
    refine gH_openCells_4 0 l s _ m ⟨fun _ => ?_, fun z => absurd (by rw [b5]; exact Int.le_refl _) z⟩
    rw [hs, ← hcut]; exact h
  · intro y s y0 y1 hs hN
    have hb := sumN_bnd (g := fun y => btS (m 2 0 (l * 10 + y))) (c := 10) y.toNat (fun j _ _ => btS_rng)
    have hv := btS_rng (v := m 2 0 (l * 10 + y))
    refine gH_openCells_4 0 l s y m ⟨fun z => absurd z (by rw [b5]; omega), fun _ => ⟨⟨by omega, by omega⟩, ⟨by omega, by omega⟩, by omega, sJ_bitCount (b7 _ (by omega) (by omega)) ⟨_, rfl, ⟨by omega, by omega⟩, ⟨by omega, by omega⟩, hN _ (by rw [sumN_suc y0, hs])⟩⟩⟩
theorem sH_wishedCells {Q : AV → Mem → Prop} {m : Mem} (hS : Sh m) (h : Q (.inl (sumN (fun k => if m 34 0 (400 + k) ≤ 0 then 0 else 1) 100)) m) : WP cH_wishedCells 0 [.inr (1, 0), uu, uu, uu, uu, uu] [] m Q := by
  obtain ⟨b1, b2, b3, b4, b5, b6, b7, b8, b9⟩ := hS
  refine gH_wishedCells_0 0 m ?_
  refine loopU (σ := Int) (N := 100) (G := fun (k : Int) (s : Int) => ∀ a5 : AV, WP cH_wishedCells 13 [.inr (1, 0), .inl s, .inr (3, 0), .inl 100, .inl k, a5] [] m Q) (I := fun (k : Int) (s : Int) => s = sumN (fun k => if m 34 0 (400 + k) ≤ 0 then 0 else 1) k.toNat) ?_ ?_ 0 0 (Int.le_refl 0) (by omega) rfl uu
  · intro s hs a5
    refine gH_wishedCells_13 0 s 0 100 _ a5 m ⟨fun _ => ?_, fun z => absurd (by omega) z⟩
    rw [hs]; exact h
  · intro k s k0 k1 hs hN a5
    have hb := sumN_01 (f := fun k => if m 34 0 (400 + k) ≤ 0 then 0 else 1) k.toNat (fun j _ _ => by split <;> omega)
    have gg := @gH_wishedCells_13 Q 0 s 0 100 k a5 m
    rw [b8 k k0 k1] at gg
    refine gg ⟨fun z => by omega, fun _ => ⟨by omega, fun z => ⟨⟨by omega, by omega⟩, hN _ ?_ _⟩, fun z => ⟨⟨by omega, by omega⟩, ⟨by omega, by omega⟩, hN _ ?_ _⟩⟩⟩
    · rw [sumN_suc k0, hs, if_pos z, Int.add_zero]
    · rw [sumN_suc k0, hs, if_neg z]
theorem Inv.few {m : Mem} (hI : Inv m) (l : Int) : cP (RTt (labC (OM m l))) 144 ≤ 101 := RT_few hI.1.mw (labC_ok _) 144 (by omega)
theorem sS_cell {Q : AV → Mem → Prop} {l x y w : Int} {m : Mem} (hI : Inv m) (h : ∀ m', CF m m' → Inv m' → Q (.inl (ansCell m l x y w)) m') : WP cS_cell 0 [.inr (0, 0), .inl l, .inl x, .inl y, .inl w, uu, uu] [] m Q := by
  have hw := hI.1.mw
  have h0 := h m (CF.refl m) hI
  unfold ansCell at h h0
  refine gS_cell_0 l x y w m (sS_isLayer (fun c => ⟨1, rfl, fun _ => ?_, fun z => absurd (by omega) z⟩) (fun c => ⟨0, rfl, fun z => absurd rfl z, fun _ => by rw [cif_neg c] at h0; exact h0⟩))
  rw [cif_pos c] at h h0
  refine sH_hasCell hw hI.1.crel (fun d => ⟨1, rfl, fun z => by omega, fun _ => ?_⟩) (fun d => ⟨0, rfl, fun _ => by rw [cif_neg (fun z => d z.1)] at h0; exact h0, fun z => absurd rfl z⟩)
  refine sS_isWithin (fun e => ⟨1, rfl, fun _ => ⟨fun z => ⟨by omega, ?_⟩, fun z => ?_⟩, fun z => absurd (by omega) z⟩) (fun e => ⟨0, rfl, fun z => absurd rfl z, fun _ => by rw [cif_neg (fun z => e z.2)] at h0; exact h0⟩)
  · rw [cif_pos ⟨d, e⟩, if_neg z] at h
    have hq := inS_pl hw d
    have d' := d
    obtain ⟨w1, w2, w3, w4⟩ := hw
    unfold inS at d'
    refine iL_bridged hI c (fun m1 f1 hI1 _ _ _ _ hB => ⟨l, rfl, sS_placeOf (by omega) (by omega) ⟨_, rfl, fun z1 => ?_, fun z1 => ⟨fun z2 => ?_, fun z2 => ⟨by omega, ?_⟩⟩⟩⟩)
    · have h := h m1 f1 hI1
      rw [if_pos z1] at h
      exact sP_islandAt (hI.few l) hB (by omega) ⟨_, rfl, h⟩
    · have h := h m1 f1 hI1
      rw [if_neg z1, if_pos z2] at h
      exact sP_holeAt (hI.few l) OM_0 hB (by omega) ⟨_, rfl, h⟩
    · have h := h m1 f1 hI1
      rw [if_neg z1, if_neg z2] at h
      rw [hB.2.2.1.2.1 _ (by omega) (by omega)]
      exact h
  · rw [cif_pos ⟨d, e⟩, if_pos (Classical.byContradiction z)] at h0
    have d' := d
    have hw' := hw
    obtain ⟨w1, w2, w3, w4⟩ := hw'
    unfold inS at d'
    refine sH_isOpen hw hI.1.crel c d (fun o => ⟨1, rfl, fun z => by omega, fun _ => ?_⟩) (fun o => ⟨0, rfl, fun _ => ?_, fun z => absurd rfl z⟩)
    · rw [o.2] at h0; exact h0
    · have := hI.1.m01 (100 * l + (10 * y + x)) (by omega) (by omega)
      rcases this with e | e
      · rw [e] at h0; exact h0
      · exact absurd ⟨d, e⟩ o
theorem sS_layer {Q : AV → Mem → Prop} {l w : Int} {m : Mem} (hI : Inv m) (h : ∀ m', CF m m' → Inv m' → Q (.inl (ansLayer m l w)) m') : WP cS_layer 0 [.inr (0, 0), .inl l, .inl w, uu] [] m Q := by
  have h0 := h m (CF.refl m) hI
  unfold ansLayer at h h0
  refine gS_layer_0 l w m (sS_isLayer (fun c => ⟨1, rfl, fun _ => ?_, fun z => absurd (by omega) z⟩) (fun c => ⟨0, rfl, fun z => absurd rfl z, fun _ => by rw [cif_neg c] at h0; exact h0⟩))
  rw [cif_pos c] at h h0
  refine sS_isWithin (fun d => ⟨1, rfl, fun _ => ⟨fun z => ⟨by omega, ?_⟩, fun z => ?_⟩, fun z => absurd (by omega) z⟩) (fun d => ⟨0, rfl, fun z => absurd rfl z, fun _ => ?_⟩)
  · rw [if_neg z] at h
    refine iL_bridged hI c (fun m1 f1 hI1 _ _ _ _ hB => ⟨l, rfl, ?_⟩)
    have h := h m1 f1 hI1
    obtain ⟨⟨-, -, ⟨-, e8, e9⟩, -⟩, ⟨e6, -⟩, ⟨-, -, -, e7, ecel, -⟩, elb⟩ := id hB
    refine ⟨fun z1 => ?_, fun z1 => ⟨fun z2 => ?_, fun z2 => ⟨fun z3 => ?_, fun z3 => ⟨fun z4 => ?_, fun z4 => ⟨fun z5 => ?_, fun z5 => ⟨fun z6 => ?_, fun z6 => ?_⟩⟩⟩⟩⟩⟩
    · rw [if_pos z1] at h; rw [e8]; exact h
    · rw [if_neg z1, if_pos z2] at h; rw [e9]; exact h
    · rw [if_neg z1, if_neg z2, if_pos z3] at h; rw [e7]; exact h
    · rw [if_neg z1, if_neg z2, if_neg z3, if_pos z4] at h; rw [ecel]; exact h
    · rw [if_neg z1, if_neg z2, if_neg z3, if_neg z4, if_pos z5] at h
      exact sB_looseIslands (hI.few l) OM_0 hB ⟨_, rfl, h⟩
    · rw [if_neg z1, if_neg z2, if_neg z3, if_neg z4, if_neg z5, if_pos z6] at h; rw [elb]; exact h
    · rw [if_neg z1, if_neg z2, if_neg z3, if_neg z4, if_neg z5, if_neg z6, if_pos (by omega)] at h; rw [e6]; exact h
  · rw [if_pos (Classical.byContradiction z)] at h0
    exact sH_openCells hI.1 c ⟨_, rfl, h0⟩
  · rw [if_neg (by omega), if_neg (by omega), if_neg (by omega), if_neg (by omega), if_neg (by omega), if_neg (by omega), if_neg (by omega), if_neg (by omega)] at h0
    exact h0
theorem sS_island {Q : AV → Mem → Prop} {l i w : Int} {m : Mem} (hI : Inv m) (h : ∀ m', CF m m' → Inv m' → Q (.inl (ansIsland m l i w)) m') : WP cS_island 0 [.inr (0, 0), .inl l, .inl i, .inl w, uu, uu] [] m Q := by
  have h0 := h m (CF.refl m) hI
  unfold ansIsland at h h0
  refine gS_island_0 l i w m (sS_isLayer (fun c => ⟨1, rfl, fun _ => ?_, fun z => absurd (by omega) z⟩) (fun c => ⟨0, rfl, fun z => absurd rfl z, fun _ => by rw [cif_neg c] at h0; exact h0⟩))
  rw [cif_pos c] at h h0
  refine sS_isWithin (fun d => ⟨1, rfl, fun _ => ⟨by omega, ?_⟩, fun z => absurd (by omega) z⟩) (fun d => ⟨0, rfl, fun z => absurd rfl z, fun _ => by rw [cif_neg d] at h0; exact h0⟩)
  rw [cif_pos d] at h
  have hC := OM_cel (l := l) hI.1.mw
  have hfew := hI.few l
  refine iL_bridged hI c (fun m1 f1 hI1 _ _ _ _ hB => ⟨l, rfl, ?_⟩)
  have h := h m1 f1 hI1
  have hO0 : ¬ OM m l 0 := OM_0
  generalize OM m l = O at *
  have h7 := hB.1.2.2.1.1
  have n0 := (cP_rng (P := RTt (labC O)) 144).1
  refine sP_partOfIsland hfew hB (fun e => ⟨_, rfl, ⟨by omega, by omega⟩, ?_⟩) (fun e => ⟨_, rfl, ⟨by omega, by omega⟩, sS_isWithin (fun y => absurd y.1 (by omega)) (fun _ => ⟨0, rfl, fun z => absurd rfl z, fun _ => by rw [cif_neg e] at h; exact h⟩)⟩)
  rw [cif_pos e] at h
  obtain ⟨p0, p1, hp, hpi⟩ := nthP_spec (P := IR O (labC O)) (n := 144) e.1 e.2
  generalize nthP (IR O (labC O)) i = r at *
  have p1 : r < 144 := p1
  have hrk := rkP_rng (f := labC O) (n := 144) hp.2.1 p0 p1
  obtain ⟨q1, q2, q3, q4⟩ := hB.1.2.2.2 r p0 p1 hp.2.1
  rw [h7]
  refine sS_isWithin (fun _ => ⟨1, rfl, fun z => ⟨fun z1 => ⟨by omega, ?_⟩, fun z1 => ⟨fun z2 => ⟨by omega, ?_⟩, fun z2 => ⟨fun z3 => ⟨by omega, ?_⟩, fun z3 => ⟨fun z4 => ⟨by omega, ?_⟩, fun z4 => ⟨fun z5 => ?_, fun z5 => ?_⟩⟩⟩⟩⟩, fun z => absurd (by omega) z⟩) (fun y => absurd (by omega) y)
  · rw [if_pos z1] at h; rw [q2]; exact h
  · rw [if_neg z1, if_pos z2] at h; rw [q4]; exact h
  · rw [if_neg z1, if_neg z2, if_pos z3] at h; rw [q1]; exact sS_xOf (by omega) ⟨_, rfl, h⟩
  · rw [if_neg z1, if_neg z2, if_neg z3, if_pos z4] at h; rw [q1]; exact sS_yOf (by omega) ⟨_, rfl, h⟩
  · rw [if_neg z1, if_neg z2, if_neg z3, if_neg z4, if_pos z5] at h
    refine sB_isLoose hfew hO0 hB p0 p1 hp (fun lo => ⟨1, rfl, fun z => by omega, fun _ => ?_⟩) (fun lo => ⟨0, rfl, fun _ => ?_, fun z => absurd rfl z⟩)
    · rw [cif_neg lo] at h; exact h
    · rw [cif_pos lo] at h; exact h
  · rw [if_neg z1, if_neg z2, if_neg z3, if_neg z4, if_neg z5] at h
    exact sB_bridgesOf hfew hC hB p0 hp.2.1 ⟨_, rfl, h⟩
theorem sB_isVertical {Q : AV → Mem → Prop} {k : Int} {m : Mem} (hk : 0 ≤ k) (h : Q (.inl (k / 144 % 2)) m) : WP cB_isVertical 0 [.inl k] [] m Q := by
  refine gB_isVertical_0 k m (sB_stepOf hk ⟨_, rfl, fun z => ?_, fun z => ?_⟩)
  · have : k / 144 % 2 = 0 := by
      refine Classical.byContradiction (fun w => z ?_)
      unfold stp
      rw [if_neg w]
    rw [this] at h; exact h
  · have : k / 144 % 2 = 1 := by
      refine Classical.byContradiction (fun w => z (fun e => ?_))
      unfold stp at e
      rw [if_pos (by omega)] at e
      omega
    rw [this] at h; exact h
theorem sS_bridge {Q : AV → Mem → Prop} {l b w : Int} {m : Mem} (hI : Inv m) (h : ∀ m', CF m m' → Inv m' → Q (.inl (ansBridge m l b w)) m') : WP cS_bridge 0 [.inr (0, 0), .inl l, .inl b, .inl w, uu, uu] [] m Q := by
  have h0 := h m (CF.refl m) hI
  unfold ansBridge at h h0
  refine gS_bridge_0 l b w m (sS_isLayer (fun c => ⟨1, rfl, fun _ => ?_, fun z => absurd (by omega) z⟩) (fun c => ⟨0, rfl, fun z => absurd rfl z, fun _ => by rw [cif_neg c] at h0; exact h0⟩))
  rw [cif_pos c] at h h0
  refine sS_isWithin (fun d => ⟨1, rfl, fun _ => ⟨by omega, ?_⟩, fun z => absurd (by omega) z⟩) (fun d => ⟨0, rfl, fun z => absurd rfl z, fun _ => by rw [cif_neg d] at h0; exact h0⟩)
  rw [cif_pos d] at h
  have hC := OM_cel (l := l) hI.1.mw
  have hfew := hI.few l
  refine iL_bridged hI c (fun m1 f1 hI1 _ _ _ _ hB => ⟨l, rfl, ?_⟩)
  have h := h m1 f1 hI1
  generalize OM m l = O at *
  obtain ⟨n0, n1, e7, hb⟩ := hB.few hC
  refine ⟨⟨by omega, by omega⟩, sS_isWithin (fun e => ⟨1, rfl, fun _ => ⟨by omega, ?_⟩, fun z => absurd (by omega) z⟩) (fun e => ⟨0, rfl, fun z => absurd rfl z, fun _ => by rw [cif_neg (by rw [← e7]; omega)] at h; exact h⟩)⟩
  rw [cif_pos (by rw [← e7]; omega)] at h
  obtain ⟨b1, b2, b3, b4⟩ := hb b (by omega) (by omega)
  have hgeo := run_geo hC b2
  rw [b1]
  generalize (brA O).2.2.2 b = k at *
  refine ⟨fun z => ?_, fun z => ⟨fun z1 => ?_, fun z1 => ⟨fun z2 => ?_, fun z2 => ⟨fun z3 => ?_, fun z3 => ⟨fun z4 => ?_, fun z4 => ?_⟩⟩⟩⟩⟩
  · rw [if_pos z] at h; exact sB_startOf b3 ⟨_, rfl, sS_xOf (by omega) ⟨_, rfl, h⟩⟩
  · rw [if_neg z, if_pos z1] at h; exact sB_startOf b3 ⟨_, rfl, sS_yOf (by omega) ⟨_, rfl, h⟩⟩
  · rw [if_neg z, if_neg z1, if_pos z2] at h; exact sB_lengthOf b3 ⟨_, rfl, h⟩
  · rw [if_neg z, if_neg z1, if_neg z2, if_pos z3] at h
    refine sB_isVertical b3 ⟨_, rfl, fun y => ?_, fun y => ?_⟩
    · rw [y] at h; exact h
    · rw [show k / 144 % 2 = 1 by omega] at h; exact h
  · rw [if_neg z, if_neg z1, if_neg z2, if_neg z3, if_pos z4] at h
    exact sB_placeBefore b3 ⟨_, rfl, sP_islandAt hfew hB hgeo.2.2.2.1 ⟨_, rfl, h⟩⟩
  · rw [if_neg z, if_neg z1, if_neg z2, if_neg z3, if_neg z4] at h
    exact sB_placeAfter (by omega) ⟨_, rfl, sP_islandAt hfew hB hgeo.2.2.2.2.1 ⟨_, rfl, h⟩⟩
theorem sS_knife {Q : AV → Mem → Prop} {l w : Int} {m : Mem} (hI : Inv m) (h : ∀ m', CF m m' → Inv m' → Q (.inl (ansKnife m l w)) m') : WP cS_knife 0 [.inr (0, 0), .inl l, .inl w, uu] [] m Q := by
  have h0 := h m (CF.refl m) hI
  unfold ansKnife at h h0
  refine gS_knife_0 l w m (sS_isLayer (fun c => ⟨1, rfl, fun _ => ?_, fun z => absurd (by omega) z⟩) (fun c => ⟨0, rfl, fun z => absurd rfl z, fun _ => by rw [cif_neg c] at h0; exact h0⟩))
  rw [cif_pos c] at h h0
  refine sS_isWithin (fun d => ⟨1, rfl, fun _ => ⟨by omega, ?_⟩, fun z => absurd (by omega) z⟩) (fun d => ⟨0, rfl, fun z => absurd rfl z, fun _ => by rw [cif_neg d] at h0; exact h0⟩)
  rw [cif_pos d] at h
  refine iL_routed hI c (fun m1 f1 hI1 hK => ⟨l, rfl, ?_⟩)
  have h := h m1 f1 hI1
  obtain ⟨-, e7, e6, -, e8, -⟩ := hK
  refine ⟨fun z => ?_, fun z => ⟨fun z1 => ?_, fun z1 => ?_⟩⟩
  · rw [if_pos z] at h; rw [e6]; exact h
  · rw [if_neg z, if_pos z1] at h; rw [e7]; exact h
  · rw [if_neg z, if_neg z1] at h; rw [e8]; exact h
theorem sS_loop {Q : AV → Mem → Prop} {l k w : Int} {m : Mem} (hI : Inv m) (h : ∀ m', CF m m' → Inv m' → Q (.inl (ansLoop m l k w)) m') : WP cS_loop 0 [.inr (0, 0), .inl l, .inl k, .inl w, uu, uu, uu] [] m Q := by
  have h0 := h m (CF.refl m) hI
  unfold ansLoop at h h0
  refine gS_loop_0 l k w m (sS_isLayer (fun c => ⟨1, rfl, fun _ => ?_, fun z => absurd (by omega) z⟩) (fun c => ⟨0, rfl, fun z => absurd rfl z, fun _ => by rw [cif_neg c] at h0; exact h0⟩))
  rw [cif_pos c] at h h0
  refine sS_isWithin (fun d => ⟨1, rfl, fun _ => ⟨by omega, ?_⟩, fun z => absurd (by omega) z⟩) (fun d => ⟨0, rfl, fun z => absurd rfl z, fun _ => by rw [cif_neg d] at h0; exact h0⟩)
  rw [cif_pos d] at h
  have hC := BO_cel (l := l) hI.1.mw
  refine iL_routed hI c (fun m1 f1 hI1 hK => ⟨l, rfl, ?_⟩)
  have h := h m1 f1 hI1
  generalize BO (OM m l) = B at *
  have hg := labE_ok hC
  have h36 : lpN B ≤ 36 := LRt_36 hC hg
  have hn0 : 0 ≤ lpN B := (cP_rng (P := LRt B (labEC B)) 144).1
  obtain ⟨e22, e7, -, e23, -, e25⟩ := hK
  refine ⟨⟨by omega, by omega⟩, sS_isWithin (fun e => ⟨1, rfl, fun _ => ⟨by omega, ?_⟩, fun z => absurd (by omega) z⟩) (fun e => ⟨0, rfl, fun z => absurd rfl z, fun _ => by rw [cif_neg (by rw [← e7]; omega)] at h; exact h⟩)⟩
  rw [cif_pos (by rw [← e7]; omega)] at h
  have eW : wayA B = wayS B (labEC B) (lpN B).toNat := by unfold wayA lpN; rfl
  have hN0 : cP (LRt B (labEC B)) 144 = lpN B := by unfold lpN; rfl
  have hwok := wayS_ok hC hg (lpN B).toNat (by rw [hN0]; omega)
  obtain ⟨-, -, -, -, w5, -, -⟩ := hwok
  have hE : hasE B ((wayA B).2.2.2 k) := by rw [eW]; exact w5 k e.1 (by omega)
  rw [e25 k e.1 (by omega)]
  generalize (wayA B).2.2.2 k = cc at *
  have hgeo := hasE_geo hC hE
  have hroot : LRt B (labEC B) (labEC B cc) := ⟨hg.root hE, hg.idem hE⟩
  have hrk : 0 ≤ rkE B (labEC B) (labEC B cc) ∧ rkE B (labEC B) (labEC B cc) < lpN B := rkE_rng hC hroot
  refine sK_loopOf hC hg (e7.trans hN0.symm) (by rw [hN0]; exact h36) e22 (by omega) (fun _ => ⟨_, rfl, fun _ => ⟨fun z => ?_, fun z => ⟨fun z1 => ⟨by omega, ?_⟩, fun z1 => ⟨fun z2 => ?_, fun z2 => ?_⟩⟩⟩, fun z => absurd (show ¬ rkE B (labEC B) (labEC B cc) = -6 by omega) z⟩) (fun z => absurd hE z)
  · rw [if_pos z] at h; exact h
  · rw [if_neg z, if_pos z1] at h; rw [e23 _ hroot]; exact h
  · rw [if_neg z, if_neg z1, if_pos z2] at h; exact sS_xOf (by omega) ⟨_, rfl, h⟩
  · rw [if_neg z, if_neg z1, if_neg z2] at h; exact sS_yOf (by omega) ⟨_, rfl, h⟩
