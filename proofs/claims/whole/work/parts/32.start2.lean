/-! From the law's entry to its loop: the constructors run, and memory is as it is at first. -/
theorem cm_met {cs : Nat → ClassId} {D : va_G} {base : Nat} (l : Launch) {n M : Nat} {r : MR} (hkr : krec[M]? = some r) {a : List CV} {ws wsF : List CE} (hla : a.length ≤ m_l r) (hcf : cF n (kodeOf M) 0 (a ++ List.replicate (m_l r - a.length) (.inr none)) [] ws = some wsF) :
    Met l (m_y r) (wsO r) (rmK r (wsF.length - ws.length) (slW wsF - slW ws)) (PcK base cs D a ws) (QcK base cs D wsF) (wsF.length - ws.length) (slW wsF - slW ws) (AB base) := by
  have hm1 := cF_more n _ _ _ _ _ _ hcf
  have hq' := krec_q hkr
  have hcls := krec_cls hkr
  have hpl := own_p (o := m_o r) (by omega) (by omega)
  have hnmr := krec_nm hkr
  generalize hmc : wsF.length - ws.length = mc
  generalize hms : slW wsF - slW ws = ms
  refine Met.ofW (cc := m_b r) (maxL := m_l r) (ret := none) (by rw [hcls]; exact hpl.1) (by unfold wsO; rw [show r.2.2.2.1 = none from hq'.2]) ?_
  intro p' e' s' m' args' below' meth' c' s₁ B hml' hv
  obtain ⟨rfl, hE', hP', hsz'⟩ := hv
  have hx' := B.exec
  have hb' := B.bytes
  have hr2 := B.returns
  have hts' := atoms_spec (ws := wsO r) B.pre
  have hown' : s'.vm.findClass (ownN (m_o r)) = some m'.cls := by rw [← hcls]; exact findClass_of_methodNamed B.named
  have hlocks' := B.notSynchronized
  have hnm' : meth'.name = "<init>" := (name_of_methodNamed B.named B.method).1.trans hnmr
  rw [lg_entry_eq]
  have hLR' : LR (adK base) (m_l r) ((a ++ List.replicate (m_l r - a.length) (Sum.inr none : CV)).map toA) ((lg_sl (a.map (conC base)) ++ List.replicate (m_l r - (lg_sl (a.map (conC base))).length) Slot.unset).toArray) := by
    have hlgl : (lg_sl (a.map (conC base))).length = a.length := by
      have : ∀ vs : List CV, (lg_sl (vs.map (conC base))).length = vs.length := by
        intro vs
        induction vs with
        | nil => rfl
        | cons w r ih =>
          unfold lg_sl at *
          simp only [List.map_cons, List.flatMap_cons, List.length_append, List.length_cons]
          rw [conC_cat, if_neg (by decide), ih]
          simp
          omega
      exact this a
    have hh := lv_entry (a.map (conC base)) (n := m_l r) (by rw [hlgl]; exact hla)
    refine LR.of_has hh (by simp; omega) (fun k v hk hv => ?_)
    rw [List.map_append, List.getElem?_append] at hk
    split at hk
    · rw [List.getElem?_map] at hk
      cases hkk : a[k]? with
      | none => rw [hkk] at hk; cases hk
      | some w =>
        rw [hkk] at hk
        cases hk
        have key : ∀ (vs : List CV) (k0 k : Nat) (w : CV), vs[k]? = some w → (k0 + k, conC base w) ∈ lv_args k0 (vs.map (conC base)) := by
          intro vs
          induction vs with
          | nil => intro k0 k w h; simp at h
          | cons x r ih =>
            intro k0 k w h
            show _ ∈ (k0, conC base x) :: lv_args (if (conC base x).category = 2 then k0 + 2 else k0 + 1) (r.map (conC base))
            rw [conC_cat, if_neg (by decide)]
            cases k with
            | zero =>
              have e : x = w := by simpa using h
              subst e
              exact List.mem_cons_self
            | succ k =>
              have := ih (k0 + 1) k w (by simpa using h)
              rw [show k0 + (k + 1) = k0 + 1 + k by omega]
              exact List.mem_cons_of_mem _ this
        have h9 := key _ 0 k w hkk
        rw [Nat.zero_add] at h9
        match w, hv, h9 with
        | .inl z, hv, h9 => exact h9
        | .inr none, hv, h9 => exact absurd hv (by show ¬ 999 < 900; decide)
        | .inr (some q), hv, h9 => exact h9
    · rw [List.map_replicate] at hk
      have := List.eq_of_mem_replicate (List.mem_of_getElem? hk)
      rw [this] at hv
      exact absurd hv (by show ¬ 999 < 900; decide)
  generalize (lg_sl (a.map (conC base)) ++ List.replicate (m_l r - (lg_sl (a.map (conC base))).length) Slot.unset).toArray = arr' at hLR' ⊢
  refine cm_main l n M r hkr p' e' _ s' m' _ below' meth' c' _ wsF ws.length (slW ws) ⟨hx', hb', hml', hown', fun w hw => hts' w (List.mem_cons_of_mem _ hw)⟩ hnm' hE' (by rw [hsz']; exact Nat.le_add_right _ _) (Nat.le_refl _) (Nat.le_refl _) (by show wsF.length ≤ ws.length + mc; omega) (by show slW wsF ≤ slW ws + ms; omega) ?_ 0 _ [] ws arr' s'.heap [] 0 0 hcf hLR' hP' hsz' va_S.rf rfl rfl
  intro pc2 arr2 H2 locs2 ce2 sl2 hd2 hP2 hsz2 hS2 hce2 hsl2
  have e1 : ce2 = mc := by omega
  have e2 : sl2 = ms := by omega
  subst e1
  subst e2
  exact W.vret hx' hb' hr2 (fun t ht2 hW => ⟨⟨(), rfl, trivial, (show va_P D vwCl (cW base cs 0 wsF) t.heap ∧ t.heap.size = base + wsF.length by rw [ht2]; exact ⟨hP2, hsz2⟩)⟩, hS2.F ht2⟩) hS2.2.2 hd2
theorem st_ok {args : Array Value} {s : State} (hgv : (Jvm.Cond.and given_1 narrow_1).before args s = true) (hts : ∀ w ∈ lw_tbl, w.before args s = true) (q : Nat) (h1 : 28 ≤ q) (h2 : q ≤ 31) : ∃ t, va_Z (statN q).1 (statN q).2 "[I" (.ref t) (AB s.heap.size) s s.heap ∧ va_T .int t (valsOf q).length (fun j => .int (Int32.ofInt ((valsOf q).getD j 0))) (AB s.heap.size) s s.heap := by
  have hq : q ∈ [28, 29, 30, 31] := by
    simp only [List.mem_cons, List.not_mem_nil, or_false]
    omega
  have hf := flat_of_before _ hgv
  have hin : ∀ w ∈ stC q, w.before args s = true := fun w hw => hf w (of_decide_eq_true (List.all_eq_true.mp (List.all_eq_true.mp stC_in q hq) w hw))
  have hl := List.all_eq_true.mp stL_in q hq
  simp only [Bool.and_eq_true, decide_eq_true_eq] at hl
  have hN : (valsOf q).length < 2 ^ 31 := by
    have : (valsOf q).length ≤ 1000 := by
      unfold valsOf
      split
      · rename_i vs e
        exact shp_vl q (by omega) vs e
      · simp
    omega
  obtain ⟨t, ht, hT⟩ := va_Tof (tm := stT q) (N := (valsOf q).length) (f := fun j => .int (Int32.ofInt ((valsOf q).getD j 0))) (A := AB s.heap.size) hN (hin _ List.mem_cons_self) (va_eqt (hin _ (List.mem_cons_of_mem _ List.mem_cons_self))) (fun j hj => va_eqt (hin _ (List.mem_append_right _ (List.mem_map.mpr ⟨j, List.mem_range.mpr hj, rfl⟩)))) (fun a ha => Nat.not_le.mpr ha)
  exact ⟨t, va_Zref (hts _ hl.1) (hts _ hl.2) ht (fun a ha => Nat.not_le.mpr ha), hT⟩
/-- the address of a cell -/
def adF (base b : Nat) (tq : Nat → Nat) (q : Nat) (i : Int) : Nat := if q = 32 then b else if 28 ≤ q ∧ q ≤ 31 then tq q else base + posK q i
theorem adF_w {base b : Nat} {tq : Nat → Nat} {q : Nat} {i : Int} (h : (Nat.ble 28 q && Nat.ble q 32) = false) : adF base b tq q i = base + posK q i := by
  have h : ¬ (28 ≤ q ∧ q ≤ 32) := by
    intro z
    rw [Nat.ble_eq_true_of_le z.1, Nat.ble_eq_true_of_le z.2] at h
    cases h
  unfold adF
  rw [if_neg (by omega), if_neg (by omega)]
theorem adF_ok {base b : Nat} {tq : Nat → Nat} : AdOK (adF base b tq) base := by
  have hw : ∀ c ∈ cellsL, adF base b tq c.1 c.2 = base + posK c.1 c.2 := fun c hc => by
    have h1 := List.all_eq_true.mp posK_lt c hc
    simp only [Bool.and_eq_true, Bool.not_eq_true'] at h1
    exact adF_w h1.2
  refine ⟨fun c hc d hd e => ?_, fun c hc => by rw [hw c hc]; exact Nat.le_add_right _ _⟩
  rw [hw c hc, hw d hd] at e
  have e : posK c.1 c.2 = posK d.1 d.2 := by omega
  obtain ⟨i, hi⟩ := List.getElem?_of_mem hc
  obtain ⟨j, hj⟩ := List.getElem?_of_mem hd
  have h1 : (cellsL.map (fun c => posK c.1 c.2))[i]? = some (posK c.1 c.2) := by rw [List.getElem?_map, hi]; rfl
  have h2 : (cellsL.map (fun c => posK c.1 c.2))[j]? = some (posK c.1 c.2) := by rw [List.getElem?_map, hj, e]; rfl
  have hij : i = j := by
    obtain ⟨g1, g2⟩ := List.getElem?_eq_some_iff.mp h1
    obtain ⟨g3, g4⟩ := List.getElem?_eq_some_iff.mp h2
    rcases Nat.lt_trichotomy i j with c0 | c0 | c0
    · exact absurd (g2.trans g4.symm) (List.pairwise_iff_getElem.mp posK_nd i j g1 g3 c0)
    · exact c0
    · exact absurd (g4.trans g2.symm) (List.pairwise_iff_getElem.mp posK_nd j i g3 g1 c0)
  rw [hij, hj] at hi
  exact (Option.some.inj hi).symm
theorem arrV_congr {cA : ClassId} {n : Nat} {f g : Nat → Value} (h : ∀ j, j < n → f j = g j) : arrV cA n f = arrV cA n g := by
  unfold arrV
  congr 1
  apply Array.ext
  · simp
  · intro i h1 h2
    simp only [Array.getElem_ofFn]
    exact h i (by simpa using h1)
theorem m00_w {L : Nat} {xs : Nat → Int32} {q : Nat} {i j : Int} (h : q ≠ 32) : m00 L xs q i j = mInit q i j := by
  unfold m00
  rw [if_neg h]
theorem m00_rng (L : Nat) (xs : Nat → Int32) (hL : L < 2147483648) : RngM (m00 L xs) := by
  intro q i j
  unfold m00
  split
  · split
    · split
      · exact z_rng' _
      · exact r_0
    · split
      · exact ⟨by omega, by omega⟩
      · exact r_0
  · unfold mInit
    split
    · split
      · exact ⟨by decide, by decide⟩
      · exact r_0
    · split
      · exact ⟨by decide, by decide⟩
      · exact r_0
    · exact r_0
theorem m00_scr (L : Nat) (xs : Nat → Int32) : ScrOK L xs (m00 L xs) := by
  refine ⟨?_, fun j hj => ?_⟩
  · unfold m00
    rw [if_pos rfl, if_neg (by decide), if_pos ⟨rfl, rfl⟩]
  · unfold m00
    rw [if_pos rfl, if_pos rfl, if_pos ⟨by omega, by omega⟩]
    rfl
theorem start_P {cs : Nat → ClassId} {D : va_G} {base b : Nat} {tq : Nat → Nat} {L : Nat} {xs : Nat → Int32} {H : Heap} (hP : va_P D vwCl (cW base cs 0 ws4) H) : va_P D vwCl (hW (adF base b tq) cs (m00 L xs)) H := by
  intro k x hx
  unfold hW at hx
  rw [List.getElem?_map] at hx
  cases hck : cellsL[k]? with
  | none => rw [hck] at hx; cases hx
  | some c =>
    rw [hck] at hx
    cases hx
    obtain ⟨q, i⟩ := c
    have hmem := List.mem_of_getElem? hck
    have h1 := List.all_eq_true.mp posK_lt _ hmem
    simp only [Bool.and_eq_true, Bool.not_eq_true'] at h1
    have hq32 : q ≠ 32 := by
      intro z
      rw [z] at h1
      exact absurd h1.2 (by decide)
    have h2 := List.all_eq_true.mp okCells _ hmem
    unfold okCell at h2
    dsimp only at h2
    have had : adF base b tq q i = base + posK q i := adF_w h1.2
    show va_at D vwCl (adF base b tq q i, cellOf (adF base b tq) cs (m00 L xs) q i) H
    rw [had]
    split at h2
    · rename_i t n f t' n' hw hs
      simp only [Bool.and_eq_true] at h2
      obtain ⟨⟨e1, e2⟩, h3⟩ := h2
      have e1 := len_eq e1
      have e2 := len_eq e2
      subst e1
      subst e2
      rw [cell_arr hs]
      have h4 : H[base + posK q i]? = some (vp_cell (cs t) (n, .inl (fun j => Int32.ofInt (f j)))) := hP _ _ (cW_at hw)
      show H[base + posK q i]? = some (vp_cell (cs t) (n, .inl (fun j => Int32.ofInt (m00 L xs q i (j : Int)))))
      rw [h4, vp_cell_i, vp_cell_i]
      refine congrArg some (arrV_congr (fun j hj => ?_))
      have h5 := of_decide_eq_true (List.all_eq_true.mp h3 j (List.mem_range.mpr hj))
      show Value.int (Int32.ofInt (f j)) = Value.int (Int32.ofInt (m00 L xs q i (j : Int)))
      rw [h5, m00_w hq32]
    · rename_i t n f n' q' o t' hw hs
      simp only [Bool.and_eq_true, Bool.not_eq_true'] at h2
      obtain ⟨⟨⟨e1, e2⟩, h3⟩, h6⟩ := h2
      have e1 := len_eq e1
      have e2 := len_eq e2
      subst e1
      subst e2
      rw [cell_refs hs]
      have h4 : H[base + posK q i]? = some (vp_cell (cs t) (n, .inr (.inr (.inr (.inr (fun j => (f j).map (fun k => base + k))))))) := hP _ _ (cW_at hw)
      show H[base + posK q i]? = some (vp_cell (cs t) (n, .inr (.inr (.inr (.inr (fun j => some (adF base b tq q' ((o : Int) + (j : Int)))))))))
      rw [h4, vp_cell_q, vp_cell_q]
      refine congrArg some (arrV_congr (fun j hj => ?_))
      have h5 := of_decide_eq_true (List.all_eq_true.mp h3 j (List.mem_range.mpr hj))
      show va_rf ((f j).map (fun k => base + k)) = va_rf (some (adF base b tq q' ((o : Int) + (j : Int))))
      rw [h5, adF_w h6]
      rfl
    · rename_i ci fs ci' gs hw hs
      simp only [Bool.and_eq_true] at h2
      obtain ⟨⟨e1, e2⟩, h3⟩ := h2
      have e1 := len_eq e1
      have e2 := len_eq e2
      subst e1
      rw [cell_obj hs]
      have h4 : va_at D vwCl (base + posK q i, .inr (ci, fs.map (conC base))) H := hP _ _ (cW_at hw)
      have e3 : fs.map (conC base) = fv (adF base b tq) (m00 L xs) q i 0 gs := by
        apply List.ext_getElem?
        intro k9
        rw [List.getElem?_map]
        cases hf : fs[k9]? with
        | none =>
          have : fs.length ≤ k9 := List.getElem?_eq_none_iff.mp hf
          rw [List.getElem?_eq_none (by rw [fv_len]; omega)]
          rfl
        | some v =>
          have hk9 := (List.getElem?_eq_some_iff.mp hf).1
          have h5 := List.all_eq_true.mp h3 (v, k9) (by
            have : fs.zipIdx[k9]? = some (v, k9) := by rw [List.getElem?_zipIdx, hf]; simp
            exact List.mem_of_getElem? this)
          dsimp only at h5
          split at h5
          · rename_i z b9 hg
            have := fv_int (adF base b tq) (m00 L xs) q i gs 0 k9 0 b9 hg (by decide)
            rw [Nat.zero_add] at this
            rw [this, m00_w hq32]
            show some (Value.int (Int32.ofInt z)) = _
            rw [of_decide_eq_true h5]
          · rename_i z b9 hg
            have := fv_int (adF base b tq) (m00 L xs) q i gs 0 k9 1 b9 hg (by decide)
            rw [Nat.zero_add] at this
            rw [this, m00_w hq32]
            show some (Value.int (Int32.ofInt z)) = _
            rw [of_decide_eq_true h5]
          · rename_i k8 q' hg
            simp only [Bool.and_eq_true, Bool.not_eq_true'] at h5
            rw [fv_ref (adF base b tq) (m00 L xs) q i gs 0 k9 q' 0 hg, if_pos rfl, adF_w h5.2, ← len_eq h5.1]
            rfl
          · rename_i k8 q' b9 hg
            simp only [Bool.and_eq_true, Bool.not_eq_true'] at h5
            rw [fv_ref (adF base b tq) (m00 L xs) q i gs 0 k9 q' (b9 + 1) hg, if_neg (by omega), adF_w h5.2, ← len_eq h5.1]
            rfl
          · cases h5
      rw [← e3]
      exact h4
    · cases h2
