/-! The cells of the two objects as a world of the kit. -/
def csT (cs : Nat → ClassId) : List (ClassId × FieldType) := [(cs 0, .int), (cs 1, .boolean), (cs 2, .object RX5), (cs 3, .object RX4)]
def fv (ad : Nat → Int → Nat) (m : Mem) (q : Nat) (i : Int) : Nat → List (Nat × Nat) → List Value
  | _, [] => []
  | k, (0, _) :: r => .int (Int32.ofInt (m q i (k : Int))) :: fv ad m q i (k + 1) r
  | k, (1, _) :: r => .int (Int32.ofInt (m q i (k : Int))) :: fv ad m q i (k + 1) r
  | k, (q' + 2, 0) :: r => .ref (ad q' i) :: fv ad m q i (k + 1) r
  | k, (q' + 2, _ + 1) :: r => .ref (ad q' 0) :: fv ad m q i (k + 1) r
theorem fv_len (ad : Nat → Int → Nat) (m : Mem) (q : Nat) (i : Int) : ∀ (fs : List (Nat × Nat)) (k : Nat), (fv ad m q i k fs).length = fs.length
  | [], _ => rfl
  | (0, _) :: r, k => congrArg (· + 1) (fv_len ad m q i r (k + 1))
  | (1, _) :: r, k => congrArg (· + 1) (fv_len ad m q i r (k + 1))
  | (q' + 2, 0) :: r, k => congrArg (· + 1) (fv_len ad m q i r (k + 1))
  | (q' + 2, _ + 1) :: r, k => congrArg (· + 1) (fv_len ad m q i r (k + 1))
theorem fv_int (ad : Nat → Int → Nat) (m : Mem) (q : Nat) (i : Int) : ∀ (fs : List (Nat × Nat)) (k0 k a b : Nat), fs[k]? = some (a, b) → a < 2 → (fv ad m q i k0 fs)[k]? = some (.int (Int32.ofInt (m q i ((k0 + k : Nat) : Int))))
  | [], _, _, _, _, h, _ => by simp at h
  | x :: r, k0, 0, a, b, h, ha => by
    have e : x = (a, b) := by simpa using h
    subst e
    match a, ha with
    | 0, _ => rfl
    | 1, _ => rfl
  | x :: r, k0, k + 1, a, b, h, ha => by
    have ih := fv_int ad m q i r (k0 + 1) k a b (by simpa using h) ha
    rw [show k0 + (k + 1) = k0 + 1 + k by omega]
    match x with
    | (0, _) => simpa [fv] using ih
    | (1, _) => simpa [fv] using ih
    | (q' + 2, 0) => simpa [fv] using ih
    | (q' + 2, _ + 1) => simpa [fv] using ih
theorem fv_ref (ad : Nat → Int → Nat) (m : Mem) (q : Nat) (i : Int) : ∀ (fs : List (Nat × Nat)) (k0 k q' b : Nat), fs[k]? = some (q' + 2, b) → (fv ad m q i k0 fs)[k]? = some (.ref (ad q' (if b = 0 then i else 0)))
  | [], _, _, _, _, h => by simp at h
  | x :: r, k0, 0, q', b, h => by
    have e : x = (q' + 2, b) := by simpa using h
    subst e
    match b with
    | 0 => rfl
    | b + 1 => rfl
  | x :: r, k0, k + 1, q', b, h => by
    have ih := fv_ref ad m q i r (k0 + 1) k q' b (by simpa using h)
    match x with
    | (0, _) => simpa [fv] using ih
    | (1, _) => simpa [fv] using ih
    | (q' + 2, 0) => simpa [fv] using ih
    | (q' + 2, _ + 1) => simpa [fv] using ih
theorem mset_at {m : Mem} {q : Nat} {i j v : Int} : mset m q i j v q i j = v := by simp [mset]
theorem mset_ne {m : Mem} {q q' : Nat} {i j v i' j' : Int} (h : ¬ (q' = q ∧ i' = i ∧ j' = j)) : mset m q i j v q' i' j' = m q' i' j' := by
  unfold mset
  split
  · rename_i e
    subst e
    show (if i' = i ∧ j' = j then v else m q' i' j') = _
    rw [if_neg (fun z => h ⟨rfl, z⟩)]
  · rfl
theorem fv_set (ad : Nat → Int → Nat) (m : Mem) (q : Nat) (i v : Int) : ∀ (fs : List (Nat × Nat)) (k0 k a b : Nat), fs[k]? = some (a, b) → a < 2 → fv ad (mset m q i ((k0 + k : Nat) : Int) v) q i k0 fs = (fv ad m q i k0 fs).set k (.int (Int32.ofInt v))
  | [], _, _, _, _, h, _ => by simp at h
  | x :: r, k0, 0, a, b, h, ha => by
    have hr : ∀ (r : List (Nat × Nat)) (k1 : Nat), k0 < k1 → fv ad (mset m q i ((k0 + 0 : Nat) : Int) v) q i k1 r = fv ad m q i k1 r := by
      intro r
      induction r with
      | nil => intro k1 _; rfl
      | cons y r ih =>
        intro k1 h1
        have e1 := ih (k1 + 1) (by omega)
        have e2 : mset m q i ((k0 + 0 : Nat) : Int) v q i (k1 : Int) = m q i (k1 : Int) := mset_ne (fun z => by have := z.2.2; omega)
        match y with
        | (0, _) => simp only [fv, e1, e2]
        | (1, _) => simp only [fv, e1, e2]
        | (q' + 2, 0) => simp only [fv, e1]
        | (q' + 2, _ + 1) => simp only [fv, e1]
    have e : x = (a, b) := by simpa using h
    subst e
    have e3 : mset m q i ((k0 + 0 : Nat) : Int) v q i (k0 : Int) = v := by
      rw [Nat.add_zero]; exact mset_at
    match a, ha with
    | 0, _ => simp only [fv, List.set_cons_zero, hr r (k0 + 1) (by omega), e3]
    | 1, _ => simp only [fv, List.set_cons_zero, hr r (k0 + 1) (by omega), e3]
  | x :: r, k0, k + 1, a, b, h, ha => by
    have ih := fv_set ad m q i v r (k0 + 1) k a b (by simpa using h) ha
    have e0 : k0 + (k + 1) = k0 + 1 + k := by omega
    rw [e0]
    have e2 : mset m q i ((k0 + 1 + k : Nat) : Int) v q i (k0 : Int) = m q i (k0 : Int) := mset_ne (fun z => by have := z.2.2; omega)
    match x with
    | (0, _) => simp only [fv, List.set_cons_succ, ih, e2]
    | (1, _) => simp only [fv, List.set_cons_succ, ih, e2]
    | (q' + 2, 0) => simp only [fv, List.set_cons_succ, ih]
    | (q' + 2, _ + 1) => simp only [fv, List.set_cons_succ, ih]
theorem fv_congr (ad : Nat → Int → Nat) {m m' : Mem} {q : Nat} {i : Int} (h : ∀ j, m q i j = m' q i j) : ∀ (fs : List (Nat × Nat)) (k : Nat), fv ad m q i k fs = fv ad m' q i k fs
  | [], _ => rfl
  | x :: r, k => by
    have ih := fv_congr ad h r (k + 1)
    match x with
    | (0, _) => simp only [fv, ih, h]
    | (1, _) => simp only [fv, ih, h]
    | (q' + 2, 0) => simp only [fv, ih]
    | (q' + 2, _ + 1) => simp only [fv, ih]
def cellOf (ad : Nat → Int → Nat) (cs : Nat → ClassId) (m : Mem) (q : Nat) (i : Int) : va_E := match shp q with
  | .inl (t, n) => .inl (cs t, n, .inl (fun j => Int32.ofInt (m q i (j : Int))))
  | .inr (.inl (ci, fs)) => .inr (ci, fv ad m q i 0 fs)
  | .inr (.inr (.inl (n, q', o, t))) => .inl (cs t, n, .inr (.inr (.inr (.inr (fun j => some (ad q' ((o : Int) + (j : Int))))))))
  | _ => .inr (0, [])
theorem cellOf_congr {ad : Nat → Int → Nat} {cs : Nat → ClassId} {m m' : Mem} {q : Nat} {i : Int} (h : ∀ j, m q i j = m' q i j) : cellOf ad cs m q i = cellOf ad cs m' q i := by
  unfold cellOf
  match shp q with
  | .inl (t, n) => simp only [h]
  | .inr (.inl (ci, fs)) => simp only [fv_congr ad h]
  | .inr (.inr (.inl (n, q', o, t))) => rfl
  | .inr (.inr (.inr _)) => rfl
def wkL : List Nat := [0, 1, 2, 3, 4, 5, 6, 7, 8, 9, 10, 11, 12, 13, 14, 15, 16, 17, 18, 19, 20, 21, 22, 23, 24, 25, 26, 27, 33, 34, 35, 36, 37, 38, 39, 40, 41, 42, 43, 44, 45, 46, 47, 48, 49, 50, 51, 52, 53, 54, 55]
def cellsL : List (Nat × Int) := wkL.flatMap (fun q => (List.range (cnt q)).map (fun i : Nat => (q, (i : Int))))
theorem cellsL_nd : cellsL.Nodup := by decide +kernel
theorem nd_inj {l : List (Nat × Int)} (h : l.Nodup) {x : Nat × Int} {i j : Nat} (hi : l[i]? = some x) (hj : l[j]? = some x) : i = j := by
  obtain ⟨h1, h2⟩ := List.getElem?_eq_some_iff.mp hi
  obtain ⟨h3, h4⟩ := List.getElem?_eq_some_iff.mp hj
  rcases Nat.lt_trichotomy i j with e | e | e
  · exact absurd (h2.trans h4.symm) (List.pairwise_iff_getElem.mp h i j h1 h3 e)
  · exact e
  · exact absurd (h4.trans h2.symm) (List.pairwise_iff_getElem.mp h j i h3 h1 e)
theorem cellsL_mem {q : Nat} {i : Int} : (q, i) ∈ cellsL ↔ q ∈ wkL ∧ 0 ≤ i ∧ i < (cnt q : Int) := by
  unfold cellsL
  rw [List.mem_flatMap]
  constructor
  · rintro ⟨q', h1, h2⟩
    obtain ⟨k, h3, h4⟩ := List.mem_map.mp h2
    cases h4
    have := List.mem_range.mp h3
    exact ⟨h1, by omega, by omega⟩
  · rintro ⟨h1, h2, h3⟩
    exact ⟨q, h1, List.mem_map.mpr ⟨i.toNat, List.mem_range.mpr (by omega), by rw [show ((i.toNat : Nat) : Int) = i by omega]⟩⟩
def hW (ad : Nat → Int → Nat) (cs : Nat → ClassId) (m : Mem) : va_W := cellsL.map (fun c => (ad c.1 c.2, cellOf ad cs m c.1 c.2))
theorem hW_get {ad : Nat → Int → Nat} {cs : Nat → ClassId} (m : Mem) {q : Nat} {i : Int} (h : (q, i) ∈ cellsL) : ∃ k : Nat, cellsL[k]? = some (q, i) ∧ (hW ad cs m)[k]? = some (ad q i, cellOf ad cs m q i) := by
  obtain ⟨k, hk⟩ := List.getElem?_of_mem h
  exact ⟨k, hk, by unfold hW; rw [List.getElem?_map, hk]; rfl⟩
/-- all cells lie apart from each other, from 'base' on -/
def AdOK (ad : Nat → Int → Nat) (base : Nat) : Prop := (∀ c ∈ cellsL, ∀ d ∈ cellsL, ad c.1 c.2 = ad d.1 d.2 → c = d) ∧ ∀ c ∈ cellsL, base ≤ ad c.1 c.2
theorem hW_D {ad : Nat → Int → Nat} {cs : Nat → ClassId} {base : Nat} (h : AdOK ad base) (m : Mem) : va_D (fun q => base ≤ q) (hW ad cs m) := by
  refine ⟨fun i j p q hi hj e => ?_, fun k q hk => ?_⟩
  · unfold hW at hi hj
    rw [List.getElem?_map] at hi hj
    cases hci : cellsL[i]? with
    | none => rw [hci] at hi; cases hi
    | some c =>
      cases hcj : cellsL[j]? with
      | none => rw [hcj] at hj; cases hj
      | some d =>
        rw [hci] at hi
        rw [hcj] at hj
        cases hi
        cases hj
        have e1 : c = d := h.1 c (List.mem_of_getElem? hci) d (List.mem_of_getElem? hcj) e
        subst e1
        exact nd_inj cellsL_nd hci hcj
  · unfold hW at hk
    rw [List.getElem?_map] at hk
    cases hci : cellsL[k]? with
    | none => rw [hci] at hk; cases hk
    | some c =>
      rw [hci] at hk
      cases hk
      exact h.2 c (List.mem_of_getElem? hci)
theorem hW_set {ad : Nat → Int → Nat} {cs : Nat → ClassId} {m m' : Mem} {q : Nat} {i : Int} {k : Nat} (hk : cellsL[k]? = some (q, i)) (ho : ∀ q' i' j, ¬ (q' = q ∧ i' = i) → m' q' i' j = m q' i' j) : (hW ad cs m).set k (ad q i, cellOf ad cs m' q i) = hW ad cs m' := by
  apply List.ext_getElem?
  intro j
  rw [List.getElem?_set]
  by_cases e : k = j
  · subst e
    rw [if_pos rfl]
    have hl : k < (hW ad cs m).length := by unfold hW; rw [List.length_map]; exact (List.getElem?_eq_some_iff.mp hk).1
    rw [if_pos hl]
    unfold hW
    rw [List.getElem?_map, hk]
    rfl
  · rw [if_neg e]
    unfold hW
    rw [List.getElem?_map, List.getElem?_map]
    cases hj : cellsL[j]? with
    | none => rfl
    | some c =>
      have hne : ¬ (c.1 = q ∧ c.2 = i) := by
        intro z
        have e2 : c = (q, i) := Prod.ext z.1 z.2
        rw [e2] at hj
        exact e (nd_inj cellsL_nd hk hj)
      show some (ad c.1 c.2, cellOf ad cs m c.1 c.2) = some (ad c.1 c.2, cellOf ad cs m' c.1 c.2)
      rw [cellOf_congr (fun j => (ho c.1 c.2 j hne).symm)]
theorem mset_off {m : Mem} {q : Nat} {i j v : Int} : ∀ q' i' j', ¬ (q' = q ∧ i' = i) → mset m q i j v q' i' j' = m q' i' j' := fun _ _ _ h => mset_ne (fun z => h ⟨z.1, z.2.1⟩)
theorem mcpy_off {m : Mem} {q0 q1 : Nat} {i0 i1 sp dp n : Int} : ∀ q' i' j', ¬ (q' = q1 ∧ i' = i1) → mcpy m q0 i0 sp q1 i1 dp n q' i' j' = m q' i' j' := by
  intro q' i' j' h
  unfold mcpy
  split
  · rename_i e
    subst e
    show (if i' = i1 ∧ dp ≤ j' ∧ j' < dp + n then m q0 i0 (sp + (j' - dp)) else m q' i' j') = _
    rw [if_neg (fun z => h ⟨rfl, z.1⟩)]
  · rfl
theorem shp_wk : ∀ q, q < 56 → (match shp q with
  | .inr (.inr (.inr _)) => true
  | _ => decide (q ∈ wkL)) = true := by decide +kernel
theorem shp_big {q : Nat} (h : 56 ≤ q) : cnt q = 0 := by
  unfold cnt
  rw [List.getElem?_eq_none (by show 56 ≤ q; exact h)]
  rfl
theorem shp_in {q : Nat} {i : Int} (h0 : 0 ≤ i) (h : i < (cnt q : Int)) (hs : match shp q with
  | .inr (.inr (.inr _)) => False
  | _ => True) : (q, i) ∈ cellsL := by
  have hq : q < 56 := by
    rcases Nat.lt_or_ge q 56 with e | e
    · exact e
    · have := shp_big e; omega
  refine cellsL_mem.mpr ⟨?_, h0, h⟩
  have h2 := shp_wk q hq
  match hq2 : shp q with
  | .inl _ => rw [hq2] at h2; exact of_decide_eq_true h2
  | .inr (.inl _) => rw [hq2] at h2; exact of_decide_eq_true h2
  | .inr (.inr (.inl _)) => rw [hq2] at h2; exact of_decide_eq_true h2
  | .inr (.inr (.inr _)) => rw [hq2] at hs; exact hs.elim
theorem shp_ok {q : Nat} : okS (shp q) = true := by
  unfold shp
  cases h : shpL[q]? with
  | none => rfl
  | some s => exact List.all_eq_true.mp ck_S s (List.mem_of_getElem? h)
/-- the script, as memory has it -/
def ScrOK (L : Nat) (xs : Nat → Int32) (m : Mem) : Prop := m 32 1 0 = (L : Int) ∧ ∀ j : Nat, j < L → m 32 0 (j : Int) = (xs j).toInt
def MemOK (ad : Nat → Int → Nat) (cs : Nat → ClassId) (D : va_G) (L : Nat) (xs : Nat → Int32) (m : Mem) (H : Heap) : Prop := va_P D vwCl (hW ad cs m) H ∧ RngM m ∧ ScrOK L xs m
def valsOf (q : Nat) : List Int := match shp q with
  | .inr (.inr (.inr (.inl vs))) => vs
  | _ => []
/-- what holds of every state: classes, the constant rows, the script, the nest's words -/
def EnvOK (ad : Nat → Int → Nat) (cs : Nat → ClassId) (D : va_G) (L : Nat) (xs : Nat → Int32) (base : Nat) (U : State) : Prop :=
  va_K D vwCl (csT cs) U ∧
  (∀ q, 28 ≤ q → q ≤ 31 → va_Z (statN q).1 (statN q).2 "[I" (.ref (ad q 0)) (fun a => base ≤ a) U U.heap ∧ va_T .int (ad q 0) (valsOf q).length (fun j => .int (Int32.ofInt ((valsOf q).getD j 0))) (fun a => base ≤ a) U U.heap) ∧
  (va_X (ad 32 0) L xs U U.heap ∧ ad 32 0 < U.heap.size ∧ ¬ base ≤ ad 32 0) ∧
  (∀ o, o < 12 → ∀ x ∈ mcp.getD o [], x.2.2 = 3 → va_Nw (cnwd o x) U) ∧
  (∀ o, o < 12 → ∀ x ∈ scp.getD o [], x.2.2 = 1 → va_Nw (snwd o x) U)
theorem EnvOK.go {ad : Nat → Int → Nat} {cs : Nat → ClassId} {D : va_G} {L : Nat} {xs : Nat → Int32} {base : Nat} {s U : State} {locs : List Loc} (h : EnvOK ad cs D L xs base s) (hW : s.WarmedH U.vm) (hS : va_S (fun a => base ≤ a) s.heap U.heap locs) : EnvOK ad cs D L xs base U := by
  obtain ⟨h1, h2, ⟨h3, h4, h5⟩, h6, h7⟩ := h
  refine ⟨va_K.moved hW.alike h1, fun q q1 q2 => ?_, ⟨(h3.kept (hS.2.1 _ h4 h5)).moved hW.alike, Nat.lt_of_lt_of_le h4 hS.1, h5⟩, fun o ho x hx h => va_Nw.warmM hW (h6 o ho x hx h), fun o ho x hx h => va_Nw.warmF hW (h7 o ho x hx h)⟩
  obtain ⟨z1, z2⟩ := h2 q q1 q2
  exact ⟨(z1.kept hS.2.1).moved hW.alike, (z2.kept hS.2.1).moved hW.alike⟩
