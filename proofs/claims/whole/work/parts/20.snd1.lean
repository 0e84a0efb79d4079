/-! The abstract machine and the machine itself: words, values, worlds. -/
def gw : List Cond := lw_tbl.filter goodWord
def inG (w : Cond) : Bool := decide (w ∈ lw_tbl) && goodWord w
theorem inG_mem {w : Cond} (h : inG w = true) : w ∈ gw := by
  simp only [inG, Bool.and_eq_true, decide_eq_true_eq] at h
  exact List.mem_filter.mpr h
theorem gw_good {w : Cond} (h : w ∈ gw) : (w.onTables && w.keeps) = true ∨ ∃ ty, w = .arrayClass ty := good_of_word (List.mem_filter.mp h).2
theorem gw_tbl {w : Cond} (h : w ∈ gw) : w ∈ lw_tbl := (List.mem_filter.mp h).1
/-- a method's words: its code, and all that the tables say -/
def wsO (r : MR) : List Cond := Cond.code r.1 r.2.1 r.2.2.1 r.2.2.2.1 :: gw
theorem wsO_good {r : MR} {big : List Cond} (hb : ∀ w ∈ gw, w ∈ big) (h : Cond.code r.1 r.2.1 r.2.2.1 r.2.2.2.1 ∈ gw) : GoodIn big (wsO r) := by
  intro w hw
  rcases List.mem_cons.mp hw with e | e
  · rw [e]; exact ⟨hb _ h, gw_good h⟩
  · exact ⟨hb _ e, gw_good e⟩
theorem z_rng {z : Int} (h : Rng z) : (Int32.ofInt z).toInt = z := Int32.toInt_ofInt_of_le (by unfold Rng at h; omega) (by unfold Rng at h; omega)
theorem z_rng' (x : Int32) : Rng x.toInt := ⟨by have := x.le_toInt; omega, by have := x.toInt_lt; omega⟩
theorem z_lt {a b : Int} (ha : Rng a) (hb : Rng b) : Int32.ofInt a < Int32.ofInt b ↔ a < b := by rw [Int32.lt_iff_toInt_lt, z_rng ha, z_rng hb]
theorem z_le {a b : Int} (ha : Rng a) (hb : Rng b) : Int32.ofInt a ≤ Int32.ofInt b ↔ a ≤ b := by rw [Int32.le_iff_toInt_le, z_rng ha, z_rng hb]
theorem z_eq {a b : Int} (ha : Rng a) (hb : Rng b) : Int32.ofInt a = Int32.ofInt b ↔ a = b := by rw [← Int32.toInt_inj, z_rng ha, z_rng hb]
theorem z_0 : Int32.ofInt 0 = 0 := rfl
theorem r_0 : Rng 0 := ⟨by decide, by decide⟩
theorem z_cl {j : Int} (h : Rng j) : (Int32.ofInt j).toNatClampNeg = j.toNat := Int32.toNatClampNeg_ofInt_of_le (by unfold Rng at h; omega) (by unfold Rng at h; omega)
theorem z_in {j : Int} {n : Nat} (hr : Rng j) (h0 : 0 ≤ j) (h1 : j < (n : Int)) : vp_in (Int32.ofInt j) n := by
  unfold vp_in
  rw [z_cl hr]
  intro q
  rcases q with q | q
  · have := (z_lt hr r_0).mp q
    omega
  · omega
theorem z_div {a b : Int} (ha : Rng a) (hb : Rng b) (h0 : 0 ≤ a) (h1 : 0 < b) : Int32.ofInt a / Int32.ofInt b = Int32.ofInt (a / b) := by
  have e : a / b = a.tdiv b := by rw [Int.tdiv_eq_ediv_of_nonneg h0]
  rw [e]
  unfold Rng at ha hb
  have em : Int32.minValue.toInt = -2147483648 := rfl
  have eM : Int32.maxValue.toInt = 2147483647 := rfl
  exact (Int32.ofInt_tdiv (by omega) (by omega) (by omega) (by omega)).symm
theorem z_rem {a b : Int} (ha : Rng a) (hb : Rng b) (h0 : 0 ≤ a) (h1 : 0 < b) : Int32.ofInt a - Int32.ofInt a / Int32.ofInt b * Int32.ofInt b = Int32.ofInt (a % b) := by
  rw [z_div ha hb h0 h1, ← Int32.ofInt_mul, ← Int32.ofInt_sub]
  congr 1
  have := Int.emod_add_mul_ediv a b
  rw [Int.mul_comm] at this
  omega
theorem r_div {a b : Int} (ha : Rng a) (h0 : 0 ≤ a) (h1 : 0 < b) : Rng (a / b) := by
  unfold Rng at *
  have h2 : 0 ≤ a / b := Int.ediv_nonneg h0 (by omega)
  have h3 : a / b ≤ a := Int.ediv_le_self b h0
  omega
theorem r_rem {a b : Int} (ha : Rng a) (h0 : 0 ≤ a) (h1 : 0 < b) : Rng (a % b) := by
  unfold Rng at *
  have h2 : 0 ≤ a % b := Int.emod_nonneg a (by omega)
  have h3 := Int.emod_add_mul_ediv a b
  have h4 : 0 ≤ b * (a / b) := Int.mul_nonneg (by omega) (Int.ediv_nonneg h0 (by omega))
  omega
theorem z_nar {v : Int} (h : v = 0 ∨ v = 1) : narrow .boolean (.int (Int32.ofInt v)) = .int (Int32.ofInt v) ∧ vp_nar .boolean (Int32.ofInt v) = Int32.ofInt v ∧ fits .boolean (.int (Int32.ofInt v)) = true := by
  rcases h with rfl | rfl <;> decide
/-- a value of the machine -/
def conV (ad : Nat → Int → Nat) : AV → Value
  | .inl z => .int (Int32.ofInt z)
  | .inr (q, i) => .ref (ad q i)
theorem conV_cat (ad : Nat → Int → Nat) (v : AV) : (conV ad v).category = 1 := by
  rcases v with z | ⟨q, i⟩ <;> rfl
def GV : AV → Prop
  | .inl z => Rng z
  | .inr (q, i) => q = 999 ∨ (q < 900 ∧ 0 ≤ i ∧ i < (cnt q : Int))
def nU : AV → Prop
  | .inl _ => True
  | .inr (q, _) => q < 900
def RngM (m : Mem) : Prop := ∀ q i j, Rng (m q i j)
theorem RngM.set {m : Mem} {q : Nat} {i j v : Int} (h : RngM m) (hv : Rng v) : RngM (mset m q i j v) := by
  intro q' i' j'
  unfold mset
  split
  · show Rng (if i' = i ∧ j' = j then v else m q i' j')
    split
    · exact hv
    · exact h _ _ _
  · exact h _ _ _
theorem RngM.cpy {m : Mem} {q0 q1 : Nat} {i0 i1 sp dp n : Int} (h : RngM m) : RngM (mcpy m q0 i0 sp q1 i1 dp n) := by
  intro q' i' j'
  unfold mcpy
  split
  · show Rng (if i' = i1 ∧ dp ≤ j' ∧ j' < dp + n then m q0 i0 (sp + (j' - dp)) else m q1 i' j')
    split
    · exact h _ _ _
    · exact h _ _ _
  · exact h _ _ _
/-- what the locals of a frame hold -/
def LR (ad : Nat → Int → Nat) (nL : Nat) (ls : List AV) (a : Array Slot) : Prop := a.size = nL ∧ lv_wf a ∧ ls.length = nL ∧ ∀ (k : Nat) (v : AV), ls[k]? = some v → nU v → a[k]? = some (.val (conV ad v))
theorem LR.of_has {ad : Nat → Int → Nat} {nL : Nat} {ls : List AV} {a : Array Slot} {lv : List (Nat × Value)} (h : lv_has a nL lv) (hl : ls.length = nL) (hv : ∀ (k : Nat) (v : AV), ls[k]? = some v → nU v → (k, conV ad v) ∈ lv) : LR ad nL ls a :=
  ⟨h.1, h.2.1, hl, fun k v h1 h2 => h.2.2 (k, conV ad v) (hv k v h1 h2)⟩

def nUb : AV → Bool
  | .inl _ => true
  | .inr (q, _) => Nat.blt q 900
theorem nUb_iff {v : AV} : nUb v = true ↔ nU v := by
  rcases v with z | ⟨q, i⟩
  · simp [nUb, nU]
  · show Nat.blt q 900 = true ↔ q < 900
    rw [Nat.blt_eq]
def lvOf (ad : Nat → Int → Nat) : Nat → List AV → List (Nat × Value)
  | _, [] => []
  | k, v :: r => match nUb v with
    | true => (k, conV ad v) :: lvOf ad (k + 1) r
    | false => lvOf ad (k + 1) r
theorem lvOf_mem {ad : Nat → Int → Nat} : ∀ (ls : List AV) (k0 : Nat) (q : Nat × Value), q ∈ lvOf ad k0 ls ↔ ∃ (k : Nat) (v : AV), ls[k]? = some v ∧ nU v ∧ q = (k0 + k, conV ad v)
  | [], k0, q => by simp [lvOf]
  | v :: r, k0, q => by
    have ih := lvOf_mem (ad := ad) r (k0 + 1) q
    constructor
    · intro h
      unfold lvOf at h
      cases hv : nUb v with
      | true =>
        rw [hv] at h
        rcases List.mem_cons.mp h with e | e
        · exact ⟨0, v, rfl, nUb_iff.mp hv, e⟩
        · obtain ⟨k, w, h1, h2, h3⟩ := ih.mp e
          exact ⟨k + 1, w, by simpa using h1, h2, by rw [h3]; congr 1; omega⟩
      | false =>
        rw [hv] at h
        obtain ⟨k, w, h1, h2, h3⟩ := ih.mp h
        exact ⟨k + 1, w, by simpa using h1, h2, by rw [h3]; congr 1; omega⟩
    · rintro ⟨k, w, h1, h2, h3⟩
      unfold lvOf
      cases k with
      | zero =>
        have e : v = w := by simpa using h1
        subst e
        rw [nUb_iff.mpr h2]
        exact List.mem_cons.mpr (Or.inl h3)
      | succ k =>
        have h4 : q ∈ lvOf ad (k0 + 1) r := ih.mpr ⟨k, w, by simpa using h1, h2, by rw [h3]; congr 1; omega⟩
        cases nUb v with
        | true => exact List.mem_cons_of_mem _ h4
        | false => exact h4
theorem LR.has {ad : Nat → Int → Nat} {nL : Nat} {ls : List AV} {a : Array Slot} (h : LR ad nL ls a) : lv_has a nL (lvOf ad 0 ls) := by
  refine ⟨h.1, h.2.1, fun q hq => ?_⟩
  obtain ⟨k, v, h1, h2, h3⟩ := (lvOf_mem ls 0 q).mp hq
  rw [h3, Nat.zero_add]
  exact h.2.2.2 k v h1 h2
/-- a store into a local -/
theorem LR.put {ad : Nat → Int → Nat} {nL : Nat} {ls : List AV} {a a' : Array Slot} {i : Nat} {v : AV} (h : LR ad nL ls a) (h' : lv_has a' nL ((i, conV ad v) :: (lvOf ad 0 ls).filter (fun q => !(q.1 == i) && !(q.1 + 1 == i && q.2.category == 2)))) : LR ad nL (ls.set i v) a' := by
  refine ⟨h'.1, h'.2.1, by rw [List.length_set]; exact h.2.2.1, fun k w hk hw => ?_⟩
  rw [List.getElem?_set] at hk
  by_cases e : i = k
  · subst e
    rw [if_pos rfl] at hk
    split at hk
    · cases hk
      exact h'.2.2 (i, conV ad v) List.mem_cons_self
    · cases hk
  · rw [if_neg e] at hk
    refine h'.2.2 (k, conV ad w) (List.mem_cons_of_mem _ (List.mem_filter.mpr ⟨(lvOf_mem ls 0 _).mpr ⟨k, w, hk, hw, by rw [Nat.zero_add]⟩, ?_⟩))
    have e2 : ¬ k = i := fun q => e q.symm
    simp [e2, conV_cat]
theorem LR.entry_args (ad : Nat → Int → Nat) : ∀ (vs : List AV) (k0 : Nat) (k : Nat) (v : AV), vs[k]? = some v → (k0 + k, conV ad v) ∈ lv_args k0 (vs.map (conV ad))
  | [], _, k, v, h => by simp at h
  | w :: r, k0, k, v, h => by
    show _ ∈ (k0, conV ad w) :: lv_args (if (conV ad w).category = 2 then k0 + 2 else k0 + 1) (r.map (conV ad))
    rw [conV_cat, if_neg (by decide)]
    cases k with
    | zero =>
      have e : w = v := by simpa using h
      subst e
      exact List.mem_cons_self
    | succ k =>
      have := LR.entry_args ad r (k0 + 1) k v (by simpa using h)
      rw [show k0 + (k + 1) = k0 + 1 + k by omega]
      exact List.mem_cons_of_mem _ this
theorem lg_len (ad : Nat → Int → Nat) : ∀ vs : List AV, (lg_sl (vs.map (conV ad))).length = vs.length
  | [] => rfl
  | w :: r => by
    have ih := lg_len ad r
    unfold lg_sl at *
    simp only [List.map_cons, List.flatMap_cons, List.length_append, List.length_cons]
    rw [conV_cat, if_neg (by decide), ih]
    simp
    omega
theorem LR.entry {ad : Nat → Int → Nat} {vs : List AV} {n : Nat} (h : vs.length ≤ n) : LR ad n (vs ++ List.replicate (n - vs.length) uu) ((lg_sl (vs.map (conV ad)) ++ List.replicate (n - (lg_sl (vs.map (conV ad))).length) Slot.unset).toArray) := by
  have hh := lv_entry (vs.map (conV ad)) (n := n) (by rw [lg_len]; exact h)
  refine LR.of_has hh (by simp; omega) (fun k v hk hv => ?_)
  rw [List.getElem?_append] at hk
  split at hk
  · have := LR.entry_args ad vs 0 k v hk
    rwa [Nat.zero_add] at this
  · have := List.eq_of_mem_replicate (List.mem_of_getElem? hk)
    rw [this] at hv
    exact absurd hv (by show ¬ 999 < 900; decide)
