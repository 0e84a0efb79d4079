/-! The constructors' machine and the machine itself. -/
def conC (b : Nat) : CV → Value
  | .inl z => .int (Int32.ofInt z)
  | .inr none => .null
  | .inr (some k) => .ref (b + k)
theorem conC_cat (b : Nat) (v : CV) : (conC b v).category = 1 := by
  rcases v with z | _ | k <;> rfl
def conE (b : Nat) (cs : Nat → ClassId) : CE → va_E
  | .inl (t, n, f) => .inl (cs t, n, .inl (fun j => Int32.ofInt (f j)))
  | .inr (.inl (t, n, f)) => .inl (cs t, n, .inr (.inr (.inr (.inr (fun j => (f j).map (fun k => b + k))))))
  | .inr (.inr (ci, fs)) => .inr (ci, fs.map (conC b))
def cW (b : Nat) (cs : Nat → ClassId) : Nat → List CE → va_W
  | _, [] => []
  | k, e :: r => (b + k, conE b cs e) :: cW b cs (k + 1) r
theorem cW_get (b : Nat) (cs : Nat → ClassId) : ∀ (ws : List CE) (k0 k : Nat), (cW b cs k0 ws)[k]? = (ws[k]?).map (fun e => (b + (k0 + k), conE b cs e))
  | [], _, _ => by simp [cW]
  | e :: r, k0, 0 => by simp [cW]
  | e :: r, k0, k + 1 => by
    have := cW_get b cs r (k0 + 1) k
    simp only [cW, List.getElem?_cons_succ]
    rw [this, show k0 + 1 + k = k0 + (k + 1) by omega]
theorem cW_at {b : Nat} {cs : Nat → ClassId} {ws : List CE} {k : Nat} {e : CE} (h : ws[k]? = some e) : (cW b cs 0 ws)[k]? = some (b + k, conE b cs e) := by
  rw [cW_get, h, Nat.zero_add]
  rfl
theorem cW_D (b : Nat) (cs : Nat → ClassId) (ws : List CE) : va_D (AB b) (cW b cs 0 ws) := by
  refine ⟨fun i j p q hi hj e => ?_, fun k q hk => ?_⟩
  · rw [cW_get] at hi hj
    cases h1 : ws[i]? with
    | none => rw [h1] at hi; cases hi
    | some x =>
      cases h2 : ws[j]? with
      | none => rw [h2] at hj; cases hj
      | some y =>
        rw [h1] at hi
        rw [h2] at hj
        cases hi
        cases hj
        have e : b + (0 + i) = b + (0 + j) := e
        omega
  · rw [cW_get] at hk
    cases h1 : ws[k]? with
    | none => rw [h1] at hk; cases hk
    | some x =>
      rw [h1] at hk
      cases hk
      exact Nat.le_add_right _ _
theorem cW_set (b : Nat) (cs : Nat → ClassId) (ws : List CE) (k : Nat) (e : CE) : (cW b cs 0 ws).set k (b + k, conE b cs e) = cW b cs 0 (ws.set k e) := by
  apply List.ext_getElem?
  intro j
  rw [List.getElem?_set, cW_get, cW_get, List.getElem?_set]
  have hl : (cW b cs 0 ws).length = ws.length := by
    have : ∀ (ws : List CE) (k : Nat), (cW b cs k ws).length = ws.length := by
      intro ws
      induction ws with
      | nil => intro k; rfl
      | cons e r ih => intro k; simp [cW, ih]
    exact this ws 0
  by_cases c : k = j
  · subst c
    rw [if_pos rfl, if_pos rfl, hl]
    by_cases d : k < ws.length
    · rw [if_pos d, if_pos d, Nat.zero_add]; rfl
    · rw [if_neg d, if_neg d]; rfl
  · rw [if_neg c, if_neg c]
theorem cW_app (b : Nat) (cs : Nat → ClassId) (e : CE) : ∀ (ws : List CE) (k : Nat), cW b cs k (ws ++ [e]) = cW b cs k ws ++ [(b + (k + ws.length), conE b cs e)]
  | [], k => by simp [cW]
  | x :: r, k => by
    have := cW_app b cs e r (k + 1)
    simp only [List.cons_append, cW, this, List.length_cons]
    rw [show k + 1 + r.length = k + (r.length + 1) by omega]
def slE : CE → Nat
  | .inl (_, n, _) => n
  | .inr (.inl (_, n, _)) => n
  | .inr (.inr (_, fs)) => fs.length
def slW : List CE → Nat
  | [] => 0
  | e :: r => slE e + slW r
theorem slW_app (e : CE) : ∀ ws : List CE, slW (ws ++ [e]) = slW ws + slE e
  | [] => by simp [slW]
  | x :: r => by
    have := slW_app e r
    simp only [List.cons_append, slW, this]
    omega
theorem slW_set : ∀ (ws : List CE) (k : Nat) (e e0 : CE), ws[k]? = some e0 → slE e = slE e0 → slW (ws.set k e) = slW ws
  | [], _, _, _, h, _ => by simp at h
  | x :: r, 0, e, e0, h, h2 => by
    have : x = e0 := by simpa using h
    subst this
    simp only [List.set_cons_zero, slW, h2]
  | x :: r, k + 1, e, e0, h, h2 => by
    have := slW_set r k e e0 (by simpa using h) h2
    simp only [List.set_cons_succ, slW, this]
def moreC (r : CR) (ws : List CE) : Prop := match r with
  | .inl (_, _, _, ws') => ws.length ≤ ws'.length ∧ slW ws ≤ slW ws'
  | .inr (.inl (_, _, _, _, _, ws')) => ws' = ws
  | .inr (.inr (.inl ws')) => ws' = ws
  | .inr (.inr (.inr _)) => True
theorem more_same {pc : Nat} {ls st : List CV} {ws : List CE} : moreC (k_nx pc ls st ws) ws := ⟨Nat.le_refl _, Nat.le_refl _⟩
theorem more_app {pc : Nat} {ls st : List CV} {ws : List CE} {e : CE} : moreC (k_nx pc ls st (ws ++ [e])) ws := ⟨by simp, by rw [slW_app]; omega⟩
theorem more_set {pc k : Nat} {ls st : List CV} {ws : List CE} {e e0 : CE} (h : ws[k]? = some e0) (h2 : slE e = slE e0) : moreC (k_nx pc ls st (ws.set k e)) ws := ⟨by rw [List.length_set]; exact Nat.le_refl _, by rw [slW_set ws k e e0 h h2]; exact Nat.le_refl _⟩
set_option maxHeartbeats 2000000 in
theorem stepC_more (I : Instr) (inf : List Nat) (pc len : Nat) (ls st : List CV) (ws : List CE) : moreC (stepC I inf pc len ls st ws) ws := by
  unfold stepC
  split
  all_goals (repeat' (first | exact more_same | exact more_app | exact trivial | exact rfl | (refine more_set (by assumption) ?_; simp [slE]; done) | split))
theorem cF_more : ∀ (n : Nat) (C : List Ent) (pc : Nat) (ls st : List CV) (ws wsF : List CE), cF n C pc ls st ws = some wsF → ws.length ≤ wsF.length ∧ slW ws ≤ slW wsF
  | 0, _, _, _, _, _, _, h => by cases h
  | n + 1, C, pc, ls, st, ws, wsF, h => by
    unfold cF at h
    split at h
    · cases h
    · rename_i I len inf _
      have hm := stepC_more I inf pc len ls st ws
      split at h
      · rename_i pc' ls' st' ws' e
        rw [e] at hm
        have := cF_more n C pc' ls' st' ws' wsF h
        have hm : ws.length ≤ ws'.length ∧ slW ws ≤ slW ws' := hm
        omega
      · rename_i M a pc' ls' st' ws' e
        rw [e] at hm
        have hm : ws' = ws := hm
        subst hm
        split at h
        · rename_i ws2 e2
          have h1 := cF_more n _ _ _ _ _ _ e2
          have h2 := cF_more n C pc' ls' st' ws2 wsF h
          omega
        · cases h
      · rename_i ws' e
        rw [e] at hm
        have hm : ws' = ws := hm
        cases h
        rw [hm]
        exact ⟨Nat.le_refl _, Nat.le_refl _⟩
      · cases h
def toA : CV → AV
  | .inl z => .inl z
  | .inr none => uu
  | .inr (some k) => .inr (0, (k : Int))
def adK (b : Nat) : Nat → Int → Nat := fun _ i => b + i.toNat
def tyO (ci : Nat) : Nat → FieldType := match ci with
  | 0 => tyX0
  | 1 => tyX1
  | 2 => tyX2
  | 3 => tyX3
  | 4 => tyX4
  | 5 => tyX5
  | 6 => tyX6
  | _ => tyX7
theorem tyO_ok : ∀ (ci : Nat) (r : vw_C), vwCl[ci]? = some r → ∀ k, k < r.2.2 → parseFieldDescriptor (r.2.1 k).2.2.1 = some (tyO ci k)
  | 0, _, rfl => tyX0_ok
  | 1, _, rfl => tyX1_ok
  | 2, _, rfl => tyX2_ok
  | 3, _, rfl => tyX3_ok
  | 4, _, rfl => tyX4_ok
  | 5, _, rfl => tyX5_ok
  | 6, _, rfl => tyX6_ok
  | 7, _, rfl => tyX7_ok
def isR : FieldType → Bool
  | .object _ => true
  | .array _ => true
  | _ => false
theorem isR_fit {ty : FieldType} (h : isR ty = true) (a : Nat) : narrow ty (.ref a) = .ref a ∧ fits ty (.ref a) = true ∧ defaultValue ty = .null := by
  cases ty <;> first | (cases h; done) | exact ⟨rfl, rfl, rfl⟩
theorem clK : (List.range 8).all (fun ci => match vwCl[ci]? with
  | some r => Nat.beq r.2.2 (dfl ci).length && Nat.beq r.2.2 (fcdL.getD ci []).length && (List.range r.2.2).all (fun k => decide ((r.2.1 k).1 = ownN ci) && (match fcd ci k, (dfl ci)[k]? with
    | 0, some (.inl z) => decide (z = 0) && decide (tyO ci k = .int) && decide ((r.2.1 k).2.2.2 = false)
    | 1, some (.inl z) => decide (z = 0) && decide (tyO ci k = .boolean) && decide ((r.2.1 k).2.2.2 = false)
    | 2, some (.inr none) => isR (tyO ci k) && decide ((r.2.1 k).2.2.2 = true)
    | _, _ => false))
  | none => false) = true := by decide +kernel
theorem clK_use {ci : Nat} {r : vw_C} (h : vwCl[ci]? = some r) : r.2.2 = (dfl ci).length ∧ r.2.2 = (fcdL.getD ci []).length ∧ ∀ k, k < r.2.2 → (r.2.1 k).1 = ownN ci ∧
    ((fcd ci k = 0 ∧ (dfl ci)[k]? = some (.inl 0) ∧ tyO ci k = .int ∧ (r.2.1 k).2.2.2 = false) ∨ (fcd ci k = 1 ∧ (dfl ci)[k]? = some (.inl 0) ∧ tyO ci k = .boolean ∧ (r.2.1 k).2.2.2 = false) ∨ (fcd ci k = 2 ∧ (dfl ci)[k]? = some (.inr none) ∧ isR (tyO ci k) = true ∧ (r.2.1 k).2.2.2 = true)) := by
  have h8 : ci < 8 := by
    have := (List.getElem?_eq_some_iff.mp h).1
    exact this
  have h1 := List.all_eq_true.mp clK ci (List.mem_range.mpr h8)
  rw [h] at h1
  simp only [Bool.and_eq_true] at h1
  refine ⟨len_eq h1.1.1, len_eq h1.1.2, fun k hk => ?_⟩
  have h2 := List.all_eq_true.mp h1.2 k (List.mem_range.mpr hk)
  rw [Bool.and_eq_true, decide_eq_true_eq] at h2
  refine ⟨h2.1, ?_⟩
  have h3 := h2.2
  split at h3
  · rename_i e1 e2
    simp only [Bool.and_eq_true, decide_eq_true_eq] at h3
    obtain ⟨⟨rfl, h4⟩, h5⟩ := h3
    exact Or.inl ⟨e1, e2, h4, h5⟩
  · rename_i e1 e2
    simp only [Bool.and_eq_true, decide_eq_true_eq] at h3
    obtain ⟨⟨rfl, h4⟩, h5⟩ := h3
    exact Or.inr (Or.inl ⟨e1, e2, h4, h5⟩)
  · rename_i e1 e2
    simp only [Bool.and_eq_true, decide_eq_true_eq] at h3
    exact Or.inr (Or.inr ⟨e1, e2, h3.1, h3.2⟩)
  · cases h3
theorem dfl_ok {ci : Nat} {r : vw_C} (h : vwCl[ci]? = some r) (b : Nat) : ∀ j, j < r.2.2 → defaultValue (tyO ci j) = vp_V ((dfl ci).map (conC b)) j := by
  intro j hj
  unfold vp_V
  rw [List.getD_eq_getElem?_getD, List.getElem?_map]
  rcases ((clK_use h).2.2 j hj).2 with ⟨-, e1, e2, -⟩ | ⟨-, e1, e2, -⟩ | ⟨-, e1, e2, -⟩
  · rw [e1, e2]; rfl
  · rw [e1, e2]; rfl
  · rw [e1, (isR_fit e2 0).2.2]; rfl
