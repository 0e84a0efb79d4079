/-! What a step of the abstract machine asks, instruction by instruction. -/
section INV
variable {S : Nat → Shp} {ls st : List AV} {m : Mem} {k pc t ci : Nat} {nx : Nat → List AV → List AV → Mem → Prop} {cl : Nat → List AV → Mem → (AV → Mem → Prop) → Prop} {rt : AV → Mem → Prop}
theorem i_load (h : runSR (r_load ls k pc st m) nx cl rt) : ∃ x, ls[k]? = some (.inl x) ∧ nx pc ls (.inl x :: st) m := by
  unfold r_load at h
  split at h
  · rename_i x e
    exact ⟨x, e, h⟩
  · exact h.elim
theorem i_aload (h : runSR (r_aload ls k pc st m) nx cl rt) : ∃ q i, ls[k]? = some (.inr (q, i)) ∧ q < 900 ∧ nx pc ls (.inr (q, i) :: st) m := by
  unfold r_aload at h
  split at h
  · rename_i q i e
    split at h
    · rename_i e2
      exact ⟨q, i, e, by rw [Nat.blt_eq] at e2; exact e2, h⟩
    · exact h.elim
  · exact h.elim
theorem i_store (h : runSR (r_store ls k pc st m) nx cl rt) : ∃ x st', st = .inl x :: st' ∧ nx pc (ls.set k (.inl x)) st' m := by
  unfold r_store at h
  split at h
  · rename_i x st' 
    exact ⟨x, st', rfl, h⟩
  · exact h.elim
theorem i_astore (h : runSR (r_astore ls k pc st m) nx cl rt) : ∃ q st', st = .inr q :: st' ∧ nx pc (ls.set k (.inr q)) st' m := by
  unfold r_astore at h
  split at h
  · rename_i x st' 
    exact ⟨x, st', rfl, h⟩
  · exact h.elim
theorem i_iinc {n : Int} (h : runSR (r_iinc ls k n pc st m) nx cl rt) : ∃ x, ls[k]? = some (.inl x) ∧ Rng (x + n) ∧ nx pc (ls.set k (.inl (x + n))) st m := by
  unfold r_iinc at h
  split at h
  · rename_i x e
    exact ⟨x, e, h.1, h.2⟩
  · exact h.elim
theorem i_op2g {f : Int → Int → Int} {g : Int → Int → Prop} (h : runSR (r_op2g f g ls pc st m) nx cl rt) : ∃ a b st', st = .inl b :: .inl a :: st' ∧ g a b ∧ nx pc ls (.inl (f a b) :: st') m := by
  unfold r_op2g at h
  split at h
  · rename_i b a st'
    exact ⟨a, b, st', rfl, h.1, h.2⟩
  · exact h.elim
theorem i_op2 {f : Int → Int → Int} (h : runSR (r_op2 f ls pc st m) nx cl rt) : ∃ a b st', st = .inl b :: .inl a :: st' ∧ nx pc ls (.inl (f a b) :: st') m := by
  unfold r_op2 at h
  split at h
  · rename_i b a st'
    exact ⟨a, b, st', rfl, h⟩
  · exact h.elim
theorem i_get (h : runSR (r_get S ci ls k pc st m) nx cl rt) : ∃ q i st' fs, st = .inr (q, i) :: st' ∧ S q = .inr (.inl (ci, fs)) ∧
    ((∃ a b, fs[k]? = some (a, b) ∧ a < 2 ∧ nx pc ls (.inl (m q i (k : Int)) :: st') m) ∨ (∃ q' b, fs[k]? = some (q' + 2, b) ∧ nx pc ls (.inr (q', if b = 0 then i else 0) :: st') m)) := by
  unfold r_get at h
  split at h
  · rename_i q i st'
    split at h
    · rename_i ci' fs e
      split at h
      · rename_i e2
        have e3 := Nat.eq_of_beq_eq_true e2
        subst e3
        refine ⟨q, i, st', fs, rfl, e, ?_⟩
        split at h
        · rename_i b e4
          exact Or.inl ⟨0, b, e4, by decide, h⟩
        · rename_i b e4
          exact Or.inl ⟨1, b, e4, by decide, h⟩
        · rename_i q' e4
          exact Or.inr ⟨q', 0, e4, h⟩
        · rename_i q' b e4
          exact Or.inr ⟨q', b + 1, e4, h⟩
        · exact h.elim
      · exact h.elim
    · exact h.elim
  · exact h.elim
theorem i_put (h : runSR (r_put S ci ls k pc st m) nx cl rt) : ∃ v q i st' fs a b, st = .inl v :: .inr (q, i) :: st' ∧ S q = .inr (.inl (ci, fs)) ∧ fs[k]? = some (a, b) ∧ (a = 0 ∨ (a = 1 ∧ (v = 0 ∨ v = 1))) ∧ nx pc ls st' (mset m q i (k : Int) v) := by
  unfold r_put at h
  split at h
  · rename_i v q i st'
    split at h
    · rename_i ci' fs e
      split at h
      · rename_i e2
        have e3 := Nat.eq_of_beq_eq_true e2
        subst e3
        split at h
        · rename_i b e4
          exact ⟨v, q, i, st', fs, 0, b, rfl, e, e4, Or.inl rfl, h⟩
        · rename_i b e4
          exact ⟨v, q, i, st', fs, 1, b, rfl, e, e4, Or.inr ⟨rfl, h.1⟩, h.2⟩
        · exact h.elim
      · exact h.elim
    · exact h.elim
  · exact h.elim
theorem i_ald (h : runSR (r_ald S t ls pc st m) nx cl rt) : ∃ j q i st', st = .inl j :: .inr (q, i) :: st' ∧
    ((∃ n, S q = .inl (t, n) ∧ (0 ≤ j ∧ j < (n : Int)) ∧ nx pc ls (.inl (m q i j) :: st') m) ∨ (∃ vs, S q = .inr (.inr (.inr (.inl vs))) ∧ t = 0 ∧ (0 ≤ j ∧ j < (vs.length : Int)) ∧ nx pc ls (.inl (vs.getD j.toNat 0) :: st') m) ∨ (q = 32 ∧ t = 0 ∧ (0 ≤ j ∧ j < m 32 1 0) ∧ nx pc ls (.inl (m 32 0 j) :: st') m)) := by
  unfold r_ald at h
  split at h
  · rename_i j q i st'
    refine ⟨j, q, i, st', rfl, ?_⟩
    split at h
    · rename_i t' n e
      split at h
      · rename_i e2
        have e3 := Nat.eq_of_beq_eq_true e2
        subst e3
        exact Or.inl ⟨n, e, h.1, h.2⟩
      · exact h.elim
    · rename_i vs e
      split at h
      · rename_i e2
        have e3 := Nat.eq_of_beq_eq_true e2
        exact Or.inr (Or.inl ⟨vs, e, e3, h.1, h.2⟩)
      · exact h.elim
    · split at h
      · rename_i e2
        rw [Bool.and_eq_true] at e2
        exact Or.inr (Or.inr ⟨Nat.eq_of_beq_eq_true e2.2, Nat.eq_of_beq_eq_true e2.1, h.1, h.2⟩)
      · exact h.elim
    · exact h.elim
  · exact h.elim
theorem i_ast (h : runSR (r_ast S t ls pc st m) nx cl rt) : ∃ v j q i st' n, st = .inl v :: .inl j :: .inr (q, i) :: st' ∧ S q = .inl (t, n) ∧ (0 ≤ j ∧ j < (n : Int)) ∧ (t = 0 ∨ (v = 0 ∨ v = 1)) ∧ nx pc ls st' (mset m q i j v) := by
  unfold r_ast at h
  split at h
  · rename_i v j q i st'
    split at h
    · rename_i t' n e
      split at h
      · rename_i e2
        have e3 := Nat.eq_of_beq_eq_true e2
        subst e3
        split at h
        · exact ⟨v, j, q, i, st', n, rfl, e, h.1, Or.inl rfl, h.2⟩
        · exact ⟨v, j, q, i, st', n, rfl, e, h.1.1, Or.inr h.1.2, h.2⟩
      · exact h.elim
    · exact h.elim
  · exact h.elim
theorem i_aald (h : runSR (r_aald S ls pc st m) nx cl rt) : ∃ j q i st' n q' o tt, st = .inl j :: .inr (q, i) :: st' ∧ S q = .inr (.inr (.inl (n, q', o, tt))) ∧ (0 ≤ j ∧ j < (n : Int)) ∧ nx pc ls (.inr (q', (o : Int) + j) :: st') m := by
  unfold r_aald at h
  split at h
  · rename_i j q i st'
    split at h
    · rename_i n q' o tt e
      exact ⟨j, q, i, st', n, q', o, tt, rfl, e, h.1, h.2⟩
    · exact h.elim
  · exact h.elim
theorem i_alen (h : runSR (r_alen S ls pc st m) nx cl rt) : ∃ q i st', st = .inr (q, i) :: st' ∧
    ((∃ tt n, S q = .inl (tt, n) ∧ nx pc ls (.inl (n : Int) :: st') m) ∨ (∃ vs, S q = .inr (.inr (.inr (.inl vs))) ∧ nx pc ls (.inl (vs.length : Int) :: st') m) ∨ (q = 32 ∧ nx pc ls (.inl (m 32 1 0) :: st') m)) := by
  unfold r_alen at h
  split at h
  · rename_i q i st'
    refine ⟨q, i, st', rfl, ?_⟩
    split at h
    · rename_i tt n e
      exact Or.inl ⟨tt, n, e, h⟩
    · rename_i vs e
      exact Or.inr (Or.inl ⟨vs, e, h⟩)
    · split at h
      · rename_i e2
        exact Or.inr (Or.inr ⟨Nat.eq_of_beq_eq_true e2, h⟩)
      · exact h.elim
    · exact h.elim
  · exact h.elim
theorem i_copy (h : runSR (r_copy S ls pc st m) nx cl rt) : ∃ n dp q1 i1 sp q0 i0 tt n0 n1, st = [.inl n, .inl dp, .inr (q1, i1), .inl sp, .inr (q0, i0)] ∧ S q0 = .inl (tt, n0) ∧ S q1 = .inl (tt, n1) ∧ (0 ≤ sp ∧ 0 ≤ dp ∧ 0 ≤ n ∧ sp + n ≤ (n0 : Int) ∧ dp + n ≤ (n1 : Int)) ∧ (tt = 0 ∨ (tt = 1 ∧ ∀ j : Int, sp ≤ j → j < sp + n → m q0 i0 j = 0 ∨ m q0 i0 j = 1)) ∧ nx pc ls [] (mcpy m q0 i0 sp q1 i1 dp n) := by
  unfold r_copy at h
  split at h
  · rename_i n dp q1 i1 sp q0 i0
    split at h
    · rename_i n0 n1 e0 e1
      exact ⟨n, dp, q1, i1, sp, q0, i0, 0, n0, n1, rfl, e0, e1, h.1, Or.inl rfl, h.2⟩
    · rename_i n0 n1 e0 e1
      exact ⟨n, dp, q1, i1, sp, q0, i0, 1, n0, n1, rfl, e0, e1, h.1.1, Or.inr ⟨rfl, h.1.2⟩, h.2⟩
    · exact h.elim
  · exact h.elim
theorem i_abs (h : runSR (r_abs ls pc st m) nx cl rt) : ∃ x st', st = .inl x :: st' ∧ st'.length ≤ 8 ∧ Rng (-x) ∧ nx pc ls (.inl (zAbs x) :: st') m := by
  unfold r_abs at h
  split at h
  · rename_i x st'
    split at h
    · rename_i e
      exact ⟨x, st', rfl, Nat.le_of_ble_eq_true e, h.1, h.2⟩
    · exact h.elim
  · exact h.elim
theorem i_call {inf : List Nat} (h : runSR (r_call inf ls pc st m) nx cl rt) : ∃ M na ml rk, inf = [M, na, ml, rk] ∧ na ≤ st.length ∧ (st.drop na).length ≤ 8 ∧ cl M ((st.take na).reverse ++ List.replicate (ml - na) uu) m (fun r m' => backR rk r (fun v => nx pc ls (v ++ st.drop na) m')) := by
  unfold r_call at h
  split at h
  · rename_i M na ml rk
    split at h
    · rename_i e
      rw [Bool.and_eq_true] at e
      exact ⟨M, na, ml, rk, rfl, Nat.le_of_ble_eq_true e.1, Nat.le_of_ble_eq_true e.2, h⟩
    · exact h.elim
  · exact h.elim
theorem i_callV {inf : List Nat} (h : runSR (r_callV S inf ls pc st m) nx cl rt) : ∃ M na ml rk ci q i fs, inf = [M, na + 1, ml, rk, ci] ∧ st[na]? = some (.inr (q, i)) ∧ S q = .inr (.inl (ci, fs)) ∧ (st.drop (na + 1)).length ≤ 8 ∧ cl M ((st.take (na + 1)).reverse ++ List.replicate (ml - (na + 1)) uu) m (fun r m' => backR rk r (fun v => nx pc ls (v ++ st.drop (na + 1)) m')) := by
  unfold r_callV at h
  split at h
  · rename_i M na ml rk ci
    split at h
    · rename_i q i e
      split at h
      · rename_i ci' fs e1
        split at h
        · rename_i e2
          have e3 := Nat.eq_of_beq_eq_true e2
          subst e3
          obtain ⟨M', na', ml', rk', e4, h1, h2, h3⟩ := i_call h
          cases e4
          exact ⟨M, na, ml, rk, ci, q, i, fs, rfl, e, e1, h2, h3⟩
        · exact h.elim
      · exact h.elim
    · exact h.elim
  · exact h.elim
end INV
theorem lkE_mem : ∀ (C : List Ent) (pc : Nat) (x : Instr × Nat × List Nat), lkE C pc = some x → (pc, x) ∈ C
  | [], _, _, h => by simp [lkE] at h
  | e :: r, pc, x, h => by
    unfold lkE at h
    split at h
    · rename_i e2
      cases h
      have e3 := Nat.eq_of_beq_eq_true e2
      subst e3
      exact List.mem_cons_self
    · exact List.mem_cons_of_mem _ (lkE_mem r pc x h)
