/-! The tables' words, and the step of the machine under a step of the abstract machine. -/
theorem fcp_ok : ∀ (o : Nat), o < 12 → ∀ x ∈ fcp.getD o [], fwd o x ∈ gw
  | 0, _, x, h => pkL_gw (ckF_0 ▸ List.mem_map_of_mem h) rfl
  | 1, _, x, h => pkL_gw (ckF_1 ▸ List.mem_map_of_mem h) rfl
  | 2, _, x, h => pkL_gw (ckF_2 ▸ List.mem_map_of_mem h) rfl
  | 3, _, x, h => pkL_gw (ckF_3 ▸ List.mem_map_of_mem h) rfl
  | 4, _, x, h => pkL_gw (ckF_4 ▸ List.mem_map_of_mem h) rfl
  | 5, _, x, h => pkL_gw (ckF_5 ▸ List.mem_map_of_mem h) rfl
  | 6, _, x, h => pkL_gw (ckF_6 ▸ List.mem_map_of_mem h) rfl
  | 7, _, x, h => pkL_gw (ckF_7 ▸ List.mem_map_of_mem h) rfl
  | 8, _, x, h => absurd h List.not_mem_nil
  | 9, _, x, h => absurd h List.not_mem_nil
  | 10, _, x, h => absurd h List.not_mem_nil
  | 11, _, x, h => absurd h List.not_mem_nil
  | o + 12, ho, _, _ => absurd ho (by omega)
theorem cwd_good {o : Nat} {x : Nat × Nat × Nat} : ∀ w ∈ cwd o x, goodWord w = true := by
  intro w hw
  unfold cwd at hw
  split at hw
  · simp only [List.mem_cons, List.not_mem_nil, or_false] at hw
    rcases hw with rfl | rfl | rfl | rfl <;> rfl
  · simp only [List.mem_cons, List.not_mem_nil, or_false] at hw
    rcases hw with rfl | rfl | rfl <;> rfl
  · simp only [List.mem_cons, List.not_mem_nil, or_false] at hw
    rcases hw with rfl | rfl <;> rfl
theorem fm_in {o : Nat} {l : List (Nat × Nat × Nat)} {ps : List Nat} (e : l.flatMap (cwd o) = pkL ps) {x : Nat × Nat × Nat} (hx : x ∈ l) : ∀ w ∈ cwd o x, w ∈ gw :=
  fun w hw => pkL_gw (e ▸ List.mem_flatMap.mpr ⟨x, hx, hw⟩) (cwd_good w hw)
theorem mcp_ok : ∀ (o : Nat), o < 12 → ∀ x ∈ mcp.getD o [], ∀ w ∈ cwd o x, w ∈ gw
  | 0, _, _, h => fm_in ckC_0 h
  | 1, _, _, h => fm_in ckC_1 h
  | 2, _, _, h => fm_in ckC_2 h
  | 3, _, _, h => fm_in ckC_3 h
  | 4, _, _, h => fm_in ckC_4 h
  | 5, _, _, h => fm_in ckC_5 h
  | 6, _, _, h => fm_in ckC_6 h
  | 7, _, _, h => fm_in ckC_7 h
  | 8, _, _, h => fm_in ckC_8 h
  | 9, _, _, h => absurd h List.not_mem_nil
  | 10, _, _, h => absurd h List.not_mem_nil
  | 11, _, _, h => absurd h List.not_mem_nil
  | o + 12, ho, _, _ => absurd ho (by omega)
theorem flt_in {α : Type} {f : Nat × Nat × Nat → α} {l : List (Nat × Nat × Nat)} {k : Nat} {x : Nat × Nat × Nat} (hx : x ∈ l) (hk : x.2.2 = k) : f x ∈ (l.filter (fun x => Nat.beq x.2.2 k)).map f :=
  List.mem_map_of_mem (List.mem_filter.mpr ⟨hx, by rw [hk]; exact Nat.beq_refl k⟩)
theorem scp_ok : ∀ (o : Nat), o < 12 → ∀ x ∈ scp.getD o [], x.2.2 = 0 → swd o x ∈ gw
  | 1, _, _, h, e => pkL_gw (ckS_1 ▸ flt_in h e) rfl
  | 6, _, _, h, e => pkL_gw (ckS_6 ▸ flt_in h e) rfl
  | 0, _, x, h, e => absurd (show x ∈ ([] : List (Nat × Nat × Nat)) from flt_in (f := id) h e) List.not_mem_nil
  | 2, _, x, h, e => absurd (show x ∈ ([] : List (Nat × Nat × Nat)) from flt_in (f := id) h e) List.not_mem_nil
  | 3, _, x, h, e => absurd (show x ∈ ([] : List (Nat × Nat × Nat)) from flt_in (f := id) h e) List.not_mem_nil
  | 4, _, _, h, _ => absurd h List.not_mem_nil
  | 5, _, _, h, _ => absurd h List.not_mem_nil
  | 7, _, _, h, _ => absurd h List.not_mem_nil
  | 8, _, _, h, _ => absurd h List.not_mem_nil
  | 9, _, _, h, _ => absurd h List.not_mem_nil
  | 10, _, _, h, _ => absurd h List.not_mem_nil
  | 11, _, _, h, _ => absurd h List.not_mem_nil
  | o + 12, ho, _, _, _ => absurd ho (by omega)
theorem scp_q : ∀ o, o < 12 → ((scp.getD o []).all (fun x => Nat.ble 28 x.2.1 && Nat.ble x.2.1 31)) = true := by decide +kernel
theorem cl_gw {ps : List Nat} {ws : List Cond} (e : ws = pkL ps) (hg : ws.all goodWord = true) : ∀ w ∈ ws, w ∈ gw := fun w hw => pkL_gw (e ▸ hw) (List.all_eq_true.mp hg w hw)
theorem cl_ok : ∀ (ci : Nat) (r : vw_C), vwCl[ci]? = some r → (∀ w ∈ u_ws r.1 r.2.1 r.2.2, w ∈ gw) ∧ ∃ ty : Nat → FieldType, (∀ k, k < r.2.2 → parseFieldDescriptor (r.2.1 k).2.2.1 = some (ty k)) ∧ ∀ a, a < r.2.2 → ∀ b, b < r.2.2 → a ≠ b → (r.2.1 a).2.1 ≠ (r.2.1 b).2.1
  | 0, _, rfl => ⟨cl_gw ckU_0 (by decide +kernel), tyX0, tyX0_ok, nmX0⟩
  | 1, _, rfl => ⟨cl_gw ckU_1 (by decide +kernel), tyX1, tyX1_ok, nmX1⟩
  | 2, _, rfl => ⟨cl_gw ckU_2 (by decide +kernel), tyX2, tyX2_ok, nmX2⟩
  | 3, _, rfl => ⟨cl_gw ckU_3 (by decide +kernel), tyX3, tyX3_ok, nmX3⟩
  | 4, _, rfl => ⟨cl_gw ckU_4 (by decide +kernel), tyX4, tyX4_ok, nmX4⟩
  | 5, _, rfl => ⟨cl_gw ckU_5 (by decide +kernel), tyX5, tyX5_ok, nmX5⟩
  | 6, _, rfl => ⟨cl_gw ckU_6 (by decide +kernel), tyX6, tyX6_ok, nmX6⟩
  | 7, _, rfl => ⟨cl_gw ckU_7 (by decide +kernel), tyX7, tyX7_ok, nmX7⟩
theorem mrec_in {M a n : Nat} {r : MR} (h : mrec[M]? = some r) (h1 : a ≤ M) (h2 : M < a + n) : mwd r ∈ ((mrec.drop a).take n).map mwd := by
  refine List.mem_map_of_mem (List.mem_of_getElem? (i := M - a) ?_)
  rw [List.getElem?_take, if_pos (by omega), List.getElem?_drop, show a + (M - a) = M by omega]
  exact h
theorem mrec_ok {M : Nat} {r : MR} (hM : M < 160) (h : mrec[M]? = some r) : mwd r ∈ gw := by
  rcases Nat.lt_or_ge M 40 with c | c
  · exact pkL_gw (ckM_0 ▸ mrec_in h (by omega) (by omega)) rfl
  rcases Nat.lt_or_ge M 80 with c | c
  · exact pkL_gw (ckM_1 ▸ mrec_in h (by omega) (by omega)) rfl
  rcases Nat.lt_or_ge M 120 with c | c
  · exact pkL_gw (ckM_2 ▸ mrec_in h (by omega) (by omega)) rfl
  · exact pkL_gw (ckM_3 ▸ mrec_in h (by omega) (by omega)) rfl
theorem mrec_q {M : Nat} {r : MR} (h : mrec[M]? = some r) : m_o r < 12 ∧ m_o r ≠ 10 := by
  have h1 := List.all_eq_true.mp ckQ r (List.mem_of_getElem? h)
  simp only [Bool.and_eq_true, Bool.not_eq_true'] at h1
  refine ⟨by have := h1.1.1.1; rw [Nat.blt_eq] at this; exact this, fun e => ?_⟩
  have h2 := h1.1.1.2
  rw [e] at h2
  exact absurd h2 (by decide)
theorem mrec_cls {M : Nat} {r : MR} (h : mrec[M]? = some r) : (m_y r).cls = ownN (m_o r) := by
  have e := congrArg (fun l : List String => l[M]?) ckO
  simp only [List.getElem?_map, h, Option.map_some] at e
  exact Option.some.inj e
theorem own_p {o : Nat} (h : o < 12) (h2 : o ≠ 10) : plainName (ownN o) = true ∧ ownN o ≠ "java/lang/invoke/MethodHandle" ∧ ownN o ≠ "java/lang/invoke/VarHandle" := by
  have hm : o ∈ [0, 1, 2, 3, 4, 5, 6, 7, 8, 9, 11] := by
    rcases (show o = 0 ∨ o = 1 ∨ o = 2 ∨ o = 3 ∨ o = 4 ∨ o = 5 ∨ o = 6 ∨ o = 7 ∨ o = 8 ∨ o = 9 ∨ o = 11 by omega) with e | e | e | e | e | e | e | e | e | e | e <;> subst e <;> decide
  have h1 := List.all_eq_true.mp ckP o hm
  rw [Bool.and_eq_true, decide_eq_true_eq] at h1
  exact h1
theorem mrec_par {M : Nat} {r : MR} (h : mrec[M]? = some r) : (parseMethodDescriptor (m_y r).desc).map (fun d => d.parameters.length) = some (npL.getD M 0) := by
  have e := congrArg (fun l : List (Option Nat) => l[M]?) ckD
  simp only [List.getElem?_map, h, Option.map_some] at e
  cases hn : npL[M]? with
  | none => rw [hn] at e; cases e
  | some k =>
    rw [hn] at e
    have e2 := Option.some.inj e
    rw [e2, List.getD_eq_getElem?_getD, hn]
    rfl
theorem yR_eq {M : Nat} {r : MR} (h : mrec[M]? = some r) : yR M = m_y r := by
  unfold yR
  rw [List.getD_eq_getElem?_getD, h]
  rfl
/-- the room that a method asks -/
def rmO (r : MR) : Room := { frames := m_F r, cells := 0, slots := 0, locals := m_L r }
abbrev AB (base : Nat) : Nat → Prop := fun q => base ≤ q
/-- what a contract says of the end -/
def QcO (ad : Nat → Int → Nat) (cs : Nat → ClassId) (D : va_G) (L : Nat) (xs : Nat → Int32) (base : Nat) (t : Option FieldType) (r0 : AV) (m0 : Mem) : Array Value → State → Outcome → State → Prop := match t with
  | none => va_Qv (S := Unit) (fun _ => True) (fun _ u => MemOK ad cs D L xs m0 u.heap) (AB base)
  | some (.object _) => va_Qr (S := Unit) (fun _ => True) (fun _ a u => r0 = r0 ∧ Value.ref a = conV ad r0 ∧ GV r0 ∧ nU r0 ∧ MemOK ad cs D L xs m0 u.heap) (AB base)
  | some _ => va_Qi (S := Unit) (fun x _ => Value.int x = conV ad r0 ∧ GV r0) (fun _ u => MemOK ad cs D L xs m0 u.heap) (AB base)
def PcO (ad : Nat → Int → Nat) (cs : Nat → ClassId) (D : va_G) (L : Nat) (xs : Nat → Int32) (base : Nat) (a : List AV) (m : Mem) : Array Value → State → Prop := va_Pc (a.map (conV ad)) (fun U => EnvOK ad cs D L xs base U ∧ MemOK ad cs D L xs m U.heap ∧ base ≤ U.heap.size)
theorem PcO_blind {ad : Nat → Int → Nat} {cs : Nat → ClassId} {D : va_G} {L : Nat} {xs : Nat → Int32} {base : Nat} {a : List AV} {m : Mem} : FrameBlind (PcO ad cs D L xs base a m) := by
  intro a U g mk h
  obtain ⟨h1, ⟨k1, k2, ⟨k3, k4, k5⟩, k6, k7⟩, h3, h4⟩ := h
  have al : U.vm.Alike (U.calling g mk a).vm := Vm.Alike.refl U.vm
  exact ⟨h1, ⟨va_K.moved (u := U) al k1, fun q q1 q2 => ⟨va_Z.moved (u := U) al (k2 q q1 q2).1, va_T.moved (u := U) al (k2 q q1 q2).2⟩, ⟨va_X.moved (u := U) al k3, k4, k5⟩, fun o ho x hx h => va_Nw.same rfl (u := U) rfl (k6 o ho x hx h), fun o ho x hx h => va_Nw.same rfl (u := U) rfl (k7 o ho x hx h)⟩, h3, h4⟩
def SG (l : List AV) : Prop := ∀ v ∈ l, GV v ∧ nU v
theorem SG.cons {v : AV} {l : List AV} (h1 : GV v) (h2 : nU v) (h : SG l) : SG (v :: l) := by
  intro w hw
  rcases List.mem_cons.mp hw with e | e
  · rw [e]; exact ⟨h1, h2⟩
  · exact h w e
theorem SG.tl {v : AV} {l : List AV} (h : SG (v :: l)) : SG l := fun w hw => h w (List.mem_cons_of_mem _ hw)
theorem SG.hd {v : AV} {l : List AV} (h : SG (v :: l)) : GV v ∧ nU v := h v List.mem_cons_self
theorem SG.int {x : Int} {l : List AV} (h1 : Rng x) (h : SG l) : SG (.inl x :: l) := SG.cons h1 trivial h
def LG (l : List AV) : Prop := ∀ v ∈ l, GV v
theorem LG.set {l : List AV} {k : Nat} {v : AV} (h : LG l) (hv : GV v) : LG (l.set k v) := by
  intro w hw
  rcases List.mem_or_eq_of_mem_set hw with e | e
  · exact h w e
  · rw [e]; exact hv
theorem LG.get {l : List AV} {k : Nat} {v : AV} (h : LG l) (hk : l[k]? = some v) : GV v := h v (List.mem_of_getElem? hk)
theorem ScrOK.set {L : Nat} {xs : Nat → Int32} {m : Mem} {q : Nat} {i j v : Int} (h : ScrOK L xs m) (hq : q ≠ 32) : ScrOK L xs (mset m q i j v) :=
  ⟨by rw [mset_ne (fun z => hq z.1.symm)]; exact h.1, fun j hj => by rw [mset_ne (fun z => hq z.1.symm)]; exact h.2 j hj⟩
theorem ScrOK.cpy {L : Nat} {xs : Nat → Int32} {m : Mem} {q0 q1 : Nat} {i0 i1 sp dp n : Int} (h : ScrOK L xs m) (hq : q1 ≠ 32) : ScrOK L xs (mcpy m q0 i0 sp q1 i1 dp n) :=
  ⟨by rw [mcpy_off _ _ _ (fun z => hq z.1.symm)]; exact h.1, fun j hj => by rw [mcpy_off _ _ _ (fun z => hq z.1.symm)]; exact h.2 j hj⟩
theorem tg_ok {pc : Nat} {o : Int} (h : tg pc o = true) : (pc : Int) + o = ((tgtOf pc o : Nat) : Int) := by
  have h1 : 0 ≤ (pc : Int) + o := of_decide_eq_true h
  unfold tgtOf
  omega
theorem z_i32 (x : Int32) : Int32.ofInt x.toInt = x := Int32.ofInt_toInt x
theorem gv_ref {q : Nat} {i : Int} (h : GV (.inr (q, i))) (h2 : nU (.inr (q, i))) : 0 ≤ i ∧ i < (cnt q : Int) := by
  rcases h with e | e
  · rw [e] at h2; exact absurd h2 (by show ¬ 999 < 900; decide)
  · exact ⟨e.2.1, e.2.2⟩
theorem len_eq {a b : Nat} (h : Nat.beq a b = true) : a = b := Nat.eq_of_beq_eq_true h
theorem z_eq0 {a : Int} (ha : Rng a) : Int32.ofInt a = 0 ↔ a = 0 := by rw [← z_0]; exact z_eq ha r_0
theorem z_lt0 {a : Int} (ha : Rng a) : Int32.ofInt a < 0 ↔ a < 0 := by rw [← z_0]; exact z_lt ha r_0
theorem z_le0 {a : Int} (ha : Rng a) : Int32.ofInt a ≤ 0 ↔ a ≤ 0 := by rw [← z_0]; exact z_le ha r_0
theorem z_0lt {a : Int} (ha : Rng a) : 0 < Int32.ofInt a ↔ 0 < a := by rw [← z_0]; exact z_lt r_0 ha
theorem z_0le {a : Int} (ha : Rng a) : 0 ≤ Int32.ofInt a ↔ 0 ≤ a := by rw [← z_0]; exact z_le r_0 ha
theorem sw_table {x : Int} {nx : Nat → Prop} {d pc : Nat} : ∀ (os : List Int) (lo : Int), runSw x nx d (swL pc lo os) → (∀ (k : Nat) (o : Int), os[k]? = some o → x = lo + (k : Int) → nx (tgtOf pc o)) ∧ (x < lo ∨ lo + (os.length : Int) ≤ x → nx d)
  | [], lo, h => ⟨fun k o hk => by simp at hk, fun _ => h⟩
  | o1 :: r, lo, h => by
    have h : (x = lo → nx (tgtOf pc o1)) ∧ (¬ x = lo → runSw x nx d (swL pc (lo + 1) r)) := h
    refine ⟨fun k o hk e => ?_, fun e => ?_⟩
    · cases k with
      | zero =>
        have e1 : o1 = o := by simpa using hk
        subst e1
        exact h.1 (by omega)
      | succ k => exact (sw_table r (lo + 1) (h.2 (by omega))).1 k o (by simpa using hk) (by omega)
    · simp only [List.length_cons] at e
      exact (sw_table r (lo + 1) (h.2 (by omega))).2 (by omega)
theorem sw_look {x : Int} {nx : Nat → Prop} {d : Int} {pc : Nat} (hd : tg pc d = true) : ∀ (ps : List (Int × Int)), ps.all (fun x => tg pc x.2) = true → runSw x nx (tgtOf pc d) (ps.map (fun p => (p.1, tgtOf pc p.2))) → tg pc (Op.lookupswitch.offset ps d x) = true ∧ nx (tgtOf pc (Op.lookupswitch.offset ps d x))
  | [], _, h => ⟨hd, h⟩
  | (a, o) :: r, ha, h => by
    have h : (x = a → nx (tgtOf pc o)) ∧ (¬ x = a → runSw x nx (tgtOf pc d) (r.map (fun p => (p.1, tgtOf pc p.2)))) := h
    simp only [List.all_cons, Bool.and_eq_true] at ha
    by_cases e : x = a
    · have e2 : Op.lookupswitch.offset ((a, o) :: r) d x = o := by simp [Op.lookupswitch.offset, e]
      rw [e2]
      exact ⟨ha.1, h.1 e⟩
    · have e2 : Op.lookupswitch.offset ((a, o) :: r) d x = Op.lookupswitch.offset r d x := by
        have e3 : ¬ a = x := fun z => e z.symm
        simp [Op.lookupswitch.offset, e, e3]
      rw [e2]
      exact sw_look hd r ha.2 (h.2 e)
theorem cell_arr {ad : Nat → Int → Nat} {cs : Nat → ClassId} {m : Mem} {q t n : Nat} {i : Int} (h : shp q = .inl (t, n)) : cellOf ad cs m q i = .inl (cs t, n, .inl (fun j => Int32.ofInt (m q i (j : Int)))) := by unfold cellOf; rw [h]
theorem cell_obj {ad : Nat → Int → Nat} {cs : Nat → ClassId} {m : Mem} {q ci : Nat} {fs : List (Nat × Nat)} {i : Int} (h : shp q = .inr (.inl (ci, fs))) : cellOf ad cs m q i = .inr (ci, fv ad m q i 0 fs) := by unfold cellOf; rw [h]
theorem cell_refs {ad : Nat → Int → Nat} {cs : Nat → ClassId} {m : Mem} {q n q' o t : Nat} {i : Int} (h : shp q = .inr (.inr (.inl (n, q', o, t)))) : cellOf ad cs m q i = .inl (cs t, n, .inr (.inr (.inr (.inr (fun j => some (ad q' ((o : Int) + (j : Int)))))))) := by unfold cellOf; rw [h]
theorem am_set {m : Mem} {q : Nat} {i j v : Int} (h0 : 0 ≤ j) : (fun k : Nat => Int32.ofInt (mset m q i j v q i (k : Int))) = upd (fun k : Nat => Int32.ofInt (m q i (k : Int))) j.toNat (Int32.ofInt v) := by
  funext k
  unfold upd
  by_cases e : k = j.toNat
  · rw [if_pos e, show (k : Int) = j by omega, mset_at]
  · rw [if_neg e, mset_ne (fun z => e (by have := z.2.2; omega))]
theorem am_cpy {m : Mem} {q0 q1 : Nat} {i0 i1 sp dp n : Int} (h0 : 0 ≤ sp) (h1 : 0 ≤ dp) (h2 : 0 ≤ n) : (fun k : Nat => Int32.ofInt (mcpy m q0 i0 sp q1 i1 dp n q1 i1 (k : Int))) = va_cpy (fun k : Nat => Int32.ofInt (m q0 i0 (k : Int))) (fun k : Nat => Int32.ofInt (m q1 i1 (k : Int))) sp.toNat dp.toNat n.toNat := by
  funext k
  unfold va_cpy mcpy
  rw [if_pos rfl]
  by_cases e : dp.toNat ≤ k ∧ k < dp.toNat + n.toNat
  · rw [if_pos e, if_pos ⟨rfl, by omega, by omega⟩]
    congr 2
    omega
  · rw [if_neg e, if_neg (fun z => e ⟨by omega, by omega⟩)]
theorem fld_cnt0 : (List.range 56).all (fun q => match shp q with
  | .inr (.inl (_, fs)) => fs.all (fun x => match x with
    | (q' + 2, 0) => Nat.ble (cnt q) (cnt q') && Nat.ble 1 (cnt q')
    | (q' + 2, _ + 1) => Nat.ble 1 (cnt q')
    | _ => true)
  | _ => true) = true := by decide +kernel
theorem fld_cnt (q ci : Nat) (fs : List (Nat × Nat)) (k q' b : Nat) (hq : shp q = .inr (.inl (ci, fs))) (hf : fs[k]? = some (q' + 2, b)) : (b = 0 → cnt q ≤ cnt q') ∧ 1 ≤ cnt q' := by
  have hq56 : q < 56 := by
    rcases Nat.lt_or_ge q 56 with c | c
    · exact c
    · exfalso
      have : shp q = .inr (.inr (.inr (.inr ()))) := by
        unfold shp
        rw [List.getElem?_eq_none (by show 56 ≤ q; exact c)]
        rfl
      rw [this] at hq
      cases hq
  have h1 := List.all_eq_true.mp fld_cnt0 q (List.mem_range.mpr hq56)
  rw [hq] at h1
  have h2 := List.all_eq_true.mp h1 _ (List.mem_of_getElem? hf)
  match b, h2 with
  | 0, h2 =>
    simp only [Bool.and_eq_true, Nat.ble_eq] at h2
    exact ⟨fun _ => h2.1, h2.2⟩
  | b + 1, h2 =>
    simp only [Nat.ble_eq] at h2
    exact ⟨fun z => by omega, h2⟩
theorem shp_st0 : (List.range 56).all (fun q => match shp q with
  | .inr (.inr (.inr (.inl vs))) => Nat.ble 28 q && Nat.ble q 31 && Nat.beq (cnt q) 1 && Nat.ble vs.length 1000
  | _ => true) = true := by decide +kernel
theorem shp_st (q : Nat) (h : q < 56) (vs : List Int) (hq : shp q = .inr (.inr (.inr (.inl vs)))) : 28 ≤ q ∧ q ≤ 31 ∧ cnt q = 1 := by
  have h1 := List.all_eq_true.mp shp_st0 q (List.mem_range.mpr h)
  rw [hq] at h1
  simp only [Bool.and_eq_true, Nat.ble_eq] at h1
  exact ⟨h1.1.1.1, h1.1.1.2, len_eq h1.1.2⟩
theorem shp_vl (q : Nat) (h : q < 56) (vs : List Int) (hq : shp q = .inr (.inr (.inr (.inl vs)))) : vs.length ≤ 1000 := by
  have h1 := List.all_eq_true.mp shp_st0 q (List.mem_range.mpr h)
  rw [hq] at h1
  simp only [Bool.and_eq_true, Nat.ble_eq] at h1
  exact h1.2
theorem shp_len0 : shpL.all (fun x => match x with
  | .inl (t, n) => Nat.ble n 100000 && Nat.ble t 1
  | _ => true) = true := by decide +kernel
theorem shp_len (q t n : Nat) (h : shp q = .inl (t, n)) : n ≤ 100000 ∧ t ≤ 1 := by
  unfold shp at h
  cases hq : shpL[q]? with
  | none => rw [hq] at h; cases h
  | some x =>
    rw [hq] at h
    have h : x = .inl (t, n) := h
    have h1 := List.all_eq_true.mp shp_len0 x (List.mem_of_getElem? hq)
    rw [h] at h1
    simp only [Bool.and_eq_true, Nat.ble_eq] at h1
    exact h1
theorem okS_obj {q ci : Nat} {fs : List (Nat × Nat)} (h : shp q = .inr (.inl (ci, fs))) : ∃ cT : vw_C, vwCl[ci]? = some cT ∧ fs.length = cT.2.2 ∧ ∀ x ∈ fs.zipIdx, (match x.1 with
      | (0, _) => decide ((cT.2.1 x.2).2.2.1 = "I" ∧ (cT.2.1 x.2).2.2.2 = false)
      | (1, _) => decide ((cT.2.1 x.2).2.2.1 = "Z" ∧ (cT.2.1 x.2).2.2.2 = false)
      | (q + 2, _) => Nat.blt q 900) = true := by
  have hsk := shp_ok (q := q)
  rw [h] at hsk
  have hsk : (match vwCl[ci]? with
    | some c => Nat.beq fs.length c.2.2 && (fs.zipIdx).all (fun x => match x.1 with
      | (0, _) => decide ((c.2.1 x.2).2.2.1 = "I" ∧ (c.2.1 x.2).2.2.2 = false)
      | (1, _) => decide ((c.2.1 x.2).2.2.1 = "Z" ∧ (c.2.1 x.2).2.2.2 = false)
      | (q + 2, _) => Nat.blt q 900)
    | none => false) = true := hsk
  cases hcl : vwCl[ci]? with
  | none => rw [hcl] at hsk; cases hsk
  | some cT =>
    rw [hcl] at hsk
    have hsk := (Bool.and_eq_true _ _).mp hsk
    exact ⟨cT, rfl, len_eq hsk.1, List.all_eq_true.mp hsk.2⟩
theorem vw_own : ∀ (ci : Nat) (r : vw_C), vwCl[ci]? = some r → r.1 = ownN ci
  | 0, _, rfl => rfl
  | 1, _, rfl => rfl
  | 2, _, rfl => rfl
  | 3, _, rfl => rfl
  | 4, _, rfl => rfl
  | 5, _, rfl => rfl
  | 6, _, rfl => rfl
  | 7, _, rfl => rfl
theorem callOK_inv {r : MR} {idx M na ml rk kd : Nat} (h : callOK r idx [M, na, ml, rk] kd = true) : ∃ r', mrec[M]? = some r' ∧ ((idx, M, kd) ∈ mcp.getD (m_o r) [] ∨ (kd = 1 ∧ (idx, M, 3) ∈ mcp.getD (m_o r) [])) ∧ ml = m_l r' ∧ rkOK rk (m_t r') = true ∧ m_F r' + 1 ≤ m_F r ∧ 8 + (m_l r' + 11) + m_L r' ≤ m_L r ∧ na ≤ ml ∧ npL.getD M 0 + (1 - kd) = na ∧ M < 160 := by
  have h : (match mrec[M]? with
    | some r' => (el3 (idx, M, kd) (mcp.getD (m_o r) []) || (Nat.beq kd 1 && el3 (idx, M, 3) (mcp.getD (m_o r) []))) && Nat.beq ml (m_l r') && rkOK rk (m_t r') && Nat.ble (m_F r' + 1) (m_F r) && Nat.ble (8 + (m_l r' + 11) + m_L r') (m_L r) && Nat.ble na ml && Nat.beq (npL.getD M 0 + (1 - kd)) na && Nat.blt M 160
    | none => false) = true := h
  cases hr : mrec[M]? with
  | none => rw [hr] at h; cases h
  | some r' =>
    rw [hr] at h
    simp only [Bool.and_eq_true, Bool.or_eq_true] at h
    obtain ⟨⟨⟨⟨⟨⟨⟨h1, h2⟩, h3⟩, h4⟩, h5⟩, h6⟩, h7⟩, h8⟩ := h
    refine ⟨r', rfl, ?_, len_eq h2, h3, Nat.le_of_ble_eq_true h4, Nat.le_of_ble_eq_true h5, Nat.le_of_ble_eq_true h6, len_eq h7, by rw [Nat.blt_eq] at h8; exact h8⟩
    rcases h1 with h1 | h1
    · exact Or.inl (el3_mem _ h1)
    · exact Or.inr ⟨len_eq h1.1, el3_mem _ h1.2⟩
theorem acA : ∀ w ∈ [Cond.methodLink "StencilCuts$Sheet" 31 arraycopyName, .native arraycopyName, .static arraycopyName, .initialized "java/lang/System"], w ∈ gw := cl_gw ckA (by decide +kernel)
theorem acB : ∀ w ∈ [Cond.methodLink "StencilCuts$Knife" 97 Lib.Math.abs.name, .static Lib.Math.abs.name, .initialized "java/lang/Math", .code Lib.Math.abs.name Lib.Math.abs.code 1 (some .int)], w ∈ gw := cl_gw ckB (by decide +kernel)
