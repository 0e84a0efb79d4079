theorem cm_grow {D : va_G} {cs : Nat → ClassId} {base : Nat} {ws : List CE} {e : CE} {H H1 : Heap} (hP : va_P D vwCl (cW base cs 0 ws) H) (hsz : H.size = base + ws.length) (o1 : ∀ q, q < H.size → H1[q]? = H[q]?) (z1 : H1.size = H.size + 1) (hn : va_at D vwCl (base + ws.length, conE base cs e) H1) : va_P D vwCl (cW base cs 0 (ws ++ [e])) H1 ∧ H1.size = base + (ws ++ [e]).length := by
  refine ⟨?_, by rw [z1, hsz, List.length_append]; rfl⟩
  rw [cW_app]
  refine (hP.kept (fun k x hx => o1 x.1 ((hP k x hx).lt))).app (fun k x hx => ?_)
  have hz : k < 1 := (List.getElem?_eq_some_iff.mp hx).1
  rw [show k = 0 by omega] at hx
  cases hx
  rw [Nat.zero_add]
  exact hn
theorem cm_S {A : Nat → Prop} {H0 H H1 : Heap} {locs : List Loc} (hS : va_S A H0 H locs) (z1 : H1.size = H.size + 1) (o1 : ∀ q, q < H.size → H1[q]? = H[q]?) : va_S A H0 H1 locs :=
  ⟨Nat.le_trans hS.1 (by omega), fun x h1 h2 => (o1 x (Nat.lt_of_lt_of_le h1 hS.1)).trans (hS.2.1 x h1 h2), hS.2.2⟩
def KEnv (cs : Nat → ClassId) (D : va_G) (U : State) : Prop := va_K D vwCl (csT cs) U ∧ va_AO RX5 U ∧ va_AO RX4 U
def PcK (base : Nat) (cs : Nat → ClassId) (D : va_G) (a : List CV) (ws : List CE) : Array Value → State → Prop := va_Pc (a.map (conC base)) (fun U => KEnv cs D U ∧ va_P D vwCl (cW base cs 0 ws) U.heap ∧ U.heap.size = base + ws.length)
theorem PcK_blind {base : Nat} {cs : Nat → ClassId} {D : va_G} {a : List CV} {ws : List CE} : FrameBlind (PcK base cs D a ws) := by
  intro a U g mk h
  obtain ⟨h1, ⟨k1, k2, k3⟩, h3, h4⟩ := h
  have al : U.vm.Alike (U.calling g mk a).vm := Vm.Alike.refl U.vm
  exact ⟨h1, ⟨va_K.moved (u := U) al k1, va_AO.moved (u := U) al k2, va_AO.moved (u := U) al k3⟩, h3, h4⟩
def QcK (base : Nat) (cs : Nat → ClassId) (D : va_G) (wsF : List CE) : Array Value → State → Outcome → State → Prop := va_Qv (S := Unit) (fun _ => True) (fun _ t => va_P D vwCl (cW base cs 0 wsF) t.heap ∧ t.heap.size = base + wsF.length) (AB base)
def rmK (r : MR) (mc ms : Nat) : Room := { frames := m_F r, cells := mc, slots := ms, locals := m_L r }
theorem krec_ok {M : Nat} {r : MR} (h : krec[M]? = some r) : mwd r ∈ gw := pkL_gw (kkM ▸ List.mem_map_of_mem (List.mem_of_getElem? h)) rfl
theorem krec_cls {M : Nat} {r : MR} (h : krec[M]? = some r) : (m_y r).cls = ownN (m_o r) := by
  have e := congrArg (fun l : List String => l[M]?) kkY
  simp only [List.getElem?_map, h, Option.map_some] at e
  exact Option.some.inj e
theorem krec_nm {M : Nat} {r : MR} (h : krec[M]? = some r) : (m_y r).name = "<init>" := by
  have e := congrArg (fun l : List String => l[M]?) kkY2
  simp only [List.getElem?_map, h, Option.map_some] at e
  exact Option.some.inj e
theorem krec_q0 : krec.all (fun r => Nat.blt (m_o r) 8 && decide (m_t r = none)) = true := by decide +kernel
theorem krec_q {M : Nat} {r : MR} (h : krec[M]? = some r) : m_o r < 8 ∧ m_t r = none := by
  have h1 := List.all_eq_true.mp krec_q0 r (List.mem_of_getElem? h)
  simp only [Bool.and_eq_true, Nat.blt_eq, decide_eq_true_eq] at h1
  exact h1
theorem krec_par {M : Nat} {r : MR} (h : krec[M]? = some r) : (parseMethodDescriptor (m_y r).desc).map (fun d => d.parameters.length) = some (knp.getD M 0) := by
  have e := congrArg (fun l : List (Option Nat) => l[M]?) kkD
  simp only [List.getElem?_map, h, Option.map_some] at e
  have e : some ((parseMethodDescriptor (m_y r).desc).map (fun d => d.parameters.length)) = (knp[M]?).map some := e
  cases hn : knp[M]? with
  | none => rw [hn] at e; cases e
  | some k =>
    rw [hn] at e
    have e2 := Option.some.inj e
    rw [e2, List.getD_eq_getElem?_getD, hn]
    rfl
theorem kyR_eq {M : Nat} {r : MR} (h : krec[M]? = some r) : kyR M = m_y r := by
  unfold kyR
  rw [List.getD_eq_getElem?_getD, h]
  rfl
theorem kwds_good {o : Nat} {x : Nat × Nat × Nat} : ∀ w ∈ kwds o x, goodWord w = true := by
  intro w hw
  unfold kwds at hw
  simp only [List.mem_cons, List.not_mem_nil, or_false] at hw
  rcases hw with rfl | rfl | rfl <;> rfl
theorem nwds_good {o : Nat} {x : Nat × Nat × Nat} : ∀ w ∈ nwds o x, goodWord w = true := by
  intro w hw
  unfold nwds at hw
  simp only [List.mem_cons, List.not_mem_nil, or_false] at hw
  rcases hw with rfl | rfl | rfl <;> rfl
theorem kcp_ok : ∀ (o : Nat), o < 12 → ∀ x ∈ kcp.getD o [], ∀ w ∈ kwds o x, w ∈ gw
  | 4, _, x, h, w, hw => pkL_gw (kkC_4 ▸ List.mem_flatMap.mpr ⟨x, h, hw⟩) (kwds_good w hw)
  | 6, _, x, h, w, hw => pkL_gw (kkC_6 ▸ List.mem_flatMap.mpr ⟨x, h, hw⟩) (kwds_good w hw)
  | 8, _, x, h, w, hw => pkL_gw (kkC_8 ▸ List.mem_flatMap.mpr ⟨x, h, hw⟩) (kwds_good w hw)
  | 0, _, _, h, _, _ => absurd h List.not_mem_nil
  | 1, _, _, h, _, _ => absurd h List.not_mem_nil
  | 2, _, _, h, _, _ => absurd h List.not_mem_nil
  | 3, _, _, h, _, _ => absurd h List.not_mem_nil
  | 5, _, _, h, _, _ => absurd h List.not_mem_nil
  | 7, _, _, h, _, _ => absurd h List.not_mem_nil
  | 9, _, _, h, _, _ => absurd h List.not_mem_nil
  | 10, _, _, h, _, _ => absurd h List.not_mem_nil
  | 11, _, _, h, _, _ => absurd h List.not_mem_nil
  | o + 12, ho, _, _, _, _ => absurd ho (by omega)
theorem ncp_ok : ∀ (o : Nat), o < 12 → ∀ x ∈ ncp.getD o [], ∀ w ∈ nwds o x, w ∈ gw
  | 4, _, x, h, w, hw => pkL_gw (kkN_4 ▸ List.mem_flatMap.mpr ⟨x, h, hw⟩) (nwds_good w hw)
  | 6, _, x, h, w, hw => pkL_gw (kkN_6 ▸ List.mem_flatMap.mpr ⟨x, h, hw⟩) (nwds_good w hw)
  | 8, _, x, h, w, hw => pkL_gw (kkN_8 ▸ List.mem_flatMap.mpr ⟨x, h, hw⟩) (nwds_good w hw)
  | 0, _, _, h, _, _ => absurd h List.not_mem_nil
  | 1, _, _, h, _, _ => absurd h List.not_mem_nil
  | 2, _, _, h, _, _ => absurd h List.not_mem_nil
  | 3, _, _, h, _, _ => absurd h List.not_mem_nil
  | 5, _, _, h, _, _ => absurd h List.not_mem_nil
  | 7, _, _, h, _, _ => absurd h List.not_mem_nil
  | 9, _, _, h, _, _ => absurd h List.not_mem_nil
  | 10, _, _, h, _, _ => absurd h List.not_mem_nil
  | 11, _, _, h, _, _ => absurd h List.not_mem_nil
  | o + 12, ho, _, _, _, _ => absurd ho (by omega)
theorem fcp2_ok : ∀ (o : Nat), o < 8 → ∀ x ∈ fcp2.getD o [], fwd o x ∈ gw
  | 0, _, x, h => pkL_gw (kkF_0 ▸ List.mem_map_of_mem h) rfl
  | 1, _, x, h => pkL_gw (kkF_1 ▸ List.mem_map_of_mem h) rfl
  | 2, _, x, h => pkL_gw (kkF_2 ▸ List.mem_map_of_mem h) rfl
  | 3, _, x, h => pkL_gw (kkF_3 ▸ List.mem_map_of_mem h) rfl
  | 4, _, x, h => pkL_gw (kkF_4 ▸ List.mem_map_of_mem h) rfl
  | 5, _, x, h => pkL_gw (kkF_5 ▸ List.mem_map_of_mem h) rfl
  | 6, _, x, h => pkL_gw (kkF_6 ▸ List.mem_map_of_mem h) rfl
  | 7, _, x, h => pkL_gw (kkF_7 ▸ List.mem_map_of_mem h) rfl
  | o + 8, ho, _, _ => absurd ho (by omega)
theorem fwd_eq {o idx ci k : Nat} {cT : vw_C} (hcl : vwCl[ci]? = some cT) : fwd o (idx, ci, k) = .fieldLink (ownN o) idx (cT.2.1 k).1 (cT.2.1 k).2.1 (cT.2.1 k).2.2.1 := by
  have : vwCl.getD ci (RX0, TX0, 10) = cT := by rw [List.getD_eq_getElem?_getD, hcl]; rfl
  unfold fwd
  dsimp only
  rw [this]
theorem kI : ∀ w ∈ [Cond.instanceMethod objectInit, .code objectInit ⟨#[0xb1]⟩ 1 none, .arrayClass .int, .arrayClass .boolean], w ∈ gw := cl_gw kkI (by decide +kernel)
theorem vw_ex {ci : Nat} (h : ci < 8) : ∃ cT, vwCl[ci]? = some cT := ⟨_, List.getElem?_eq_getElem (show ci < vwCl.length from h)⟩
theorem kode_ok (M : Nat) (r : MR) (h : krec[M]? = some r) : ∀ e ∈ kodeOf M, okKE r e = true := by
  have hM : M < 8 := (List.getElem?_eq_some_iff.mp h).1
  have h1 := List.all_eq_true.mp kkE M (List.mem_range.mpr hM)
  unfold ckKE at h1
  rw [h] at h1
  exact List.all_eq_true.mp h1
section CMP
variable {p : Program} {l : Launch} {e : Env} {R : Room} {s : State} {m : MethodId} {args : Array Value} {below : List Frame} {meth : Method} {c : Code} {H : Heap} {locs : List Loc} {cells slots : Nat} {Q : State → Prop}
variable {cc : ByteArray} {pc : Nat} {ls : Array Slot} {rest : List Value} {D : va_G} {A : Nat → Prop} {a : Nat} {tys : List (ClassId × FieldType)} {ws : va_W} {H0 : Heap}
/-- a store into a field, by a constructor or not: as the kit's row, and the heap's size stays -/
theorem cm_put (hexec : p.tables.exec = Jvm.exec) (hb : c.code = cc) {own : String} {cT : vw_C} {ci index : Nat} (hts : ∀ w ∈ gw, w.before args s = true) (hown : s.vm.findClass own = some m.cls) (hK : va_K D vwCl tys s) (hP : va_P D vwCl ws H) (hD : va_D A ws) (hS0 : va_S A H0 H locs) (q0 : Nat) {fs : List Value} (he : ws[q0]? = some (a, .inr (ci, fs))) (hc : vwCl[ci]? = some cT) (k : Nat) (hk : k < cT.2.2)
    (hlink : (Cond.fieldLink own index (cT.2.1 k).1 (cT.2.1 k).2.1 (cT.2.1 k).2.2.1).before args s = true) (hin2 : meth.name = "<init>") (hdecl : (cT.2.1 k).1 = own) {ty : FieldType} {v : Value} (hd : parseFieldDescriptor (cT.2.1 k).2.2.1 = some ty) (hn : narrow ty v = v) (hfit : fits ty v = true) (hl : k < fs.length) (hdg : decode cc pc = .ok (.putfield index, 3))
    (kk : ∀ (H1 : Heap) (locs1 : List Loc), va_P D vwCl (ws.set q0 (a, .inr (ci, fs.set k v))) H1 → H1.size = H.size → va_S A H0 H1 locs1 → W p l e R s m args below meth c H1 locs1 cells slots Q (F0 m (pc + 3) ls rest)) : W p l e R s m args below meth c H locs cells slots Q (F0 m pc ls (v :: .ref a :: rest)) := by
  obtain ⟨C, T, N⟩ := cT
  obtain ⟨hin, ty0, hty, hnm⟩ := cl_ok ci _ hc
  have hap := va_apart (own := own) hts hin ty0 hty hnm hK hc
  obtain ⟨r, h1, cell, q1, q2, q3, q4⟩ := hP q0 _ he
  have hr : r = (C, T, N) := Option.some.inj (h1.symm.trans hc)
  subst hr
  obtain ⟨hS, hfc, kC, hkC, hkind⟩ := hK.1 ci _ hc
  obtain ⟨cf, kf, fi, f, hi, hsl⟩ := hS k hk
  have hst := (u_facts hfc hkC (u_lays hts hin hk) hi).1
  have fin : ∀ H' : Heap, H'[a]? = some (cell.setSlot f.slot v) → H'.size = H.size → (∀ q, q ≠ a → H'[q]? = H[q]?) → W p l e R s m args below meth c H' (locs ++ [⟨a, f.slot⟩]) cells slots Q (F0 m (pc + 3) ls rest) := by
    intro H' e1 e2 e3
    rw [hsl] at e1 ⊢
    exact kk H' _ (hP.set hD he ⟨_, hc, t_OB.to (V := updV (vp_V fs) k v) ⟨_, e1, q2, q3, t_set q4 hap hk v⟩ (fun j _ => vp_updV_set hl v j)⟩ e3) e2 (hS0.put e2 e3 (hD.2 q0 _ he))
  have hlay := hts _ (hin _ (u_in_lay hk))
  unfold u_lay at hlay
  cases hfin : (T k).2.2.2 with
  | false =>
    rw [if_neg (by rw [hfin]; decide)] at hlay
    exact W.putK hexec hb (f := f) ⟨hown, hlink, ⟨_, _, _, hi⟩, hst⟩ (by rw [q2]; exact u_store hfc hkC hkind hlay hi hd hn hfit) q1 q3 (by rw [hsl]; exact k2_hasslot (q4 k hk)) rfl rfl hdg fin
  | true =>
    rw [if_pos hfin] at hlay
    have hcf : m.cls = cf := by
      obtain ⟨_, _, c', _, _, _, -, -, hf', -, -, -, hown2, -⟩ := Cond.laysFinal_spec hlay
      have e1 : c' = cf := by have := hi.symm.trans hf'; simp at this; exact this.1.symm
      have hdecl : (T k).1 = own := hdecl
      rw [hdecl] at hown2
      rw [← e1]; exact Option.some.inj (hown.symm.trans hown2)
    exact W.putFinK hexec hb hown hlink hi hst hcf hin2 (by rw [q2]; exact u_fits hfc hkC hkind (Or.inr hlay) hi hd hn hfit) q1 q3 (by rw [hsl]; exact k2_hasslot (q4 k hk)) rfl rfl hdg fin
end CMP
theorem kget0 : (List.range 8).all (fun M => (kodeOf M).all (fun e => match e.2.1, e.2.2.2 with
  | .getfield _, [k, ci] => Nat.blt k (fcdL.getD ci []).length
  | _, _ => true)) = true := by decide +kernel
theorem kget_ok (M : Nat) (r : MR) (h : krec[M]? = some r) (idx k ci len : Nat) {pc : Nat} (he : (pc, (Instr.getfield idx, len, [k, ci])) ∈ kodeOf M) : k < (fcdL.getD ci []).length := by
  have hM : M < 8 := (List.getElem?_eq_some_iff.mp h).1
  have h1 := List.all_eq_true.mp (List.all_eq_true.mp kget0 M (List.mem_range.mpr hM)) _ he
  rw [Nat.blt_eq] at h1
  exact h1
def isRf : List CV → Prop
  | .inr (some _) :: _ => True
  | _ => False
theorem kode_0 : (List.range 8).all (fun M => match lkE (kodeOf M) 0 with
  | some (.aload_n k, _, _) => Nat.beq k.val 0
  | _ => false) = true := by decide +kernel
theorem ctor_recv (n M : Nat) (a : List CV) (ws wsF : List CE) {b : List CV} (h : cF n (kodeOf M) 0 (a ++ b) [] ws = some wsF) : isRf a ∨ a = [] := by
  cases n with
  | zero => cases h
  | succ n =>
    unfold cF at h
    cases hlk : lkE (kodeOf M) 0 with
    | none => rw [hlk] at h; cases h
    | some x =>
      obtain ⟨I, len, inf⟩ := x
      have hM : M < 8 := by
        rcases Nat.lt_or_ge M 8 with c | c
        · exact c
        · exfalso
          have : kodeOf M = [] := by
            unfold kodeOf
            rw [List.getElem?_eq_none (by show 8 ≤ M; exact c)]
            rfl
          rw [this] at hlk
          cases hlk
      have h0 := List.all_eq_true.mp kode_0 M (List.mem_range.mpr hM)
      rw [hlk] at h0 h
      cases I
      all_goals first
        | (cases h0; done)
        | skip
      rename_i k
      have hk : k.val = 0 := len_eq h0
      simp only [stepC, hk] at h
      match a, h with
      | [], _ => exact Or.inr rfl
      | .inr (some q) :: r, _ => exact Or.inl trivial
      | .inr none :: r, h => cases h
      | .inl z :: r, h => cases h
set_option maxHeartbeats 4000000 in
set_option maxRecDepth 100000 in
theorem cm_main {cs : Nat → ClassId} {D : va_G} {base : Nat} (l : Launch) :
    ∀ (n M : Nat) (r : MR), krec[M]? = some r → ∀ (p : Program) (e : Env) (R : Room) (s : State) (m : MethodId) (args : Array Value) (below : List Frame) (meth : Method) (c : Code) (Qf : State → Prop) (wsF : List CE) (n0 w0 : Nat),
      CallFix p m c (m_b r) (m_l r) s args gw (ownN (m_o r)) → meth.name = "<init>" → KEnv cs D s → base ≤ s.heap.size → m_F r ≤ R.frames → m_L r ≤ R.locals → wsF.length ≤ n0 + R.cells → slW wsF ≤ w0 + R.slots →
      (∀ (pc : Nat) (arr : Array Slot) (H : Heap) (locs : List Loc) (ce sl : Nat), decode (m_b r) pc = .ok (.return_, 1) → va_P D vwCl (cW base cs 0 wsF) H → H.size = base + wsF.length → va_S (AB base) s.heap H locs → wsF.length = n0 + ce → slW wsF = w0 + sl →
        W p l e R s m args below meth c H locs ce sl Qf (F0 m pc arr [])) →
      ∀ (pc : Nat) (ls st : List CV) (ws : List CE) (arr : Array Slot) (H : Heap) (locs : List Loc) (ce sl : Nat), cF n (kodeOf M) pc ls st ws = some wsF → LR (adK base) (m_l r) (ls.map toA) arr → va_P D vwCl (cW base cs 0 ws) H → H.size = base + ws.length → va_S (AB base) s.heap H locs → ws.length = n0 + ce → slW ws = w0 + sl →
        W p l e R s m args below meth c H locs ce sl Qf (F0 m pc arr (st.map (conC base))) := by
  intro n
  induction n with
  | zero => intro M r _ p e R s m args below meth c Qf wsF n0 w0 _ _ _ _ _ _ _ _ _ pc ls st ws arr H locs ce sl h; cases h
  | succ n ih =>
    intro M r hr p e R s m args below meth c Qf wsF n0 w0 hC hnm hE hbs hF hLo hRc hRs hret pc ls st ws arr H locs ce sl h hLR hP hsz hS hce hsl
    have ih2 := ih M r hr p e R s m args below meth c Qf wsF n0 w0 hC hnm hE hbs hF hLo hRc hRs hret
    obtain ⟨hx, hb, hml, hown, hts⟩ := id hC
    obtain ⟨hK, hAO5, hAO4⟩ := id hE
    have hq := krec_q hr
    have hD := cW_D base cs ws
    unfold cF at h
    cases hlk : lkE (kodeOf M) pc with
    | none => rw [hlk] at h; cases h
    | some x =>
      obtain ⟨I, len, inf⟩ := x
      rw [hlk] at h
      have hok := kode_ok M r hr _ (lkE_mem _ _ _ hlk)
      simp only [okKE, Bool.and_eq_true, decide_eq_true_eq] at hok
      obtain ⟨hdg, hI⟩ := hok
      have hcat : ∀ l : List CV, l.length ≤ 8 → ((l.map (conC base)).map fun v => v.category).sum ≤ 8 := by
        intro l hl
        have : ∀ l : List CV, ((l.map (conC base)).map fun v => v.category).sum = l.length := by
          intro l
          induction l with
          | nil => rfl
          | cons v l ih => simp only [List.map_cons, List.sum_cons, conC_cat, List.length_cons]; rw [ih]; omega
        rw [this]; exact hl
      have hget : ∀ (k : Nat) (v : CV), ls[k]? = some v → nU (toA v) → arr[k]? = some (.val (conV (adK base) (toA v))) := fun k v hk hv => hLR.2.2.2 k (toA v) (by rw [List.getElem?_map, hk]; rfl) hv
      cases I
      all_goals first
        | (cases h; done)
        | skip
      case iconst i =>
        simp only [okK, Bool.and_eq_true] at hI
        obtain rfl := len_eq hI.1
        exact lv_iconst hx hb hdg rfl (ih2 (pc + 1) ls (.inl i :: st) ws arr H locs ce sl h hLR hP hsz hS hce hsl)
      case bipush i =>
        simp only [okK, Bool.and_eq_true, decide_eq_true_eq] at hI
        obtain rfl := len_eq hI.1.1
        exact lv_bipush hx hb hdg hI.2 (ih2 (pc + 2) ls (.inl i :: st) ws arr H locs ce sl h hLR hP hsz hS hce hsl)
      case sipush i =>
        simp only [okK, Bool.and_eq_true, decide_eq_true_eq] at hI
        obtain rfl := len_eq hI.1.1
        exact lv_sipush hx hb hdg hI.2 (ih2 (pc + 3) ls (.inl i :: st) ws arr H locs ce sl h hLR hP hsz hS hce hsl)
      case aload_n k =>
        obtain rfl := len_eq hI
        simp only [stepC] at h
        match hk : ls[k.val]?, h with
        | some (.inr (some q)), h =>
          exact lv_aload_n hx hb hdg rfl (hget _ _ hk (show 0 < 900 by decide)) (ih2 (pc + 1) ls (.inr (some q) :: st) ws arr H locs ce sl h hLR hP hsz hS hce hsl)
        | some (.inr none), h => cases h
        | some (.inl _), h => cases h
        | none, h => cases h
      case iload_n k =>
        obtain rfl := len_eq hI
        simp only [stepC] at h
        match hk : ls[k.val]?, h with
        | some (.inl x), h =>
          exact lv_iload_n hx hb hdg rfl (hget _ _ hk trivial) (ih2 (pc + 1) ls (.inl x :: st) ws arr H locs ce sl h hLR hP hsz hS hce hsl)
        | some (.inr _), h => cases h
        | none, h => cases h
      case istore_n k =>
        simp only [okK, Bool.and_eq_true, Nat.blt_eq] at hI
        obtain rfl := len_eq hI.1
        match st, h with
        | .inl x :: st', h =>
          refine lv_istore_n hx hb hdg rfl hLR.has hI.2 rfl (fun arr' hl' => ih2 (pc + 1) (ls.set k.val (.inl x)) st' ws arr' H locs ce sl h ?_ hP hsz hS hce hsl)
          rw [List.map_set]
          exact hLR.put (v := .inl x) hl'
        | .inr _ :: _, h => cases h
        | [], h => cases h
      case astore_n k =>
        simp only [okK, Bool.and_eq_true, Nat.blt_eq] at hI
        obtain rfl := len_eq hI.1
        match st, h with
        | .inr (some q) :: st', h =>
          refine lv_astore_n hx hb hdg rfl hLR.has hI.2 rfl (fun arr' hl' => ih2 (pc + 1) (ls.set k.val (.inr (some q))) st' ws arr' H locs ce sl h ?_ hP hsz hS hce hsl)
          rw [List.map_set]
          exact hLR.put (v := .inr (0, (q : Int))) hl'
        | .inr none :: _, h => cases h
        | .inl _ :: _, h => cases h
        | [], h => cases h
      case iinc k d =>
        simp only [okK, Bool.and_eq_true, Nat.blt_eq] at hI
        obtain rfl := len_eq hI.1
        simp only [stepC] at h
        match hk : ls[k]?, h with
        | some (.inl x), h =>
          dsimp only at h
          cases hrb : rb (x + d) with
          | false => rw [hrb] at h; cases h
          | true =>
            rw [hrb] at h
            obtain ⟨kk, hkk⟩ := List.getElem?_of_mem ((lvOf_mem (ad := adK base) (ls.map toA) 0 (k, conV (adK base) (.inl x))).mpr ⟨k, .inl x, by rw [List.getElem?_map, hk]; rfl, trivial, by rw [Nat.zero_add]⟩)
            refine lv_iinc (v := Int32.ofInt (x + d)) hx hb hdg hLR.has hkk (by rw [Int32.ofInt_add]) hI.2 rfl (fun arr' hl' => ih2 (pc + 3) (ls.set k (.inl (x + d))) st ws arr' H locs ce sl h ?_ hP hsz hS hce hsl)
            rw [List.map_set]
            exact hLR.put (v := .inl (x + d)) hl'
        | some (.inr _), h => cases h
        | none, h => cases h
      case dup =>
        obtain rfl := len_eq hI
        match st, h with
        | v :: st', h => exact lv_dup hx hb hdg (conC_cat base v) (ih2 (pc + 1) ls (v :: v :: st') ws arr H locs ce sl h hLR hP hsz hS hce hsl)
        | [], h => cases h
      case goto o =>
        simp only [okK, Bool.and_eq_true] at hI
        obtain rfl := len_eq hI.1
        exact lv_goto hx hb hdg (tg_ok hI.2) (ih2 _ ls st ws arr H locs ce sl h hLR hP hsz hS hce hsl)
      case if_icmp cd o =>
        simp only [okK, Bool.and_eq_true] at hI
        obtain rfl := len_eq hI.1
        cases cd
        all_goals first
          | (cases h; done)
          | skip
        match st, h with
        | .inl b :: .inl a :: st', h =>
          simp only [stepC] at h
          cases hrb : (rb a && rb b) with
          | false => rw [hrb] at h; cases h
          | true =>
            rw [hrb] at h
            rw [Bool.and_eq_true] at hrb
            have ra := rb_ok hrb.1
            have rb' := rb_ok hrb.2
            by_cases hc : b ≤ a
            · rw [decide_eq_true hc] at h
              exact lv_icmp_ge hx hb hdg (tg_ok hI.2) (fun _ => ih2 _ ls st' ws arr H locs ce sl h hLR hP hsz hS hce hsl) (fun z => absurd ((z_le rb' ra).mpr hc) z)
            · rw [decide_eq_false hc] at h
              exact lv_icmp_ge hx hb hdg (tg_ok hI.2) (fun z => absurd ((z_le rb' ra).mp z) hc) (fun _ => ih2 _ ls st' ws arr H locs ce sl h hLR hP hsz hS hce hsl)
        | .inl _ :: .inr _ :: _, h => cases h
        | [.inl _], h => cases h
        | .inr _ :: _, h => cases h
        | [], h => cases h
      case new idx =>
        match inf, h, hI with
        | [ci], h, hI =>
          simp only [okK, Bool.and_eq_true, Nat.blt_eq] at hI
          obtain rfl := len_eq hI.1
          have hmr := cF_more n _ _ _ _ _ _ h
          have hw := ncp_ok _ (by omega) _ (el3_mem _ hI.2.1)
          obtain ⟨cT, hcl⟩ := vw_ex hI.2.2
          have hcT := vw_own ci cT hcl
          have hck := clK_use hcl
          have hlen : (ws ++ [(.inr (.inr (ci, dfl ci)) : CE)]).length = ws.length + 1 := by simp
          have hsl2 : slW (ws ++ [(.inr (.inr (ci, dfl ci)) : CE)]) = slW ws + cT.2.2 := by rw [slW_app, hck.1]; rfl
          have hKn := hK.1 ci cT hcl
          refine W.newcK (C := ownN ci) (n := cT.2.2) (h := base + ws.length) (cC := D.1 ci) hx hb hown (hts _ (hw _ List.mem_cons_self)) (by rw [hck.2.1]; exact hts _ (hw _ (List.mem_cons_of_mem _ (List.mem_cons_of_mem _ List.mem_cons_self)))) (hts _ (hw _ (List.mem_cons_of_mem _ List.mem_cons_self))) rfl hdg (by omega) (by omega) (by rw [← hcT]; exact hKn.2.1) hsz (fun H1 kC hkC e1 z1 o1 => ?_)
          have hg := cm_grow (e := .inr (.inr (ci, dfl ci))) hP hsz (fun q hq => o1 q (by omega)) (by omega) (⟨cT, hcl, (u_born (tyO ci) hts (cl_ok ci cT hcl).1 hKn hkC e1 (tyO_ok ci cT hcl)).to (dfl_ok hcl base)⟩)
          exact ih2 (pc + 3) ls (.inr (some ws.length) :: st) _ arr H1 locs (ce + 1) (sl + cT.2.2) h hLR hg.1 hg.2 (cm_S hS (by omega) (fun q hq => o1 q (by omega))) (by omega) (by omega)
      case newarray t =>
        obtain rfl := len_eq hI
        match st, h with
        | .inl nn :: st', h =>
          simp only [stepC] at h
          by_cases hc : 0 ≤ nn ∧ nn ≤ 100000
          · rw [decide_eq_true hc] at h
            have rn : Rng nn := ⟨by omega, by omega⟩
            have hn : ¬ Int32.ofInt nn < 0 := fun z => by have := (z_lt0 rn).mp z; omega
            cases t
            all_goals first
              | (cases h; done)
              | skip
            case boolean =>
              have hmr := cF_more n _ _ _ _ _ _ h
              have hlen : (ws ++ [(.inl (1, nn.toNat, fun _ => 0) : CE)]).length = ws.length + 1 := by simp
              have hsl2 : slW (ws ++ [(.inl (1, nn.toNat, fun _ => 0) : CE)]) = slW ws + nn.toNat := by rw [slW_app]; rfl
              refine va_newaK (atype := .boolean) (h := base + ws.length) (N := nn.toNat) hx hb (hts _ (kI _ (List.mem_of_getElem? (i := 3) rfl))) rfl hdg rfl hn (z_cl rn) (show nn.toNat * 1 ≤ 536870912 by omega) (by omega) (by omega) hsz (fun H1 cA e1 z1 o1 hAr hNm => ?_)
              have hcA : cA = cs 1 := Option.some.inj (hNm.symm.trans ((hK.2 1 _ rfl).2))
              subst hcA
              have hg := cm_grow (e := .inl (1, nn.toNat, fun _ => 0)) hP hsz (fun q hq => o1 q (by omega)) (by omega) (show H1[base + ws.length]? = some (vp_cell (cs 1) (nn.toNat, .inl (fun _ => Int32.ofInt 0))) from e1)
              exact ih2 (pc + 2) ls (.inr (some ws.length) :: st') _ arr H1 locs (ce + 1) (sl + nn.toNat) h hLR hg.1 hg.2 (cm_S hS (by omega) (fun q hq => o1 q (by omega))) (by omega) (by omega)
            case int =>
              have hmr := cF_more n _ _ _ _ _ _ h
              have hlen : (ws ++ [(.inl (0, nn.toNat, fun _ => 0) : CE)]).length = ws.length + 1 := by simp
              have hsl2 : slW (ws ++ [(.inl (0, nn.toNat, fun _ => 0) : CE)]) = slW ws + nn.toNat := by rw [slW_app]; rfl
              refine va_newaK (atype := .int) (h := base + ws.length) (N := nn.toNat) hx hb (hts _ (kI _ (List.mem_of_getElem? (i := 2) rfl))) rfl hdg rfl hn (z_cl rn) (show nn.toNat * 4 ≤ 536870912 by omega) (by omega) (by omega) hsz (fun H1 cA e1 z1 o1 hAr hNm => ?_)
              have hcA : cA = cs 0 := Option.some.inj (hNm.symm.trans ((hK.2 0 _ rfl).2))
              subst hcA
              have hg := cm_grow (e := .inl (0, nn.toNat, fun _ => 0)) hP hsz (fun q hq => o1 q (by omega)) (by omega) (show H1[base + ws.length]? = some (vp_cell (cs 0) (nn.toNat, .inl (fun _ => Int32.ofInt 0))) from e1)
              exact ih2 (pc + 2) ls (.inr (some ws.length) :: st') _ arr H1 locs (ce + 1) (sl + nn.toNat) h hLR hg.1 hg.2 (cm_S hS (by omega) (fun q hq => o1 q (by omega))) (by omega) (by omega)
          · rw [decide_eq_false hc] at h
            cases t <;> cases h
        | .inr _ :: _, h => cases h
        | [], h => cases h
      case anewarray idx =>
        match st, inf, h, hI with
        | .inl nn :: st', [t], h, hI =>
          simp only [okK, Bool.and_eq_true] at hI
          obtain rfl := len_eq hI.1
          simp only [stepC] at h
          by_cases hc : 0 ≤ nn ∧ nn ≤ 100000
          · rw [decide_eq_true hc] at h
            have rn : Rng nn := ⟨by omega, by omega⟩
            have hn : ¬ Int32.ofInt nn < 0 := fun z => by have := (z_lt0 rn).mp z; omega
            have hmr := cF_more n _ _ _ _ _ _ h
            have hlen : (ws ++ [(.inr (.inl (t, nn.toNat, fun _ => none)) : CE)]).length = ws.length + 1 := by simp
            have hsl2 : slW (ws ++ [(.inr (.inl (t, nn.toNat, fun _ => none)) : CE)]) = slW ws + nn.toNat := by rw [slW_app]; rfl
            have fin : ∀ (C : String) (ci : Nat), ownN ci = C → (idx, ci, 0) ∈ ncp.getD (m_o r) [] → va_AO C s → s.vm.findClass ("[" ++ (FieldType.object C).toString) = some (cs t) → W p l e R s m args below meth c H locs ce sl Qf (F0 m pc arr (.int (Int32.ofInt nn) :: st'.map (conC base))) := by
              intro C ci hoc hmem hAO hfc
              have hw := ncp_ok _ (by omega) _ hmem
              refine W.anew (C := C) hx hb hown (by rw [← hoc]; exact hts _ (hw _ List.mem_cons_self)) (va_AO.use hAO) rfl hdg rfl hn (by rw [z_cl rn]; omega) (by omega) (by rw [z_cl rn]; omega) (fun cA kA comp f1 f2 f3 f4 => ?_)
              have hcA : cA = cs t := Option.some.inj (f1.symm.trans hfc)
              subst hcA
              rw [z_cl rn]
              generalize hH1 : H.push ({ cls := cs t, slots := Array.replicate nn.toNat .null, vm := .none } : Cell) = H1
              have z1 : H1.size = H.size + 1 := by rw [← hH1, Array.size_push]
              have e1 : H1[H.size]? = some (arrV (cs t) nn.toNat (fun _ => .null)) := by rw [← hH1, Array.getElem?_push_size, ← arrV_new]
              have o1 : ∀ q : Nat, q < H.size → H1[q]? = H[q]? := fun q hq => by rw [← hH1, Array.getElem?_push, if_neg (Nat.ne_of_lt hq)]
              have hg := cm_grow (e := .inr (.inl (t, nn.toNat, fun _ => none))) hP hsz o1 z1 (by rw [hsz] at e1; exact (show H1[base + ws.length]? = some (vp_cell (cs t) (nn.toNat, .inr (.inr (.inr (.inr (fun _ => none)))))) from e1))
              rw [hsz]
              exact ih2 (pc + 3) ls (.inr (some ws.length) :: st') _ arr H1 locs (ce + 1) (sl + nn.toNat) h hLR hg.1 hg.2 (cm_S hS z1 o1) (by omega) (by omega)
            have hI2 := hI.2
            match t, hI2 with
            | 2, hI2 =>
              obtain ⟨kA, comp, q1, q2, q3, q4⟩ := (hK.2 2 _ rfl).2
              exact fin RX5 5 rfl (el3_mem _ hI2) hAO5 q4
            | 3, hI2 =>
              obtain ⟨kA, comp, q1, q2, q3, q4⟩ := (hK.2 3 _ rfl).2
              exact fin RX4 4 rfl (el3_mem _ hI2) hAO4 q4
          · rw [decide_eq_false hc] at h
            cases h
      case invokespecial idx =>
        match inf, h, hI with
        | [], h, hI =>
          simp only [okK, Bool.and_eq_true, Nat.ble_eq] at hI
          obtain rfl := len_eq hI.1
          match st, h with
          | .inr (some q) :: st', h =>
            simp only [stepC] at h
            cases hb8 : Nat.ble st'.length 8 with
            | false => rw [hb8] at h; cases h
            | true =>
              rw [hb8] at h
              have hl8 := Nat.le_of_ble_eq_true hb8
              have hwo : owds (m_o r, idx, 0) ∈ gw := pkL_gw (kkO ▸ List.mem_map_of_mem (el3_mem _ hI.2.1.1)) rfl
              refine W.objInit hx hb hown (hts _ hwo) (hts _ (kI _ (List.mem_of_getElem? (i := 0) rfl))) (hts _ (kI _ (List.mem_of_getElem? (i := 1) rfl))) rfl (by rw [hml]; exact hLR.1) rfl hdg (by omega) ?_ ?_
              · have := hcat st' hl8
                show 2 * 0 + ((st'.map (conC base)).map fun v => v.category).sum + 12 ≤ R.locals
                omega
              · exact ih2 (pc + 3) ls st' ws arr H locs ce sl h hLR hP hsz hS hce hsl
          | .inr none :: _, h => cases h
          | .inl _ :: _, h => cases h
          | [], h => cases h
        | [M', na, ml], h, hI =>
          simp only [okK, Bool.and_eq_true] at hI
          obtain rfl := len_eq hI.1
          simp only [stepC] at h
          cases hb8 : (Nat.ble na st.length && Nat.ble (st.drop na).length 8 && Nat.ble na ml) with
          | false => rw [hb8] at h; cases h
          | true =>
            rw [hb8] at h
            simp only [Bool.and_eq_true, Nat.ble_eq] at hb8
            dsimp only at h
            cases hcf : cF n (kodeOf M') 0 ((st.take na).reverse ++ List.replicate (ml - na) (.inr none)) [] ws with
            | none => rw [hcf] at h; cases h
            | some ws2 =>
              rw [hcf] at h
              have hm1 := cF_more n _ _ _ _ _ _ hcf
              have hm2 := cF_more n _ _ _ _ _ _ h
              cases hkr : krec[M']? with
              | none => rw [hkr] at hI; exact absurd hI.2.2 (by simp)
              | some r' =>
                rw [hkr] at hI
                simp only [Bool.and_eq_true, Nat.ble_eq] at hI
                obtain ⟨-, hmem, ⟨⟨hmle, hfr⟩, hlo⟩, hpar⟩ := hI
                have hmle := len_eq hmle
                have hpar := len_eq hpar
                have hq' := krec_q hkr
                have hcls := krec_cls hkr
                have hpl := own_p (o := m_o r') (by omega) (by omega)
                have hnmr := krec_nm hkr
                have hlen : (st.take na).reverse.length = na := by rw [List.length_reverse, List.length_take]; omega
                -- the receiver
                obtain ⟨rv, As, hrv⟩ : ∃ rv As, (st.take na).reverse = rv :: As := by
                  cases hh : (st.take na).reverse with
                  | nil => rw [hh] at hlen; simp at hlen; omega
                  | cons a b => exact ⟨a, b, rfl⟩
                obtain ⟨mc, hmc⟩ : ∃ mc, mc = ws2.length - ws.length := ⟨_, rfl⟩
                obtain ⟨ms, hms⟩ : ∃ ms, ms = slW ws2 - slW ws := ⟨_, rfl⟩
                have hMet : Met l (m_y r') (wsO r') (rmK r' mc ms) (PcK base cs D (st.take na).reverse ws) (QcK base cs D ws2) mc ms (AB base) := by
                  refine Met.ofW (cc := m_b r') (maxL := m_l r') (ret := none) (by rw [hcls]; exact hpl.1) (by unfold wsO; rw [show r'.2.2.2.1 = none from hq'.2]) ?_
                  intro p' e' s' m' args' below' meth' c' s₁ B hml' hv
                  obtain ⟨rfl, hE', hP', hsz'⟩ := hv
                  have hx' := B.exec
                  have hb' := B.bytes
                  have hr2 := B.returns
                  have hts' := atoms_spec (ws := wsO r') B.pre
                  have hown' : s'.vm.findClass (ownN (m_o r')) = some m'.cls := by rw [← hcls]; exact findClass_of_methodNamed B.named
                  have hlocks' := B.notSynchronized
                  have hnm' : meth'.name = "<init>" := (name_of_methodNamed B.named B.method).1.trans hnmr
                  rw [lg_entry_eq]
                  have eA : (st.take na).reverse.map (conC base) = ((st.take na).reverse.map toA).map (conV (adK base)) ∨ True := Or.inr trivial
                  have hLR' : LR (adK base) (m_l r') (((st.take na).reverse ++ List.replicate (ml - na) (Sum.inr none : CV)).map toA) ((lg_sl ((st.take na).reverse.map (conC base)) ++ List.replicate (m_l r' - (lg_sl ((st.take na).reverse.map (conC base))).length) Slot.unset).toArray) := by
                    have hlgl : (lg_sl ((st.take na).reverse.map (conC base))).length = na := by
                      have : ∀ vs : List CV, (lg_sl (vs.map (conC base))).length = vs.length := by
                        intro vs
                        induction vs with
                        | nil => rfl
                        | cons w r ih =>
                          unfold lg_sl at *
                          simp only [List.map_cons, List.flatMap_cons, List.length_append, List.length_cons]
                          rw [conC_cat, if_neg (by decide), ih]
                          simp
                          omega
                      rw [this, hlen]
                    have hh := lv_entry ((st.take na).reverse.map (conC base)) (n := m_l r') (by rw [hlgl, ← hmle]; exact hb8.2)
                    refine LR.of_has hh (by simp; omega) (fun k v hk hv => ?_)
                    rw [List.map_append, List.getElem?_append] at hk
                    split at hk
                    · rw [List.getElem?_map] at hk
                      cases hkk : (st.take na).reverse[k]? with
                      | none => rw [hkk] at hk; cases hk
                      | some w =>
                        rw [hkk] at hk
                        cases hk
                        have key : ∀ (vs : List CV) (k0 k : Nat) (w : CV), vs[k]? = some w → (k0 + k, conC base w) ∈ lv_args k0 (vs.map (conC base)) := by
                          intro vs
                          induction vs with
                          | nil => intro k0 k w h; simp at h
                          | cons x r ih =>
                            intro k0 k w h
                            show _ ∈ (k0, conC base x) :: lv_args (if (conC base x).category = 2 then k0 + 2 else k0 + 1) (r.map (conC base))
                            rw [conC_cat, if_neg (by decide)]
                            cases k with
                            | zero =>
                              have e : x = w := by simpa using h
                              subst e
                              exact List.mem_cons_self
                            | succ k =>
                              have := ih (k0 + 1) k w (by simpa using h)
                              rw [show k0 + (k + 1) = k0 + 1 + k by omega]
                              exact List.mem_cons_of_mem _ this
                        have h9 := key _ 0 k w hkk
                        rw [Nat.zero_add] at h9
                        match w, hv, h9 with
                        | .inl z, hv, h9 => exact h9
                        | .inr none, hv, h9 => exact absurd hv (by show ¬ 999 < 900; decide)
                        | .inr (some q), hv, h9 => exact h9
                    · rw [List.map_replicate] at hk
                      have := List.eq_of_mem_replicate (List.mem_of_getElem? hk)
                      rw [this] at hv
                      exact absurd hv (by show ¬ 999 < 900; decide)
                  generalize (lg_sl ((st.take na).reverse.map (conC base)) ++ List.replicate (m_l r' - (lg_sl ((st.take na).reverse.map (conC base))).length) Slot.unset).toArray = arr' at hLR' ⊢
                  refine ih M' r' hkr p' e' _ s' m' _ below' meth' c' _ ws2 ws.length (slW ws) ⟨hx', hb', hml', hown', fun w hw => hts' w (List.mem_cons_of_mem _ hw)⟩ hnm' hE' (by rw [hsz']; exact Nat.le_add_right _ _) (Nat.le_refl _) (Nat.le_refl _) (by show ws2.length ≤ ws.length + mc; omega) (by show slW ws2 ≤ slW ws + ms; omega) ?_ 0 _ [] ws arr' s'.heap [] 0 0 hcf hLR' hP' hsz' va_S.rf rfl rfl
                  intro pc2 arr2 H2 locs2 ce2 sl2 hd2 hP2 hsz2 hS2 hce2 hsl2
                  have e1 : ce2 = mc := by omega
                  have e2 : sl2 = ms := by omega
                  subst e1
                  subst e2
                  exact W.vret hx' hb' hr2 (fun t ht2 hW => ⟨⟨(), rfl, trivial, (show va_P D vwCl (cW base cs 0 ws2) t.heap ∧ t.heap.size = base + ws2.length by rw [ht2]; exact ⟨hP2, hsz2⟩)⟩, hS2.F ht2⟩) hS2.2.2 hd2
                have hw := kcp_ok _ (by omega) _ (el3_mem _ hmem)
                have hy := kyR_eq hkr
                unfold kwds at hw
                simp only [hy] at hw
                have hd : (m_y r').cls ≠ "java/lang/invoke/MethodHandle" ∧ (m_y r').cls ≠ "java/lang/invoke/VarHandle" ∧ (parseMethodDescriptor (m_y r').desc).map (fun d => d.parameters.length) = some As.length := by
                  rw [hcls]
                  refine ⟨hpl.2.1, hpl.2.2, ?_⟩
                  rw [krec_par hkr]
                  congr 1
                  rw [hrv] at hlen
                  simp only [List.length_cons] at hlen
                  omega
                have hstt : ∃ b, rv = .inr (some b) := by
                  have hin0 := ctor_recv n M' _ ws ws2 hcf
                  rw [hrv] at hin0
                  rcases hin0 with hin0 | hin0
                  · match rv, hin0 with
                    | .inr (some b), _ => exact ⟨b, rfl⟩
                    | .inr none, h0 => exact h0.elim
                    | .inl _, h0 => exact h0.elim
                  · cases hin0
                obtain ⟨b, rfl⟩ := hstt
                have hpre : PreS s H (PcK base cs D (st.take na).reverse ws) (.ref (base + b) :: As.map (conC base)) := ⟨PcK_blind, fun U hU hW => ⟨by rw [hrv]; rfl, ⟨va_K.moved hW.alike hK, va_AO.moved hW.alike hAO5, va_AO.moved hW.alike hAO4⟩, by rw [hU]; exact hP, by rw [hU]; exact hsz⟩⟩
                have hstk : (F0 m pc arr (st.map (conC base))).stack = (As.map (conC base)).reverse ++ .ref (base + b) :: (st.drop na).map (conC base) := by
                  show st.map (conC base) = _
                  have e8 : st = As.reverse ++ (.inr (some b) :: st.drop na) := by
                    have h8 := List.take_append_drop na st
                    have h7 : st.take na = As.reverse ++ [.inr (some b)] := by
                      rw [← List.reverse_reverse (st.take na), hrv, List.reverse_cons]
                    rw [h7, List.append_assoc] at h8
                    exact h8.symm
                  refine (congrArg (List.map (conC base)) e8).trans ?_
                  rw [List.map_append, List.map_reverse]
                  rfl
                have hG : GoodIn gw (wsO r') := wsO_good (fun _ z => z) (krec_ok hkr)
                have hRR : (rmK r' mc ms).frames + 1 ≤ R.frames ∧ 8 + (m_l r' + 11) + (rmK r' mc ms).locals ≤ R.locals := ⟨by show m_F r' + 1 ≤ R.frames; omega, by show 8 + (m_l r' + 11) + m_L r' ≤ R.locals; omega⟩
                have hrun := va_runI (e := e) (below := below) (meth := meth) (locs := locs) (As := As.map (conC base)) (rest := (st.drop na).map (conC base)) (cells := ce) (slots := sl) hC hMet (cwI As.length hts hG (by unfold wsO; rw [show r'.2.2.2.1 = none from hq'.2]) rfl rfl (hts _ (hw _ List.mem_cons_self)) (hts _ (hw _ (List.mem_cons_of_mem _ List.mem_cons_self))) (hts _ (hw _ (List.mem_cons_of_mem _ (List.mem_cons_of_mem _ List.mem_cons_self)))) hnmr hd hRR) hpre rfl (by rw [List.length_map]) hLR.1 hstk (lv_room (hcat _ hb8.1.2)) hdg ⟨by omega, by omega⟩
                refine va_callv hrun hS (fun q _ hq => hq) (fun q hq => hq) (fun u t H1 locs1 ht2 hvm hpost hB hz1 hk1 hS1 => ?_)
                have hB : va_P D vwCl (cW base cs 0 ws2) t.heap ∧ t.heap.size = base + ws2.length := hB
                rw [ht2] at hB
                exact ih2 (pc + 3) ls (st.drop na) ws2 arr H1 locs1 (ce + mc) (sl + ms) h hLR hB.1 hB.2 hS1 (by omega) (by omega)
        | [_], h, hI => cases h
        | [_, _], h, hI => cases h
        | _ :: _ :: _ :: _ :: _, h, hI => cases h
      case putfield idx =>
        match inf, st, h, hI with
        | [k, ci], v :: .inr (some q) :: st', h, hI =>
          simp only [okK, Bool.and_eq_true, Nat.blt_eq] at hI
          obtain rfl := len_eq hI.1
          have hco := len_eq hI.2.1.2
          simp only [stepC] at h
          match hwq : ws[q]?, h with
          | some (.inr (.inr (ci', fs))), h =>
            dsimp only at h
            cases hb8 : (Nat.beq ci ci' && Nat.blt k fs.length && fitC (fcd ci k) v) with
            | false => rw [hb8] at h; cases h
            | true =>
              rw [hb8] at h
              simp only [Bool.and_eq_true, Nat.blt_eq] at hb8
              obtain ⟨⟨e1, hkf⟩, hfit⟩ := hb8
              have e1 := len_eq e1
              subst e1
              obtain ⟨cT, hcl⟩ := vw_ex hI.2.2
              have hcT := vw_own ci cT hcl
              have hck := clK_use hcl
              have hcell := cW_at (b := base) (cs := cs) hwq
              have hw := hts _ (fcp2_ok _ hq.1 _ (el3_mem _ hI.2.1.1))
              rw [fwd_eq hcl] at hw
              have hkn : fcd ci k < 9 := by
                match hfc : fcd ci k, hfit with
                | 0, _ => decide
                | 1, _ => decide
                | 2, _ => decide
                | f + 3, hfit => simp [fitC] at hfit
              have hkN : k < cT.2.2 := by
                rcases Nat.lt_or_ge k cT.2.2 with c0 | c0
                · exact c0
                · exfalso
                  have : fcd ci k = 9 := by
                    unfold fcd
                    rw [List.getD_eq_getElem?_getD, List.getElem?_eq_none (by rw [← hck.2.1]; exact c0)]
                    rfl
                  omega
              obtain ⟨hdecl, hcode⟩ := hck.2.2 k hkN
              obtain ⟨ty9, hty9, hnm9⟩ := (cl_ok ci cT hcl).2
              have hl2 : k < (fs.map (conC base)).length := by rw [List.length_map]; exact hkf
              have hset : slW (ws.set q (.inr (.inr (ci, fs.set k v)))) = slW ws := slW_set ws q _ _ hwq (by simp [slE])
              have fin : ∀ (H1 : Heap) (locs1 : List Loc), va_P D vwCl ((cW base cs 0 ws).set q (base + q, .inr (ci, (fs.map (conC base)).set k (conC base v)))) H1 → H1.size = H.size → va_S (AB base) s.heap H1 locs1 → W p l e R s m args below meth c H1 locs1 ce sl Qf (F0 m (pc + 3) arr (st'.map (conC base))) := by
                intro H1 locs1 hP1 hz hS1
                rw [← List.map_set] at hP1
                have hP2 : va_P D vwCl (cW base cs 0 (ws.set q (.inr (.inr (ci, fs.set k v))))) H1 := by
                  rw [← cW_set]
                  exact hP1
                exact ih2 (pc + 3) ls st' _ arr H1 locs1 ce sl h hLR hP2 (by rw [hz, List.length_set]; exact hsz) hS1 (by rw [List.length_set]; exact hce) (by rw [hset]; exact hsl)
              have hfin9 : narrow (tyO ci k) (conC base v) = conC base v ∧ fits (tyO ci k) (conC base v) = true := by
                rcases hcode with ⟨c0, -, e2, -⟩ | ⟨c0, -, e2, -⟩ | ⟨c0, -, e2, -⟩
                · rw [c0] at hfit
                  match v, hfit with
                  | .inl z, hfit => rw [e2]; exact ⟨rfl, rfl⟩
                · rw [c0] at hfit
                  match v, hfit with
                  | .inl z, hfit =>
                    have hz : z = 0 ∨ z = 1 := of_decide_eq_true hfit
                    rw [e2]
                    exact ⟨(z_nar hz).1, (z_nar hz).2.2⟩
                · rw [c0] at hfit
                  match v, hfit with
                  | .inr (some a), hfit => exact ⟨(isR_fit e2 _).1, (isR_fit e2 _).2.1⟩
              exact cm_put hx hb hts hown hK hP hD hS q hcell hcl k hkN hw hnm (by rw [hdecl, hco]) (tyO_ok ci cT hcl k hkN) hfin9.1 hfin9.2 hl2 hdg fin
          | some (.inr (.inl _)), h => cases h
          | some (.inl _), h => cases h
          | none, h => cases h
      case getfield idx =>
        match inf, st, h, hI with
        | [k, ci], .inr (some q) :: st', h, hI =>
          simp only [okK, Bool.and_eq_true, Nat.blt_eq] at hI
          obtain rfl := len_eq hI.1
          simp only [stepC] at h
          match hwq : ws[q]?, h with
          | some (.inr (.inr (ci', fs))), h =>
            dsimp only at h
            cases hb8 : Nat.beq ci ci' with
            | false => rw [hb8] at h; cases h
            | true =>
              rw [hb8] at h
              have e1 := len_eq hb8
              subst e1
              dsimp only at h
              match hfk : fs[k]?, h with
              | some (.inr (some v)), h =>
                obtain ⟨cT, hcl⟩ := vw_ex hI.2.2
                have hck := clK_use hcl
                have hcell := cW_at (b := base) (cs := cs) hwq
                have hw := hts _ (fcp2_ok _ hq.1 _ (el3_mem _ hI.2.1))
                rw [fwd_eq hcl] at hw
                have hkN : k < cT.2.2 := by
                  rcases Nat.lt_or_ge k cT.2.2 with c0 | c0
                  · exact c0
                  · exfalso
                    have hlk9 := kget_ok M r hr idx k ci 3 (lkE_mem _ _ _ hlk)
                    have := hck.2.1
                    omega
                refine va_get (D := D) (ci := ci) (v := .ref (base + v)) (C := cT.1) (T := cT.2.1) (N := cT.2.2) hx hb hts (cl_ok ci cT hcl).1 hown hK hP q hcell hcl k hkN hw (fun _ h9 => h9) (by rw [List.getElem?_map, hfk]; rfl) hdg ?_
                exact ih2 (pc + 3) ls (.inr (some v) :: st') ws arr H locs ce sl h hLR hP hsz hS hce hsl
              | some (.inr none), h => cases h
              | some (.inl _), h => cases h
              | none, h => cases h
          | some (.inr (.inl _)), h => cases h
          | some (.inl _), h => cases h
          | none, h => cases h
      case aastore =>
        obtain rfl := len_eq hI
        match st, h with
        | .inr (some v) :: .inl j :: .inr (some q) :: st', h =>
          simp only [stepC] at h
          match hwq : ws[q]?, hwv : ws[v]?, h with
          | some (.inr (.inl (t, n1, f))), some (.inr (.inr (ci, vs))), h =>
            dsimp only at h
            cases hb8 : (decide (0 ≤ j ∧ j < (n1 : Int)) && rb j && ((Nat.beq t 2 && Nat.beq ci 5) || (Nat.beq t 3 && Nat.beq ci 4))) with
            | false => rw [hb8] at h; cases h
            | true =>
              rw [hb8] at h
              simp only [Bool.and_eq_true, Bool.or_eq_true, decide_eq_true_eq] at hb8
              obtain ⟨⟨hj, hrb⟩, htc⟩ := hb8
              have rj := rb_ok hrb
              have hcq := cW_at (b := base) (cs := cs) hwq
              have hcv := cW_at (b := base) (cs := cs) hwv
              have fin : ∀ (H1 : Heap) (locs1 : List Loc), va_P D vwCl ((cW base cs 0 ws).set q (base + q, .inl (cs t, n1, .inr (.inr (.inr (.inr (va_up (fun j => (f j).map (fun k => base + k)) (Int32.ofInt j).toNatClampNeg (some (base + v))))))))) H1 → H1.size = H.size → va_S (AB base) s.heap H1 locs1 → W p l e R s m args below meth c H1 locs1 ce sl Qf (F0 m (pc + 1) arr (st'.map (conC base))) := by
                intro H1 locs1 hP1 hz hS1
                have ef : va_up (fun j => (f j).map (fun k => base + k)) (Int32.ofInt j).toNatClampNeg (some (base + v)) = (fun x => (if x = j.toNat then some v else f x).map (fun k => base + k)) := by
                  funext x
                  unfold va_up
                  rw [z_cl rj]
                  by_cases c0 : x = j.toNat
                  · rw [if_pos c0, if_pos c0]; rfl
                  · rw [if_neg c0, if_neg c0]
                rw [ef] at hP1
                have hP2 : va_P D vwCl (cW base cs 0 (ws.set q (.inr (.inl (t, n1, fun k => if k = j.toNat then some v else f k))))) H1 := by
                  rw [← cW_set]
                  exact hP1
                exact ih2 (pc + 1) ls st' _ arr H1 locs1 ce sl h hLR hP2 (by rw [hz, List.length_set]; exact hsz) hS1 (by rw [List.length_set]; exact hce) (by rw [slW_set ws q _ _ hwq (by simp [slE])]; exact hsl)
              have hT : ∃ cT : vw_C, vwCl[ci]? = some cT ∧ (csT cs)[t]? = some (cs t, .object cT.1) := by
                rcases htc with ⟨e1, e2⟩ | ⟨e1, e2⟩
                · rw [len_eq e1, len_eq e2]; exact ⟨_, rfl, rfl⟩
                · rw [len_eq e1, len_eq e2]; exact ⟨_, rfl, rfl⟩
              obtain ⟨cT, hcl, hty⟩ := hT
              have hin := z_in (n := n1) rj hj.1 hj.2
              have hlt : (Int32.ofInt j).toNatClampNeg < n1 := Nat.not_le.mp fun q => hin (Or.inr q)
              have h0 : ¬ Int32.ofInt j < 0 := fun q => hin (Or.inl q)
              obtain ⟨r', hr', cellV, g1, g2, g3, -⟩ := hP v _ hcv
              have hrr : r' = cT := Option.some.inj (hr'.symm.trans hcl)
              subst hrr
              have hcls := (hK.1 ci r' hcl).2
              obtain ⟨kA, comp, k1, k2, k3, -⟩ := (hK.2 t _ hty).2
              have hcomp : comp = D.1 ci := Option.some.inj (k3.symm.trans hcls.1)
              subst hcomp
              obtain ⟨kC, hkC, -⟩ := hcls.2
              refine W.aast hx hb (hP q _ hcq) (fun q h => by cases h) (fun h => by cases h) k1 k2 rfl hkC ⟨h0, by show _ < (arrV _ _ _).slots.size; rw [arrV_size]; exact hlt⟩ g1 (fun q h => by rw [g3] at h; cases h) (by rw [g2]; exact hkC) (by rw [g2]; exact va_assign hcls) rfl rfl hdg fun H1 e z oq => ?_
              refine fin H1 _ (hP.set hD hcq ?_ oq) z (hS.put z oq (hD.2 q _ hcq))
              show H1[base + q]? = some (vp_cell _ _)
              rw [e]
              rw [vp_cell_q]
              show some ((arrV (cs t) n1 (fun j => va_rf ((f j).map (fun k => base + k)))).setSlot _ _) = _
              rw [arrV_store]
              refine congrArg some ?_
              show arrV (cs t) n1 _ = arrV (cs t) n1 (fun x => va_rf (va_up (fun j => (f j).map (fun k => base + k)) (Int32.ofInt j).toNatClampNeg (some (base + v)) x))
              refine congrArg (arrV (cs t) n1) ?_
              funext x
              unfold updV va_up
              by_cases c0 : x = (Int32.ofInt j).toNatClampNeg
              · rw [if_pos c0, if_pos c0]; rfl
              · rw [if_neg c0, if_neg c0]
          | none, _, h => cases h
          | some (.inl _), _, h => cases h
          | some (.inr (.inr _)), _, h => cases h
          | some (.inr (.inl _)), none, h => cases h
          | some (.inr (.inl _)), some (.inl _), h => cases h
          | some (.inr (.inl _)), some (.inr (.inl _)), h => cases h
      case iastore =>
        obtain rfl := len_eq hI
        match st, h with
        | .inl v :: .inl j :: .inr (some q) :: st', h =>
          simp only [stepC] at h
          match hwq : ws[q]?, h with
          | some (.inl (t, n1, f)), h =>
            dsimp only at h
            cases hb8 : (decide (0 ≤ j ∧ j < (n1 : Int)) && rb j && rb v && Nat.beq t 0) with
            | false => rw [hb8] at h; cases h
            | true =>
              rw [hb8] at h
              simp only [Bool.and_eq_true, decide_eq_true_eq] at hb8
              obtain ⟨⟨⟨hj, hrb⟩, hrv⟩, ht⟩ := hb8
              have ht := len_eq ht
              subst ht
              have rj := rb_ok hrb
              have hcq := cW_at (b := base) (cs := cs) hwq
              have hin := z_in (n := n1) rj hj.1 hj.2
              refine W.iast (x := Int32.ofInt v) hx hb (hP q _ hcq) ((hK.2 0 _ rfl).1 n1 (fun j => .int (Int32.ofInt (f j)))) (fun q => by cases q) (by show ¬ (Int32.ofInt j < 0 ∨ (arrV _ _ _).slots.size ≤ _); rw [arrV_size]; exact hin) rfl rfl hdg fun H1 e z oq => ?_
              have hP1 : va_P D vwCl (cW base cs 0 (ws.set q (.inl (0, n1, fun k => if k = j.toNat then v else f k)))) H1 := by
                rw [← cW_set]
                refine hP.set hD hcq ?_ oq
                show H1[base + q]? = some (vp_cell _ _)
                rw [e]
                rw [vp_cell_i]
                show some ((arrV (cs 0) n1 (fun j => .int (Int32.ofInt (f j)))).setSlot _ _) = _
                rw [arrV_store]
                refine congrArg some ?_
                show arrV (cs 0) n1 _ = arrV (cs 0) n1 (fun x => .int (Int32.ofInt (if x = j.toNat then v else f x)))
                refine congrArg (arrV (cs 0) n1) ?_
                funext x
                unfold updV
                rw [z_cl rj]
                by_cases c0 : x = j.toNat
                · rw [if_pos c0, if_pos c0]
                · rw [if_neg c0, if_neg c0]
              exact ih2 (pc + 1) ls st' _ arr H1 _ ce sl h hLR hP1 (by rw [z, List.length_set]; exact hsz) (hS.put z oq (hD.2 q _ hcq)) (by rw [List.length_set]; exact hce) (by rw [slW_set ws q _ _ hwq (by simp [slE])]; exact hsl)
          | some (.inr _), h => cases h
          | none, h => cases h
      case return_ =>
        obtain rfl := len_eq hI
        match st, h with
        | [], h =>
          cases h
          exact hret pc arr H locs ce sl hdg hP hsz hS hce hsl
        | _ :: _, h => cases h
