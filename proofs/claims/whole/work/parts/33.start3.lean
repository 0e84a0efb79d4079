theorem inst_in : (List.range 8).all (fun ci => decide (Cond.instantiable (ownN ci) (fcdL.getD ci []).length ∈ lw_tbl)) = true := by decide +kernel
theorem dl_0 : decode code 0 = .ok (.new 7, 3) := by decide +kernel
theorem dl_3 : decode code 3 = .ok (.dup, 1) := by decide +kernel
theorem dl_4 : decode code 4 = .ok (.invokespecial 9, 3) := by decide +kernel
theorem dl_7 : decode code 7 = .ok (.astore_n 1, 1) := by decide +kernel
theorem dl_8 : decode code 8 = .ok (.new 10, 3) := by decide +kernel
theorem dl_11 : decode code 11 = .ok (.dup, 1) := by decide +kernel
theorem dl_12 : decode code 12 = .ok (.invokespecial 12, 3) := by decide +kernel
theorem dl_15 : decode code 15 = .ok (.astore_n 2, 1) := by decide +kernel
section CMN
variable {p : Program} {l : Launch} {e : Env} {R : Room} {s : State} {m : MethodId} {args : Array Value} {below : List Frame} {meth : Method} {c : Code} {H : Heap} {locs : List Loc} {ce sl : Nat} {Q : State → Prop}
variable {cc : ByteArray} {pc : Nat} {arr : Array Slot} {rest : List Value} {D : va_G} {cs : Nat → ClassId} {base : Nat}
/-- a new object, in the law -/
theorem cm_newL {idx ci : Nat} {ws : List CE} (hexec : p.tables.exec = Jvm.exec) (hb : c.code = cc) (hts : ∀ w ∈ gw, w.before args s = true) (hown : s.vm.findClass (ownN 8) = some m.cls) (hci : ci < 8) (hmem : (idx, ci, 0) ∈ ncp.getD 8 []) (hK : va_K D vwCl (csT cs) s) (hP : va_P D vwCl (cW base cs 0 ws) H) (hsz : H.size = base + ws.length) (hS : va_S (AB base) s.heap H locs) (hc1 : ce + 1 ≤ R.cells) (hc2 : sl + (dfl ci).length ≤ R.slots) (hdg : decode cc pc = .ok (.new idx, 3))
    (kk : ∀ H1 : Heap, va_P D vwCl (cW base cs 0 (ws ++ [.inr (.inr (ci, dfl ci))])) H1 → H1.size = base + (ws ++ [(.inr (.inr (ci, dfl ci)) : CE)]).length → va_S (AB base) s.heap H1 locs → W p l e R s m args below meth c H1 locs (ce + 1) (sl + (dfl ci).length) Q (F0 m (pc + 3) arr (.ref (base + ws.length) :: rest))) : W p l e R s m args below meth c H locs ce sl Q (F0 m pc arr rest) := by
  have hw := ncp_ok 8 (by decide) _ hmem
  obtain ⟨cT, hcl⟩ := vw_ex hci
  have hcT := vw_own ci cT hcl
  have hck := clK_use hcl
  have hKn := hK.1 ci cT hcl
  refine W.newcK (C := ownN ci) (n := (dfl ci).length) (h := base + ws.length) (cC := D.1 ci) hexec hb hown (hts _ (hw _ List.mem_cons_self)) (by rw [← hck.1, hck.2.1]; exact hts _ (hw _ (List.mem_cons_of_mem _ (List.mem_cons_of_mem _ List.mem_cons_self)))) (hts _ (hw _ (List.mem_cons_of_mem _ List.mem_cons_self))) rfl hdg hc1 hc2 (by rw [← hcT]; exact hKn.2.1) hsz (fun H1 kC hkC e1 z1 o1 => ?_)
  have hg := cm_grow (e := .inr (.inr (ci, dfl ci))) hP hsz (fun q hq => o1 q (by omega)) (by omega) (⟨cT, hcl, (u_born (tyO ci) hts (cl_ok ci cT hcl).1 hKn hkC e1 (tyO_ok ci cT hcl)).to (dfl_ok hcl base)⟩)
  exact kk H1 hg.1 hg.2 (cm_S hS (by omega) (fun q hq => o1 q (by omega)))
/-- a constructor's call, in the law -/
theorem cm_callL {idx n M nL : Nat} {r : MR} {b : Nat} {ws wsF : List CE} (hC : CallFix p m c cc nL s args gw (ownN 8)) (hkr : krec[M]? = some r) (hmem : (idx, M, 0) ∈ kcp.getD 8 []) (hnp : knp.getD M 0 = 0) (hla : 1 ≤ m_l r) (hcf : cF n (kodeOf M) 0 (.inr (some b) :: List.replicate (m_l r - 1) (.inr none)) [] ws = some wsF) (hE : KEnv cs D s) (hsize : arr.size = nL) (hP : va_P D vwCl (cW base cs 0 ws) H) (hsz : H.size = base + ws.length) (hS : va_S (AB base) s.heap H locs) (hF : m_F r + 1 ≤ R.frames) (hLo : 8 + (m_l r + 11) + m_L r ≤ R.locals) (hc1 : ce + (wsF.length - ws.length) ≤ R.cells) (hc2 : sl + (slW wsF - slW ws) ≤ R.slots) (hr8 : (rest.map fun v => v.category).sum ≤ 8) (hdg : decode cc pc = .ok (.invokespecial idx, 3))
    (kk : ∀ (H1 : Heap) (locs1 : List Loc), va_P D vwCl (cW base cs 0 wsF) H1 → H1.size = base + wsF.length → va_S (AB base) s.heap H1 locs1 → W p l e R s m args below meth c H1 locs1 (ce + (wsF.length - ws.length)) (sl + (slW wsF - slW ws)) Q (F0 m (pc + 3) arr rest)) : W p l e R s m args below meth c H locs ce sl Q (F0 m pc arr (.ref (base + b) :: rest)) := by
  have hts := hC.2.2.2.2
  have hMet := cm_met (cs := cs) (D := D) (base := base) l hkr (a := [.inr (some b)]) (ws := ws) (wsF := wsF) hla hcf
  have hq' := krec_q hkr
  have hcls := krec_cls hkr
  have hpl := own_p (o := m_o r) (by omega) (by omega)
  have hw := kcp_ok 8 (by decide) _ hmem
  have hy := kyR_eq hkr
  unfold kwds at hw
  simp only [hy] at hw
  have hd : (m_y r).cls ≠ "java/lang/invoke/MethodHandle" ∧ (m_y r).cls ≠ "java/lang/invoke/VarHandle" ∧ (parseMethodDescriptor (m_y r).desc).map (fun d => d.parameters.length) = some 0 := by
    rw [hcls]
    refine ⟨hpl.2.1, hpl.2.2, ?_⟩
    rw [krec_par hkr, hnp]
  have hpre : PreS s H (PcK base cs D [.inr (some b)] ws) [.ref (base + b)] := ⟨PcK_blind, fun U hU hW => ⟨rfl, ⟨va_K.moved hW.alike hE.1, va_AO.moved hW.alike hE.2.1, va_AO.moved hW.alike hE.2.2⟩, by rw [hU]; exact hP, by rw [hU]; exact hsz⟩⟩
  have hG : GoodIn gw (wsO r) := wsO_good (fun _ z => z) (krec_ok hkr)
  have hRR : (rmK r (wsF.length - ws.length) (slW wsF - slW ws)).frames + 1 ≤ R.frames ∧ 8 + (m_l r + 11) + (rmK r (wsF.length - ws.length) (slW wsF - slW ws)).locals ≤ R.locals := ⟨hF, hLo⟩
  have hrun := va_runI (e := e) (below := below) (meth := meth) (locs := locs) (As := []) (rest := rest) (cells := ce) (slots := sl) (g := F0 m pc arr (.ref (base + b) :: rest)) hC hMet (cwI 0 hts hG (by unfold wsO; rw [show r.2.2.2.1 = none from hq'.2]) rfl rfl (hts _ (hw _ List.mem_cons_self)) (hts _ (hw _ (List.mem_cons_of_mem _ List.mem_cons_self))) (hts _ (hw _ (List.mem_cons_of_mem _ (List.mem_cons_of_mem _ List.mem_cons_self)))) (krec_nm hkr) hd hRR) hpre rfl rfl hsize rfl (lv_room hr8) hdg ⟨hc1, hc2⟩
  refine va_callv hrun hS (fun q _ hq => hq) (fun q hq => hq) (fun u t H1 locs1 ht2 hvm hpost hB hz1 hk1 hS1 => ?_)
  have hB : va_P D vwCl (cW base cs 0 wsF) t.heap ∧ t.heap.size = base + wsF.length := hB
  rw [ht2] at hB
  exact kk H1 locs1 hB.1 hB.2 hS1
end CMN
set_option maxHeartbeats 4000000 in
set_option maxRecDepth 100000 in
/-- THE LAW, from its entry, given its loop over the abstract machine -/
theorem whole_open (hlaw : ∀ (L : Nat) (xs : Nat → Int32), L ≤ 2560 → WP cW_law 18 [.inr (32, 0), .inr (0, 0), .inr (33, 0), .inl 0] [] (m00 L xs) (fun r _ => r = .inl 1)) {p : Program} {e : Env} {s : State} {m : MethodId} {below : List Frame} {meth : Method} {c : Code} (l : Launch) {b L : Nat} {xs : Nat → Int32} (hL : L ≤ 2560) (C0 : lw_At p s m meth c b L xs) : W p l e room_1 s m #[Value.ref b] below meth c s.heap [] 0 0 (lw_Z below #[Value.ref b] s) (entryFrame m ([Value.ref b] : List Value).toArray 4) := by
  obtain ⟨hx, hb, hr, hml, hown, htb, hX, hbl, hlocks, hgv⟩ := id C0
  have hts : ∀ w ∈ gw, w.before #[Value.ref b] s = true := fun w hw => htb w (gw_tbl hw)
  have hown : s.vm.findClass (ownN 8) = some m.cls := hown
  -- the classes
  have hex : ∀ ci : Nat, ∃ y : ClassId × (Nat → Nat), ∀ r, vwCl[ci]? = some r → u_Kn s r.1 r.2.1 r.2.2 y.1 y.2 := by
    intro ci
    cases hcl : vwCl[ci]? with
    | none => exact ⟨(0, fun _ => 0), fun r h => by cases h⟩
    | some r =>
      have h8 : ci < 8 := (List.getElem?_eq_some_iff.mp hcl).1
      have h1 := of_decide_eq_true (List.all_eq_true.mp inst_in ci (List.mem_range.mpr h8))
      obtain ⟨c0, iS0, h2⟩ := u_known (C := r.1) (T := r.2.1) (N := r.2.2) (n := (fcdL.getD ci []).length) hts (cl_ok ci r hcl).1 (by rw [vw_own ci r hcl]; exact htb _ h1)
      exact ⟨(c0, iS0), fun r' h => by cases h; exact h2⟩
  obtain ⟨F, hF⟩ := Classical.axiomOfChoice hex
  obtain ⟨c0, k0, m0', q1, q2, q3⟩ := Cond.arrayClass_spec (hts _ (kI _ (List.mem_of_getElem? (i := 2) rfl)))
  obtain ⟨c1, k1, m1', q4, q5, q6⟩ := Cond.arrayClass_spec (hts _ (kI _ (List.mem_of_getElem? (i := 3) rfl)))
  have hao : ∀ w ∈ [Cond.arrayOver (.object RX5), Cond.arrayOver (.object RX4)], w.before #[Value.ref b] s = true := fun w hw => htb w (pkL_in (kkA ▸ hw))
  have hAO5 : va_AO RX5 s := va_AO.of (hao _ List.mem_cons_self)
  have hAO4 : va_AO RX4 s := va_AO.of (hao _ (List.mem_cons_of_mem _ List.mem_cons_self))
  obtain ⟨p2, c2, k2, f1, f2, f3, f4, f5⟩ := Cond.arrayOver_spec hAO5
  obtain ⟨p3, c3, k3, g1, g2, g3, g4, g5⟩ := Cond.arrayOver_spec hAO4
  obtain ⟨D, hD0⟩ : ∃ D : va_G, ∀ (k : Nat) (q : vw_C), vwCl[k]? = some q → u_Kn s q.1 q.2.1 q.2.2 (D.1 k) (D.2 k) := ⟨(fun k => (F k).1, fun k => (F k).2), fun k q h => hF k q h⟩
  obtain ⟨cs, hcs⟩ : ∃ cs : Nat → ClassId, cs 0 = c0 ∧ cs 1 = c1 ∧ cs 2 = c2 ∧ cs 3 = c3 := ⟨fun t => match t with
    | 0 => c0
    | 1 => c1
    | 2 => c2
    | _ => c3, rfl, rfl, rfl, rfl⟩
  obtain ⟨rfl, rfl, rfl, rfl⟩ := hcs
  have hK : va_K D vwCl (csT cs) s := by
    refine ⟨hD0, fun k q hk => ?_⟩
    match k, hk with
    | 0, hk => cases hk; exact ⟨fun n z => ⟨fun k h => (by cases h), k0, q2, m0', q3⟩, q1⟩
    | 1, hk => cases hk; exact ⟨fun n z => ⟨fun k h => (by cases h), k1, q5, m1', q6⟩, q4⟩
    | 2, hk => cases hk; exact ⟨fun n z => ⟨fun k h => (by cases h), k2, f3, p2, f4⟩, k2, p2, f3, f4, f1, f5⟩
    | 3, hk => cases hk; exact ⟨fun n z => ⟨fun k h => (by cases h), k3, g3, p3, g4⟩, k3, p3, g3, g4, g1, g5⟩
    | k + 4, hk => cases hk
  have hE : KEnv cs D s := ⟨hK, hAO5, hAO4⟩
  obtain ⟨base, hbase⟩ : ∃ base, base = s.heap.size := ⟨_, rfl⟩
  have hst : ∀ q : Nat, ∃ t : Nat, 28 ≤ q → q ≤ 31 → va_Z (statN q).1 (statN q).2 "[I" (.ref t) (AB s.heap.size) s s.heap ∧ va_T .int t (valsOf q).length (fun j => .int (Int32.ofInt ((valsOf q).getD j 0))) (AB s.heap.size) s s.heap := by
    intro q
    by_cases h : 28 ≤ q ∧ q ≤ 31
    · obtain ⟨t, ht⟩ := st_ok hgv htb q h.1 h.2
      exact ⟨t, fun _ _ => ht⟩
    · exact ⟨0, fun h1 h2 => absurd ⟨h1, h2⟩ h⟩
  obtain ⟨tq, htq⟩ := Classical.axiomOfChoice hst
  -- the walk
  have hl := lv_entry ([.ref b]) (n := 4) (Nat.le_of_ble_eq_true rfl)
  rw [lg_entry_eq]
  generalize (lg_sl ([.ref b]) ++ List.replicate (4 - (lg_sl ([.ref b])).length) Slot.unset).toArray = ls at hl ⊢
  have hl : lv_has ls 4 [(0, .ref b)] := hl
  have hP0 : va_P D vwCl (cW base cs 0 []) s.heap := fun k q h => by simp [cW] at h
  have hS0 : va_S (AB base) s.heap s.heap [] := va_S.rf
  refine cm_newL (idx := 7) (ci := 6) (ws := []) (base := base) hx hb hts hown (by decide) (by decide) hK hP0 (by rw [hbase]; rfl) hS0 (by decide) (by decide) dl_0 (fun H1 hP1 hz1 hS1 => ?_)
  have hP1 : va_P D vwCl (cW base cs 0 ws1) H1 := hP1
  have hz1 : H1.size = base + ws1.length := hz1
  refine lv_dup hx hb dl_3 rfl ?_
  have hC : CallFix p m c code 4 s #[Value.ref b] gw (ownN 8) := ⟨hx, hb, hml, hown, hts⟩
  have hln := ws2_len
  have hln4 := ws4_len
  have hsl4 := ws4_sl
  have hm24 := cF_more _ _ _ _ _ _ _ ws4_eq
  have hl3 : ws3.length = ws2.length + 1 := by unfold ws3; simp
  have hs3 : slW ws3 = slW ws2 + 30 := by unfold ws3; rw [slW_app]; rfl
  refine cm_callL (idx := 9) (M := 6) (n := 3000) (b := 0) (ws := ws1) (wsF := ws2) (ce := 0 + 1) hC (show krec[6]? = some _ from rfl) (by decide) rfl (by decide) ws2_eq hE hl.1 hP1 hz1 hS1 (by decide) (by decide) (by show 0 + 1 + (ws2.length - 1) ≤ 600000; omega) (by show 0 + (dfl 6).length + (slW ws2 - slW ws1) ≤ 7302250; have : (dfl 6).length = 5 := rfl; omega) (Nat.le_of_ble_eq_true rfl) dl_4 (fun H2 locs2 hP2 hz2 hS2 => ?_)
  refine lv_astore_n (lv' := [(1, .ref (base + 0)), (0, .ref b)]) hx hb dl_7 rfl hl (by decide) rfl (fun ls hl => ?_)
  refine cm_newL (idx := 10) (ci := 7) (ws := ws2) (base := base) hx hb hts hown (by decide) (by decide) hK hP2 hz2 hS2 (by show 0 + 1 + (ws2.length - 1) + 1 ≤ 600000; omega) (by show 0 + (dfl 6).length + (slW ws2 - slW ws1) + (dfl 7).length ≤ 7302250; have : (dfl 6).length = 5 := rfl; have : (dfl 7).length = 30 := rfl; omega) dl_8 (fun H3 hP3 hz3 hS3 => ?_)
  have hP3 : va_P D vwCl (cW base cs 0 ws3) H3 := hP3
  have hz3 : H3.size = base + ws3.length := hz3
  refine lv_dup hx hb dl_11 rfl ?_
  rw [hln]
  refine cm_callL (idx := 12) (M := 7) (n := 3000) (b := 91) (ws := ws3) (wsF := ws4) hC (show krec[7]? = some _ from rfl) (by decide) rfl (by decide) ws4_eq hE hl.1 hP3 hz3 hS3 (by decide) (by decide) (by show 0 + 1 + (ws2.length - 1) + 1 + (ws4.length - ws3.length) ≤ 600000; omega) (by show 0 + (dfl 6).length + (slW ws2 - slW ws1) + (dfl 7).length + (slW ws4 - slW ws3) ≤ 7302250; have : (dfl 6).length = 5 := rfl; have : (dfl 7).length = 30 := rfl; omega) (Nat.le_of_ble_eq_true rfl) dl_12 (fun H4 locs4 hP4 hz4 hS4 => ?_)
  refine lv_astore_n (lv' := [(2, .ref (base + 91)), (1, .ref (base + 0)), (0, .ref b)]) hx hb dl_15 rfl hl (by decide) rfl (fun ls hl => ?_)
  -- memory
  obtain ⟨ad, had⟩ : ∃ ad, ad = adF base b tq := ⟨_, rfl⟩
  have hAd : AdOK ad base := by rw [had]; exact adF_ok
  have hM : MemOK ad cs D L xs (m00 L xs) H4 := ⟨by rw [had]; exact start_P hP4, m00_rng L xs (by omega), m00_scr L xs⟩
  have had32 : ad 32 0 = b := by rw [had]; rfl
  have hEnv : EnvOK ad cs D L xs base s := by
    refine ⟨hK, fun q h1 h2 => ?_, ⟨by rw [had32]; exact hX, by rw [had32]; exact hbl, by rw [had32, hbase]; omega⟩, fun o ho x hx h3 => ?_, fun o ho x hx h3 => ?_⟩
    · have e1 : ad q 0 = tq q := by
        rw [had]
        unfold adF
        rw [if_neg (by omega), if_pos ⟨h1, h2⟩]
      rw [e1, hbase]
      exact htq q h1 h2
    · have h4 := List.all_eq_true.mp nest_in o (List.mem_range.mpr ho)
      rw [Bool.and_eq_true] at h4
      have h5 := List.all_eq_true.mp h4.1 x hx
      rw [h3] at h5
      exact va_Nw.of rfl (htb _ (of_decide_eq_true h5))
    · have h4 := List.all_eq_true.mp nest_in o (List.mem_range.mpr ho)
      rw [Bool.and_eq_true] at h4
      have h5 := List.all_eq_true.mp h4.2 x hx
      rw [h3] at h5
      exact va_Nw.of rfl (htb _ (of_decide_eq_true h5))
  obtain ⟨n, hwp⟩ := gW_law_16 (m00 L xs) (hlaw L xs hL)
  obtain ⟨r0, mf, hr0, hwp⟩ := wpF_det n _ _ _ _ _ _ hwp
  subst hr0
  have hLR : LR ad 4 [.inr (32, 0), .inr (0, 0), .inr (33, 0), uu] ls := by
    refine LR.of_has hl rfl (fun k v hk hv => ?_)
    have e0 : ad 0 0 = base + 0 := by rw [had]; rfl
    have e33 : ad 33 0 = base + 91 := by rw [had]; rfl
    match k, hk with
    | 0, hk => cases hk; show (0, Value.ref (ad 32 0)) ∈ _; rw [had32]; simp
    | 1, hk => cases hk; show (1, Value.ref (ad 0 0)) ∈ _; rw [e0]; simp
    | 2, hk => cases hk; show (2, Value.ref (ad 33 0)) ∈ _; rw [e33]; simp
    | 3, hk => cases hk; exact absurd hv (by show ¬ 999 < 900; decide)
    | k + 4, hk => simp at hk
  refine snd_main (ad := ad) (cs := cs) (D := D) (L := L) (xs := xs) (base := base) hAd (by omega) code_ok l n 160 _ (show mrec[160]? = some _ from rfl) p e room_1 s m #[Value.ref b] below meth c (lw_Z below #[Value.ref b] s) (.inl 1) mf _ _ ⟨hx, hb, hml, hown, hts⟩ hEnv (by rw [hbase]; exact Nat.le_refl _) (by decide) (by decide) (by show 0 + 1 + (ws2.length - 1) + 1 + (ws4.length - ws3.length) ≤ 600000; omega) (by show 0 + (dfl 6).length + (slW ws2 - slW ws1) + (dfl 7).length + (slW ws4 - slW ws3) ≤ 7302250; have : (dfl 6).length = 5 := rfl; have : (dfl 7).length = 30 := rfl; omega) ?_ 16 _ [] (m00 L xs) ls H4 locs4 hwp ?_ (fun v hv => by cases hv) hM hLR hS4
  · intro I pc arr H locs hd hk hg hn hM2 hS2
    rcases hk with ⟨rfl, ht⟩ | ⟨rfl, -, -⟩ | ⟨rfl, -, ⟨q, hq⟩⟩
    · cases ht
    · rw [if_neg (fun z => by cases z)]
      refine va_forget (fun q hq => by have := hS2.2.2 q hq; rw [← hbase]; exact this) ?_
      refine W.widen (k := 600000) (n := 7302250) (by show 0 + 1 + (ws2.length - 1) + 1 + (ws4.length - ws3.length) ≤ 600000; omega) (by show 0 + (dfl 6).length + (slW ws2 - slW ws1) + (dfl 7).length + (slW ws4 - slW ws3) ≤ 7302250; have : (dfl 6).length = 5 := rfl; have : (dfl 7).length = 30 := rfl; omega) ?_
      exact lw_ret hx hb hr hlocks hd
    · cases hq
  · intro v hv
    simp only [List.mem_cons, List.not_mem_nil, or_false] at hv
    rcases hv with rfl | rfl | rfl | rfl
    · exact Or.inr ⟨by decide, by decide, by decide⟩
    · exact Or.inr ⟨by decide, by decide, by decide⟩
    · exact Or.inr ⟨by decide, by decide, by decide⟩
    · exact Or.inl rfl
