set_option maxHeartbeats 4000000 in
set_option maxRecDepth 100000 in
/-- THE STEP: what the abstract machine does, the machine does -/
theorem snd_main {ad : Nat → Int → Nat} {cs : Nat → ClassId} {D : va_G} {L : Nat} {xs : Nat → Int32} {base : Nat} (hAd : AdOK ad base) (hL : L < 2147483648) (hck : ∀ (M : Nat) (r : MR), mrec[M]? = some r → ∀ e ∈ codeOf M, okE r e = true) (l : Launch) :
    ∀ (n M : Nat) (r : MR), mrec[M]? = some r → ∀ (p : Program) (e : Env) (R : Room) (s : State) (m : MethodId) (args : Array Value) (below : List Frame) (meth : Method) (c : Code) (Qf : State → Prop) (r0 : AV) (m0 : Mem) (ce sl : Nat),
      CallFix p m c (m_b r) (m_l r) s args gw (ownN (m_o r)) → EnvOK ad cs D L xs base s → base ≤ s.heap.size → m_F r ≤ R.frames → m_L r ≤ R.locals → ce ≤ R.cells → sl ≤ R.slots →
      (∀ (I : Instr) (pc : Nat) (arr : Array Slot) (H : Heap) (locs : List Loc), decode (m_b r) pc = .ok (I, 1) → ((I = .return_ ∧ m_t r = none) ∨ (I = .ireturn ∧ (m_t r = some .int ∨ (m_t r = some .boolean ∧ (r0 = .inl 0 ∨ r0 = .inl 1))) ∧ ∃ z, r0 = .inl z) ∨ (I = .areturn ∧ (∃ C, m_t r = some (.object C)) ∧ ∃ q, r0 = .inr q)) → GV r0 → nU r0 → MemOK ad cs D L xs m0 H → va_S (AB base) s.heap H locs →
        W p l e R s m args below meth c H locs ce sl Qf (F0 m pc arr (if I = .return_ then [] else [conV ad r0]))) →
      ∀ (pc : Nat) (ls st : List AV) (m1 : Mem) (arr : Array Slot) (H : Heap) (locs : List Loc), wpF n (codeOf M) pc ls st m1 (fun r1 m' => r1 = r0 ∧ m' = m0) → LG ls → SG st → MemOK ad cs D L xs m1 H → LR ad (m_l r) ls arr → va_S (AB base) s.heap H locs →
        W p l e R s m args below meth c H locs ce sl Qf (F0 m pc arr (st.map (conV ad))) := by
  intro n
  induction n with
  | zero => intro M r _ p e R s m args below meth c Qf r0 m0 ce sl _ _ _ _ _ _ _ _ pc ls st m1 arr H locs h; exact h.elim
  | succ n ih =>
    intro M r hr p e R s m args below meth c Qf r0 m0 ce sl hC hE hbs hF hLo hce hsl hret pc ls st m1 arr H locs h hls hst hM hLR hS
    have ih2 := ih M r hr p e R s m args below meth c Qf r0 m0 ce sl hC hE hbs hF hLo hce hsl hret
    obtain ⟨hx, hb, hml, hown, hts⟩ := id hC
    have hA : ∀ q : Nat, s.heap.size ≤ q → AB base q := fun q hq => Nat.le_trans hbs hq
    obtain ⟨hK, hStat, ⟨hX, hXl, hXb⟩, hNm, hNf⟩ := id hE
    have hD : va_D (AB base) (hW ad cs m1) := hW_D hAd m1
    obtain ⟨hP, hRm, hSc⟩ := id hM
    have hq := mrec_q hr
    have h : runSR (stepAt (codeOf M) pc ls st m1) (fun pc ls st m => wpF n (codeOf M) pc ls st m (fun r1 m' => r1 = r0 ∧ m' = m0)) (fun M a m Q' => wpF n (codeOf M) 0 a [] m Q') (fun r1 m' => r1 = r0 ∧ m' = m0) := h
    unfold stepAt at h
    cases hlk : lkE (codeOf M) pc with
    | none => rw [hlk] at h; exact h.elim
    | some x =>
      obtain ⟨I, len, inf⟩ := x
      rw [hlk] at h
      have hok := hck M r hr _ (lkE_mem _ _ _ hlk)
      simp only [okE, Bool.and_eq_true, decide_eq_true_eq] at hok
      obtain ⟨hdg, hI⟩ := hok
      -- the number of words that a value takes
      have hcat : ∀ l : List AV, l.length ≤ 8 → ((l.map (conV ad)).map fun v => v.category).sum ≤ 8 := by
        intro l hl
        have : ∀ l : List AV, ((l.map (conV ad)).map fun v => v.category).sum = l.length := by
          intro l
          induction l with
          | nil => rfl
          | cons v l ih => simp only [List.map_cons, List.sum_cons, conV_cat, List.length_cons]; rw [ih]; omega
        rw [this]; exact hl
      -- what a call does
      have hcall : ∀ (M' na ml rk : Nat) (r' : MR) (Qk : AV → Mem → Prop), mrec[M']? = some r' → na ≤ st.length → na ≤ ml → ml = m_l r' → rkOK rk (m_t r') = true → (st.drop na).length ≤ 8 → wpF n (codeOf M') 0 ((st.take na).reverse ++ List.replicate (ml - na) uu) [] m1 (fun r1 m' => backR rk r1 (fun v => wpF n (codeOf M) (pc + 3) ls (v ++ st.drop na) m' (fun r1 m' => r1 = r0 ∧ m' = m0))) →
          (∀ (r1 : AV) (m2 : Mem), Met l (m_y r') (wsO r') (rmO r') (PcO ad cs D L xs base (st.take na).reverse m1) (QcO ad cs D L xs base (m_t r') r1 m2) 0 0 (AB base) →
            va_Run p l e R s m args below meth c H locs ce sl 0 0 (F0 m pc arr (st.map (conV ad))) ((st.drop na).map (conV ad)) (QcO ad cs D L xs base (m_t r') r1 m2 ((st.take na).reverse.map (conV ad)).toArray) (AB base)) →
          W p l e R s m args below meth c H locs ce sl Qf (F0 m pc arr (st.map (conV ad))) := by
        intro M' na ml rk r' Qk hr' hna hnm hmle hrk hdr hw hrun
        obtain ⟨r1, m2, hback, hw2⟩ := wpF_det n (codeOf M') 0 _ [] m1 _ hw
        have hsg : SG (st.take na).reverse := fun v hv => hst v (List.mem_of_mem_take (List.mem_reverse.mp hv))
        have hlen : (st.take na).reverse.length = na := by rw [List.length_reverse, List.length_take]; omega
        have hq' := mrec_q hr'
        have hcls := mrec_cls hr'
        have hpl := own_p hq'.1 hq'.2
        have hMet : Met l (m_y r') (wsO r') (rmO r') (PcO ad cs D L xs base (st.take na).reverse m1) (QcO ad cs D L xs base (m_t r') r1 m2) 0 0 (AB base) := by
          refine Met.ofW (cc := m_b r') (maxL := m_l r') (ret := m_t r') (by rw [hcls]; exact hpl.1) rfl ?_
          intro p' e' s' m' args' below' meth' c' s₁ B hml' hv
          obtain ⟨rfl, hE', hM', hbs'⟩ := hv
          have hx' := B.exec
          have hb' := B.bytes
          have hr2 := B.returns
          have hts' := atoms_spec (ws := wsO r') B.pre
          have hown' : s'.vm.findClass (ownN (m_o r')) = some m'.cls := by rw [← hcls]; exact findClass_of_methodNamed B.named
          have hlocks' := B.notSynchronized
          rw [lg_entry_eq]
          have hLR' : LR ad (m_l r') ((st.take na).reverse ++ List.replicate (ml - na) uu) ((lg_sl ((st.take na).reverse.map (conV ad)) ++ List.replicate (m_l r' - (lg_sl ((st.take na).reverse.map (conV ad))).length) Slot.unset).toArray) := by
            have := LR.entry (ad := ad) (vs := (st.take na).reverse) (n := m_l r') (by rw [hlen, ← hmle]; exact hnm)
            rw [hlen] at this
            rw [hmle]
            exact this
          generalize (lg_sl ((st.take na).reverse.map (conV ad)) ++ List.replicate (m_l r' - (lg_sl ((st.take na).reverse.map (conV ad))).length) Slot.unset).toArray = arr' at hLR' ⊢
          refine ih M' r' hr' p' e' _ s' m' _ below' meth' c' _ r1 m2 0 0 ⟨hx', hb', hml', hown', fun w hw => hts' w (List.mem_cons_of_mem _ hw)⟩ hE' hbs' (Nat.le_refl _) (Nat.le_refl _) (Nat.zero_le _) (Nat.zero_le _) ?_ 0 _ [] m1 arr' s'.heap [] hw2 ?_ (fun v hv => by cases hv) hM' hLR' va_S.rf
          · intro I2 pc2 arr2 H2 locs2 hd2 hk hg hn hM2 hS2
            rcases hk with ⟨rfl, ht⟩ | ⟨rfl, ht, z, rfl⟩ | ⟨rfl, ⟨C, ht⟩, ⟨q, i⟩, rfl⟩
            · rw [if_pos rfl]
              refine W.vret hx' hb' (hr2.trans ht) (fun t ht2 hW => ?_) hS2.2.2 hd2
              rw [ht]
              exact ⟨⟨(), rfl, trivial, (show MemOK ad cs D L xs m2 t.heap by rw [ht2]; exact hM2)⟩, hS2.F ht2⟩
            · rw [if_neg (fun z => by cases z)]
              rcases ht with ht | ⟨ht, hz⟩
              · refine W.iret (v := Int32.ofInt z) hx' hb' (hr2.trans ht) (fun t ht2 hW => ?_) hS2.2.2 hd2
                rw [ht]
                exact ⟨⟨_, (), rfl, ⟨rfl, hg⟩, (show MemOK ad cs D L xs m2 t.heap by rw [ht2]; exact hM2)⟩, hS2.F ht2⟩
              · have hz2 : z = 0 ∨ z = 1 := by
                  rcases hz with e | e
                  · exact Or.inl (Sum.inl.inj e)
                  · exact Or.inr (Sum.inl.inj e)
                refine W.zret (v := Int32.ofInt z) hx' hb' (hr2.trans ht) (z_nar hz2).1 (fun t ht2 hW => ?_) hS2.2.2 hd2
                rw [ht]
                exact ⟨⟨_, (), rfl, ⟨rfl, hg⟩, (show MemOK ad cs D L xs m2 t.heap by rw [ht2]; exact hM2)⟩, hS2.F ht2⟩
            · rw [if_neg (fun z => by cases z)]
              refine W.aret (v := .ref (ad q i)) hx' hb' (hr2.trans ht) (Or.inl ⟨C, rfl⟩) (Or.inr ⟨_, rfl⟩) (fun t ht2 hW => ?_) hS2.2.2 hd2
              rw [ht]
              exact ⟨⟨(), ad q i, rfl, trivial, rfl, rfl, hg, hn, (show MemOK ad cs D L xs m2 t.heap by rw [ht2]; exact hM2)⟩, hS2.F ht2⟩
          · intro v hv
            rcases List.mem_append.mp hv with e | e
            · exact (hsg v e).1
            · rw [List.eq_of_mem_replicate e]; exact Or.inl rfl
        have hrn := hrun r1 m2 hMet
        have hsd : SG (st.drop na) := fun v hv => hst v (List.mem_of_mem_drop hv)
        cases ht : m_t r' with
        | none =>
          rw [ht] at hrn hrk
          have hrk0 : rk = 0 := len_eq hrk
          subst hrk0
          refine va_callv (a := ((st.take na).reverse.map (conV ad)).toArray) hrn hS (fun q _ hq => hq) (fun q hq => hq) (fun u t H1 locs1 ht2 hvm hpost hB hz1 hk1 hS1 => ?_)
          have hB : MemOK ad cs D L xs m2 t.heap := hB
          rw [ht2] at hB
          exact ih2 (pc + 3) ls (st.drop na) m2 arr H1 locs1 hback hls hsd hB hLR hS1
        | some ty =>
          rw [ht] at hrn hrk
          cases ty with
          | int =>
            have hrk0 : rk = 1 := len_eq hrk
            subst hrk0
            obtain ⟨x, rfl, hback⟩ := hback
            refine va_calli (a := ((st.take na).reverse.map (conV ad)).toArray) hrn hS (fun q _ hq => hq) (fun q hq => hq) (fun x2 u t H1 locs1 ht2 hvm hpost hB hz1 hk1 hS1 => ?_)
            have hB : MemOK ad cs D L xs m2 t.heap := hB
            rw [ht2] at hB
            have hpost : Value.int x2 = conV ad (.inl x) ∧ GV (.inl x) := hpost
            rw [hpost.1]
            exact ih2 (pc + 3) ls (.inl x :: st.drop na) m2 arr H1 locs1 hback hls (SG.int hpost.2 hsd) hB hLR hS1
          | boolean =>
            have hrk0 : rk = 1 := len_eq hrk
            subst hrk0
            obtain ⟨x, rfl, hback⟩ := hback
            refine va_calli (a := ((st.take na).reverse.map (conV ad)).toArray) hrn hS (fun q _ hq => hq) (fun q hq => hq) (fun x2 u t H1 locs1 ht2 hvm hpost hB hz1 hk1 hS1 => ?_)
            have hB : MemOK ad cs D L xs m2 t.heap := hB
            rw [ht2] at hB
            have hpost : Value.int x2 = conV ad (.inl x) ∧ GV (.inl x) := hpost
            rw [hpost.1]
            exact ih2 (pc + 3) ls (.inl x :: st.drop na) m2 arr H1 locs1 hback hls (SG.int hpost.2 hsd) hB hLR hS1
          | object C =>
            match rk, hrk, hback with
            | q + 2, _, hb2 =>
              obtain ⟨i, e9, hb3⟩ := hb2
              subst e9
              refine va_callr (a := ((st.take na).reverse.map (conV ad)).toArray) hrn hS (fun q _ hq => hq) (fun q hq => hq) (fun u a t H1 locs1 ht2 hvm hpost hB hz1 hk1 hS1 => ?_)
              have hB : (.inr (q, i) : AV) = .inr (q, i) ∧ Value.ref a = conV ad (.inr (q, i)) ∧ GV (.inr (q, i)) ∧ nU (.inr (q, i)) ∧ MemOK ad cs D L xs m2 t.heap := hB
              rw [ht2] at hB
              rw [hB.2.1]
              exact ih2 (pc + 3) ls (.inr (q, i) :: st.drop na) m2 arr H1 locs1 hb3 hls (SG.cons hB.2.2.1 hB.2.2.2.1 hsd) hB.2.2.2.2 hLR hS1
          | _ => exact absurd hrk (by simp [rkOK])
      cases I
      all_goals first
        | exact False.elim h
        | skip
      case iconst i =>
        simp only [okI, Bool.and_eq_true] at hI
        obtain rfl := len_eq hI.1
        exact lv_iconst hx hb hdg rfl (ih2 (pc + 1) ls (.inl i :: st) m1 arr H locs h hls (SG.int (rb_ok hI.2) hst) hM hLR hS)
      case bipush i =>
        simp only [okI, Bool.and_eq_true, decide_eq_true_eq] at hI
        obtain rfl := len_eq hI.1.1
        exact lv_bipush hx hb hdg hI.2 (ih2 (pc + 2) ls (.inl i :: st) m1 arr H locs h hls (SG.int (rb_ok hI.1.2) hst) hM hLR hS)
      case sipush i =>
        simp only [okI, Bool.and_eq_true, decide_eq_true_eq] at hI
        obtain rfl := len_eq hI.1.1
        exact lv_sipush hx hb hdg hI.2 (ih2 (pc + 3) ls (.inl i :: st) m1 arr H locs h hls (SG.int (rb_ok hI.1.2) hst) hM hLR hS)
      case iload_n k =>
        obtain rfl := len_eq hI
        obtain ⟨x, hk, h⟩ := i_load (show runSR (r_load ls k.val (pc + 1) st m1) _ _ _ from h)
        exact lv_iload_n hx hb hdg rfl (hLR.2.2.2 _ _ hk trivial) (ih2 (pc + 1) ls (.inl x :: st) m1 arr H locs h hls (SG.int (hls.get hk) hst) hM hLR hS)
      case iload k =>
        obtain rfl := len_eq hI
        obtain ⟨x, hk, h⟩ := i_load (show runSR (r_load ls k (pc + 2) st m1) _ _ _ from h)
        exact lv_iload hx hb hdg (hLR.2.2.2 _ _ hk trivial) (ih2 (pc + 2) ls (.inl x :: st) m1 arr H locs h hls (SG.int (hls.get hk) hst) hM hLR hS)
      case aload_n k =>
        obtain rfl := len_eq hI
        obtain ⟨q, i, hk, hq9, h⟩ := i_aload (show runSR (r_aload ls k.val (pc + 1) st m1) _ _ _ from h)
        exact lv_aload_n hx hb hdg rfl (hLR.2.2.2 _ _ hk hq9) (ih2 (pc + 1) ls (.inr (q, i) :: st) m1 arr H locs h hls (SG.cons (hls.get hk) hq9 hst) hM hLR hS)
      case aload k =>
        obtain rfl := len_eq hI
        obtain ⟨q, i, hk, hq9, h⟩ := i_aload (show runSR (r_aload ls k (pc + 2) st m1) _ _ _ from h)
        exact lv_aload hx hb hdg (hLR.2.2.2 _ _ hk hq9) (ih2 (pc + 2) ls (.inr (q, i) :: st) m1 arr H locs h hls (SG.cons (hls.get hk) hq9 hst) hM hLR hS)
      case istore_n k =>
        simp only [okI, Bool.and_eq_true, Nat.blt_eq] at hI
        obtain rfl := len_eq hI.1
        obtain ⟨x, st', rfl, h⟩ := i_store (show runSR (r_store ls k.val (pc + 1) st m1) _ _ _ from h)
        exact lv_istore_n hx hb hdg rfl hLR.has hI.2 rfl (fun arr' hl' => ih2 (pc + 1) _ st' m1 arr' H locs h (hls.set hst.hd.1) hst.tl hM (hLR.put (v := .inl x) hl') hS)
      case istore k =>
        simp only [okI, Bool.and_eq_true, Nat.blt_eq] at hI
        obtain rfl := len_eq hI.1
        obtain ⟨x, st', rfl, h⟩ := i_store (show runSR (r_store ls k (pc + 2) st m1) _ _ _ from h)
        exact lv_istore hx hb hdg hLR.has hI.2 rfl (fun arr' hl' => ih2 (pc + 2) _ st' m1 arr' H locs h (hls.set hst.hd.1) hst.tl hM (hLR.put (v := .inl x) hl') hS)
      case astore_n k =>
        simp only [okI, Bool.and_eq_true, Nat.blt_eq] at hI
        obtain rfl := len_eq hI.1
        obtain ⟨⟨q, i⟩, st', rfl, h⟩ := i_astore (show runSR (r_astore ls k.val (pc + 1) st m1) _ _ _ from h)
        exact lv_astore_n hx hb hdg rfl hLR.has hI.2 rfl (fun arr' hl' => ih2 (pc + 1) _ st' m1 arr' H locs h (hls.set hst.hd.1) hst.tl hM (hLR.put (v := .inr (q, i)) hl') hS)
      case astore k =>
        simp only [okI, Bool.and_eq_true, Nat.blt_eq] at hI
        obtain rfl := len_eq hI.1
        obtain ⟨⟨q, i⟩, st', rfl, h⟩ := i_astore (show runSR (r_astore ls k (pc + 2) st m1) _ _ _ from h)
        exact lv_astore hx hb hdg hLR.has hI.2 rfl (fun arr' hl' => ih2 (pc + 2) _ st' m1 arr' H locs h (hls.set hst.hd.1) hst.tl hM (hLR.put (v := .inr (q, i)) hl') hS)
      case iinc k d =>
        simp only [okI, Bool.and_eq_true, Nat.blt_eq] at hI
        obtain rfl := len_eq hI.1
        obtain ⟨x, hk, hg, h⟩ := i_iinc (show runSR (r_iinc ls k d (pc + 3) st m1) _ _ _ from h)
        obtain ⟨kk, hkk⟩ := List.getElem?_of_mem ((lvOf_mem (ad := ad) ls 0 (k, conV ad (.inl x))).mpr ⟨k, .inl x, hk, trivial, by rw [Nat.zero_add]⟩)
        exact lv_iinc (v := Int32.ofInt (x + d)) hx hb hdg hLR.has hkk (by rw [Int32.ofInt_add]) hI.2 rfl (fun arr' hl' => ih2 (pc + 3) _ st m1 arr' H locs h (hls.set hg) hst hM (hLR.put (v := .inl (x + d)) hl') hS)
      case iadd =>
        obtain rfl := len_eq hI
        obtain ⟨a, b, st', rfl, hg, h⟩ := i_op2g (show runSR (r_op2g (fun a b => a + b) (fun a b => Rng (a + b)) ls (pc + 1) st m1) _ _ _ from h)
        refine lv_iadd hx hb hdg ?_
        rw [← Int32.ofInt_add]
        exact ih2 (pc + 1) ls (.inl (a + b) :: st') m1 arr H locs h hls (SG.int hg hst.tl.tl) hM hLR hS
      case isub =>
        obtain rfl := len_eq hI
        obtain ⟨a, b, st', rfl, hg, h⟩ := i_op2g (show runSR (r_op2g (fun a b => a - b) (fun a b => Rng (a - b)) ls (pc + 1) st m1) _ _ _ from h)
        refine lv_isub hx hb hdg ?_
        rw [← Int32.ofInt_sub]
        exact ih2 (pc + 1) ls (.inl (a - b) :: st') m1 arr H locs h hls (SG.int hg hst.tl.tl) hM hLR hS
      case imul =>
        obtain rfl := len_eq hI
        obtain ⟨a, b, st', rfl, hg, h⟩ := i_op2g (show runSR (r_op2g (fun a b => a * b) (fun a b => Rng (a * b)) ls (pc + 1) st m1) _ _ _ from h)
        refine lv_imul hx hb hdg ?_
        rw [← Int32.ofInt_mul]
        exact ih2 (pc + 1) ls (.inl (a * b) :: st') m1 arr H locs h hls (SG.int hg hst.tl.tl) hM hLR hS
      case idiv =>
        obtain rfl := len_eq hI
        obtain ⟨a, b, st', rfl, hg, h⟩ := i_op2g (show runSR (r_op2g (fun a b => a / b) (fun a b => 0 ≤ a ∧ 0 < b) ls (pc + 1) st m1) _ _ _ from h)
        have ra : Rng a := hst.tl.hd.1
        have rb : Rng b := hst.hd.1
        refine lv_idiv hx hb hdg (fun z => by have := (z_eq0 rb).mp z; omega) ?_
        rw [z_div ra rb hg.1 hg.2]
        exact ih2 (pc + 1) ls (.inl (a / b) :: st') m1 arr H locs h hls (SG.int (r_div ra hg.1 hg.2) hst.tl.tl) hM hLR hS
      case irem =>
        obtain rfl := len_eq hI
        obtain ⟨a, b, st', rfl, hg, h⟩ := i_op2g (show runSR (r_op2g (fun a b => a % b) (fun a b => 0 ≤ a ∧ 0 < b) ls (pc + 1) st m1) _ _ _ from h)
        have ra : Rng a := hst.tl.hd.1
        have rb : Rng b := hst.hd.1
        refine lv_irem hx hb hdg (fun z => by have := (z_eq0 rb).mp z; omega) ?_
        rw [z_rem ra rb hg.1 hg.2]
        exact ih2 (pc + 1) ls (.inl (a % b) :: st') m1 arr H locs h hls (SG.int (r_rem ra hg.1 hg.2) hst.tl.tl) hM hLR hS
      case ineg =>
        obtain rfl := len_eq hI
        match st, h, hst with
        | .inl a :: st', h, hst =>
          refine lv_ineg hx hb hdg ?_
          rw [← Int32.ofInt_neg]
          exact ih2 (pc + 1) ls (.inl (-a) :: st') m1 arr H locs h.2 hls (SG.int h.1 hst.tl) hM hLR hS
      case iand =>
        obtain rfl := len_eq hI
        obtain ⟨a, b, st', rfl, h⟩ := i_op2 (show runSR (r_op2 zAnd ls (pc + 1) st m1) _ _ _ from h)
        refine lv_iand hx hb hdg ?_
        rw [← z_i32 (Int32.ofInt a &&& Int32.ofInt b)]
        exact ih2 (pc + 1) ls (.inl (zAnd a b) :: st') m1 arr H locs h hls (SG.int (z_rng' _) hst.tl.tl) hM hLR hS
      case ior =>
        obtain rfl := len_eq hI
        obtain ⟨a, b, st', rfl, h⟩ := i_op2 (show runSR (r_op2 zOr ls (pc + 1) st m1) _ _ _ from h)
        refine lv_ior hx hb hdg ?_
        rw [← z_i32 (Int32.ofInt a ||| Int32.ofInt b)]
        exact ih2 (pc + 1) ls (.inl (zOr a b) :: st') m1 arr H locs h hls (SG.int (z_rng' _) hst.tl.tl) hM hLR hS
      case ixor =>
        obtain rfl := len_eq hI
        obtain ⟨a, b, st', rfl, h⟩ := i_op2 (show runSR (r_op2 zXor ls (pc + 1) st m1) _ _ _ from h)
        refine lv_ixor hx hb hdg ?_
        rw [← z_i32 (Int32.ofInt a ^^^ Int32.ofInt b)]
        exact ih2 (pc + 1) ls (.inl (zXor a b) :: st') m1 arr H locs h hls (SG.int (z_rng' _) hst.tl.tl) hM hLR hS
      case ishl =>
        obtain rfl := len_eq hI
        obtain ⟨a, b, st', rfl, h⟩ := i_op2 (show runSR (r_op2 zShl ls (pc + 1) st m1) _ _ _ from h)
        refine lv_ishl hx hb hdg ?_
        rw [← z_i32 (Int32.ofInt a <<< (Int32.ofInt b &&& 31))]
        exact ih2 (pc + 1) ls (.inl (zShl a b) :: st') m1 arr H locs h hls (SG.int (z_rng' _) hst.tl.tl) hM hLR hS
      case ishr =>
        obtain rfl := len_eq hI
        obtain ⟨a, b, st', rfl, h⟩ := i_op2 (show runSR (r_op2 zShr ls (pc + 1) st m1) _ _ _ from h)
        refine lv_ishr hx hb hdg ?_
        rw [← z_i32 (Int32.ofInt a >>> (Int32.ofInt b &&& 31))]
        exact ih2 (pc + 1) ls (.inl (zShr a b) :: st') m1 arr H locs h hls (SG.int (z_rng' _) hst.tl.tl) hM hLR hS
      case iushr =>
        obtain rfl := len_eq hI
        obtain ⟨a, b, st', rfl, h⟩ := i_op2 (show runSR (r_op2 zUshr ls (pc + 1) st m1) _ _ _ from h)
        refine lv_iushr hx hb hdg rfl ?_
        rw [← z_i32 ((Int32.ofInt a).toUInt32 >>> ((Int32.ofInt b).toUInt32 &&& Int32.toUInt32 31)).toInt32]
        exact ih2 (pc + 1) ls (.inl (zUshr a b) :: st') m1 arr H locs h hls (SG.int (z_rng' _) hst.tl.tl) hM hLR hS
      case dup =>
        obtain rfl := len_eq hI
        match st, h, hst with
        | v :: st', h, hst => exact lv_dup hx hb hdg (conV_cat ad v) (ih2 (pc + 1) ls (v :: v :: st') m1 arr H locs h hls (SG.cons hst.hd.1 hst.hd.2 hst) hM hLR hS)
      case dup2 =>
        obtain rfl := len_eq hI
        match st, h, hst with
        | v :: w :: st', h, hst => exact lv_dup2_11 hx hb hdg (conV_cat ad v) (conV_cat ad w) (ih2 (pc + 1) ls (v :: w :: v :: w :: st') m1 arr H locs h hls (SG.cons hst.hd.1 hst.hd.2 (SG.cons hst.tl.hd.1 hst.tl.hd.2 hst)) hM hLR hS)
      case pop =>
        obtain rfl := len_eq hI
        match st, h, hst with
        | v :: st', h, hst => exact lv_pop hx hb hdg (conV_cat ad v) (ih2 (pc + 1) ls st' m1 arr H locs h hls hst.tl hM hLR hS)
      case goto o =>
        simp only [okI, Bool.and_eq_true] at hI
        obtain rfl := len_eq hI.1
        exact lv_goto hx hb hdg (tg_ok hI.2) (ih2 _ ls st m1 arr H locs h hls hst hM hLR hS)
      case ifCond cd o =>
        simp only [okI, Bool.and_eq_true] at hI
        obtain rfl := len_eq hI.1
        match st, h, hst with
        | .inl a :: st', h, hst =>
          have ra : Rng a := hst.hd.1
          have kt := fun z => ih2 (tgtOf pc o) ls st' m1 arr H locs (h.1 z) hls hst.tl hM hLR hS
          have kf := fun z => ih2 (pc + 3) ls st' m1 arr H locs (h.2 z) hls hst.tl hM hLR hS
          cases cd with
          | eq => exact lv_if_eq hx hb hdg (tg_ok hI.2) (fun z => kt ((z_eq0 ra).mp z)) (fun z => kf (fun y => z ((z_eq0 ra).mpr y)))
          | ne => exact lv_if_ne hx hb hdg (tg_ok hI.2) (fun z => kt (fun y => z ((z_eq0 ra).mpr y))) (fun z => kf (fun y => y ((z_eq0 ra).mp z)))
          | lt => exact lv_if_lt hx hb hdg (tg_ok hI.2) (fun z => kt ((z_lt0 ra).mp z)) (fun z => kf (fun y => z ((z_lt0 ra).mpr y)))
          | ge => exact lv_if_ge hx hb hdg (tg_ok hI.2) (fun z => kt ((z_0le ra).mp z)) (fun z => kf (fun y => z ((z_0le ra).mpr y)))
          | gt => exact lv_if_gt hx hb hdg (tg_ok hI.2) (fun z => kt ((z_0lt ra).mp z)) (fun z => kf (fun y => z ((z_0lt ra).mpr y)))
          | le => exact lv_if_le hx hb hdg (tg_ok hI.2) (fun z => kt ((z_le0 ra).mp z)) (fun z => kf (fun y => z ((z_le0 ra).mpr y)))
      case if_icmp cd o =>
        simp only [okI, Bool.and_eq_true] at hI
        obtain rfl := len_eq hI.1
        match st, h, hst with
        | .inl b :: .inl a :: st', h, hst =>
          have ra : Rng a := hst.tl.hd.1
          have rb : Rng b := hst.hd.1
          have kt := fun z => ih2 (tgtOf pc o) ls st' m1 arr H locs (h.1 z) hls hst.tl.tl hM hLR hS
          have kf := fun z => ih2 (pc + 3) ls st' m1 arr H locs (h.2 z) hls hst.tl.tl hM hLR hS
          cases cd with
          | eq => exact lv_icmp_eq hx hb hdg (tg_ok hI.2) (fun z => kt ((z_eq ra rb).mp z)) (fun z => kf (fun y => z ((z_eq ra rb).mpr y)))
          | ne => exact lv_icmp_ne hx hb hdg (tg_ok hI.2) (fun z => kt (fun y => z ((z_eq ra rb).mpr y))) (fun z => kf (fun y => y ((z_eq ra rb).mp z)))
          | lt => exact lv_icmp_lt hx hb hdg (tg_ok hI.2) (fun z => kt ((z_lt ra rb).mp z)) (fun z => kf (fun y => z ((z_lt ra rb).mpr y)))
          | ge => exact lv_icmp_ge hx hb hdg (tg_ok hI.2) (fun z => kt ((z_le rb ra).mp z)) (fun z => kf (fun y => z ((z_le rb ra).mpr y)))
          | gt => exact lv_icmp_gt hx hb hdg (tg_ok hI.2) (fun z => kt ((z_lt rb ra).mp z)) (fun z => kf (fun y => z ((z_lt rb ra).mpr y)))
          | le => exact lv_icmp_le hx hb hdg (tg_ok hI.2) (fun z => kt ((z_le ra rb).mp z)) (fun z => kf (fun y => z ((z_le ra rb).mpr y)))
      case ldc_w i =>
        match inf, h, hI with
        | [v], h, hI =>
          simp only [okI, Bool.and_eq_true] at hI
          obtain rfl := len_eq hI.1
          have ho : m_o r = 9 := len_eq hI.2.1
          have hm := el3_mem _ hI.2.2
          have hw : kwd (i, v, 0) ∈ gw := pkL_gw (ckK ▸ List.mem_map_of_mem hm) rfl
          have hv : Rng (v : Int) := by
            simp only [List.mem_cons, Prod.mk.injEq, List.not_mem_nil, or_false] at hm
            unfold Rng
            omega
          refine lv_ldcw (own := ownN (m_o r)) (v := Int32.ofInt (v : Int)) hx hb hown (by rw [ho]; exact hts _ hw) hdg ?_
          exact ih2 (pc + 3) ls (.inl (v : Int) :: st) m1 arr H locs h hls (SG.int hv hst) hM hLR hS
      case tableswitch d lo hi os =>
        simp only [okI, Bool.and_eq_true, decide_eq_true_eq] at hI
        match st, h, hst with
        | .inl x :: st', h, hst =>
          have rx : Rng x := hst.hd.1
          have hx2 := z_rng rx
          obtain ⟨k1, k2⟩ := sw_table (nx := fun p => wpF n (codeOf M) p ls st' m1 (fun r1 m' => r1 = r0 ∧ m' = m0)) os.toList lo h
          by_cases c1 : x < lo ∨ lo + (os.toList.length : Int) ≤ x
          · exact lv_tableOut (x := Int32.ofInt x) hx hb hdg (by rw [hx2, hI.2]; omega) (tg_ok hI.1.1.1) (ih2 _ ls st' m1 arr H locs (k2 c1) hls hst.tl hM hLR hS)
          · have hk : (x - lo).toNat < os.toList.length := by omega
            have hget : os.toList[(x - lo).toNat]? = some (os.toList[(x - lo).toNat]'hk) := List.getElem?_eq_getElem hk
            have htg := List.all_eq_true.mp hI.1.1.2 _ (List.mem_of_getElem? hget)
            refine lv_tableIn (x := Int32.ofInt x) (off := os.toList[(x - lo).toNat]'hk) hx hb hdg (by rw [hx2]; omega) (by rw [hx2, hI.2]; omega) (by rw [hx2, ← Array.getElem?_toList]; exact hget) (tg_ok htg) ?_
            exact ih2 _ ls st' m1 arr H locs (k1 _ _ hget (by omega)) hls hst.tl hM hLR hS
      case lookupswitch d ps =>
        simp only [okI, Bool.and_eq_true] at hI
        match st, h, hst with
        | .inl x :: st', h, hst =>
          have rx : Rng x := hst.hd.1
          have hx2 := z_rng rx
          obtain ⟨k1, k2⟩ := sw_look (nx := fun p => wpF n (codeOf M) p ls st' m1 (fun r1 m' => r1 = r0 ∧ m' = m0)) hI.1.1 ps.toList hI.1.2 h
          exact lv_lookup (x := Int32.ofInt x) hx hb hdg hI.2 (by rw [hx2]) (tg_ok k1) (ih2 _ ls st' m1 arr H locs k2 hls hst.tl hM hLR hS)
      case getfield idx =>
        match inf, h, hI with
        | [k, ci], h, hI =>
          simp only [okI, Bool.and_eq_true] at hI
          obtain rfl := len_eq hI.1
          obtain ⟨q, i, st', fs, rfl, hq2, hor⟩ := i_get (show runSR (r_get shp ci ls k (pc + 3) st m1) _ _ _ from h)
          have hgr := gv_ref hst.hd.1 hst.hd.2
          have hin := shp_in hgr.1 hgr.2 (by rw [hq2]; trivial)
          obtain ⟨k0, hk0, hk1⟩ := hW_get (ad := ad) (cs := cs) m1 hin
          rw [cell_obj hq2] at hk1
          obtain ⟨cT, hcl, hlen, hsk2⟩ := okS_obj hq2
          have hw := hts _ (fcp_ok _ hq.1 _ (el3_mem _ hI.2))
          have hw2 : (Cond.fieldLink (ownN (m_o r)) idx (cT.2.1 k).1 (cT.2.1 k).2.1 (cT.2.1 k).2.2.1).before args s = true := by
            have : vwCl.getD ci (RX0, TX0, 10) = cT := by rw [List.getD_eq_getElem?_getD, hcl]; rfl
            unfold fwd at hw
            dsimp only at hw
            rw [this] at hw
            exact hw
          rcases hor with ⟨a, b, hf, ha, h⟩ | ⟨q', b, hf, h⟩
          · have hkl : k < cT.2.2 := by rw [← hlen]; exact (List.getElem?_eq_some_iff.mp hf).1
            refine va_get (D := D) (ci := ci) (v := .int (Int32.ofInt (m1 q i (k : Int)))) (C := cT.1) (T := cT.2.1) (N := cT.2.2) hx hb hts (cl_ok ci cT hcl).1 hown hK hP k0 hk1 hcl k hkl hw2 (fun _ h9 => h9) (by have := fv_int ad m1 q i fs 0 k a b hf ha; rwa [Nat.zero_add] at this) hdg ?_
            exact ih2 (pc + 3) ls (.inl (m1 q i (k : Int)) :: st') m1 arr H locs h hls (SG.int (hRm _ _ _) hst.tl) hM hLR hS
          · have hkl : k < cT.2.2 := by rw [← hlen]; exact (List.getElem?_eq_some_iff.mp hf).1
            have hq9 : q' < 900 := by
              have h1 := hsk2 ((q' + 2, b), k) (by
                have : fs.zipIdx[k]? = some ((q' + 2, b), k) := by rw [List.getElem?_zipIdx, hf]; simp
                exact List.mem_of_getElem? this)
              simpa using h1
            refine va_get (D := D) (ci := ci) (v := .ref (ad q' (if b = 0 then i else 0))) (C := cT.1) (T := cT.2.1) (N := cT.2.2) hx hb hts (cl_ok ci cT hcl).1 hown hK hP k0 hk1 hcl k hkl hw2 (fun _ h9 => h9) (fv_ref ad m1 q i fs 0 k q' b hf) hdg ?_
            refine ih2 (pc + 3) ls (.inr (q', if b = 0 then i else 0) :: st') m1 arr H locs h hls (SG.cons ?_ hq9 hst.tl) hM hLR hS
            have hcn := fld_cnt q ci fs k q' b hq2 hf
            refine Or.inr ⟨hq9, ?_⟩
            split
            · rename_i hb0
              have := hcn.1 hb0
              exact ⟨hgr.1, by have := hgr.2; omega⟩
            · exact ⟨Int.le_refl 0, by have := hcn.2; omega⟩
      case putfield idx =>
        match inf, h, hI with
        | [k, ci], h, hI =>
          simp only [okI, Bool.and_eq_true] at hI
          obtain rfl := len_eq hI.1
          obtain ⟨v, q, i, st', fs, a, b, rfl, hq2, hf, hor, h⟩ := i_put (show runSR (r_put shp ci ls k (pc + 3) st m1) _ _ _ from h)
          have hgr := gv_ref hst.tl.hd.1 hst.tl.hd.2
          have rv : Rng v := hst.hd.1
          have hin := shp_in hgr.1 hgr.2 (by rw [hq2]; trivial)
          obtain ⟨k0, hk0, hk1⟩ := hW_get (ad := ad) (cs := cs) m1 hin
          rw [cell_obj hq2] at hk1
          obtain ⟨cT, hcl, hlen, hsk2⟩ := okS_obj hq2
          have hw := hts _ (fcp_ok _ hq.1 _ (el3_mem _ hI.2))
          have hw2 : (Cond.fieldLink (ownN (m_o r)) idx (cT.2.1 k).1 (cT.2.1 k).2.1 (cT.2.1 k).2.2.1).before args s = true := by
            have : vwCl.getD ci (RX0, TX0, 10) = cT := by rw [List.getD_eq_getElem?_getD, hcl]; rfl
            unfold fwd at hw
            dsimp only at hw
            rw [this] at hw
            exact hw
          have hkl : k < cT.2.2 := by rw [← hlen]; exact (List.getElem?_eq_some_iff.mp hf).1
          have h1 := hsk2 ((a, b), k) (by
            have : fs.zipIdx[k]? = some ((a, b), k) := by rw [List.getElem?_zipIdx, hf]; simp
            exact List.mem_of_getElem? this)
          have ha2 : a < 2 := by omega
          obtain ⟨ty, hty, hnm⟩ := (cl_ok ci cT hcl).2
          have hq32 : q ≠ 32 := by
            intro z
            rw [z] at hq2
            cases hq2
          have hfin : (cT.2.1 k).2.2.2 = false := by
            match a, ha2, h1 with
            | 0, _, h1 => exact (of_decide_eq_true h1).2
            | 1, _, h1 => exact (of_decide_eq_true h1).2
          have hparse : ∃ tyv : FieldType, parseFieldDescriptor (cT.2.1 k).2.2.1 = some tyv ∧ narrow tyv (.int (Int32.ofInt v)) = .int (Int32.ofInt v) ∧ fits tyv (.int (Int32.ofInt v)) = true := by
            match a, ha2, h1, hor with
            | 0, _, h1, _ => exact ⟨.int, by rw [(of_decide_eq_true h1).1]; decide +kernel, rfl, rfl⟩
            | 1, _, h1, hor =>
              have hz : v = 0 ∨ v = 1 := by
                rcases hor with e | e
                · cases e
                · exact e.2
              exact ⟨.boolean, by rw [(of_decide_eq_true h1).1]; decide +kernel, (z_nar hz).1, (z_nar hz).2.2⟩
          obtain ⟨tyv, hp1, hp2, hp3⟩ := hparse
          refine va_put (D := D) (ci := ci) (v := .int (Int32.ofInt v)) (ty := tyv) (C := cT.1) (T := cT.2.1) (N := cT.2.2) hx hb hts (cl_ok ci cT hcl).1 ty hty hnm hown hK hP hD hS k0 hk1 hcl k hkl hw2 (fun _ h9 => h9) hfin hp1 hp2 hp3 (by rw [fv_len, hlen]; exact hkl) hdg (fun H1 locs1 hP1 hD1 hS1 => ?_)
          have e0 : cellOf ad cs (mset m1 q i (k : Int) v) q i = .inr (ci, (fv ad m1 q i 0 fs).set k (.int (Int32.ofInt v))) := by
            rw [cell_obj hq2]
            have := fv_set ad m1 q i v fs 0 k a b hf ha2
            rw [Nat.zero_add] at this
            rw [this]
          rw [← e0, hW_set hk0 mset_off] at hP1
          exact ih2 (pc + 3) ls st' _ arr H1 locs1 h hls hst.tl.tl ⟨hP1, hRm.set rv, hSc.set hq32⟩ hLR hS1
      case getstatic idx =>
        match inf, h, hI with
        | [q], h, hI =>
          simp only [okI, Bool.and_eq_true, Bool.or_eq_true] at hI
          obtain rfl := len_eq hI.1
          have hq3 : ∀ kd, (idx, q, kd) ∈ scp.getD (m_o r) [] → 28 ≤ q ∧ q ≤ 31 := fun kd hm => by
            have h1 := List.all_eq_true.mp (scp_q _ hq.1) _ hm
            simp only [Bool.and_eq_true] at h1
            exact ⟨Nat.le_of_ble_eq_true h1.1, Nat.le_of_ble_eq_true h1.2⟩
          have fin : (28 ≤ q ∧ q ≤ 31) → W p l e R s m args below meth c H locs ce sl Qf (F0 m (pc + 3) arr (.ref (ad q 0) :: st.map (conV ad))) := fun hq4 =>
            ih2 (pc + 3) ls (.inr (q, 0) :: st) m1 arr H locs h hls (SG.cons (Or.inr ⟨by omega, Int.le_refl 0, by
              rcases (show q = 28 ∨ q = 29 ∨ q = 30 ∨ q = 31 by omega) with e | e | e | e <;> subst e <;> decide⟩) (show q < 900 by omega) hst) hM hLR hS
          rcases hI.2 with h1 | h1
          · have hm := el3_mem _ h1
            have hq4 := hq3 0 hm
            have hw := hts _ (scp_ok _ hq.1 _ hm rfl)
            exact va_gets (own := ownN (m_o r)) hx hb (hStat q hq4.1 hq4.2).1 hS hown hw (fun _ h9 => h9) hdg (fin hq4)
          · have hm := el3_mem _ h1
            have hq4 := hq3 1 hm
            exact va_getsN (own := ownN (m_o r)) hx hb (hStat q hq4.1 hq4.2).1 hS hown (va_Nw.use rfl (hNf _ hq.1 _ hm rfl)) (fun _ h9 => h9) hdg (fin hq4)
      case iaload =>
        obtain rfl := len_eq hI
        obtain ⟨j, q, i, st', rfl, hor⟩ := i_ald (show runSR (r_ald shp 0 ls (pc + 1) st m1) _ _ _ from h)
        have rj : Rng j := hst.hd.1
        have hgr := gv_ref hst.tl.hd.1 hst.tl.hd.2
        rcases hor with ⟨n1, hq2, hj, h⟩ | ⟨vs, hq2, -, hj, h2⟩ | ⟨hq32, -, hj, h2⟩
        · have hin := shp_in hgr.1 hgr.2 (by rw [hq2]; trivial)
          obtain ⟨k0, hk0, hk1⟩ := hW_get (ad := ad) (cs := cs) m1 hin
          rw [cell_arr hq2] at hk1
          refine va_iald hx hb hK hP k0 0 hk1 rfl (z_in rj hj.1 hj.2) hdg ?_
          rw [z_cl rj, show ((j.toNat : Nat) : Int) = j by omega]
          exact ih2 (pc + 1) ls (.inl (m1 q i j) :: st') m1 arr H locs h hls (SG.int (hRm _ _ _) hst.tl.tl) hM hLR hS
        · have hq5 : q < 56 := by
            rcases Nat.lt_or_ge q 56 with c0 | c0
            · exact c0
            · have := shp_big c0; omega
          have hq4 := shp_st q hq5 vs hq2
          have hi0 : i = 0 := by have := hq4.2.2; omega
          subst hi0
          have hvo : valsOf q = vs := by unfold valsOf; rw [hq2]
          have hT := (hStat q hq4.1 hq4.2.1).2
          rw [hvo] at hT
          refine va_ti hx hb hT hS (z_in rj hj.1 hj.2) (v := .int (Int32.ofInt (vs.getD j.toNat 0))) (by rw [z_cl rj]) hdg ?_
          have hrv : Rng (vs.getD j.toNat 0) := by
            have hsk := shp_ok (q := q)
            rw [hq2] at hsk
            have hlt : j.toNat < vs.length := by omega
            have := List.all_eq_true.mp hsk (vs.getD j.toNat 0) (by rw [List.getD_eq_getElem?_getD, List.getElem?_eq_getElem hlt]; exact List.getElem_mem hlt)
            exact rb_ok this
          exact ih2 (pc + 1) ls (.inl (vs.getD j.toNat 0) :: st') m1 arr H locs h2 hls (SG.int hrv hst.tl.tl) hM hLR hS
        · subst hq32
          have hi0 : i = 0 := by have := hgr.2; have : cnt 32 = 1 := rfl; omega
          subst hi0
          have hj2 : j < (L : Int) := by have := hSc.1; omega
          refine va_sld hx hb hX hXl hXb hS (z_in rj hj.1 hj2) hdg ?_
          have hjn : j.toNat < L := by omega
          have e1 := hSc.2 j.toNat hjn
          rw [show ((j.toNat : Nat) : Int) = j by omega] at e1
          rw [z_cl rj, ← z_i32 (xs j.toNat), ← e1]
          exact ih2 (pc + 1) ls (.inl (m1 32 0 j) :: st') m1 arr H locs h2 hls (SG.int (hRm _ _ _) hst.tl.tl) hM hLR hS
      case baload =>
        obtain rfl := len_eq hI
        obtain ⟨j, q, i, st', rfl, hor⟩ := i_ald (show runSR (r_ald shp 1 ls (pc + 1) st m1) _ _ _ from h)
        have rj : Rng j := hst.hd.1
        have hgr := gv_ref hst.tl.hd.1 hst.tl.hd.2
        rcases hor with ⟨n1, hq2, hj, h⟩ | ⟨vs, hq2, h0, hj, h⟩ | ⟨-, h0, hj, h⟩
        · have hin := shp_in hgr.1 hgr.2 (by rw [hq2]; trivial)
          obtain ⟨k0, hk0, hk1⟩ := hW_get (ad := ad) (cs := cs) m1 hin
          rw [cell_arr hq2] at hk1
          refine va_zald hx hb hK hP k0 1 hk1 rfl (z_in rj hj.1 hj.2) hdg ?_
          rw [z_cl rj, show ((j.toNat : Nat) : Int) = j by omega]
          exact ih2 (pc + 1) ls (.inl (m1 q i j) :: st') m1 arr H locs h hls (SG.int (hRm _ _ _) hst.tl.tl) hM hLR hS
        · cases h0
        · cases h0
      case iastore =>
        obtain rfl := len_eq hI
        obtain ⟨v, j, q, i, st', n1, rfl, hq2, hj, -, h⟩ := i_ast (show runSR (r_ast shp 0 ls (pc + 1) st m1) _ _ _ from h)
        have rv : Rng v := hst.hd.1
        have rj : Rng j := hst.tl.hd.1
        have hgr := gv_ref hst.tl.tl.hd.1 hst.tl.tl.hd.2
        have hin := shp_in hgr.1 hgr.2 (by rw [hq2]; trivial)
        obtain ⟨k0, hk0, hk1⟩ := hW_get (ad := ad) (cs := cs) m1 hin
        rw [cell_arr hq2] at hk1
        have hq32 : q ≠ 32 := by
          intro z
          rw [z] at hq2
          cases hq2
        refine va_iast hx hb hK hP hD hS k0 0 hk1 rfl (z_in rj hj.1 hj.2) hdg (fun H1 locs1 hP1 hD1 hS1 => ?_)
        have e0 : cellOf ad cs (mset m1 q i j v) q i = .inl (cs 0, n1, .inl (upd (fun k : Nat => Int32.ofInt (m1 q i (k : Int))) (Int32.ofInt j).toNatClampNeg (Int32.ofInt v))) := by
          rw [cell_arr hq2, z_cl rj, am_set hj.1]
        rw [← e0, hW_set hk0 mset_off] at hP1
        exact ih2 (pc + 1) ls st' _ arr H1 locs1 h hls hst.tl.tl.tl ⟨hP1, hRm.set rv, hSc.set hq32⟩ hLR hS1
      case bastore =>
        obtain rfl := len_eq hI
        obtain ⟨v, j, q, i, st', n1, rfl, hq2, hj, hv, h⟩ := i_ast (show runSR (r_ast shp 1 ls (pc + 1) st m1) _ _ _ from h)
        have hv2 : v = 0 ∨ v = 1 := by
          rcases hv with e | e
          · cases e
          · exact e
        have rv : Rng v := hst.hd.1
        have rj : Rng j := hst.tl.hd.1
        have hgr := gv_ref hst.tl.tl.hd.1 hst.tl.tl.hd.2
        have hin := shp_in hgr.1 hgr.2 (by rw [hq2]; trivial)
        obtain ⟨k0, hk0, hk1⟩ := hW_get (ad := ad) (cs := cs) m1 hin
        rw [cell_arr hq2] at hk1
        have hq32 : q ≠ 32 := by
          intro z
          rw [z] at hq2
          cases hq2
        refine va_zast hx hb hK hP hD hS k0 1 hk1 rfl (z_in rj hj.1 hj.2) hdg (fun H1 locs1 hP1 hD1 hS1 => ?_)
        have e0 : cellOf ad cs (mset m1 q i j v) q i = .inl (cs 1, n1, .inl (upd (fun k : Nat => Int32.ofInt (m1 q i (k : Int))) (Int32.ofInt j).toNatClampNeg (vp_nar .boolean (Int32.ofInt v)))) := by
          rw [cell_arr hq2, z_cl rj, am_set hj.1, (z_nar hv2).2.1]
        rw [← e0, hW_set hk0 mset_off] at hP1
        exact ih2 (pc + 1) ls st' _ arr H1 locs1 h hls hst.tl.tl.tl ⟨hP1, hRm.set rv, hSc.set hq32⟩ hLR hS1
      case aaload =>
        obtain rfl := len_eq hI
        obtain ⟨j, q, i, st', n1, q', o, tt, rfl, hq2, hj, h⟩ := i_aald (show runSR (r_aald shp ls (pc + 1) st m1) _ _ _ from h)
        have rj : Rng j := hst.hd.1
        have hgr := gv_ref hst.tl.hd.1 hst.tl.hd.2
        have hin := shp_in hgr.1 hgr.2 (by rw [hq2]; trivial)
        obtain ⟨k0, hk0, hk1⟩ := hW_get (ad := ad) (cs := cs) m1 hin
        rw [cell_refs hq2] at hk1
        have hsk := shp_ok (q := q)
        rw [hq2] at hsk
        simp only [okS, Bool.and_eq_true, Nat.ble_eq, Nat.blt_eq] at hsk
        have fin : W p l e R s m args below meth c H locs ce sl Qf (F0 m (pc + 1) arr (va_rf (some (ad q' ((o : Int) + (((Int32.ofInt j).toNatClampNeg : Nat) : Int)))) :: st'.map (conV ad))) := by
          rw [z_cl rj, show ((j.toNat : Nat) : Int) = j by omega]
          exact ih2 (pc + 1) ls (.inr (q', (o : Int) + j) :: st') m1 arr H locs h hls (SG.cons (Or.inr ⟨hsk.2, by omega, by omega⟩) hsk.2 hst.tl.tl) hM hLR hS
        rcases (show tt = 2 ∨ tt = 3 by omega) with e | e
        · subst e
          exact va_aldq hx hb hK hP k0 2 hk1 rfl (z_in rj hj.1 hj.2) hdg fin
        · subst e
          exact va_aldq hx hb hK hP k0 3 hk1 rfl (z_in rj hj.1 hj.2) hdg fin
      case arraylength =>
        obtain rfl := len_eq hI
        obtain ⟨q, i, st', rfl, hor⟩ := i_alen (show runSR (r_alen shp ls (pc + 1) st m1) _ _ _ from h)
        have hgr := gv_ref hst.hd.1 hst.hd.2
        rcases hor with ⟨tt, n1, hq2, h2⟩ | ⟨vs, hq2, h2⟩ | ⟨hq32, h2⟩
        · have hin := shp_in hgr.1 hgr.2 (by rw [hq2]; trivial)
          obtain ⟨k0, hk0, hk1⟩ := hW_get (ad := ad) (cs := cs) m1 hin
          rw [cell_arr hq2] at hk1
          have hlt := shp_len q tt n1 hq2
          have rn : Rng (n1 : Int) := ⟨by omega, by omega⟩
          have fin := ih2 (pc + 1) ls (.inl (n1 : Int) :: st') m1 arr H locs h2 hls (SG.int rn hst.tl) hM hLR hS
          rcases (show tt = 0 ∨ tt = 1 by omega) with e | e
          · subst e
            exact va_alen hx hb hK hP k0 0 hk1 rfl (by show Int32.ofNat n1 = Int32.ofInt (n1 : Int); rw [Int32.ofInt_eq_ofNat]) hdg fin
          · subst e
            exact va_alen hx hb hK hP k0 1 hk1 rfl (by show Int32.ofNat n1 = Int32.ofInt (n1 : Int); rw [Int32.ofInt_eq_ofNat]) hdg fin
        · have hq5 : q < 56 := by
            rcases Nat.lt_or_ge q 56 with c0 | c0
            · exact c0
            · have := shp_big c0; omega
          have hq4 := shp_st q hq5 vs hq2
          have hi0 : i = 0 := by have := hq4.2.2; omega
          subst hi0
          have hvo : valsOf q = vs := by unfold valsOf; rw [hq2]
          have hT := (hStat q hq4.1 hq4.2.1).2
          rw [hvo] at hT
          have hlt := shp_vl q hq5 vs hq2
          have rn : Rng (vs.length : Int) := ⟨by omega, by omega⟩
          exact va_tlen hx hb hT hS (by rw [← Int32.ofInt_eq_ofNat]) hdg (ih2 (pc + 1) ls (.inl (vs.length : Int) :: st') m1 arr H locs h2 hls (SG.int rn hst.tl) hM hLR hS)
        · subst hq32
          have hi0 : i = 0 := by have := hgr.2; have : cnt 32 = 1 := rfl; omega
          subst hi0
          refine va_slen hx hb hX hXl hXb hS hdg ?_
          rw [← Int32.ofInt_eq_ofNat, ← hSc.1]
          exact ih2 (pc + 1) ls (.inl (m1 32 1 0) :: st') m1 arr H locs h2 hls (SG.int (hRm _ _ _) hst.tl) hM hLR hS
      case ireturn =>
        simp only [okI, Bool.and_eq_true, Bool.or_eq_true, decide_eq_true_eq] at hI
        obtain rfl := len_eq hI.1
        match st, h, hst with
        | [.inl v], h, hst =>
          have key : ((.inl v : AV) = r0 ∧ m1 = m0) ∧ (m_t r = some .int ∨ (m_t r = some .boolean ∧ (v = 0 ∨ v = 1))) := by
            rcases hI.2 with ⟨h1, h2⟩ | ⟨h1, h2⟩
            · subst h2
              exact ⟨h, Or.inl h1⟩
            · subst h2
              exact ⟨h.2, Or.inr ⟨h1, h.1⟩⟩
          obtain ⟨⟨e1, e2⟩, ht⟩ := key
          subst e1
          subst e2
          have := hret .ireturn pc arr H locs hdg (Or.inr (Or.inl ⟨rfl, by
            rcases ht with e | ⟨e, e3⟩
            · exact Or.inl e
            · refine Or.inr ⟨e, ?_⟩
              rcases e3 with e3 | e3
              · exact Or.inl (by rw [e3])
              · exact Or.inr (by rw [e3]), v, rfl⟩)) hst.hd.1 trivial hM hS
          rw [if_neg (fun z => by cases z)] at this
          exact this
      case areturn =>
        simp only [okI, Bool.and_eq_true] at hI
        obtain rfl := len_eq hI.1
        match st, h, hst with
        | [.inr q], h, hst =>
          obtain ⟨e1, e2⟩ := h
          subst e1
          subst e2
          have ht : ∃ C, m_t r = some (.object C) := by
            have h2 := hI.2
            cases hty : m_t r with
            | none => rw [hty] at h2; cases h2
            | some ty => rw [hty] at h2; cases ty <;> first | (cases h2; done) | exact ⟨_, rfl⟩
          have := hret .areturn pc arr H locs hdg (Or.inr (Or.inr ⟨rfl, ht, q, rfl⟩)) hst.hd.1 hst.hd.2 hM hS
          rw [if_neg (fun z => by cases z)] at this
          exact this
      case return_ =>
        simp only [okI, Bool.and_eq_true, decide_eq_true_eq] at hI
        obtain rfl := len_eq hI.1
        match st, h with
        | [], h =>
          obtain ⟨e1, e2⟩ := h
          subst e1
          subst e2
          have := hret .return_ pc arr H locs hdg (Or.inl ⟨rfl, hI.2⟩) r_0 trivial hM hS
          rw [if_pos rfl] at this
          exact this
      case invokestatic idx =>
        simp only [okI, Bool.and_eq_true] at hI
        obtain rfl := len_eq hI.1
        match inf, h, hI with
        | [w], h, hI =>
          obtain ⟨nn, dp, q1, i1, sp, q0, i0, tt, n0, n1, rfl, hq0, hq1, hg, ht, h2⟩ := i_copy (show runSR (r_copy shp ls (pc + 3) st m1) _ _ _ from h)
          have hI2 := hI.2
          simp only [Bool.and_eq_true, Nat.ble_eq] at hI2
          have hmA := el3_mem _ hI2.1.1
          have hlink : (Cond.methodLink (ownN (m_o r)) idx arraycopyName).before args s = true := by
            simp only [List.mem_cons, Prod.mk.injEq, List.not_mem_nil, or_false] at hmA
            obtain ⟨e1, e2, -⟩ := hmA
            rw [e1, e2]
            exact hts _ (acA _ (List.mem_of_getElem? (i := 0) rfl))
          have hnat : (Cond.native arraycopyName).before args s = true := hts _ (acA _ (List.mem_of_getElem? (i := 1) rfl))
          have hstat : (Cond.static arraycopyName).before args s = true := hts _ (acA _ (List.mem_of_getElem? (i := 2) rfl))
          have hini : (Cond.initialized "java/lang/System").before args s = true := hts _ (acA _ (List.mem_of_getElem? (i := 3) rfl))
          have rn : Rng nn := hst.hd.1
          have rd : Rng dp := hst.tl.hd.1
          have rs : Rng sp := hst.tl.tl.tl.hd.1
          have hgr1 := gv_ref hst.tl.tl.hd.1 hst.tl.tl.hd.2
          have hgr0 := gv_ref hst.tl.tl.tl.tl.hd.1 hst.tl.tl.tl.tl.hd.2
          have hin1 := shp_in hgr1.1 hgr1.2 (by rw [hq1]; trivial)
          have hin0 := shp_in hgr0.1 hgr0.2 (by rw [hq0]; trivial)
          obtain ⟨k1, hk1, hk1'⟩ := hW_get (ad := ad) (cs := cs) m1 hin1
          obtain ⟨k0, hk0, hk0'⟩ := hW_get (ad := ad) (cs := cs) m1 hin0
          rw [cell_arr hq1] at hk1'
          rw [cell_arr hq0] at hk0'
          have hq32 : q1 ≠ 32 := by
            intro z
            rw [z] at hq1
            cases hq1
          have fin : ∀ (H1 : Heap) (locs1 : List Loc), va_P D vwCl ((hW ad cs m1).set k1 (ad q1 i1, .inl (cs tt, n1, .inl (va_cpy (fun j : Nat => Int32.ofInt (m1 q0 i0 (j : Int))) (fun j : Nat => Int32.ofInt (m1 q1 i1 (j : Int))) (Int32.ofInt sp).toNatClampNeg (Int32.ofInt dp).toNatClampNeg (Int32.ofInt nn).toNatClampNeg)))) H1 → va_S (AB base) s.heap H1 locs1 → W p l e R s m args below meth c H1 locs1 ce sl Qf (F0 m (pc + 3) arr []) := by
            intro H1 locs1 hP1 hS1
            have e0 : cellOf ad cs (mcpy m1 q0 i0 sp q1 i1 dp nn) q1 i1 = .inl (cs tt, n1, .inl (va_cpy (fun j : Nat => Int32.ofInt (m1 q0 i0 (j : Int))) (fun j : Nat => Int32.ofInt (m1 q1 i1 (j : Int))) (Int32.ofInt sp).toNatClampNeg (Int32.ofInt dp).toNatClampNeg (Int32.ofInt nn).toNatClampNeg)) := by
              rw [cell_arr hq1, z_cl rs, z_cl rd, z_cl rn, am_cpy hg.1 hg.2.1 hg.2.2.1]
            rw [← e0, hW_set hk1 mcpy_off] at hP1
            exact ih2 (pc + 3) ls [] _ arr H1 locs1 h2 hls (fun v hv => by cases hv) ⟨hP1, hRm.cpy, hSc.cpy hq32⟩ hLR hS1
          have hnw : nativeFrameWords "java/lang/System" "arraycopy" 5 + 11 = 18 := by decide +kernel
          have hlo2 : (([] : List Value).map fun v => v.category).sum + (nativeFrameWords "java/lang/System" "arraycopy" 5 + 11) ≤ R.locals := by
            rw [hnw]
            show 0 + 18 ≤ R.locals
            omega
          have g1 : ¬ Int32.ofInt sp < 0 := fun z => by have := (z_lt0 rs).mp z; omega
          have g2 : ¬ Int32.ofInt dp < 0 := fun z => by have := (z_lt0 rd).mp z; omega
          have g3 : ¬ Int32.ofInt nn < 0 := fun z => by have := (z_lt0 rn).mp z; omega
          have g4 : (Int32.ofInt sp).toNatClampNeg + (Int32.ofInt nn).toNatClampNeg ≤ n0 := by rw [z_cl rs, z_cl rn]; omega
          have g5 : (Int32.ofInt dp).toNatClampNeg + (Int32.ofInt nn).toNatClampNeg ≤ n1 := by rw [z_cl rd, z_cl rn]; omega
          rcases ht with e | ⟨e, hbool⟩
          · subst e
            exact va_copyi (ty := .int) hx hb (hml.trans hLR.1.symm) hown hlink hnat hstat hini hK hP hD hS k0 k1 0 0 hk0' hk1' rfl rfl rfl g1 g2 g3 g4 g5 (fun _ _ => rfl) (by omega) hlo2 hdg (fun H1 locs1 hP1 _ hS1 => fin H1 locs1 hP1 hS1)
          · subst e
            refine va_copyi (ty := .boolean) hx hb (hml.trans hLR.1.symm) hown hlink hnat hstat hini hK hP hD hS k0 k1 1 1 hk0' hk1' rfl rfl rfl g1 g2 g3 g4 g5 (fun j hj => ?_) (by omega) hlo2 hdg (fun H1 locs1 hP1 _ hS1 => fin H1 locs1 hP1 hS1)
            rw [z_cl rn] at hj
            rw [z_cl rs]
            exact (z_nar (hbool ((sp.toNat + j : Nat) : Int) (by omega) (by omega))).2.2
        | [w, w2], h, hI =>
          obtain ⟨x, st', rfl, hl8, hg, h2⟩ := i_abs (show runSR (r_abs ls (pc + 3) st m1) _ _ _ from h)
          have hI2 := hI.2
          simp only [Bool.and_eq_true, Nat.ble_eq] at hI2
          have hmA := el3_mem _ hI2.1.1
          have rx : Rng x := hst.hd.1
          have hlink : (Cond.methodLink (ownN (m_o r)) idx Lib.Math.abs.name).before args s = true := by
            simp only [List.mem_cons, Prod.mk.injEq, List.not_mem_nil, or_false] at hmA
            obtain ⟨e1, e2, -⟩ := hmA
            rw [e1, e2]
            exact hts _ (acB _ (List.mem_of_getElem? (i := 0) rfl))
          have hsum : ((st'.map (conV ad)).map fun v => v.category).sum + 13 ≤ R.locals := by
            have := hcat st' hl8
            omega
          refine va_mabs hx hb (hml.trans hLR.1.symm) hown hlink (hts _ (acB _ (List.mem_of_getElem? (i := 1) rfl))) (hts _ (acB _ (List.mem_of_getElem? (i := 2) rfl))) (hts _ (acB _ (List.mem_of_getElem? (i := 3) rfl))) (by omega) hsum hce hsl (x := Int32.ofInt x) hdg ?_
          have e0 : (if 0 ≤ Int32.ofInt x then Int32.ofInt x else 0 - Int32.ofInt x) = Int32.ofInt (zAbs x) := by
            unfold zAbs
            by_cases c0 : 0 ≤ x
            · rw [if_pos ((z_0le rx).mpr c0), if_pos c0]
            · rw [if_neg (fun z => c0 ((z_0le rx).mp z)), if_neg c0, ← z_0, ← Int32.ofInt_sub]
              congr 1
              omega
          rw [e0]
          refine ih2 (pc + 3) ls (.inl (zAbs x) :: st') m1 arr H locs h2 hls (SG.int ?_ hst.tl) hM hLR hS
          unfold zAbs
          split
          · exact rx
          · exact hg
        | [], h, hI =>
          obtain ⟨M', na, ml, rk, e1, -⟩ := i_call (show runSR (r_call [] ls (pc + 3) st m1) _ _ _ from h)
          cases e1
        | [w1, w2, w3], h, hI =>
          obtain ⟨M', na, ml, rk, e1, -⟩ := i_call (show runSR (r_call [w1, w2, w3] ls (pc + 3) st m1) _ _ _ from h)
          cases e1
        | w1 :: w2 :: w3 :: w4 :: w5 :: w6, h, hI =>
          obtain ⟨M', na, ml, rk, e1, -⟩ := i_call (show runSR (r_call (w1 :: w2 :: w3 :: w4 :: w5 :: w6) ls (pc + 3) st m1) _ _ _ from h)
          cases e1
        | [M', na, ml, rk], h, hI =>
          obtain ⟨M'', na', ml', rk', e1, hna, hdr, hw⟩ := i_call (show runSR (r_call [M', na, ml, rk] ls (pc + 3) st m1) _ _ _ from h)
          cases e1
          obtain ⟨r', hr', hmc, hmle, hrk, hfr, hlo, hnm, hpar, hMlt⟩ := callOK_inv hI.2
          have hq' := mrec_q hr'
          have hcls := mrec_cls hr'
          have hpl := own_p hq'.1 hq'.2
          refine hcall M' na ml rk r' (fun _ _ => True) hr' hna hnm hmle hrk hdr hw (fun r1 m2 hMet => ?_)
          have hlen : ((st.take na).reverse.map (conV ad)).length = na := by rw [List.length_map, List.length_reverse, List.length_take]; omega
          have hpre : PreS s H (PcO ad cs D L xs base (st.take na).reverse m1) ((st.take na).reverse.map (conV ad)) := ⟨PcO_blind, fun U hU hW => ⟨rfl, hE.go (locs := locs) hW (by rw [hU]; exact hS), by rw [hU]; exact hM, by rw [hU]; exact Nat.le_trans hbs hS.1⟩⟩
          have hstk : (F0 m pc arr (st.map (conV ad))).stack = ((st.take na).reverse.map (conV ad)).reverse ++ (st.drop na).map (conV ad) := by
            show st.map (conV ad) = _
            rw [← List.map_reverse, List.reverse_reverse, ← List.map_append, List.take_append_drop]
          have hcode := mrec_ok hMlt hr'
          have hd : (m_y r').cls ≠ "java/lang/invoke/MethodHandle" ∧ (m_y r').cls ≠ "java/lang/invoke/VarHandle" ∧ (parseMethodDescriptor (m_y r').desc).map (fun d => d.parameters.length) = some na := by
            rw [hcls]
            refine ⟨hpl.2.1, hpl.2.2, ?_⟩
            rw [mrec_par hr', ← hpar]
            rfl
          have hRR : (rmO r').frames + 1 ≤ R.frames ∧ 8 + (m_l r' + 11) + (rmO r').locals ≤ R.locals := ⟨by show m_F r' + 1 ≤ R.frames; omega, by show 8 + (m_l r' + 11) + m_L r' ≤ R.locals; omega⟩
          have hy := yR_eq hr'
          rcases hmc with hmc | ⟨-, hmc⟩
          · have hw0 := mcp_ok _ hq.1 _ hmc
            have hG : GoodIn gw (va_wsS (ownN (m_o r)) idx (m_y r') (wsO r')) := by
              intro w hw1
              rcases List.mem_append.mp hw1 with h1 | h1
              · have : w ∈ cwd (m_o r) (idx, M', 1) := by
                  simp only [cwd, hy]
                  simp only [List.mem_cons, List.not_mem_nil, or_false] at h1 ⊢
                  rcases h1 with e | e | e
                  · exact Or.inr (Or.inl e)
                  · exact Or.inr (Or.inr e)
                  · exact Or.inl e
                exact ⟨hw0 w this, gw_good (hw0 w this)⟩
              · exact wsO_good (fun _ z => z) hcode w h1
            exact va_runS hC hMet (va_cwS na hts hG rfl rfl rfl hd hRR) hpre rfl hlen hLR.1 hstk (lv_room (hcat _ hdr)) hdg ⟨hce, hsl⟩
          · have hw0 := mcp_ok _ hq.1 _ hmc
            have hini : (Cond.initialized (m_y r').cls).before args s = true := hts _ (hw0 _ (by simp only [cwd, hy]; exact List.mem_cons_self))
            have hstt : (Cond.static (m_y r')).before args s = true := hts _ (hw0 _ (by simp only [cwd, hy]; exact List.mem_cons_of_mem _ List.mem_cons_self))
            have hnw := hNm _ hq.1 _ hmc rfl
            unfold cnwd at hnw
            simp only [hy] at hnw
            exact va_runSN hC hMet ⟨va_cnB na hts (wsO_good (fun _ z => z) hcode) rfl rfl rfl hnw hini hd hRR, hstt, trivial⟩ hpre rfl hlen hLR.1 hstk (lv_room (hcat _ hdr)) hdg ⟨hce, hsl⟩
      case invokevirtual idx =>
        simp only [okI, Bool.and_eq_true] at hI
        obtain rfl := len_eq hI.1
        obtain ⟨M', na, ml, rk, ci, q, i, fs, einf, hrv, hq2, hdr, hw⟩ := i_callV (show runSR (r_callV shp inf ls (pc + 3) st m1) _ _ _ from h)
        subst einf
        have hI2 := hI.2
        simp only [Bool.and_eq_true] at hI2
        obtain ⟨r', hr', hmc, hmle, hrk, hfr, hlo, hnm, hpar, hMlt⟩ := callOK_inv hI2.1.1
        have ho' : m_o r' = ci := by
          have := hI2.1.2
          rw [hr'] at this
          exact len_eq this
        have hnlt : na < st.length := (List.getElem?_eq_some_iff.mp hrv).1
        have hq' := mrec_q hr'
        have hcls := mrec_cls hr'
        have hpl := own_p hq'.1 hq'.2
        refine hcall M' (na + 1) ml rk r' (fun _ _ => True) hr' (by omega) hnm hmle hrk hdr hw (fun r1 m2 hMet => ?_)
        have e9 : (st.take (na + 1)).reverse = .inr (q, i) :: (st.take na).reverse := by
          rw [List.take_add_one, hrv, List.reverse_append]
          rfl
        rw [e9] at hMet ⊢
        have hgv := hst _ (List.mem_of_getElem? hrv)
        have hgr := gv_ref hgv.1 hgv.2
        have hin := shp_in hgr.1 hgr.2 (by rw [hq2]; trivial)
        obtain ⟨k0, hk0, hk1⟩ := hW_get (ad := ad) (cs := cs) m1 hin
        rw [cell_obj hq2] at hk1
        obtain ⟨cT, hcl, -, -⟩ := okS_obj hq2
        have hcT := vw_own ci cT hcl
        have hlen : ((st.take na).reverse.map (conV ad)).length = na := by rw [List.length_map, List.length_reverse, List.length_take]; omega
        have hpre : PreV s H cT.1 (ad q i) (PcO ad cs D L xs base (.inr (q, i) :: (st.take na).reverse) m1) ((st.take na).reverse.map (conV ad)) := ⟨PcO_blind, va_recv hK hP hcl hk1, fun U hU hW => ⟨rfl, hE.go (locs := locs) hW (by rw [hU]; exact hS), by rw [hU]; exact hM, by rw [hU]; exact Nat.le_trans hbs hS.1⟩⟩
        have hstk : (F0 m pc arr (st.map (conV ad))).stack = ((st.take na).reverse.map (conV ad)).reverse ++ Value.ref (ad q i) :: (st.drop (na + 1)).map (conV ad) := by
          show st.map (conV ad) = _
          rw [← List.map_reverse, List.reverse_reverse]
          have e8 : st = st.take na ++ (.inr (q, i) :: st.drop (na + 1)) := by
            have h8 := List.take_append_drop na st
            have h7 : st.drop na = .inr (q, i) :: st.drop (na + 1) := by
              rw [List.drop_eq_getElem_cons hnlt]
              rw [(List.getElem?_eq_some_iff.mp hrv).2]
            rw [h7] at h8
            exact h8.symm
          exact (congrArg (List.map (conV ad)) e8).trans (by rw [List.map_append]; rfl)
        have hcode := mrec_ok hMlt hr'
        have hd : (m_y r').cls = cT.1 ∧ (m_y r').cls ≠ "java/lang/invoke/MethodHandle" ∧ (m_y r').cls ≠ "java/lang/invoke/VarHandle" ∧ (parseMethodDescriptor (m_y r').desc).map (fun d => d.parameters.length) = some na := by
          rw [hcls]
          refine ⟨by rw [ho', hcT], hpl.2.1, hpl.2.2, ?_⟩
          rw [mrec_par hr']
          congr 1
          omega
        have hRR : (rmO r').frames + 1 ≤ R.frames ∧ 8 + (m_l r' + 11) + (rmO r').locals ≤ R.locals := ⟨by show m_F r' + 1 ≤ R.frames; omega, by show 8 + (m_l r' + 11) + m_L r' ≤ R.locals; omega⟩
        have hy := yR_eq hr'
        rcases hmc with hmc | ⟨hz, -⟩
        · have hw0 := mcp_ok _ hq.1 _ hmc
          have hG : GoodIn gw (wsV (ownN (m_o r)) idx cT.1 (m_y r') (wsO r')) := by
            intro w hw1
            rcases List.mem_append.mp hw1 with h1 | h1
            · have : w ∈ cwd (m_o r) (idx, M', 0) := by
                simp only [cwd, hy]
                rw [← hd.1] at h1
                simp only [List.mem_cons, List.not_mem_nil, or_false] at h1 ⊢
                rcases h1 with e | e | e | e
                · exact Or.inr (Or.inl e)
                · exact Or.inr (Or.inr (Or.inl e))
                · exact Or.inr (Or.inr (Or.inr e))
                · exact Or.inl e
              exact ⟨hw0 w this, gw_good (hw0 w this)⟩
            · exact wsO_good (fun _ z => z) hcode w h1
          exact va_runV hC hMet (cwV na hts hG rfl rfl rfl hd hRR) hpre rfl hlen hLR.1 hstk (lv_room (hcat _ hdr)) hdg ⟨hce, hsl⟩
        · cases hz
