/-! The model's knife. -/
theorem sM_size {Q : AV → Mem → Prop} {x : Int} {m : Mem} (hx : -1000 ≤ x ∧ x ≤ 1000) (h : Q (.inl (zAbs x)) m) : WP cM_size 0 [.inl x] [] m Q := by
  unfold zAbs at h
  refine gM_size_0 x m ⟨fun z => ?_, fun z => ⟨⟨by omega, by omega⟩, ?_⟩⟩
  · rw [if_pos z] at h; exact h
  · rw [if_neg z] at h; exact h
theorem sM_apart {Q : AV → Mem → Prop} {a b : Int} {m : Mem} (ha : 0 ≤ a ∧ a < 121) (hb : 0 ≤ b ∧ b < 121) (h : Q (.inl (dst (cpk a) (cpk b))) m) : WP cM_apart 0 [.inl a, .inl b] [] m Q := by
  have e : dst (cpk a) (cpk b) = zAbs (a % 11 - b % 11) + zAbs (a / 11 - b / 11) := by
    unfold dst cpk pl
    rw [show (12 * (a / 11 + 1) + (a % 11 + 1)) % 12 - (12 * (b / 11 + 1) + (b % 11 + 1)) % 12 = a % 11 - b % 11 by omega, show (12 * (a / 11 + 1) + (a % 11 + 1)) / 12 - (12 * (b / 11 + 1) + (b % 11 + 1)) / 12 = a / 11 - b / 11 by omega]
  rw [e] at h
  have h1 := zAbs_rng (x := a % 11 - b % 11)
  have h2 := zAbs_rng (x := a / 11 - b / 11)
  have := h1.2 (by omega) (by omega)
  have := h2.2 (by omega) (by omega)
  exact gM_apart_0 a b m ⟨ha.1, hb.1, ⟨by omega, by omega⟩, sM_size (by omega) ⟨_, rfl, ha.1, hb.1, ⟨by omega, by omega⟩, sM_size (by omega) ⟨_, rfl, ⟨by omega, by omega⟩, h⟩⟩⟩
theorem cpk_kc {B : Int → Prop} (hC : Cel B) {c : Int} (h : hasE B c) : cpk (kc c) = c ∧ 0 ≤ kc c ∧ kc c < 121 := by
  have := hasE_geo hC h
  unfold cpk kc pl
  omega
noncomputable def rkE (B : Int → Prop) (g : Int → Int) (r : Int) : Int := cP (LRt B g) r.toNat
theorem rkE_lt {B : Int → Prop} {g : Int → Int} (hC : Cel B) {r r' : Int} (h : LRt B g r) (h' : LRt B g r') : rkE B g r < rkE B g r' ↔ r < r' := by
  have g1 := hasE_geo hC h.1
  have g2 := hasE_geo hC h'.1
  unfold rkE
  constructor
  · intro z
    refine Classical.byContradiction (fun w => ?_)
    have := cP_mono (P := LRt B g) (show r'.toNat ≤ r.toNat by omega)
    omega
  · intro z
    exact cP_lt (by omega) (by rw [show ((r.toNat : Nat) : Int) = r by omega]; exact h)
theorem rkE_eq {B : Int → Prop} {g : Int → Int} (hC : Cel B) {r r' : Int} (h : LRt B g r) (h' : LRt B g r') : rkE B g r = rkE B g r' ↔ r = r' := by
  have a := rkE_lt hC h h'
  have b := rkE_lt hC h' h
  constructor
  · intro z
    rcases Int.lt_trichotomy r r' with c | c | c
    · have := a.mpr c; omega
    · exact c
    · have := b.mpr c; omega
  · intro z; rw [z]
theorem rkE_rng {B : Int → Prop} {g : Int → Int} (hC : Cel B) {r : Int} (h : LRt B g r) : 0 ≤ rkE B g r ∧ rkE B g r < cP (LRt B g) 144 := by
  have g1 := hasE_geo hC h.1
  unfold rkE
  exact ⟨(cP_rng _).1, cP_lt (by omega) (by rw [show ((r.toNat : Nat) : Int) = r by omega]; exact h)⟩
theorem LRt_121 {B : Int → Prop} {g : Int → Int} (hC : Cel B) : cP (LRt B g) 144 ≤ 121 := by
  refine cP_slots (g := kc) 121 (LRt B g) (fun a a0 a1 ha => ?_) (fun a b a0 a1 b0 b1 ha hb e => ?_)
  · have := cpk_kc hC ha.1
    omega
  · rw [← (cpk_kc hC ha.1).1, ← (cpk_kc hC hb.1).1, e]
theorem lk_iff {m : Mem} {B : Int → Prop} {g : Int → Int} (hC : Cel B) (hM : MLp m B g) {x y r : Int} (hx : 0 ≤ x ∧ x ≤ 10) (hy : 0 ≤ y ∧ y ≤ 10) (hr : LRt B g r) : lk m x y = kc r ↔ (hasE B (pl x y) ∧ g (pl x y) = r) := by
  have hv := hM.2.1 x y hx.1 hx.2 hy.1 hy.2
  have hk := cpk_kc hC hr.1
  by_cases hE : hasE B (pl x y)
  · have h1 := hv.1 hE
    rw [← h1.2]
    constructor
    · intro e; rw [e]; exact ⟨hE, hk.1⟩
    · rintro ⟨-, e⟩
      rw [← hk.1] at e
      unfold cpk pl at e
      omega
  · rw [hv.2 hE]
    exact ⟨fun z => by omega, fun z => absurd z.1 hE⟩
/-- corners that were seen, loop by loop -/
def vis (B : Int → Prop) (g : Int → Int) (l k c : Int) : Prop := rkE B g (g c) < l ∨ (rkE B g (g c) = l ∧ kc c < k)
def GI (B : Int → Prop) (g : Int → Int) (a : Int) (D : Int → Prop) (l k : Int) (s : Int × Int) : Prop := (s.1 = -6 ∧ s.2 = -6 ∧ ∀ c, liv B g D c → ¬ vis B g l k c) ∨ (∃ b, liv B g D b ∧ vis B g l k b ∧ s.1 = kc b ∧ s.2 = rkE B g (g b) ∧ ∀ c, liv B g D c → vis B g l k c → btr g a b c)
theorem GI.same {B : Int → Prop} {g : Int → Int} {a : Int} {D : Int → Prop} {l k l' k' : Int} {s : Int × Int} (h : GI B g a D l k s) (hv : ∀ c, liv B g D c → (vis B g l k c ↔ vis B g l' k' c)) : GI B g a D l' k' s := by
  rcases h with ⟨h1, h2, h3⟩ | ⟨b, b1, b2, b3, b4, b5⟩
  · exact Or.inl ⟨h1, h2, fun c hc z => h3 c hc ((hv c hc).mpr z)⟩
  · exact Or.inr ⟨b, b1, (hv b b1).mp b2, b3, b4, fun c hc z => b5 c hc ((hv c hc).mpr z)⟩
set_option maxHeartbeats 1000000 in
theorem sM_goOn {Q : AV → Mem → Prop} {k here a : Int} {B : Int → Prop} {g : Int → Int} {D : Int → Prop} {m : Mem} (hC : Cel B) (hM : MLp m B g) (hk : 0 ≤ k ∧ k < 121) (hh : 0 ≤ here ∧ here < 121) (ha : a = cpk here)
    (hD : ∀ r, LRt B g r → (m 53 0 (rkE B g r) = 0 ∧ ¬ D r) ∨ (m 53 0 (rkE B g r) = 1 ∧ D r)) (hex : ∃ c, liv B g D c) (hair : 0 ≤ m 33 0 27 ∧ m 33 0 27 ≤ 10000)
    (h : ∀ c, Nxt B g a D c → Q (.inl 0) (mset (mset (mset (mset m 54 0 k (rkE B g (g c))) 55 0 k (kc c)) 53 0 (rkE B g (g c)) 1) 33 0 27 (m 33 0 27 + dst a c))) : WP cM_goOn 0 [.inr (33, 0), .inl k, .inl here, uu, uu, uu, uu] [] m Q := by
  have hg := hM.1
  have h22 := hM.2.2.1
  have hn := LRt_121 (g := g) hC
  have hn0 := (cP_rng (P := LRt B g) 144).1
  have lroot : ∀ c, liv B g D c → LRt B g (g c) := fun c hc => ⟨hg.root hc.1, hg.idem hc.1⟩
  refine gM_goOn_0 k here m ?_
  refine loopU (σ := Int × Int) (N := cP (LRt B g) 144) (G := fun (l : Int) (s : Int × Int) => ∀ a6 : AV, WP cM_goOn 10 [.inr (33, 0), .inl k, .inl here, .inl s.1, .inl s.2, .inl l, a6] [] m Q) (I := fun (l : Int) (s : Int × Int) => GI B g a D l 0 s) ?_ ?_ 0 (-6, -6) (Int.le_refl 0) hn0 (Or.inl ⟨rfl, rfl, fun c hc z => ?_⟩) uu
  · rintro ⟨x3, x4⟩ hs a6
    refine gM_goOn_10 k here x3 x4 _ a6 m ⟨fun _ => ?_, fun z => absurd (by rw [h22]; exact Int.le_refl _) z⟩
    rcases hs with ⟨h1, h2, h3⟩ | ⟨b, b1, b2, b3, b4, b5⟩
    · obtain ⟨c, hc⟩ := hex
      exact absurd (Or.inl (rkE_rng hC (lroot c hc)).2) (h3 c hc)
    · dsimp only at b3 b4
      subst b3
      subst b4
      have hr := rkE_rng hC (lroot b b1)
      have hkc := cpk_kc hC b1.1
      have hab : 0 ≤ a ∧ a < 145 := by rw [ha]; unfold cpk pl; omega
      have hd := zAbs_rng (x := a % 12 - b % 12)
      have hd2 := zAbs_rng (x := a / 12 - b / 12)
      have hgeo := hasE_geo hC b1.1
      have := hd.2 (by omega) (by omega)
      have := hd2.2 (by omega) (by omega)
      have hdd : 0 ≤ dst a b ∧ dst a b ≤ 40 := by unfold dst; omega
      refine ⟨hk, hk, by omega, sM_apart hh (by omega) ⟨_, rfl, ?_⟩⟩
      have e27 : (mset (mset (mset m 54 0 k (rkE B g (g b))) 55 0 k (kc b)) 53 0 (rkE B g (g b)) 1) 33 0 27 = m 33 0 27 := by rw [mset_k (by decide), mset_k (by decide), mset_k (by decide)]
      rw [e27, ← ha, hkc.1]
      exact ⟨⟨by omega, by omega⟩, h b ⟨b1, fun c hc => b5 c hc (Or.inl (rkE_rng hC (lroot c hc)).2)⟩⟩
  · rintro l s l0 l1 hs hN a6
    obtain ⟨p0, p1, hp, hpl⟩ := nthP_spec (P := LRt B g) (n := 144) l0 l1
    generalize nthP (LRt B g) l = r at *
    have hrk : rkE B g r = l := hpl
    have h52 := hM.2.2.2 r p0 p1 hp
    have h52 : m 52 0 l = kc r := by rw [← hrk]; exact h52
    have h53 := hD r hp
    rw [hrk] at h53
    obtain ⟨x3, x4⟩ := s
    refine gM_goOn_10 k here x3 x4 l a6 m ⟨fun z => absurd z (by rw [h22]; omega), fun _ => ?_⟩
    refine loopU (σ := Int × Int) (N := 121) (G := fun (j : Int) (s : Int × Int) => WP cM_goOn 22 [.inr (33, 0), .inl k, .inl here, .inl s.1, .inl s.2, .inl l, .inl j] [] m Q) (I := fun (j : Int) (s : Int × Int) => GI B g a D l j s) ?_ ?_ 0 (x3, x4) (Int.le_refl 0) (by omega) hs
    · rintro ⟨y3, y4⟩ hs2
      refine gM_goOn_22 k here y3 y4 l _ m ⟨fun _ => ⟨⟨by omega, by omega⟩, hN (y3, y4) (hs2.same (fun c hc => ?_)) _⟩, fun z => absurd (by omega) z⟩
      have := cpk_kc hC hc.1
      unfold vis
      have h0 : 0 ≤ kc c := this.2.1
      omega
    · rintro j ⟨y3, y4⟩ j0 j1 hs2 hN2
      dsimp only at hN2 ⊢
      refine gM_goOn_22 k here y3 y4 l j m ⟨fun z => by omega, fun _ => ⟨by omega, fun z => ⟨⟨by omega, by omega⟩, hN (y3, y4) (hs2.same (fun c hc => ?_)) _⟩, fun z => ⟨by omega, by omega, fun z2 => ⟨⟨by omega, by omega⟩, hN2 (y3, y4) (hs2.same (fun c hc => ?_))⟩, fun z2 => ?_⟩⟩⟩
      · have hDr : D r := by
          rcases h53 with ⟨e, -⟩ | ⟨-, e⟩
          · exact absurd e z
          · exact e
        have hne : rkE B g (g c) ≠ l := fun e => hc.2 (by
          rw [(rkE_eq hC (lroot c hc) hp).mp (e.trans hrk.symm)]
          exact hDr)
        have := (cpk_kc hC hc.1).2.1
        unfold vis
        omega
      · have hiff := lk_iff hC hM (x := j % 11) (y := j / 11) (r := r) (by omega) (by omega) hp
        unfold lk at hiff
        rw [show 11 * (j / 11) + j % 11 = j by omega] at hiff
        rw [h52] at z2
        have hno : ¬ (rkE B g (g c) = l ∧ kc c = j) := fun e => by
          refine z2 (hiff.mpr ?_)
          have e1 : pl (j % 11) (j / 11) = c := by rw [← e.2]; exact (cpk_kc hC hc.1).1
          rw [e1]
          exact ⟨hc.1, (rkE_eq hC (lroot c hc) hp).mp (e.1.trans hrk.symm)⟩
        unfold vis
        omega
      · have hiff := lk_iff hC hM (x := j % 11) (y := j / 11) (r := r) (by omega) (by omega) hp
        unfold lk at hiff
        rw [show 11 * (j / 11) + j % 11 = j by omega] at hiff
        rw [h52] at z2
        obtain ⟨cE, cg⟩ := hiff.mp (Classical.byContradiction z2)
        have hcj : pl (j % 11) (j / 11) = cpk j := rfl
        rw [hcj] at cE cg
        generalize hc : cpk j = c at *
        have kcj : kc c = j := by rw [← hc]; unfold kc cpk pl; omega
        have hDr : ¬ D r := by
          rcases h53 with ⟨-, e⟩ | ⟨e, -⟩
          · exact e
          · exact absurd (fun e2 => by omega) z
        have hlc : liv B g D c := ⟨cE, by rw [cg]; exact hDr⟩
        have hvc : ∀ k', vis B g l k' c ↔ j < k' := fun k' => by
          unfold vis
          rw [cg, hrk, kcj]
          omega
        have split1 : ∀ d, liv B g D d → vis B g l (j + 1) d → vis B g l j d ∨ d = c := by
          intro d hd hv
          by_cases e : vis B g l j d
          · exact Or.inl e
          · refine Or.inr ?_
            unfold vis at e hv
            have : kc d = j := by omega
            rw [← (cpk_kc hC hd.1).1, this, hc]
        have mono : ∀ d, vis B g l j d → vis B g l (j + 1) d := fun d hv => by unfold vis at *; omega
        have hback : ∀ d, liv B g D d → vis B g l j d → g d < g c ∨ (g d = g c ∧ d ≤ c) := by
          intro d hd hv
          rcases hv with hv | ⟨hv, hv2⟩
          · left
            rw [cg]
            exact (rkE_lt hC (lroot d hd) hp).mp (by rw [hrk]; exact hv)
          · right
            refine ⟨by rw [cg]; exact (rkE_eq hC (lroot d hd) hp).mp (by rw [hrk]; exact hv), ?_⟩
            have g1 := hasE_geo hC hd.1
            have g2 := hasE_geo hC cE
            unfold kc at hv2 kcj
            omega
        have new : (∀ d, liv B g D d → vis B g l j d → dst a c < dst a d) → GI B g a D l (j + 1) (j, l) := by
          intro hlt
          refine Or.inr ⟨c, hlc, (hvc _).mpr (by omega), kcj.symm, by rw [cg]; exact hrk.symm, fun d hd hv => ?_⟩
          rcases split1 d hd hv with e | e
          · exact Or.inl (hlt d hd e)
          · rw [e]; unfold btr; omega
        refine ⟨fun z3 => ⟨⟨by omega, by omega⟩, hN2 (j, l) (new (fun d hd hv => ?_))⟩, fun z3 => ?_⟩
        · rcases hs2 with ⟨h1, h2, h3⟩ | ⟨b, b1, b2, b3, b4, b5⟩
          · exact absurd hv (h3 d hd)
          · have := (cpk_kc hC b1.1).2.1
            dsimp only at b3
            omega
        · rcases hs2 with ⟨h1, h2, h3⟩ | ⟨b, b1, b2, b3, b4, b5⟩
          · dsimp only at h1; omega
          · dsimp only at b3 b4
            subst b3
            subst b4
            have hkb := cpk_kc hC b1.1
            refine sM_apart hh (by omega) ⟨_, rfl, sM_apart hh (by omega) ⟨_, rfl, fun z4 => ⟨⟨by omega, by omega⟩, hN2 (kc b, rkE B g (g b)) (Or.inr ⟨b, b1, mono b b2, rfl, rfl, fun d hd hv => ?_⟩)⟩, fun z4 => ⟨⟨by omega, by omega⟩, hN2 (j, l) (new (fun d hd hv => ?_))⟩⟩⟩
            · rcases split1 d hd hv with e | e
              · exact b5 d hd e
              · rw [e]
                rw [hkb.1, hc, ← ha] at z4
                have := hback b b1 b2
                unfold btr
                omega
            · rw [hkb.1, hc, ← ha] at z4
              have := b5 d hd hv
              unfold btr at this
              omega
  · have := (rkE_rng hC (lroot c hc)).1
    have := (cpk_kc hC hc.1).2.1
    unfold vis at z
    omega
/-- what the model knows of the knife's way -/
def MKn (m : Mem) (B : Int → Prop) (g : Int → Int) (s : WS) (k : Int) : Prop := m 33 0 27 = s.2.2.1 ∧ (∀ r, LRt B g r → (m 53 0 (rkE B g r) = 0 ∧ ¬ s.2.1 r) ∨ (m 53 0 (rkE B g r) = 1 ∧ s.2.1 r)) ∧ ∀ j, 0 ≤ j → j < k → m 54 0 j = rkE B g (g (s.2.2.2 j)) ∧ m 55 0 j = kc (s.2.2.2 j)
theorem MLp_eq {m m' : Mem} {B : Int → Prop} {g : Int → Int} (h51 : m' 51 = m 51) (h52 : m' 52 = m 52) (h22 : m' 33 0 22 = m 33 0 22) : MLp m' B g ↔ MLp m B g := by
  unfold MLp lk
  rw [h51, h52, h22]
noncomputable def wayA (B : Int → Prop) : WS := wayS B (labEC B) (cP (LRt B (labEC B)) 144).toNat
theorem mf3.q {m m' : Mem} (h : mf3 m m') : mfQ m m' := fun q hq => h.1 q (by omega) (by omega)
set_option maxHeartbeats 1000000 in
theorem sM_layKnife {Q : AV → Mem → Prop} {l : Int} {m : Mem} (hw : MW m) (hl : 0 ≤ l ∧ l ≤ 3) (h : ∀ m', mfQ m m' → SC m' l (BO (OM m l)) → MLp m' (BO (OM m l)) (labEC (BO (OM m l))) → MKn m' (BO (OM m l)) (labEC (BO (OM m l))) (wayA (BO (OM m l))) (cP (LRt (BO (OM m l)) (labEC (BO (OM m l)))) 144) → Q (.inl 0) m') : WP cM_layKnife 0 [.inr (33, 0), .inl l, uu] [] m Q := by
  refine gM_layKnife_0 l m (sM_layLoops hw hl (fun m1 f1 hS1 hM1 => ?_))
  have hC : Cel (BO (OM m l)) := BO_cel hw
  unfold wayA at h
  generalize BO (OM m l) = B at *
  generalize labEC B = g at *
  have hn := LRt_121 (g := g) hC
  have hn0 := (cP_rng (P := LRt B g) 144).1
  have h22 := hM1.2.2.1
  have hg := hM1.1
  have hwok := wayS_ok hC hg
  generalize hN : cP (LRt B g) 144 = N at *
  refine loopU (σ := Mem) (N := N) (G := fun (k : Int) (s : Mem) => WP cM_layKnife 7 [.inr (33, 0), .inl l, .inl k] [] s Q) (I := fun (k : Int) (s : Mem) => (∀ q, q ≠ 53 → s q = m1 q) ∧ ∀ i, 0 ≤ i → i < k → s 53 0 i = 0) ?_ ?_ 0 m1 (Int.le_refl 0) hn0 ⟨fun _ _ => rfl, fun i i0 i1 => by omega⟩
  · rintro s0 ⟨g1, g2⟩
    refine gM_layKnife_7 l _ s0 ⟨fun _ => ?_, fun z => absurd (by rw [g1 33 (by decide), h22]; exact Int.le_refl _) z⟩
    refine loopU (σ := Mem) (N := N) (G := fun (k : Int) (s : Mem) => WP cM_layKnife 35 [.inr (33, 0), .inl l, .inl k] [] s Q) (I := fun (k : Int) (s : Mem) => (∀ q, q ≠ 33 → q < 53 ∨ 55 < q → s q = m1 q) ∧ (∀ j, j ≠ 27 → s 33 0 j = m1 33 0 j) ∧ MKn s B g (wayS B g k.toNat) k) ?_ ?_ 0 _ (Int.le_refl 0) hn0 ⟨fun q q1 q2 => ?_, fun j j1 => ?_, ?_, fun r hr => Or.inl ⟨?_, fun z => z⟩, fun j j0 j1 => by omega⟩
    · rintro s ⟨k1, k2, k3⟩
      refine gM_layKnife_35 l _ s ⟨fun _ => h s (fun q hq => ?_) ?_ ?_ k3, fun z => absurd (by rw [k2 22 (by decide), h22]; exact Int.le_refl _) z⟩
      · rw [k1 q (by omega) (by omega)]; exact f1.1 q (by omega) (by omega)
      · exact (SC_eq (k1 34 (by decide) (by decide)) (k1 50 (by decide) (by decide))).mpr hS1
      · exact (MLp_eq (k1 51 (by decide) (by decide)) (k1 52 (by decide) (by decide)) (k2 22 (by decide))).mpr hM1
    · rintro k s q0 q1 ⟨k1, k2, k3, k4, k5⟩ hNx
      have hok := hwok k.toNat (by omega)
      have ekk : ((k.toNat : Nat) : Int) = k := by omega
      have hokN := wayS_nxt hC hg hok (by rw [hN]; omega)
      obtain ⟨w1, w2, w3, w4, w5, w6, w7⟩ := hok
      have hMs : MLp s B g := (MLp_eq (k1 51 (by decide) (by decide)) (k1 52 (by decide) (by decide)) (k2 22 (by decide))).mpr hM1
      have eS : wayS B g (k + 1).toNat = stepW B g k (wayS B g k.toNat) := by
        rw [show (k + 1).toNat = k.toNat + 1 by omega]
        show stepW B g ((k.toNat : Nat) : Int) _ = _
        rw [ekk]
      rw [ekk] at w2 w4 w5 w6 w7
      generalize hT : wayS B g k.toNat = T at *
      have go : ∀ here, 0 ≤ here ∧ here < 121 → T.1 = cpk here → WP cM_goOn 0 [.inr (33, 0), .inl k, .inl here, uu, uu, uu, uu] [] s (fun _ m1 => (Rng (k + 1) ∧ WP cM_layKnife 35 [.inr (33, 0), .inl l, .inl (k + 1)] [] m1 Q)) := by
        intro here hh ha
        refine sM_goOn hC hMs (by omega) hh ha k4 ?_ (by rw [k3]; omega) (fun c hc => ⟨⟨by omega, by omega⟩, hNx _ ⟨fun q a b => ?_, fun j j1 => ?_, ?_⟩⟩)
        · obtain ⟨c, hc⟩ := hokN
          exact ⟨c, hc.1⟩
        · rw [mset_k a, mset_k (by omega), mset_k (by omega), mset_k (by omega)]; exact k1 q a b
        · rw [mset_i, if_neg j1, mset_k (by decide), mset_k (by decide), mset_k (by decide)]; exact k2 j j1
        · rw [eS]
          unfold stepW
          rw [nxt_eq hc]
          have hroot : LRt B g (g c) := ⟨hg.root hc.1.1, hg.idem hc.1.1⟩
          refine ⟨?_, fun r hr => ?_, fun j j0 j1 => ?_⟩
          · rw [mset_i, if_pos rfl, k3]
          · rw [mset_k (by decide), mset_i]
            by_cases e : r = g c
            · rw [e, if_pos rfl]; exact Or.inr ⟨rfl, Or.inr rfl⟩
            · rw [if_neg (fun z => e ((rkE_eq hC hr hroot).mp z)), mset_k (by decide), mset_k (by decide)]
              rcases k4 r hr with ⟨a, b⟩ | ⟨a, b⟩
              · exact Or.inl ⟨a, fun z => z.elim b e⟩
              · exact Or.inr ⟨a, Or.inl b⟩
          · rw [mset_k (by decide), mset_k (by decide), mset_k (by decide), mset_i, mset_k (by decide), mset_k (by decide), mset_i]
            by_cases e : j = k
            · rw [if_pos e, if_pos e]
              dsimp only
              rw [if_pos e]
              exact ⟨rfl, rfl⟩
            · rw [if_neg e, if_neg e]
              dsimp only
              rw [if_neg e, mset_k (by decide)]
              exact k5 j j0 (by omega)
      refine gM_layKnife_35 l k s ⟨fun z => absurd z (by rw [k2 22 (by decide), h22]; omega), fun _ => ⟨fun z => ⟨⟨by omega, by omega⟩, by omega, ?_⟩, fun z => ?_⟩⟩
      · have hp := k5 (k - 1) (by omega) (by omega)
        have hE := w5 (k - 1) (by omega) (by omega)
        have hkc := cpk_kc hC hE
        rw [hp.2]
        exact go _ hkc.2 (by rw [hkc.1]; exact w7 (by omega))
      · have e0 : k = 0 := Classical.byContradiction z
        exact go 0 (by omega) (by rw [w6 e0]; rfl)
    · rw [mset_k q1]; exact g1 q (by omega)
    · rw [mset_i, if_neg j1, g1 33 (by decide)]
    · rw [mset_i, if_pos rfl]; rfl
    · rw [mset_k (by decide)]
      have := rkE_rng hC hr
      exact g2 _ this.1 (by omega)
  · rintro k s k0 k1 ⟨g1, g2⟩ hNx
    refine gM_layKnife_7 l k s ⟨fun z => absurd z (by rw [g1 33 (by decide), h22]; omega), fun _ => ⟨by omega, ⟨by omega, by omega⟩, hNx _ ⟨fun q hq => (mset_k hq).trans (g1 q hq), fun i i0 i1 => ?_⟩⟩⟩
    rw [mset_i]
    split
    · rfl
    · exact g2 i i0 (by omega)
noncomputable def lpN (B : Int → Prop) : Int := cP (LRt B (labEC B)) 144
noncomputable def ansKnife (m : Mem) (l w : Int) : Int := cif (0 ≤ l ∧ l ≤ 3) (cif (0 ≤ w ∧ w ≤ 2) (if w = 0 then edN (BO (OM m l)) (fun _ => True) 144 else if w = 1 then lpN (BO (OM m l)) else (wayA (BO (OM m l))).2.2.1) (-2)) (-1)
theorem sM_knife {Q : AV → Mem → Prop} {l w : Int} {m : Mem} (hw : MW m) (h : ∀ m', mfQ m m' → Q (.inl (ansKnife m l w)) m') : WP cM_knife 0 [.inr (33, 0), .inl l, .inl w] [] m Q := by
  have h0 := h m (fun _ _ => rfl)
  unfold ansKnife at h h0
  refine gM_knife_0 l w m (sM_isLayer (fun c => ⟨1, rfl, fun _ => ?_, fun z => absurd (by omega) z⟩) (fun c => ⟨0, rfl, fun z => absurd rfl z, fun _ => by rw [cif_neg c] at h0; exact h0⟩))
  rw [cif_pos c] at h h0
  refine sM_in (fun d => ⟨1, rfl, fun _ => ?_, fun z => absurd (by omega) z⟩) (fun d => ⟨0, rfl, fun z => absurd rfl z, fun _ => by rw [cif_neg d] at h0; exact h0⟩)
  rw [cif_pos d] at h
  refine sM_layKnife hw c (fun m1 f1 hS1 hM1 hK1 => ?_)
  have h := h m1 f1
  have e34 : m1 34 = m 34 := f1 34 (by omega)
  refine ⟨fun z => ⟨fun z1 => ?_, fun z1 => ?_⟩, fun z => ?_⟩
  · rw [if_neg z, if_neg z1] at h
    rw [hK1.1]; exact h
  · rw [if_neg z, if_pos (Classical.byContradiction z1)] at h
    rw [hM1.2.2.1]; exact h
  · rw [if_pos (Classical.byContradiction z)] at h
    exact sM_edges (P := fun _ => True) (by rw [MW_eq e34]; exact hw) c hS1 (by omega) (fun x y hxy => ⟨fun _ => trivial, fun z => by omega⟩) ⟨_, rfl, h⟩
noncomputable def ansLoop (m : Mem) (l k w : Int) : Int := cif (0 ≤ l ∧ l ≤ 3) (cif (0 ≤ w ∧ w ≤ 3) (cif (0 ≤ k ∧ k < lpN (BO (OM m l))) (if w = 0 then rkE (BO (OM m l)) (labEC (BO (OM m l))) (labEC (BO (OM m l)) ((wayA (BO (OM m l))).2.2.2 k)) else if w = 1 then edN (BO (OM m l)) (fun c => labEC (BO (OM m l)) c = labEC (BO (OM m l)) ((wayA (BO (OM m l))).2.2.2 k)) 144 else if w = 2 then (wayA (BO (OM m l))).2.2.2 k % 12 - 1 else (wayA (BO (OM m l))).2.2.2 k / 12 - 1) (-6)) (-2)) (-1)
theorem sM_loop {Q : AV → Mem → Prop} {l k w : Int} {m : Mem} (hw : MW m) (h : ∀ m', mfQ m m' → Q (.inl (ansLoop m l k w)) m') : WP cM_loop 0 [.inr (33, 0), .inl l, .inl k, .inl w] [] m Q := by
  have h0 := h m (fun _ _ => rfl)
  unfold ansLoop at h h0
  refine gM_loop_0 l k w m (sM_isLayer (fun c => ⟨1, rfl, fun _ => ?_, fun z => absurd (by omega) z⟩) (fun c => ⟨0, rfl, fun z => absurd rfl z, fun _ => by rw [cif_neg c] at h0; exact h0⟩))
  rw [cif_pos c] at h h0
  refine sM_in (fun d => ⟨1, rfl, fun _ => ?_, fun z => absurd (by omega) z⟩) (fun d => ⟨0, rfl, fun z => absurd rfl z, fun _ => by rw [cif_neg d] at h0; exact h0⟩)
  rw [cif_pos d] at h
  refine sM_layKnife hw c (fun m1 f1 hS1 hM1 hK1 => ?_)
  have h := h m1 f1
  have e34 : m1 34 = m 34 := f1 34 (by omega)
  have hC : Cel (BO (OM m l)) := BO_cel hw
  have hwok := wayS_ok hC hM1.1
  unfold lpN at h
  unfold wayA at h hK1
  generalize BO (OM m l) = B at *
  generalize labEC B = g at *
  have hn := LRt_121 (g := g) hC
  have hn0 := (cP_rng (P := LRt B g) 144).1
  have h22 := hM1.2.2.1
  generalize hN : cP (LRt B g) 144 = N at *
  refine ⟨⟨by omega, by omega⟩, sM_in (fun e => ⟨1, rfl, fun _ => ?_, fun z => absurd (by omega) z⟩) (fun e => ⟨0, rfl, fun z => absurd rfl z, fun _ => by rw [cif_neg (by omega)] at h; exact h⟩)⟩
  rw [cif_pos (by omega)] at h
  obtain ⟨-, -, -, -, w5, -, -⟩ := hwok N.toNat (by omega)
  have hE := w5 k (by omega) (by omega)
  have hkc := cpk_kc hC hE
  obtain ⟨u1, u2⟩ := hK1.2.2 k (by omega) (by omega)
  generalize hcc : (wayS B g N.toNat).2.2.2 k = cc at *
  have hroot : LRt B g (g cc) := ⟨hM1.1.root hE, hM1.1.idem hE⟩
  have hrk := rkE_rng hC hroot
  have hgeo := hasE_geo hC hE
  rw [u1, u2]
  refine ⟨fun z => ⟨fun z1 => ⟨fun z2 => ⟨by omega, by omega, ?_⟩, fun z2 => ⟨by omega, by omega, ?_⟩⟩, fun z1 => ⟨by omega, ?_⟩⟩, fun z => ⟨by omega, ?_⟩⟩
  · rw [if_neg z, if_neg z1, if_neg z2] at h
    rw [show kc cc / 11 = cc / 12 - 1 by unfold kc; omega]
    exact h
  · rw [if_neg z, if_neg z1, if_pos (Classical.byContradiction z2)] at h
    rw [show kc cc % 11 = cc % 12 - 1 by unfold kc; omega]
    exact h
  · rw [if_neg z, if_pos (Classical.byContradiction z1)] at h
    have hgr := hasE_geo hC hroot.1
    have h52 := hM1.2.2.2 (g cc) (by omega) (by omega) hroot
    refine sM_edges (P := fun c => g c = g cc) (by rw [MW_eq e34]; exact hw) c hS1 (by omega) (fun x y hxy => ⟨fun z => by omega, fun _ => ?_⟩) ⟨_, rfl, h⟩
    rw [cor_eq e34] at hxy
    unfold cor at hxy
    obtain ⟨w1, w2, w3, w4⟩ := hw
    have := lk_iff hC hM1 (x := x) (y := y) (by omega) (by omega) hroot
    unfold rkE
    rw [h52, this]
    refine ⟨fun z => z.2, fun z => ⟨Classical.byContradiction (fun w => ?_), z⟩⟩
    have := hM1.1.1 _ w
    omega
  · rw [if_pos (Classical.byContradiction z)] at h
    exact h
