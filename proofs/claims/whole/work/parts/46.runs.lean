/-! Runs of a layer, by places; ranks. -/
theorem cP_lt {P : Int → Prop} {a b : Nat} (h : a < b) (ha : P (a : Int)) : cP P a < cP P b := by
  have h1 := cP_le (P := P) (b - (a + 1)) (a + 1)
  rw [show a + 1 + (b - (a + 1)) = b by omega, cP_yes ha] at h1
  omega
theorem cP_inj {P : Int → Prop} {a b : Nat} (ha : P (a : Int)) (hb : P (b : Int)) (h : cP P a = cP P b) : a = b := by
  rcases Nat.lt_trichotomy a b with c | c | c
  · have := cP_lt c ha; omega
  · exact c
  · have := cP_lt c hb; omega
theorem cP_mono {P : Int → Prop} {a b : Nat} (h : a ≤ b) : cP P a ≤ cP P b := by
  have := cP_le (P := P) (b - a) a
  rwa [show a + (b - a) = b by omega] at this
theorem cP_or {P P1 P2 : Int → Prop} (h : ∀ p, P p → P1 p ∨ P2 p) : ∀ n : Nat, cP P n ≤ cP P1 n + cP P2 n
  | 0 => by simp [cP, sumN]
  | n + 1 => by
    have ih := cP_or h n
    have m1 := cP_mono (P := P1) (show n ≤ n + 1 by omega)
    have m2 := cP_mono (P := P2) (show n ≤ n + 1 by omega)
    by_cases c : P (n : Int)
    · rw [cP_yes c]
      rcases h _ c with d | d
      · rw [cP_yes d]; omega
      · rw [cP_yes d]; omega
    · rw [cP_no c]; omega
theorem cP_one {P : Int → Prop} : ∀ n : Nat, (∀ a b : Int, 0 ≤ a → a < (n : Int) → 0 ≤ b → b < (n : Int) → P a → P b → a = b) → cP P n ≤ 1
  | 0, _ => by simp [cP, sumN]
  | n + 1, h => by
    by_cases c : P (n : Int)
    · have e : cP P (0 + n) = cP P 0 := cP_skip n 0 (fun p p0 p1 z => by
        have := h p n (by omega) (by omega) (by omega) (by omega) z c
        omega)
      rw [Nat.zero_add] at e
      rw [cP_yes c, e]
      simp [cP, sumN]
    · rw [cP_no c]
      exact cP_one n (fun a b a0 a1 b0 b1 => h a b a0 (by omega) b0 (by omega))
/-- no more than the slots into which they go apart -/
theorem cP_slots {g : Int → Int} {n : Nat} : ∀ (N : Nat) (P : Int → Prop), (∀ a, 0 ≤ a → a < (n : Int) → P a → 0 ≤ g a ∧ g a < (N : Int)) → (∀ a b, 0 ≤ a → a < (n : Int) → 0 ≤ b → b < (n : Int) → P a → P b → g a = g b → a = b) → cP P n ≤ (N : Int)
  | 0, P, h1, _ => by
    have e : cP P (0 + n) = cP P 0 := cP_skip n 0 (fun p p0 p1 z => by
      have := h1 p (by omega) (by omega) z
      omega)
    rw [Nat.zero_add] at e
    rw [e]
    simp [cP, sumN]
  | N + 1, P, h1, h2 => by
    have a1 := cP_or (P := P) (P1 := fun p => P p ∧ g p ≠ (N : Int)) (P2 := fun p => P p ∧ g p = (N : Int)) (fun p hp => by
      by_cases c : g p = (N : Int)
      · exact Or.inr ⟨hp, c⟩
      · exact Or.inl ⟨hp, c⟩) n
    have a2 := cP_slots N (fun p => P p ∧ g p ≠ (N : Int)) (fun a a0 a1 ha => by
      have := h1 a a0 a1 ha.1
      have := ha.2
      omega) (fun a b a0 a1 b0 b1 ha hb => h2 a b a0 a1 b0 b1 ha.1 hb.1)
    have a3 := cP_one (P := fun p => P p ∧ g p = (N : Int)) n (fun a b a0 a1 b0 b1 ha hb => h2 a b a0 a1 b0 b1 ha.1 hb.1 (ha.2.trans hb.2.symm))
    omega
def stp (d : Int) : Int := if d = 0 then 1 else 12
/-- an opening's stretch: it begins at p, and has n places -/
def Str (O : Int → Prop) (p d n : Int) : Prop := 1 ≤ n ∧ ¬ O (p - stp d) ∧ (∀ i, 0 ≤ i → i < n → O (p + i * stp d)) ∧ ¬ O (p + n * stp d)
theorem Str.len {O : Int → Prop} {p d n n' : Int} (h : Str O p d n) (h' : Str O p d n') : n = n' := by
  obtain ⟨a1, a2, a3, a4⟩ := h
  obtain ⟨b1, b2, b3, b4⟩ := h'
  rcases Int.lt_trichotomy n n' with c | c | c
  · exact absurd (b3 n (by omega) c) a4
  · exact c
  · exact absurd (a3 n' (by omega) c) b4
theorem Str.at0 {O : Int → Prop} {p d n : Int} (h : Str O p d n) : O p := by
  have := h.2.2.1 0 (Int.le_refl 0) (by have := h.1; omega)
  rwa [Int.zero_mul, Int.add_zero] at this
def isRun (O : Int → Prop) (f : Int → Int) (p d n : Int) : Prop := Str O p d n ∧ f (p - stp d) ≠ f (p + n * stp d)
/-- runs as numbers, in their order -/
def RK (O : Int → Prop) (f : Int → Int) (k : Int) : Prop := isRun O f (k % 144) (k / 144 % 2) (k / 288)
def keyR (p d n : Int) : Int := (n * 2 + d) * 144 + p
theorem keyR_p {p d n : Int} (hp : 0 ≤ p ∧ p < 144) (hd : 0 ≤ d ∧ d ≤ 1) : keyR p d n % 144 = p ∧ keyR p d n / 144 % 2 = d ∧ keyR p d n / 288 = n := by
  unfold keyR
  omega
/-- a set of cells: they lie within ten by ten -/
def Cel (O : Int → Prop) : Prop := ∀ p, O p → 1 ≤ p % 12 ∧ p % 12 ≤ 10 ∧ 1 ≤ p / 12 ∧ p / 12 ≤ 10
theorem OM_cel {m : Mem} {l : Int} (hw : MW m) : Cel (OM m l) := by
  intro p hp
  obtain ⟨w1, w2, w3, w4⟩ := hw
  have := hp.1
  unfold inS at this
  omega
theorem RK_few {O : Int → Prop} {f : Int → Int} (hO : Cel O) (n : Nat) : cP (RK O f) n ≤ 100 := by
  refine cP_slots (g := fun k => if k / 144 % 2 = 0 then 5 * (k % 144 / 12 - 1) + (k % 144 % 12 - 1) / 2 else 50 + 5 * (k % 144 % 12 - 1) + (k % 144 / 12 - 1) / 2) 100 (RK O f) (fun a a0 a1 ha => ?_) (fun a b a0 a1 b0 b1 ha hb e => ?_)
  · have := hO _ ha.1.at0
    split <;> omega
  · have ca := hO _ ha.1.at0
    have cb := hO _ hb.1.at0
    have ha' := ha.1
    have hb' := hb.1
    by_cases da : a / 144 % 2 = 0
    · have db : b / 144 % 2 = 0 := by
        refine Classical.byContradiction (fun z => ?_)
        rw [if_pos da, if_neg z] at e
        omega
      rw [if_pos da, if_pos db] at e
      rw [da] at ha'
      rw [db] at hb'
      have hpp : a % 144 = b % 144 := by
        have h1 : ¬ (a % 144 = b % 144 - 1) := fun z => by
          refine hb'.2.1 ?_
          show O (b % 144 - 1)
          rw [← z]
          exact ha'.at0
        have h2 : ¬ (b % 144 = a % 144 - 1) := fun z => by
          refine ha'.2.1 ?_
          show O (a % 144 - 1)
          rw [← z]
          exact hb'.at0
        omega
      rw [hpp] at ha'
      have := ha'.len hb'
      omega
    · have db : ¬ b / 144 % 2 = 0 := by
        intro z
        rw [if_neg da, if_pos z] at e
        omega
      rw [if_neg da, if_neg db] at e
      have da1 : a / 144 % 2 = 1 := by omega
      have db1 : b / 144 % 2 = 1 := by omega
      rw [da1] at ha'
      rw [db1] at hb'
      have hpp : a % 144 = b % 144 := by
        have h1 : ¬ (a % 144 = b % 144 - 12) := fun z => by
          refine hb'.2.1 ?_
          show O (b % 144 - 12)
          rw [← z]
          exact ha'.at0
        have h2 : ¬ (b % 144 = a % 144 - 12) := fun z => by
          refine ha'.2.1 ?_
          show O (a % 144 - 12)
          rw [← z]
          exact hb'.at0
        clear ha hb ha' hb' da db da1 db1
        generalize a % 144 = pa at *
        generalize b % 144 = pb at *
        have u1 : 0 ≤ (pa / 12 - 1) / 2 ∧ (pa / 12 - 1) / 2 ≤ 4 := by omega
        have u2 : 0 ≤ (pb / 12 - 1) / 2 ∧ (pb / 12 - 1) / 2 ≤ 4 := by omega
        have e1 : pa % 12 = pb % 12 ∧ (pa / 12 - 1) / 2 = (pb / 12 - 1) / 2 := by
          clear h1 h2
          generalize (pa / 12 - 1) / 2 = ua at *
          generalize (pb / 12 - 1) / 2 = ub at *
          generalize pa % 12 = xa at *
          generalize pb % 12 = xb at *
          omega
        omega
      rw [hpp] at ha'
      have := ha'.len hb'
      omega
theorem fr_f {m : Mem} {l p : Int} {f : Int → Int} (hw : MW m) (hL : LabOK (OM m l) f) (h0 : 0 ≤ p) (h1 : p < 144) (hf : frS m p) : f p = 0 := by
  have e := (hL.const ⟨by omega, by omega⟩ (fr_con (l := l) hw h0 h1 hf)).2.2
  have := (hL 0 (by omega) (by omega)).1
  omega
/-- the number of a closed place's piece: 0 the frame's, else the island's and 1 -/
noncomputable def PN (O : Int → Prop) (f : Int → Int) (q : Int) : Int := if f q = 0 then 0 else cP (IR O f) (f q).toNat + 1
theorem PN_inj {O : Int → Prop} {f : Int → Int} (hL : LabOK O f) {a b : Int} (ha : 0 ≤ a ∧ a < 144) (hb : 0 ≤ b ∧ b < 144) (ca : ¬ O a) (cb : ¬ O b) : PN O f a = PN O f b ↔ f a = f b := by
  constructor
  · intro h
    unfold PN at h
    have ra := cP_rng (P := IR O f) (f a).toNat
    have rb := cP_rng (P := IR O f) (f b).toNat
    have la := (hL a ha.1 ha.2).1
    have lb := (hL b hb.1 hb.2).1
    by_cases z1 : f a = 0
    · by_cases z2 : f b = 0
      · omega
      · rw [if_pos z1, if_neg z2] at h
        omega
    · by_cases z2 : f b = 0
      · rw [if_neg z1, if_pos z2] at h
        omega
      · rw [if_neg z1, if_neg z2] at h
        have e : (f a).toNat = (f b).toNat := by
          refine cP_inj (P := IR O f) ?_ ?_ (by omega)
          · rw [show (((f a).toNat : Nat) : Int) = f a by omega]
            exact ⟨fun z => ca ((hL.alike ha.1 ha.2).mp z), hL.idem ha.1 ha.2, z1⟩
          · rw [show (((f b).toNat : Nat) : Int) = f b by omega]
            exact ⟨fun z => cb ((hL.alike hb.1 hb.2).mp z), hL.idem hb.1 hb.2, z2⟩
        omega
  · intro h
    unfold PN
    rw [h]
theorem PN_rng {O : Int → Prop} {f : Int → Int} (hL : LabOK O f) {a : Int} (ha : 0 ≤ a ∧ a < 144) (ca : ¬ O a) : 0 ≤ PN O f a ∧ PN O f a ≤ cP (IR O f) 144 := by
  have ra := cP_rng (P := IR O f) (f a).toNat
  have rn := cP_rng (P := IR O f) 144
  have la := (hL a ha.1 ha.2).1
  unfold PN
  by_cases z1 : f a = 0
  · rw [if_pos z1]; omega
  · rw [if_neg z1]
    have := cP_lt (P := IR O f) (a := (f a).toNat) (b := 144) (by omega) (by
      rw [show (((f a).toNat : Nat) : Int) = f a by omega]
      exact ⟨fun z => ca ((hL.alike ha.1 ha.2).mp z), hL.idem ha.1 ha.2, z1⟩)
    omega
theorem IR_few {O : Int → Prop} {f : Int → Int} (hc : ∀ p, 0 ≤ p → p < 144 → IR O f p → 1 ≤ p % 12 ∧ p % 12 ≤ 10 ∧ 1 ≤ p / 12 ∧ p / 12 ≤ 10) : cP (IR O f) 144 ≤ 100 := by
  refine cP_slots (g := fun k => 10 * (k / 12 - 1) + (k % 12 - 1)) 100 (IR O f) (fun a a0 a1 ha => ?_) (fun a b a0 a1 b0 b1 ha hb e => ?_)
  · have := hc a a0 (by omega) ha
    omega
  · have := hc a a0 (by omega) ha
    have := hc b b0 (by omega) hb
    omega
theorem IR_cell {m : Mem} {l : Int} {f : Int → Int} (hw : MW m) (hL : LabOK (OM m l) f) : ∀ p, 0 ≤ p → p < 144 → IR (OM m l) f p → 1 ≤ p % 12 ∧ p % 12 ≤ 10 ∧ 1 ≤ p / 12 ∧ p / 12 ≤ 10 := by
  intro p p0 p1 hp
  have hin : inS m (p % 12 - 1) (p / 12 - 1) := by
    refine Classical.byContradiction (fun z => ?_)
    have := fr_f hw hL p0 p1 z
    have := hp.2.1
    have := hp.2.2
    omega
  obtain ⟨w1, w2, w3, w4⟩ := hw
  unfold inS at hin
  omega
