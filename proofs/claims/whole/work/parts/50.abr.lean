/-! Bridges, by keys of runs in their order: which labels are tied, which places are taken. -/
abbrev BS : Type := (Int → Int → Prop) × (Int → Int) × Int × (Int → Int)
/-- places of a run and beside are free -/
def Clr (B : Int → Int) (p d n : Int) : Prop := ∀ i, 0 ≤ i → i < n → B (p + i * stp d) < 0 ∧ B (p + i * stp d - 1) < 0 ∧ B (p + i * stp d + 1) < 0 ∧ B (p + i * stp d - 12) < 0 ∧ B (p + i * stp d + 12) < 0
def tieR (R : Int → Int → Prop) (u v : Int) (a b : Int) : Prop := R a b ∨ (R a u ∧ R b v) ∨ (R a v ∧ R b u)
def eB (f : Int → Int) (k : Int) : Int := f (k % 144 - stp (k / 144 % 2))
def eA (f : Int → Int) (k : Int) : Int := f (k % 144 + k / 288 * stp (k / 144 % 2))
def Sel (O : Int → Prop) (f : Int → Int) (s : BS) (k : Int) : Prop := RK O f k ∧ ¬ s.1 (eB f k) (eA f k) ∧ Clr s.2.1 (k % 144) (k / 144 % 2) (k / 288)
def onR (k q : Int) : Prop := ∃ i, 0 ≤ i ∧ i < k / 288 ∧ q = k % 144 + i * stp (k / 144 % 2)
noncomputable def putB (k : Int) (f : Int → Int) (s : BS) : BS := (tieR s.1 (eB f k) (eA f k), fun q => @ite _ (onR k q) (Classical.propDecidable _) s.2.2.1 (s.2.1 q), s.2.2.1 + 1, fun b => if b = s.2.2.1 then k else s.2.2.2 b)
noncomputable def brS (O : Int → Prop) (f : Int → Int) : Nat → BS
  | 0 => (fun a b => a = b, fun _ => -6, 0, fun _ => 0)
  | T + 1 => @ite _ (Sel O f (brS O f T) (T : Int)) (Classical.propDecidable _) (putB (T : Int) f (brS O f T)) (brS O f T)
theorem brS_yes {O : Int → Prop} {f : Int → Int} {T : Nat} (h : Sel O f (brS O f T) (T : Int)) : brS O f (T + 1) = putB (T : Int) f (brS O f T) := @if_pos _ (Classical.propDecidable _) h _ _ _
theorem brS_no {O : Int → Prop} {f : Int → Int} {T : Nat} (h : ¬ Sel O f (brS O f T) (T : Int)) : brS O f (T + 1) = brS O f T := @if_neg _ (Classical.propDecidable _) h _ _ _
theorem brS_skip {O : Int → Prop} {f : Int → Int} : ∀ (k a : Nat), (∀ p : Int, (a : Int) ≤ p → p < ((a + k : Nat) : Int) → ¬ RK O f p) → brS O f (a + k) = brS O f a
  | 0, a, _ => rfl
  | k + 1, a, h => by
    rw [show a + (k + 1) = a + k + 1 by omega, brS_no (fun z => h _ (by omega) (by omega) z.1)]
    exact brS_skip k a (fun p h0 h1 => h p h0 (by omega))
/-- the same without the condition on places: the lower bound -/
noncomputable def lbS (O : Int → Prop) (f : Int → Int) : Nat → (Int → Int → Prop) × Int
  | 0 => (fun a b => a = b, 0)
  | T + 1 => @ite _ (RK O f (T : Int) ∧ ¬ (lbS O f T).1 (eB f (T : Int)) (eA f (T : Int))) (Classical.propDecidable _) (tieR (lbS O f T).1 (eB f (T : Int)) (eA f (T : Int)), (lbS O f T).2 + (T : Int) / 288) (lbS O f T)
theorem lbS_yes {O : Int → Prop} {f : Int → Int} {T : Nat} (h : RK O f (T : Int) ∧ ¬ (lbS O f T).1 (eB f (T : Int)) (eA f (T : Int))) : lbS O f (T + 1) = (tieR (lbS O f T).1 (eB f (T : Int)) (eA f (T : Int)), (lbS O f T).2 + (T : Int) / 288) := @if_pos _ (Classical.propDecidable _) h _ _ _
theorem lbS_no {O : Int → Prop} {f : Int → Int} {T : Nat} (h : ¬ (RK O f (T : Int) ∧ ¬ (lbS O f T).1 (eB f (T : Int)) (eA f (T : Int)))) : lbS O f (T + 1) = lbS O f T := @if_neg _ (Classical.propDecidable _) h _ _ _
theorem lbS_skip {O : Int → Prop} {f : Int → Int} : ∀ (k a : Nat), (∀ p : Int, (a : Int) ≤ p → p < ((a + k : Nat) : Int) → ¬ RK O f p) → lbS O f (a + k) = lbS O f a
  | 0, a, _ => rfl
  | k + 1, a, h => by
    rw [show a + (k + 1) = a + k + 1 by omega, lbS_no (fun z => h _ (by omega) (by omega) z.1)]
    exact lbS_skip k a (fun p h0 h1 => h p h0 (by omega))
/-- the key of a rank -/
theorem cP_hit {P : Int → Prop} {r : Int} : ∀ n : Nat, 0 ≤ r → r < cP P n → ∃ k : Nat, k < n ∧ P (k : Int) ∧ cP P k = r
  | 0, h0, h => by simp [cP, sumN] at h; omega
  | n + 1, h0, h => by
    by_cases c : P (n : Int)
    · rw [cP_yes c] at h
      by_cases d : r < cP P n
      · obtain ⟨k, k1, k2, k3⟩ := cP_hit n h0 d
        exact ⟨k, by omega, k2, k3⟩
      · exact ⟨n, by omega, c, by omega⟩
    · rw [cP_no c] at h
      obtain ⟨k, k1, k2, k3⟩ := cP_hit n h0 h
      exact ⟨k, by omega, k2, k3⟩
/-- from one rank to the next key: nothing in between -/
theorem cP_next {P : Int → Prop} {T k : Nat} (h : cP P T = cP P k) (hk : P (k : Int)) : T ≤ k ∧ ∀ p : Int, (T : Int) ≤ p → p < (k : Int) → ¬ P p := by
  have hT : T ≤ k := by
    rcases Nat.lt_or_ge k T with c | c
    · have := cP_lt c hk; omega
    · exact c
  refine ⟨hT, fun p p0 p1 hp => ?_⟩
  have h1 := cP_lt (P := P) (a := p.toNat) (b := k) (by omega) (by rw [show ((p.toNat : Nat) : Int) = p by omega]; exact hp)
  have h2 := cP_mono (P := P) (show T ≤ p.toNat by omega)
  omega
/-- labels by numbers: a row of numbers ties like a relation on labels -/
def TieOK (O : Int → Prop) (f : Int → Int) (t : Int → Int) (R : Int → Int → Prop) : Prop := ∀ a b, 0 ≤ a → a < 144 → 0 ≤ b → b < 144 → ¬ O a → ¬ O b → (t (PN O f a) = t (PN O f b) ↔ R (f a) (f b))
theorem TieOK.init {O : Int → Prop} {f : Int → Int} (hL : LabOK O f) {t : Int → Int} (ht : ∀ a, 0 ≤ a → a ≤ cP (IR O f) 144 → t a = a) : TieOK O f t (fun a b => a = b) := by
  intro a b a0 a1 b0 b1 ca cb
  have ra := PN_rng hL ⟨a0, a1⟩ ca
  have rb := PN_rng hL ⟨b0, b1⟩ cb
  rw [ht _ ra.1 ra.2, ht _ rb.1 rb.2]
  exact PN_inj hL ⟨a0, a1⟩ ⟨b0, b1⟩ ca cb
theorem TieOK.tie {O : Int → Prop} {f : Int → Int} (hL : LabOK O f) {t t' : Int → Int} {R : Int → Int → Prop} (h : TieOK O f t R) {u v : Int} (hu : 0 ≤ u ∧ u < 144) (hv : 0 ≤ v ∧ v < 144) (cu : ¬ O u) (cv : ¬ O v) (hne : t (PN O f u) ≠ t (PN O f v)) (ht : ∀ a, 0 ≤ a → a ≤ cP (IR O f) 144 → t' a = if t a = t (PN O f u) then t (PN O f v) else t a) : TieOK O f t' (tieR R (f u) (f v)) := by
  intro a b a0 a1 b0 b1 ca cb
  have ra := PN_rng hL ⟨a0, a1⟩ ca
  have rb := PN_rng hL ⟨b0, b1⟩ cb
  rw [ht _ ra.1 ra.2, ht _ rb.1 rb.2]
  have hab := h a b a0 a1 b0 b1 ca cb
  have hau := h a u a0 a1 hu.1 hu.2 ca cu
  have hav := h a v a0 a1 hv.1 hv.2 ca cv
  have hbu := h b u b0 b1 hu.1 hu.2 cb cu
  have hbv := h b v b0 b1 hv.1 hv.2 cb cv
  unfold tieR
  rw [← hab, ← hau, ← hav, ← hbu, ← hbv]
  by_cases c1 : t (PN O f a) = t (PN O f u)
  · by_cases c2 : t (PN O f b) = t (PN O f u)
    · rw [if_pos c1, if_pos c2]
      exact ⟨fun _ => Or.inl (c1.trans c2.symm), fun _ => rfl⟩
    · rw [if_pos c1, if_neg c2]
      constructor
      · intro e
        exact Or.inr (Or.inl ⟨c1, e.symm⟩)
      · rintro (e | e | e)
        · exact absurd (e.symm.trans c1) c2
        · exact e.2.symm
        · exact absurd e.2 c2
  · by_cases c2 : t (PN O f b) = t (PN O f u)
    · rw [if_neg c1, if_pos c2]
      constructor
      · intro e
        exact Or.inr (Or.inr ⟨e, c2⟩)
      · rintro (e | e | e)
        · exact absurd (e.trans c2) c1
        · exact absurd e.1 c1
        · exact e.1
    · rw [if_neg c1, if_neg c2]
      constructor
      · exact Or.inl
      · rintro (e | e | e)
        · exact e
        · exact absurd e.1 c1
        · exact absurd e.2 c2
