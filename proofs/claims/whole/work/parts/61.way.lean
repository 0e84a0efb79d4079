/-! The knife's way, by corners as places. -/
def dst (a b : Int) : Int := zAbs (a % 12 - b % 12) + zAbs (a / 12 - b / 12)
def liv (B : Int → Prop) (g : Int → Int) (D : Int → Prop) (c : Int) : Prop := hasE B c ∧ ¬ D (g c)
def btr (g : Int → Int) (a c c' : Int) : Prop := dst a c < dst a c' ∨ (dst a c = dst a c' ∧ (g c < g c' ∨ (g c = g c' ∧ c ≤ c')))
def Nxt (B : Int → Prop) (g : Int → Int) (a : Int) (D : Int → Prop) (c : Int) : Prop := liv B g D c ∧ ∀ c', liv B g D c' → btr g a c c'
theorem Nxt.uniq {B : Int → Prop} {g : Int → Int} {a : Int} {D : Int → Prop} {c c' : Int} (h : Nxt B g a D c) (h' : Nxt B g a D c') : c = c' := by
  have h1 := h.2 c' h'.1
  have h2 := h'.2 c h.1
  unfold btr at h1 h2
  omega
noncomputable def nxt (B : Int → Prop) (g : Int → Int) (a : Int) (D : Int → Prop) : Int := @dite _ (∃ c, Nxt B g a D c) (Classical.propDecidable _) (fun h => Classical.choose h) (fun _ => -6)
theorem nxt_eq {B : Int → Prop} {g : Int → Int} {a : Int} {D : Int → Prop} {c : Int} (h : Nxt B g a D c) : nxt B g a D = c := by
  unfold nxt
  rw [dif_pos ⟨c, h⟩]
  exact (Classical.choose_spec (⟨c, h⟩ : ∃ c, Nxt B g a D c)).uniq h
theorem Nxt.some {B : Int → Prop} {g : Int → Int} {a : Int} {D : Int → Prop} (hC : Cel B) (h : ∃ c, liv B g D c) : ∃ c, Nxt B g a D c := by
  have key : ∀ n : Nat, (∀ c, 0 ≤ c → c < (n : Int) → ¬ liv B g D c) ∨ ∃ b, liv B g D b ∧ ∀ c, 0 ≤ c → c < (n : Int) → liv B g D c → btr g a b c := by
    intro n
    induction n with
    | zero => exact Or.inl (fun c c0 c1 => by omega)
    | succ n ih =>
      by_cases hl : liv B g D (n : Int)
      · rcases ih with ih | ⟨b, hb, ih⟩
        · refine Or.inr ⟨n, hl, fun c c0 c1 hc => ?_⟩
          have : c = (n : Int) := Classical.byContradiction (fun z => ih c c0 (by omega) hc)
          rw [this]
          unfold btr
          omega
        · by_cases hlt : btr g a b (n : Int)
          · refine Or.inr ⟨b, hb, fun c c0 c1 hc => ?_⟩
            by_cases e : c = (n : Int)
            · rw [e]; exact hlt
            · exact ih c c0 (by omega) hc
          · refine Or.inr ⟨n, hl, fun c c0 c1 hc => ?_⟩
            by_cases e : c = (n : Int)
            · rw [e]; unfold btr; omega
            · have := ih c c0 (by omega) hc
              unfold btr at *
              omega
      · rcases ih with ih | ⟨b, hb, ih⟩
        · refine Or.inl (fun c c0 c1 hc => ?_)
          by_cases e : c = (n : Int)
          · rw [e] at hc; exact hl hc
          · exact ih c c0 (by omega) hc
        · refine Or.inr ⟨b, hb, fun c c0 c1 hc => ?_⟩
          by_cases e : c = (n : Int)
          · rw [e] at hc; exact absurd hc hl
          · exact ih c c0 (by omega) hc
  have rng : ∀ c, liv B g D c → 0 ≤ c ∧ c < 144 := fun c hc => by have := hasE_geo hC hc.1; omega
  rcases key 144 with k | ⟨b, hb, k⟩
  · obtain ⟨c, hc⟩ := h
    have := rng c hc
    exact absurd hc (k c this.1 (by omega))
  · exact ⟨b, hb, fun c hc => k c (rng c hc).1 (by have := rng c hc; omega) hc⟩
abbrev WS : Type := Int × (Int → Prop) × Int × (Int → Int)
noncomputable def stepW (B : Int → Prop) (g : Int → Int) (k : Int) (s : WS) : WS := (nxt B g s.1 s.2.1, fun r => s.2.1 r ∨ r = g (nxt B g s.1 s.2.1), s.2.2.1 + dst s.1 (nxt B g s.1 s.2.1), fun j => if j = k then nxt B g s.1 s.2.1 else s.2.2.2 j)
noncomputable def wayS (B : Int → Prop) (g : Int → Int) : Nat → WS
  | 0 => (13, fun _ => False, 0, fun _ => 0)
  | k + 1 => stepW B g (k : Int) (wayS B g k)
theorem cP_sub {P P' : Int → Prop} : ∀ n : Nat, cP P n < cP P' n → ∃ p, 0 ≤ p ∧ p < (n : Int) ∧ P' p ∧ ¬ P p
  | 0, h => by simp [cP, sumN] at h
  | n + 1, h => by
    by_cases c : P' (n : Int)
    · by_cases d : P (n : Int)
      · rw [cP_yes c, cP_yes d] at h
        obtain ⟨p, p0, p1, p2⟩ := cP_sub (P := P) (P' := P') n (by omega)
        exact ⟨p, p0, by omega, p2⟩
      · exact ⟨n, by omega, by omega, c, d⟩
    · rw [cP_no c] at h
      have := cP_mono (P := P) (show n ≤ n + 1 by omega)
      obtain ⟨p, p0, p1, p2⟩ := cP_sub (P := P) (P' := P') n (by omega)
      exact ⟨p, p0, by omega, p2⟩
theorem cP_add1 {P : Int → Prop} {r : Int} : ∀ n : Nat, 0 ≤ r → ¬ P r → cP (fun p => P p ∨ p = r) n = cP P n + (if r < (n : Int) then 1 else 0)
  | 0, h0, hr => by
    rw [if_neg (by omega)]
    simp [cP, sumN]
  | n + 1, h0, hr => by
    have ih := cP_add1 n h0 hr
    by_cases e : r = (n : Int)
    · subst e
      rw [cP_yes (P := fun p => P p ∨ p = (n : Int)) (Or.inr rfl), cP_no hr, ih, if_neg (by omega), if_pos (by omega)]
      omega
    · by_cases c : P (n : Int)
      · rw [cP_yes (P := fun p => P p ∨ p = r) (Or.inl c), cP_yes c, ih]
        split <;> split <;> omega
      · rw [cP_no (P := fun p => P p ∨ p = r) (fun z => z.elim c (fun z => e z.symm)), cP_no c, ih]
        split <;> split <;> omega
theorem zAbs_rng {x : Int} : 0 ≤ zAbs x ∧ (-20 ≤ x → x ≤ 20 → zAbs x ≤ 20) := by
  unfold zAbs
  split <;> omega
theorem dst_rng {a b : Int} (ha : 0 ≤ a ∧ a < 144) (hb : 0 ≤ b ∧ b < 144) : 0 ≤ dst a b ∧ dst a b ≤ 40 := by
  have h1 := zAbs_rng (x := a % 12 - b % 12)
  have h2 := zAbs_rng (x := a / 12 - b / 12)
  have := h1.2 (by omega) (by omega)
  have := h2.2 (by omega) (by omega)
  unfold dst
  omega
/-- what is true of all stages of the way -/
def WOk (B : Int → Prop) (g : Int → Int) (k : Nat) (s : WS) : Prop := (∀ r, s.2.1 r → LRt B g r) ∧ cP s.2.1 144 = (k : Int) ∧ (0 ≤ s.1 ∧ s.1 < 144 ∧ 1 ≤ s.1 % 12 ∧ 1 ≤ s.1 / 12) ∧ (0 ≤ s.2.2.1 ∧ s.2.2.1 ≤ 40 * (k : Int)) ∧ (∀ j, 0 ≤ j → j < (k : Int) → hasE B (s.2.2.2 j)) ∧ ((k : Int) = 0 → s.1 = 13) ∧ (0 < (k : Int) → s.1 = s.2.2.2 ((k : Int) - 1))
theorem wayS_nxt {B : Int → Prop} {g : Int → Int} {k : Nat} {s : WS} (hC : Cel B) (hg : LabE B g) (h : WOk B g k s) (hk : (k : Int) < cP (LRt B g) 144) : ∃ c, Nxt B g s.1 s.2.1 c := by
  refine Nxt.some hC ?_
  obtain ⟨r, r0, r1, r2, r3⟩ := cP_sub (P := s.2.1) (P' := LRt B g) 144 (by rw [h.2.1]; exact hk)
  exact ⟨r, r2.1, by rw [r2.2]; exact r3⟩
theorem stepW_ok {B : Int → Prop} {g : Int → Int} {k : Nat} {s : WS} {c : Int} (hC : Cel B) (hg : LabE B g) (h : WOk B g k s) (hc : Nxt B g s.1 s.2.1 c) : WOk B g (k + 1) (stepW B g (k : Int) s) := by
  obtain ⟨h1, h2, h3, h4, h5, h6, h7⟩ := h
  unfold stepW
  rw [nxt_eq hc]
  have hgeo := hasE_geo hC hc.1.1
  have hroot := hasE_geo hC (hg.root hc.1.1)
  have hd := dst_rng (a := s.1) (b := c) ⟨h3.1, h3.2.1⟩ (by omega)
  refine ⟨fun r hr => ?_, ?_, by dsimp only; omega, by dsimp only; omega, fun j j0 j1 => ?_, fun z => by omega, fun _ => ?_⟩
  · rcases hr with hr | hr
    · exact h1 r hr
    · rw [hr]; exact ⟨hg.root hc.1.1, hg.idem hc.1.1⟩
  · show cP (fun r => s.2.1 r ∨ r = g c) 144 = _
    rw [cP_add1 144 (by omega) hc.1.2, h2, if_pos (by omega)]
    omega
  · show hasE B (if j = (k : Int) then c else s.2.2.2 j)
    by_cases e : j = (k : Int)
    · rw [if_pos e]; exact hc.1.1
    · rw [if_neg e]; exact h5 j j0 (by omega)
  · show c = if ((k + 1 : Nat) : Int) - 1 = (k : Int) then c else _
    rw [if_pos (by omega)]
theorem cP_none {P : Int → Prop} (h : ∀ p, ¬ P p) : ∀ n : Nat, cP P n = 0
  | 0 => rfl
  | n + 1 => by rw [cP_no (h _)]; exact cP_none h n
theorem wayS_ok0 {B : Int → Prop} {g : Int → Int} : WOk B g 0 (13, fun _ => False, 0, fun _ => 0) := by
  refine ⟨fun r hr => hr.elim, ?_, ?_, ?_, fun j j0 j1 => by omega, fun _ => rfl, fun z => absurd z (by omega)⟩
  · exact cP_none (fun _ z => z) 144
  · dsimp only; omega
  · dsimp only; omega
theorem wayS_ok {B : Int → Prop} {g : Int → Int} (hC : Cel B) (hg : LabE B g) : ∀ k : Nat, (k : Int) ≤ cP (LRt B g) 144 → WOk B g k (wayS B g k) := by
  intro k
  generalize hN : cP (LRt B g) 144 = N
  induction k with
  | zero => intro _; exact wayS_ok0
  | succ k ih =>
    intro hk
    have ih := ih (by omega)
    obtain ⟨c, hc⟩ := wayS_nxt hC hg ih (by rw [hN]; omega)
    exact stepW_ok hC hg ih hc
/-- ways already gone stay as they are -/
theorem wayS_old {B : Int → Prop} {g : Int → Int} {j : Int} : ∀ (n k : Nat), j < (k : Int) → (wayS B g (k + n)).2.2.2 j = (wayS B g k).2.2.2 j
  | 0, k, _ => rfl
  | n + 1, k, h => by
    show (if j = ((k + n : Nat) : Int) then _ else (wayS B g (k + n)).2.2.2 j) = _
    rw [if_neg (by omega)]
    exact wayS_old n k h
