/-! Loops: labels exist, each has four corners or more, edges are counted at both ends. -/
theorem labE_ok {B : Int → Prop} (hC : Cel B) : LabE B (labEC B) := by
  have pos : ∀ c, hasE B c → 0 ≤ c := fun c hc => by have := hasE_geo hC hc; omega
  have least : ∀ q : Int, hasE B q → ∃ p, p ≤ q ∧ ConE B p q ∧ ∀ p', ConE B p' q → p ≤ p' := by
    intro q hq
    have q0 := pos q hq
    have key : ∀ n : Nat, (∃ p, p ≤ (n : Int) ∧ ConE B p q) → ∃ p, p ≤ (n : Int) ∧ ConE B p q ∧ ∀ p', ConE B p' q → p ≤ p' := by
      intro n
      induction n with
      | zero =>
        rintro ⟨p, p1, hp⟩
        refine ⟨p, p1, hp, fun p' h1 => ?_⟩
        have := pos p' (h1.symm.has hq)
        omega
      | succ n ih =>
        rintro ⟨p, p1, hp⟩
        by_cases c : ∃ p, p ≤ (n : Int) ∧ ConE B p q
        · obtain ⟨r, r1, r2, r3⟩ := ih c
          exact ⟨r, by omega, r2, r3⟩
        · refine ⟨p, p1, hp, fun p' h1 => ?_⟩
          refine Classical.byContradiction (fun z => c ⟨p', by omega, h1⟩)
    obtain ⟨p, a, b, c⟩ := key q.toNat ⟨q, by omega, ConE.refl q⟩
    exact ⟨p, by omega, b, c⟩
  have ex : ∃ g, LabE B g := by
    refine ⟨fun q => @dite _ (hasE B q) (Classical.propDecidable _) (fun h => Classical.choose (least q h)) (fun _ => -6), fun c hc => dif_neg hc, fun c hc => ?_⟩
    have sp : ∀ q (h : hasE B q), (@dite _ (hasE B q) (Classical.propDecidable _) (fun h => Classical.choose (least q h)) (fun _ => (-6 : Int))) ≤ q ∧ ConE B (@dite _ (hasE B q) (Classical.propDecidable _) (fun h => Classical.choose (least q h)) (fun _ => (-6 : Int))) q ∧ ∀ p', ConE B p' q → (@dite _ (hasE B q) (Classical.propDecidable _) (fun h => Classical.choose (least q h)) (fun _ => (-6 : Int))) ≤ p' := by
      intro q h
      rw [dif_pos h]
      exact Classical.choose_spec (least q h)
    obtain ⟨a2, a3, a4⟩ := sp c hc
    refine ⟨⟨a2, a3⟩, fun d hE => ?_⟩
    obtain ⟨b2, b3, b4⟩ := sp d hE.symm.has
    exact Int.le_antisymm (a4 _ (b3.step hE.symm)) (b4 _ (a3.step hE))
  obtain ⟨g, hg⟩ := ex
  have := labEC_eq hg
  rw [← this]
  exact hg
theorem cP_four {P : Int → Prop} : ∀ n : Nat, cP (fun k => P (k / 4)) (4 * n) = 4 * cP P n
  | 0 => rfl
  | n + 1 => by
    have ih := cP_four (P := P) n
    have e : 4 * (n + 1) = 4 * n + 1 + 1 + 1 + 1 := by omega
    have d0 : ((4 * n : Nat) : Int) / 4 = (n : Int) := by omega
    have d1 : ((4 * n + 1 : Nat) : Int) / 4 = (n : Int) := by omega
    have d2 : ((4 * n + 1 + 1 : Nat) : Int) / 4 = (n : Int) := by omega
    have d3 : ((4 * n + 1 + 1 + 1 : Nat) : Int) / 4 = (n : Int) := by omega
    rw [e]
    by_cases c : P (n : Int)
    · rw [cP_yes (P := fun k => P (k / 4)) (by rw [d3]; exact c), cP_yes (P := fun k => P (k / 4)) (by rw [d2]; exact c), cP_yes (P := fun k => P (k / 4)) (by rw [d1]; exact c), cP_yes (P := fun k => P (k / 4)) (by rw [d0]; exact c), ih, cP_yes c]
      omega
    · rw [cP_no (P := fun k => P (k / 4)) (by rw [d3]; exact c), cP_no (P := fun k => P (k / 4)) (by rw [d2]; exact c), cP_no (P := fun k => P (k / 4)) (by rw [d1]; exact c), cP_no (P := fun k => P (k / 4)) (by rw [d0]; exact c), ih, cP_no c]
/-- four corners of a loop, from its first one on -/
noncomputable def fourC (B : Int → Prop) (r i : Int) : Int := if i = 0 then r else if i = 1 then r + 1 else if i = 2 then r + 12 else cif (Ea B (r + 1)) (r + 2) (r + 13)
theorem fourC_ok {B : Int → Prop} {g : Int → Int} (hg : LabE B g) {r : Int} (hr : LRt B g r) : ∀ i, 0 ≤ i → i < 4 → hasE B (fourC B r i) ∧ g (fourC B r i) = r := by
  have noL : ¬ Ea B (r - 1) := fun w => by
    have hE : EA B r (r - 1) := Or.inr (Or.inl ⟨by omega, w⟩)
    have h1 := (hg.2 r hr.1).2 _ hE
    have h2 := (hg.2 (r - 1) hE.symm.has).1.1
    have := hr.2
    omega
  have noU : ¬ Ed B (r - 12) := fun w => by
    have hE : EA B r (r - 12) := Or.inr (Or.inr (Or.inr ⟨by omega, w⟩))
    have h1 := (hg.2 r hr.1).2 _ hE
    have h2 := (hg.2 (r - 12) hE.symm.has).1.1
    have := hr.2
    omega
  have iL : B (r - 1) ↔ B (r - 1 - 12) := Classical.byContradiction noL
  have iU : B (r - 12) ↔ B (r - 12 - 1) := Classical.byContradiction noU
  rw [show r - 1 - 12 = r - 13 by omega] at iL
  rw [show r - 12 - 1 = r - 13 by omega] at iU
  have hab : Ea B r ∧ Ed B r := by
    have both : Ea B r ↔ Ed B r := by
      unfold Ea Ed
      rw [iL, iU]
    rcases hr.1 with w | w | w | w
    · exact ⟨w, both.mp w⟩
    · exact ⟨both.mpr w, w⟩
    · exact absurd w noL
    · exact absurd w noU
  have e1 : EA B r (r + 1) := Or.inl ⟨rfl, hab.1⟩
  have e2 : EA B r (r + 12) := Or.inr (Or.inr (Or.inl ⟨rfl, hab.2⟩))
  have g1 : g (r + 1) = r := by rw [← (hg.2 r hr.1).2 _ e1]; exact hr.2
  have g2 : g (r + 12) = r := by rw [← (hg.2 r hr.1).2 _ e2]; exact hr.2
  have noU1 : ¬ Ed B (r + 1 - 12) := fun w => by
    have hE : EA B (r + 1) (r + 1 - 12) := Or.inr (Or.inr (Or.inr ⟨by omega, w⟩))
    have h1 := (hg.2 (r + 1) e1.symm.has).2 _ hE
    have h2 := (hg.2 (r + 1 - 12) hE.symm.has).1.1
    omega
  have iU1 : B (r + 1 - 12) ↔ B (r + 1 - 12 - 1) := Classical.byContradiction noU1
  rw [show r + 1 - 12 - 1 = r - 12 by omega] at iU1
  have four : hasE B (cif (Ea B (r + 1)) (r + 2) (r + 13)) ∧ g (cif (Ea B (r + 1)) (r + 2) (r + 13)) = r := by
    by_cases c : Ea B (r + 1)
    · rw [cif_pos c]
      have e3 : EA B (r + 1) (r + 2) := Or.inl ⟨by omega, c⟩
      exact ⟨e3.symm.has, by rw [← (hg.2 (r + 1) e1.symm.has).2 _ e3]; exact g1⟩
    · rw [cif_neg c]
      have hd : Ed B (r + 1) := by
        have hc : B (r + 1) ↔ B (r + 1 - 12) := Classical.byContradiction c
        have ha := hab.1
        unfold Ea at ha
        unfold Ed
        rw [show r + 1 - 1 = r by omega]
        intro w
        exact ha ((w.symm.trans hc).trans iU1)
      have e3 : EA B (r + 1) (r + 13) := Or.inr (Or.inr (Or.inl ⟨by omega, hd⟩))
      exact ⟨e3.symm.has, by rw [← (hg.2 (r + 1) e1.symm.has).2 _ e3]; exact g1⟩
  intro i i0 i1
  unfold fourC
  rcases four_cases ⟨i0, i1⟩ with e | e | e | e <;> subst e
  · rw [if_pos rfl]; exact ⟨hr.1, hr.2⟩
  · rw [if_neg (by decide), if_pos rfl]; exact ⟨e1.symm.has, g1⟩
  · rw [if_neg (by decide), if_neg (by decide), if_pos rfl]; exact ⟨e2.symm.has, g2⟩
  · rw [if_neg (by decide), if_neg (by decide), if_neg (by decide)]; exact four
theorem fourC_inj {B : Int → Prop} {r i j : Int} (hi : 0 ≤ i ∧ i < 4) (hj : 0 ≤ j ∧ j < 4) (h : fourC B r i = fourC B r j) : i = j := by
  have h3 : fourC B r 3 = r + 2 ∨ fourC B r 3 = r + 13 := by
    show cif (Ea B (r + 1)) (r + 2) (r + 13) = r + 2 ∨ cif (Ea B (r + 1)) (r + 2) (r + 13) = r + 13
    by_cases c : Ea B (r + 1)
    · rw [cif_pos c]; exact Or.inl rfl
    · rw [cif_neg c]; exact Or.inr rfl
  have h0 : fourC B r 0 = r := rfl
  have h1 : fourC B r 1 = r + 1 := rfl
  have h2 : fourC B r 2 = r + 12 := rfl
  rcases four_cases hi with e | e | e | e <;> subst e <;> rcases four_cases hj with e | e | e | e <;> subst e <;> omega
theorem LRt_36 {B : Int → Prop} {g : Int → Int} (hC : Cel B) (hg : LabE B g) : cP (LRt B g) 144 ≤ 36 := by
  have h4 := cP_four (P := LRt B g) 144
  have hs := cP_slots (g := fun k => fourC B (k / 4) (k % 4)) (n := 4 * 144) 144 (fun k => LRt B g (k / 4)) (fun a a0 a1 ha => by
    have := (fourC_ok hg ha (a % 4) (by omega) (by omega)).1
    have := hasE_geo hC this
    omega) (fun a b a0 a1 b0 b1 ha hb e => by
    have h1 := (fourC_ok hg ha (a % 4) (by omega) (by omega)).2
    have h2 := (fourC_ok hg hb (b % 4) (by omega) (by omega)).2
    rw [e, h2] at h1
    rw [h1] at e
    have := fourC_inj (by omega) (by omega) e
    omega)
  omega
/-- an edge from a corner, by direction -/
def dE (B : Int → Prop) (k c : Int) : Prop := if k = 0 then Ed B (c - 12) else if k = 1 then Ea B (c - 1) else if k = 2 then Ea B c else Ed B c
theorem dE_EA {B : Int → Prop} {k c : Int} (hk : 0 ≤ k ∧ k < 4) (h : dE B k c) : EA B c (c + stpL k) := by
  unfold dE at h
  rcases four_cases hk with e | e | e | e <;> subst e
  · have e : stpL 0 = -12 := rfl
    rw [if_pos rfl] at h
    rw [e]
    exact Or.inr (Or.inr (Or.inr ⟨by omega, h⟩))
  · have e : stpL 1 = -1 := rfl
    rw [if_neg (by decide), if_pos rfl] at h
    rw [e]
    exact Or.inr (Or.inl ⟨by omega, h⟩)
  · have e : stpL 2 = 1 := rfl
    rw [if_neg (by decide), if_neg (by decide), if_pos rfl] at h
    rw [e]
    exact Or.inl ⟨by omega, h⟩
  · have e : stpL 3 = 12 := rfl
    rw [if_neg (by decide), if_neg (by decide), if_neg (by decide)] at h
    rw [e]
    exact Or.inr (Or.inr (Or.inl ⟨by omega, h⟩))
theorem EA_dE {B : Int → Prop} {c d : Int} (h : EA B c d) : ∃ k, 0 ≤ k ∧ k < 4 ∧ d = c + stpL k ∧ dE B k c := by
  rcases h with ⟨e, h⟩ | ⟨e, h⟩ | ⟨e, h⟩ | ⟨e, h⟩
  · exact ⟨2, by omega, by omega, by have : stpL 2 = 1 := rfl; omega, h⟩
  · refine ⟨1, by omega, by omega, by have : stpL 1 = -1 := rfl; omega, ?_⟩
    show Ea B (c - 1)
    rw [show c - 1 = d by omega]; exact h
  · exact ⟨3, by omega, by omega, by have : stpL 3 = 12 := rfl; omega, h⟩
  · refine ⟨0, by omega, by omega, by have : stpL 0 = -12 := rfl; omega, ?_⟩
    show Ed B (c - 12)
    rw [show c - 12 = d by omega]; exact h
theorem hasE_dE {B : Int → Prop} {c : Int} : hasE B c ↔ ∃ k, 0 ≤ k ∧ k < 4 ∧ dE B k c := by
  constructor
  · rintro (h | h | h | h)
    · exact ⟨2, by omega, by omega, h⟩
    · exact ⟨3, by omega, by omega, h⟩
    · exact ⟨1, by omega, by omega, h⟩
    · exact ⟨0, by omega, by omega, h⟩
  · rintro ⟨k, k0, k1, h⟩
    exact (dE_EA ⟨k0, k1⟩ h).has
noncomputable def dgs (B : Int → Prop) (c : Int) (n : Nat) : Int := sumN (fun k => cif (dE B k c) 1 0) n
theorem dgs_rng {B : Int → Prop} {c : Int} (n : Nat) : 0 ≤ dgs B c n ∧ dgs B c n ≤ (n : Int) := sumN_01 n (fun k _ _ => by have := cif_01 (P := dE B k c); omega)
theorem sumN_add {f g : Int → Int} : ∀ n : Nat, sumN (fun c => f c + g c) n = sumN f n + sumN g n
  | 0 => rfl
  | n + 1 => by
    show sumN (fun c => f c + g c) n + (f (n : Int) + g (n : Int)) = (sumN f n + f (n : Int)) + (sumN g n + g (n : Int))
    rw [sumN_add n]
    omega
/-- a sum may be moved, if nothing is lost -/
theorem sumN_shift1 {f : Int → Int} (s : Nat) : ∀ n : Nat, (∀ c : Int, -(s : Int) ≤ c → c < 0 → f c = 0) → sumN (fun c => f (c - (s : Int))) (n + s) = sumN f n := by
  intro n hlow
  have h1 : sumN (fun c => f (c - (s : Int))) s = 0 := by
    have : ∀ k : Nat, k ≤ s → sumN (fun c => f (c - (s : Int))) k = 0 := by
      intro k
      induction k with
      | zero => intro _; rfl
      | succ k ih =>
        intro hk
        show sumN (fun c => f (c - (s : Int))) k + f ((k : Int) - (s : Int)) = 0
        rw [ih (by omega), hlow _ (by omega) (by omega)]
        rfl
    exact this s (Nat.le_refl s)
  induction n with
  | zero => rw [Nat.zero_add]; exact h1
  | succ n ih =>
    rw [show n + 1 + s = (n + s) + 1 by omega]
    show sumN (fun c => f (c - (s : Int))) (n + s) + f (((n + s : Nat) : Int) - (s : Int)) = sumN f n + f (n : Int)
    rw [ih, show ((n + s : Nat) : Int) - (s : Int) = (n : Int) by omega]
theorem sumN_shift {f : Int → Int} (s N : Nat) (hs : s ≤ N) (hlow : ∀ c : Int, -(s : Int) ≤ c → c < 0 → f c = 0) (hhigh : ∀ c : Int, ((N - s : Nat) : Int) ≤ c → c < (N : Int) → f c = 0) : sumN (fun c => f (c - (s : Int))) N = sumN f N := by
  have h1 := sumN_shift1 (f := f) s (N - s) hlow
  rw [show N - s + s = N by omega] at h1
  rw [h1]
  have h2 := sumN_skip (g := f) s (N - s) (fun p p0 p1 => hhigh p p0 (by omega))
  rw [show N - s + s = N by omega] at h2
  exact h2.symm
/-- edges are counted at both of their ends -/
theorem hand {B : Int → Prop} {g : Int → Int} (hC : Cel B) (hg : LabE B g) (r : Int) : sumN (fun c => cif (hasE B c ∧ g c = r) (dgs B c 4) 0) 144 = 2 * edN B (fun c => g c = r) 144 := by
  have e1 : ∀ c, cif (hasE B c ∧ g c = r) (dgs B c 4) 0 = (edV B (fun c => g c = r) c + cif (g (c - 1) = r ∧ Ea B (c - 1)) 1 0) + cif (g (c - 12) = r ∧ Ed B (c - 12)) 1 0 := by
    intro c
    have hd : dgs B c 4 = cif (Ed B (c - 12)) 1 0 + cif (Ea B (c - 1)) 1 0 + cif (Ea B c) 1 0 + cif (Ed B c) 1 0 := by
      show ((((0 : Int) + cif (Ed B (c - 12)) 1 0) + cif (Ea B (c - 1)) 1 0) + cif (Ea B c) 1 0) + cif (Ed B c) 1 0 = _
      omega
    have sL : Ea B (c - 1) → g (c - 1) = g c := fun w => (hg.2 (c - 1) (Or.inl w)).2 c (Or.inl ⟨by omega, w⟩)
    have sU : Ed B (c - 12) → g (c - 12) = g c := fun w => (hg.2 (c - 12) (Or.inr (Or.inl w))).2 c (Or.inr (Or.inr (Or.inl ⟨by omega, w⟩)))
    unfold edV
    by_cases hgr : g c = r
    · by_cases hE : hasE B c
      · rw [cif_pos ⟨hE, hgr⟩, hd]
        have a1 : cif (g c = r ∧ Ea B c) 1 0 = cif (Ea B c) 1 0 := by
          by_cases w : Ea B c
          · rw [cif_pos ⟨hgr, w⟩, cif_pos w]
          · rw [cif_neg (fun z => w z.2), cif_neg w]
        have a2 : cif (g c = r ∧ Ed B c) 1 0 = cif (Ed B c) 1 0 := by
          by_cases w : Ed B c
          · rw [cif_pos ⟨hgr, w⟩, cif_pos w]
          · rw [cif_neg (fun z => w z.2), cif_neg w]
        have a3 : cif (g (c - 1) = r ∧ Ea B (c - 1)) 1 0 = cif (Ea B (c - 1)) 1 0 := by
          by_cases w : Ea B (c - 1)
          · rw [cif_pos ⟨(sL w).trans hgr, w⟩, cif_pos w]
          · rw [cif_neg (fun z => w z.2), cif_neg w]
        have a4 : cif (g (c - 12) = r ∧ Ed B (c - 12)) 1 0 = cif (Ed B (c - 12)) 1 0 := by
          by_cases w : Ed B (c - 12)
          · rw [cif_pos ⟨(sU w).trans hgr, w⟩, cif_pos w]
          · rw [cif_neg (fun z => w z.2), cif_neg w]
        rw [a1, a2, a3, a4]
        omega
      · rw [cif_neg (fun z => hE z.1), cif_neg (fun z => hE (Or.inl z.2)), cif_neg (fun z => hE (Or.inr (Or.inl z.2))), cif_neg (fun z => hE (Or.inr (Or.inr (Or.inl z.2)))), cif_neg (fun z => hE (Or.inr (Or.inr (Or.inr z.2))))]
        rfl
    · rw [cif_neg (fun z => hgr z.2), cif_neg (fun z => hgr z.1), cif_neg (fun z => hgr z.1), cif_neg (fun z => hgr ((sL z.2).symm.trans z.1)), cif_neg (fun z => hgr ((sU z.2).symm.trans z.1))]
      rfl
  have hA : ∀ c, ¬ (13 ≤ c ∧ c < 143) → cif (g c = r ∧ Ea B c) 1 0 = 0 := fun c hc => cif_neg (fun z => by have := Ea_geo hC z.2; omega)
  have hD : ∀ c, ¬ (13 ≤ c ∧ c < 132) → cif (g c = r ∧ Ed B c) 1 0 = 0 := fun c hc => cif_neg (fun z => by have := Ed_geo hC z.2; omega)
  have s1 := sumN_shift (f := fun c => cif (g c = r ∧ Ea B c) 1 0) 1 144 (by omega) (fun c c0 c1 => hA c (by omega)) (fun c c0 c1 => hA c (by omega))
  have s2 := sumN_shift (f := fun c => cif (g c = r ∧ Ed B c) 1 0) 12 144 (by omega) (fun c c0 c1 => hD c (by omega)) (fun c c0 c1 => hD c (by omega))
  rw [sumN_congr 144 (fun c _ _ => e1 c), sumN_add, sumN_add]
  have s1' : sumN (fun c => cif (g (c - 1) = r ∧ Ea B (c - 1)) 1 0) 144 = sumN (fun c => cif (g c = r ∧ Ea B c) 1 0) 144 := s1
  have s2' : sumN (fun c => cif (g (c - 12) = r ∧ Ed B (c - 12)) 1 0) 144 = sumN (fun c => cif (g c = r ∧ Ed B c) 1 0) 144 := s2
  rw [s1', s2']
  have he : edN B (fun c => g c = r) 144 = sumN (fun c => cif (g c = r ∧ Ea B c) 1 0) 144 + sumN (fun c => cif (g c = r ∧ Ed B c) 1 0) 144 := by
    unfold edN edV
    rw [sumN_add]
  show edN B (fun c => g c = r) 144 + _ + _ = _
  omega
theorem sumN_one {P : Int → Prop} {v : Int → Int} {r : Int} : ∀ n : Nat, 0 ≤ r → ¬ P r → sumN (fun c => cif (P c ∨ c = r) (v c) 0) n = sumN (fun c => cif (P c) (v c) 0) n + (if r < (n : Int) then v r else 0)
  | 0, h0, _ => by rw [if_neg (by omega)]; rfl
  | n + 1, h0, hr => by
    have ih := sumN_one (v := v) n h0 hr
    show sumN (fun c => cif (P c ∨ c = r) (v c) 0) n + cif (P (n : Int) ∨ (n : Int) = r) (v (n : Int)) 0 = (sumN (fun c => cif (P c) (v c) 0) n + cif (P (n : Int)) (v (n : Int)) 0) + _
    rw [ih]
    by_cases e : (n : Int) = r
    · rw [cif_pos (Or.inr e), cif_neg (by rw [e]; exact hr), if_neg (by omega), if_pos (by omega), e, Int.add_zero]
    · have hq : cif (P (n : Int) ∨ (n : Int) = r) (v (n : Int)) 0 = cif (P (n : Int)) (v (n : Int)) 0 := by
        by_cases c : P (n : Int)
        · rw [cif_pos (Or.inl c), cif_pos c]
        · rw [cif_neg (fun z => z.elim c e), cif_neg c]
      rw [hq]
      by_cases c : r < (n : Int)
      · rw [if_pos c, if_pos (by omega)]; omega
      · rw [if_neg c, if_neg (by omega)]; omega
