/-! Places: twelve by twelve, the sheet in a ring of frame places. Parts of places. -/
def pl (x y : Int) : Int := 12 * (y + 1) + (x + 1)
def Adj (p q : Int) : Prop := 0 ≤ p ∧ p < 144 ∧ 0 ≤ q ∧ q < 144 ∧ (q = p + 1 ∨ q = p - 1 ∨ q = p + 12 ∨ q = p - 12)
theorem Adj.symm {p q : Int} (h : Adj p q) : Adj q p := by unfold Adj at *; omega
/-- from a to b by steps between places that are alike -/
def Con (O : Int → Prop) (a b : Int) : Prop := ∀ S : Int → Prop, S a → (∀ p q, S p → Adj p q → (O p ↔ O q) → S q) → S b
theorem Con.refl {O : Int → Prop} (a : Int) : Con O a a := fun _ h _ => h
theorem Con.step {O : Int → Prop} {a p q : Int} (h : Con O a p) (hA : Adj p q) (hO : O p ↔ O q) : Con O a q := fun S h0 hs => hs p q (h S h0 hs) hA hO
theorem Con.trans {O : Int → Prop} {a b c : Int} (h : Con O a b) (h2 : Con O b c) : Con O a c := fun S h0 hs => h2 S (h S h0 hs) hs
theorem Con.symm {O : Int → Prop} {a b : Int} (h : Con O a b) : Con O b a := by
  refine h (fun z => Con O z a) (Con.refl a) (fun p q hp hA hO => ?_)
  exact Con.trans (Con.step (Con.refl q) hA.symm hO.symm) hp
theorem Con.alike {O : Int → Prop} {a b : Int} (h : Con O a b) : O a ↔ O b := h (fun z => O a ↔ O z) Iff.rfl (fun _ _ hp _ hO => hp.trans hO)
/-- a label of every place: the least place of its part -/
def LabOK (O : Int → Prop) (f : Int → Int) : Prop := ∀ p, 0 ≤ p → p < 144 → (0 ≤ f p ∧ f p ≤ p ∧ Con O (f p) p) ∧ ∀ q, Adj p q → (O p ↔ O q) → f p = f q
theorem LabOK.const {O : Int → Prop} {f : Int → Int} (h : LabOK O f) {a b : Int} (ha : 0 ≤ a ∧ a < 144) (hc : Con O a b) : 0 ≤ b ∧ b < 144 ∧ f b = f a := by
  refine hc (fun z => 0 ≤ z ∧ z < 144 ∧ f z = f a) ⟨ha.1, ha.2, rfl⟩ (fun p q hp hA hO => ?_)
  obtain ⟨h1, h2, h3⟩ := hp
  have hA' := hA
  unfold Adj at hA'
  exact ⟨hA'.2.2.1, hA'.2.2.2.1, by rw [← (h p h1 h2).2 q hA hO]; exact h3⟩
theorem LabOK.le {O : Int → Prop} {f g : Int → Int} (hf : LabOK O f) (hg : LabOK O g) {p : Int} (h0 : 0 ≤ p) (h1 : p < 144) : g p ≤ f p := by
  obtain ⟨⟨a1, a2, a3⟩, -⟩ := hf p h0 h1
  have e := (hg.const ⟨a1, by omega⟩ a3).2.2
  have := (hg (f p) a1 (by omega)).1.2.1
  omega
theorem LabOK.uniq {O : Int → Prop} {f g : Int → Int} (hf : LabOK O f) (hg : LabOK O g) {p : Int} (h0 : 0 ≤ p) (h1 : p < 144) : f p = g p := by
  have := hf.le hg h0 h1
  have := hg.le hf h0 h1
  omega
theorem LabOK.idem {O : Int → Prop} {f : Int → Int} (hf : LabOK O f) {p : Int} (h0 : 0 ≤ p) (h1 : p < 144) : f (f p) = f p := by
  obtain ⟨⟨a1, a2, a3⟩, -⟩ := hf p h0 h1
  exact (hf.const ⟨a1, by omega⟩ a3).2.2.symm
theorem LabOK.alike {O : Int → Prop} {f : Int → Int} (hf : LabOK O f) {p : Int} (h0 : 0 ≤ p) (h1 : p < 144) : O (f p) ↔ O p := ((hf p h0 h1).1.2.2).alike
/-- open places of a layer of the model -/
def OM (m : Mem) (l p : Int) : Prop := Mo m l (p % 12 - 1) (p / 12 - 1)
def frS (m : Mem) (p : Int) : Prop := ¬ inS m (p % 12 - 1) (p / 12 - 1)
theorem frS_OM {m : Mem} {l p : Int} (h : frS m p) : ¬ OM m l p := fun z => h z.1
theorem OM_pl {m : Mem} {l x y : Int} (hx : -1 ≤ x ∧ x ≤ 10) (hy : -1 ≤ y ∧ y ≤ 10) : OM m l (pl x y) ↔ Mo m l x y := by
  unfold OM pl
  rw [show (12 * (y + 1) + (x + 1)) % 12 - 1 = x by omega, show (12 * (y + 1) + (x + 1)) / 12 - 1 = y by omega]
theorem fr_step {m : Mem} {l a p q : Int} (h : Con (OM m l) a p) (hA : Adj p q) (hp : frS m p) (hq : frS m q) : Con (OM m l) a q :=
  h.step hA ⟨fun z => absurd z (frS_OM hp), fun z => absurd z (frS_OM hq)⟩
theorem fr_row0 {m : Mem} {l : Int} : ∀ n : Nat, n < 12 → Con (OM m l) 0 (n : Int)
  | 0, _ => Con.refl 0
  | n + 1, h => by
    refine fr_step (fr_row0 n (by omega)) (by unfold Adj; omega) ?_ ?_
    · unfold frS inS; omega
    · unfold frS inS; omega
theorem fr_col {m : Mem} {l : Int} (hw : MW m) (c : Nat) (hc : c < 12) (hf : c = 0 ∨ m 34 0 500 + 1 ≤ (c : Int)) : ∀ r : Nat, r < 12 → Con (OM m l) 0 ((12 * r + c : Nat) : Int)
  | 0, _ => by
    have := fr_row0 (m := m) (l := l) c hc
    simpa using this
  | r + 1, h => by
    obtain ⟨w1, w2, w3, w4⟩ := hw
    refine fr_step (fr_col ⟨w1, w2, w3, w4⟩ c hc hf r (by omega)) (by unfold Adj; omega) ?_ ?_
    · unfold frS inS; omega
    · unfold frS inS; omega
theorem fr_rowc {m : Mem} {l : Int} (hw : MW m) (r : Nat) (hr : r < 12) (hf : r = 0 ∨ m 34 0 501 + 1 ≤ (r : Int)) : ∀ c : Nat, c < 12 → Con (OM m l) 0 ((12 * r + c : Nat) : Int)
  | 0, _ => fr_col hw 0 (by omega) (Or.inl rfl) r hr
  | c + 1, h => by
    obtain ⟨w1, w2, w3, w4⟩ := hw
    refine fr_step (fr_rowc ⟨w1, w2, w3, w4⟩ r hr hf c (by omega)) (by unfold Adj; omega) ?_ ?_
    · unfold frS inS; omega
    · unfold frS inS; omega
theorem fr_con {m : Mem} {l p : Int} (hw : MW m) (h0 : 0 ≤ p) (h1 : p < 144) (hf : frS m p) : Con (OM m l) 0 p := by
  have hw' := hw
  obtain ⟨w1, w2, w3, w4⟩ := hw'
  unfold frS inS at hf
  obtain ⟨r, hr⟩ : ∃ r : Nat, (r : Int) = p / 12 := ⟨(p / 12).toNat, by omega⟩
  obtain ⟨c, hc⟩ : ∃ c : Nat, (c : Int) = p % 12 := ⟨(p % 12).toNat, by omega⟩
  have e : ((12 * r + c : Nat) : Int) = p := by omega
  rw [← e]
  by_cases hx : c = 0 ∨ m 34 0 500 + 1 ≤ (c : Int)
  · exact fr_col hw c (by omega) hx r (by omega)
  · exact fr_rowc hw r (by omega) (by omega) c (by omega)
/-- a scan over the rows of a sheet, over any state -/
theorem scan {σ : Type} {W H : Int} {G : Int → σ → Prop} {F : Int → Int → σ → Prop} {I : Int → Int → σ → Prop} (hW : 0 ≤ W) (hH : 0 ≤ H)
    (oEnd : ∀ s, I H 0 s → G H s) (oIn : ∀ y s, 0 ≤ y → y < H → I y 0 s → F y 0 s → G y s)
    (iEnd : ∀ y s, 0 ≤ y → y < H → I y W s → I (y + 1) 0 s ∧ (G (y + 1) s → F y W s))
    (iStep : ∀ y x s, 0 ≤ y → y < H → 0 ≤ x → x < W → I y x s → (∀ s', I y (x + 1) s' → F y (x + 1) s') → F y x s) : ∀ s, I 0 0 s → G 0 s := by
  have inner : ∀ (y : Int), 0 ≤ y → y < H → (∀ s, I (y + 1) 0 s → G (y + 1) s) → ∀ (n : Nat) (x : Int), 0 ≤ x → x + (n : Int) = W → ∀ s, I y x s → F y x s := by
    intro y y0 y1 hG n
    induction n with
    | zero =>
      intro x x0 x1 s hI
      have e : x = W := by omega
      subst e
      obtain ⟨h1, h2⟩ := iEnd y s y0 y1 hI
      exact h2 (hG s h1)
    | succ n ih =>
      intro x x0 x1 s hI
      exact iStep y x s y0 y1 x0 (by omega) hI (fun s' h' => ih (x + 1) (by omega) (by omega) s' h')
  have outer : ∀ (n : Nat) (y : Int), 0 ≤ y → y + (n : Int) = H → ∀ s, I y 0 s → G y s := by
    intro n
    induction n with
    | zero =>
      intro y y0 y1 s hI
      have e : y = H := by omega
      subst e
      exact oEnd s hI
    | succ n ih =>
      intro y y0 y1 s hI
      exact oIn y s y0 (by omega) hI (inner y y0 (by omega) (fun s' h' => ih (y + 1) (by omega) (by omega) s' h') W.toNat 0 (Int.le_refl 0) (by omega) s hI)
  intro s hI
  exact outer H.toNat 0 (Int.le_refl 0) (by omega) s hI
/-- a loop that counts up -/
theorem loopU {σ : Type} {N : Int} {G : Int → σ → Prop} {I : Int → σ → Prop} (h1 : ∀ s, I N s → G N s) (h2 : ∀ k s, 0 ≤ k → k < N → I k s → (∀ s', I (k + 1) s' → G (k + 1) s') → G k s) : ∀ (k : Int) (s : σ), 0 ≤ k → k ≤ N → I k s → G k s := by
  have key : ∀ (n : Nat) (k : Int), 0 ≤ k → k + (n : Int) = N → ∀ s, I k s → G k s := by
    intro n
    induction n with
    | zero =>
      intro k k0 k1 s hI
      have e : k = N := by omega
      subst e
      exact h1 s hI
    | succ n ih =>
      intro k k0 k1 s hI
      exact h2 k s k0 (by omega) hI (fun s' h' => ih (k + 1) (by omega) (by omega) s' h')
  intro k s k0 k1 hI
  exact key (N - k).toNat k k0 (by omega) s hI
theorem mset_same {m : Mem} {q : Nat} {i j : Int} : mset m q i j (m q i j) = m := by
  funext q' i' j'
  by_cases h : q' = q ∧ i' = i ∧ j' = j
  · obtain ⟨rfl, rfl, rfl⟩ := h
    simp [mset]
  · unfold mset
    split
    · rename_i e
      subst e
      show (if i' = i ∧ j' = j then _ else _) = _
      rw [if_neg (fun z => h ⟨rfl, z⟩)]
    · rfl
theorem mset_k {m : Mem} {q q' : Nat} {i j v : Int} (h : q' ≠ q) : mset m q i j v q' = m q' := by
  unfold mset
  rw [if_neg h]
theorem mset_i {m : Mem} {q : Nat} {i j v : Int} {j' : Int} : mset m q i j v q i j' = if j' = j then v else m q i j' := by
  unfold mset
  rw [if_pos rfl]
  simp
theorem mset2 {m : Mem} {q : Nat} {i j v w : Int} : mset (mset m q i j v) q i j w = mset m q i j w := by
  funext q' i' j'
  unfold mset
  by_cases h : q' = q
  · subst h
    rw [if_pos rfl, if_pos rfl]
    simp only [if_true]
    by_cases h2 : i' = i ∧ j' = j
    · rw [if_pos h2, if_pos h2]
    · rw [if_neg h2, if_neg h2, if_neg h2]
  · rw [if_neg h, if_neg h, if_neg h]
