/-! The JDK's count of bits. -/
def btS (v : Int) : Int := sumN (fun x => bt v x) 10
theorem btS_0 : btS 0 = 0 := by decide
def bcA (x : Int) : Int := x - zAnd (zUshr x 1) 1431655765
def bcB (a : Int) : Int := zAnd a 858993459 + zAnd (zUshr a 2) 858993459
def bcC (a : Int) : Int := a + zUshr a 4
def bcD (a : Int) : Int := zAnd a 252645135 + zUshr (zAnd a 252645135) 8
def bcE (a : Int) : Int := a + zUshr a 16
def bcOK (a : Int) : Bool := decide (-2147483648 ≤ a) && decide (a ≤ 2147483647)
set_option maxRecDepth 100000 in
theorem bc_all : ∀ v : Fin 1024, (bcOK (bcA (v.val : Int)) && bcOK (bcB (bcA (v.val : Int))) && bcOK (bcC (bcB (bcA (v.val : Int)))) && bcOK (bcD (bcC (bcB (bcA (v.val : Int))))) && bcOK (bcE (bcD (bcC (bcB (bcA (v.val : Int)))))) && decide (zAnd (bcE (bcD (bcC (bcB (bcA (v.val : Int)))))) 63 = btS (v.val : Int))) = true := by decide +kernel
theorem bcOK_rng {a : Int} (h : bcOK a = true) : Rng a := by
  unfold bcOK at h
  rw [Bool.and_eq_true, decide_eq_true_eq, decide_eq_true_eq] at h
  exact h
theorem sJ_bitCount {Q : AV → Mem → Prop} {v : Int} {m : Mem} (hv : 0 ≤ v ∧ v < 1024) (h : Q (.inl (btS v)) m) : WP cJ_bitCount 0 [.inl v] [] m Q := by
  have a := bc_all ⟨v.toNat, by omega⟩
  dsimp only at a
  rw [show ((v.toNat : Nat) : Int) = v by omega] at a
  simp only [Bool.and_eq_true] at a
  obtain ⟨⟨⟨⟨⟨a1, a2⟩, a3⟩, a4⟩, a5⟩, a6⟩ := a
  have a6 := of_decide_eq_true a6
  refine gJ_bitCount_0 v m ⟨bcOK_rng a1, bcOK_rng a2, bcOK_rng a3, bcOK_rng a4, bcOK_rng a5, ?_⟩
  rw [← a6] at h
  exact h
