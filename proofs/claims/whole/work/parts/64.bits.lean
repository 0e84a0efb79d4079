/-! Bits of small numbers. -/
def bt (v x : Int) : Int := v / 2 ^ x.toNat % 2
set_option maxRecDepth 100000 in
theorem bt_and_all : ∀ x : Fin 10, ∀ v : Fin 1024, zAnd (zShr (v.val : Int) (x.val : Int)) 1 = (v.val : Int) / 2 ^ x.val % 2 := by decide +kernel
theorem bt_and {v x : Int} (hv : 0 ≤ v ∧ v < 1024) (hx : 0 ≤ x ∧ x < 10) : zAnd (zShr v x) 1 = bt v x := by
  have h := bt_and_all ⟨x.toNat, by omega⟩ ⟨v.toNat, by omega⟩
  dsimp only at h
  rw [show ((x.toNat : Nat) : Int) = x by omega, show ((v.toNat : Nat) : Int) = v by omega] at h
  exact h
set_option maxRecDepth 100000 in
theorem bt_or_all : ∀ x : Fin 10, ∀ v : Fin 1024, zOr (v.val : Int) (zShl 1 (x.val : Int)) = (v.val : Int) + (1 - (v.val : Int) / 2 ^ x.val % 2) * 2 ^ x.val := by decide +kernel
theorem bt_or {v x : Int} (hv : 0 ≤ v ∧ v < 1024) (hx : 0 ≤ x ∧ x < 10) : zOr v (zShl 1 x) = v + (1 - bt v x) * 2 ^ x.toNat := by
  have h := bt_or_all ⟨x.toNat, by omega⟩ ⟨v.toNat, by omega⟩
  dsimp only at h
  rw [show ((x.toNat : Nat) : Int) = x by omega, show ((v.toNat : Nat) : Int) = v by omega] at h
  exact h
set_option maxRecDepth 100000 in
theorem bt_off_all : ∀ x : Fin 10, ∀ v : Fin 1024, zAnd (v.val : Int) (zXor (zShl 1 (x.val : Int)) (-1)) = (v.val : Int) - ((v.val : Int) / 2 ^ x.val % 2) * 2 ^ x.val := by decide +kernel
theorem bt_off {v x : Int} (hv : 0 ≤ v ∧ v < 1024) (hx : 0 ≤ x ∧ x < 10) : zAnd v (zXor (zShl 1 x) (-1)) = v - bt v x * 2 ^ x.toNat := by
  have h := bt_off_all ⟨x.toNat, by omega⟩ ⟨v.toNat, by omega⟩
  dsimp only at h
  rw [show ((x.toNat : Nat) : Int) = x by omega, show ((v.toNat : Nat) : Int) = v by omega] at h
  exact h
set_option maxRecDepth 100000 in
theorem bt_line_all : ∀ w : Fin 11, ∀ v : Fin 1024, zAnd (v.val : Int) (zShl 1 (w.val : Int) - 1) = (v.val : Int) % 2 ^ w.val := by decide +kernel
theorem bt_line {v w : Int} (hv : 0 ≤ v ∧ v < 1024) (hw : 0 ≤ w ∧ w ≤ 10) : zAnd v (zShl 1 w - 1) = v % 2 ^ w.toNat := by
  have h := bt_line_all ⟨w.toNat, by omega⟩ ⟨v.toNat, by omega⟩
  dsimp only at h
  rw [show ((w.toNat : Nat) : Int) = w by omega, show ((v.toNat : Nat) : Int) = v by omega] at h
  exact h
theorem zShl1_all : ∀ x : Fin 11, zShl 1 (x.val : Int) = 2 ^ x.val := by decide +kernel
theorem ten_cases {x : Int} (h : 0 ≤ x ∧ x < 10) : x = 0 ∨ x = 1 ∨ x = 2 ∨ x = 3 ∨ x = 4 ∨ x = 5 ∨ x = 6 ∨ x = 7 ∨ x = 8 ∨ x = 9 := by omega
theorem bt_0 {v : Int} : bt v 0 = v % 2 := by show v / 1 % 2 = _; omega
theorem bt_1 {v : Int} : bt v 1 = v / 2 % 2 := rfl
theorem bt_2 {v : Int} : bt v 2 = v / 4 % 2 := rfl
theorem bt_3 {v : Int} : bt v 3 = v / 8 % 2 := rfl
theorem bt_4 {v : Int} : bt v 4 = v / 16 % 2 := rfl
theorem bt_5 {v : Int} : bt v 5 = v / 32 % 2 := rfl
theorem bt_6 {v : Int} : bt v 6 = v / 64 % 2 := rfl
theorem bt_7 {v : Int} : bt v 7 = v / 128 % 2 := rfl
theorem bt_8 {v : Int} : bt v 8 = v / 256 % 2 := rfl
theorem bt_9 {v : Int} : bt v 9 = v / 512 % 2 := rfl
theorem bt_01 {v x : Int} : bt v x = 0 ∨ bt v x = 1 := by unfold bt; omega
theorem p2_0 : (2 : Int) ^ (0 : Int).toNat = 1 := rfl
theorem p2_1 : (2 : Int) ^ (1 : Int).toNat = 2 := rfl
theorem p2_2 : (2 : Int) ^ (2 : Int).toNat = 4 := rfl
theorem p2_3 : (2 : Int) ^ (3 : Int).toNat = 8 := rfl
theorem p2_4 : (2 : Int) ^ (4 : Int).toNat = 16 := rfl
theorem p2_5 : (2 : Int) ^ (5 : Int).toNat = 32 := rfl
theorem p2_6 : (2 : Int) ^ (6 : Int).toNat = 64 := rfl
theorem p2_7 : (2 : Int) ^ (7 : Int).toNat = 128 := rfl
theorem p2_8 : (2 : Int) ^ (8 : Int).toNat = 256 := rfl
theorem p2_9 : (2 : Int) ^ (9 : Int).toNat = 512 := rfl
theorem p2_10 : (2 : Int) ^ (10 : Int).toNat = 1024 := rfl
set_option maxHeartbeats 4000000 in
theorem bt_on_at {v x x' : Int} (hv : 0 ≤ v ∧ v < 1024) (hx : 0 ≤ x ∧ x < 10) (hx' : 0 ≤ x' ∧ x' < 10) : bt (v + (1 - bt v x) * 2 ^ x.toNat) x' = if x' = x then 1 else bt v x' := by
  by_cases e0 : x' = x
  · rw [if_pos e0, e0]
    rcases ten_cases hx with e | e | e | e | e | e | e | e | e | e <;> rw [e] <;> simp only [bt_0, bt_1, bt_2, bt_3, bt_4, bt_5, bt_6, bt_7, bt_8, bt_9, p2_0, p2_1, p2_2, p2_3, p2_4, p2_5, p2_6, p2_7, p2_8, p2_9] <;> omega
  · rw [if_neg e0]
    rcases ten_cases hx with e | e | e | e | e | e | e | e | e | e <;> subst e <;> rcases ten_cases hx' with e | e | e | e | e | e | e | e | e | e <;> subst e <;> first | exact absurd rfl e0 | (simp only [bt_0, bt_1, bt_2, bt_3, bt_4, bt_5, bt_6, bt_7, bt_8, bt_9, p2_0, p2_1, p2_2, p2_3, p2_4, p2_5, p2_6, p2_7, p2_8, p2_9]; omega)
set_option maxHeartbeats 4000000 in
theorem bt_off_at {v x x' : Int} (hv : 0 ≤ v ∧ v < 1024) (hx : 0 ≤ x ∧ x < 10) (hx' : 0 ≤ x' ∧ x' < 10) : bt (v - bt v x * 2 ^ x.toNat) x' = if x' = x then 0 else bt v x' := by
  by_cases e0 : x' = x
  · rw [if_pos e0, e0]
    rcases ten_cases hx with e | e | e | e | e | e | e | e | e | e <;> rw [e] <;> simp only [bt_0, bt_1, bt_2, bt_3, bt_4, bt_5, bt_6, bt_7, bt_8, bt_9, p2_0, p2_1, p2_2, p2_3, p2_4, p2_5, p2_6, p2_7, p2_8, p2_9] <;> omega
  · rw [if_neg e0]
    rcases ten_cases hx with e | e | e | e | e | e | e | e | e | e <;> subst e <;> rcases ten_cases hx' with e | e | e | e | e | e | e | e | e | e <;> subst e <;> first | exact absurd rfl e0 | (simp only [bt_0, bt_1, bt_2, bt_3, bt_4, bt_5, bt_6, bt_7, bt_8, bt_9, p2_0, p2_1, p2_2, p2_3, p2_4, p2_5, p2_6, p2_7, p2_8, p2_9]; omega)
theorem bt_on_rng {v x : Int} (hv : 0 ≤ v ∧ v < 1024) (hx : 0 ≤ x ∧ x < 10) : 0 ≤ v + (1 - bt v x) * 2 ^ x.toNat ∧ v + (1 - bt v x) * 2 ^ x.toNat < 1024 := by
  rcases ten_cases hx with e | e | e | e | e | e | e | e | e | e <;> subst e <;> simp only [bt_0, bt_1, bt_2, bt_3, bt_4, bt_5, bt_6, bt_7, bt_8, bt_9, p2_0, p2_1, p2_2, p2_3, p2_4, p2_5, p2_6, p2_7, p2_8, p2_9] <;> omega
theorem bt_off_rng {v x : Int} (hv : 0 ≤ v ∧ v < 1024) (hx : 0 ≤ x ∧ x < 10) : 0 ≤ v - bt v x * 2 ^ x.toNat ∧ v - bt v x * 2 ^ x.toNat < 1024 := by
  rcases ten_cases hx with e | e | e | e | e | e | e | e | e | e <;> subst e <;> simp only [bt_0, bt_1, bt_2, bt_3, bt_4, bt_5, bt_6, bt_7, bt_8, bt_9, p2_0, p2_1, p2_2, p2_3, p2_4, p2_5, p2_6, p2_7, p2_8, p2_9] <;> omega
theorem eight_cases {w : Int} (h : 3 ≤ w ∧ w ≤ 10) : w = 3 ∨ w = 4 ∨ w = 5 ∨ w = 6 ∨ w = 7 ∨ w = 8 ∨ w = 9 ∨ w = 10 := by omega
set_option maxHeartbeats 4000000 in
theorem bt_line_at {v w x : Int} (hv : 0 ≤ v ∧ v < 1024) (hw : 3 ≤ w ∧ w ≤ 10) (hx : 0 ≤ x ∧ x < 10) : bt (v % 2 ^ w.toNat) x = if x < w then bt v x else 0 := by
  rcases eight_cases hw with e | e | e | e | e | e | e | e <;> subst e <;> rcases ten_cases hx with e | e | e | e | e | e | e | e | e | e <;> subst e <;> simp only [bt_0, bt_1, bt_2, bt_3, bt_4, bt_5, bt_6, bt_7, bt_8, bt_9, p2_3, p2_4, p2_5, p2_6, p2_7, p2_8, p2_9, p2_10] <;> split <;> omega
theorem bt_line_rng {v w : Int} (hv : 0 ≤ v ∧ v < 1024) (hw : 3 ≤ w ∧ w ≤ 10) : 0 ≤ v % 2 ^ w.toNat ∧ v % 2 ^ w.toNat < 1024 := by
  rcases eight_cases hw with e | e | e | e | e | e | e | e <;> subst e <;> simp only [p2_3, p2_4, p2_5, p2_6, p2_7, p2_8, p2_9, p2_10] <;> omega
