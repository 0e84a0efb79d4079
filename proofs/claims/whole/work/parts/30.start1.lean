def posL : List (List Nat) := [[0], [1, 5, 8], [2, 6, 9], [3, 7, 10], [4], [12], [13, 32, 51, 70], [14, 33, 52, 71], [11], [15, 34, 53, 72], [16, 35, 54, 73], [17, 36, 55, 74], [18, 37, 56, 75], [19, 38, 57, 76], [20, 39, 58, 77], [21, 40, 59, 78], [22, 41, 60, 79], [23, 42, 61, 80], [24, 43, 62, 81], [25, 44, 63, 82], [26, 45, 64, 83], [27, 46, 65, 84], [28, 47, 66, 85], [29, 48, 67, 86], [30, 49, 68, 87], [31, 50, 69, 88], [89], [90], [], [], [], [], [], [91], [92], [93], [94], [95], [96], [97], [98], [99], [100], [101], [102], [103], [104], [105], [106], [107], [108], [109], [110], [111], [112], [113]]
def posK (q : Nat) (i : Int) : Nat := (posL.getD q []).getD i.toNat 0
def mInit (q : Nat) (_ j : Int) : Int := match q with
  | 1 => if j = 0 ∨ j = 1 then 8 else 0
  | 34 => if j = 500 ∨ j = 501 then 8 else 0
  | _ => 0
/-- memory behind the constructors -/
def m00 (L : Nat) (xs : Nat → Int32) : Mem := fun q i j => if q = 32 then (if i = 0 then (if 0 ≤ j ∧ j < (L : Int) then (xs j.toNat).toInt else 0) else if i = 1 ∧ j = 0 then (L : Int) else 0) else mInit q i j
def ws1 : List CE := [.inr (.inr (6, dfl 6))]
def ws2 : List CE := (cF 3000 (kodeOf 6) 0 [.inr (some 0), .inr none, .inr none] [] ws1).getD []
def ws3 : List CE := ws2 ++ [.inr (.inr (7, dfl 7))]
def ws4 : List CE := (cF 3000 (kodeOf 7) 0 [.inr (some 91)] [] ws3).getD []
theorem ws2_some : (cF 3000 (kodeOf 6) 0 [.inr (some 0), .inr none, .inr none] [] ws1).isSome = true := by decide +kernel
theorem ws2_eq : cF 3000 (kodeOf 6) 0 [.inr (some 0), .inr none, .inr none] [] ws1 = some ws2 := by
  unfold ws2
  cases h : cF 3000 (kodeOf 6) 0 [.inr (some 0), .inr none, .inr none] [] ws1 with
  | none => have := ws2_some; rw [h] at this; cases this
  | some x => rfl
theorem ws4_some : (cF 3000 (kodeOf 7) 0 [.inr (some 91)] [] ws3).isSome = true := by decide +kernel
theorem ws4_eq : cF 3000 (kodeOf 7) 0 [.inr (some 91)] [] ws3 = some ws4 := by
  unfold ws4
  cases h : cF 3000 (kodeOf 7) 0 [.inr (some 91)] [] ws3 with
  | none => have := ws4_some; rw [h] at this; cases this
  | some x => rfl
theorem ws2_len : ws2.length = 91 := by decide +kernel
theorem ws4_len : ws4.length = 114 := by decide +kernel
theorem ws4_sl : slW ws4 ≤ 100000 := by decide +kernel
/-- a cell behind the constructors is what memory says -/
def okCell (c : Nat × Int) : Bool := match ws4[posK c.1 c.2]?, shp c.1 with
  | some (.inl (t, n, f)), .inl (t', n') => Nat.beq t t' && Nat.beq n n' && (List.range n).all (fun j => decide (f j = mInit c.1 c.2 (j : Int)))
  | some (.inr (.inl (t, n, f))), .inr (.inr (.inl (n', q', o, t'))) => Nat.beq t t' && Nat.beq n n' && (List.range n).all (fun j => decide (f j = some (posK q' ((o : Int) + (j : Int))))) && !(Nat.ble 28 q' && Nat.ble q' 32)
  | some (.inr (.inr (ci, fs))), .inr (.inl (ci', gs)) => Nat.beq ci ci' && Nat.beq fs.length gs.length && (fs.zipIdx).all (fun x => match x.1, gs[x.2]? with
    | .inl z, some (0, _) => decide (z = mInit c.1 c.2 (x.2 : Int))
    | .inl z, some (1, _) => decide (z = mInit c.1 c.2 (x.2 : Int))
    | .inr (some k), some (q' + 2, 0) => Nat.beq k (posK q' c.2) && !(Nat.ble 28 q' && Nat.ble q' 32)
    | .inr (some k), some (q' + 2, _ + 1) => Nat.beq k (posK q' 0) && !(Nat.ble 28 q' && Nat.ble q' 32)
    | _, _ => false)
  | _, _ => false
theorem okCells : cellsL.all okCell = true := by decide +kernel
theorem posK_nd : (cellsL.map (fun c => posK c.1 c.2)).Nodup := by decide +kernel
theorem posK_lt : cellsL.all (fun c => Nat.blt (posK c.1 c.2) 114 && !(Nat.ble 28 c.1 && Nat.ble c.1 32)) = true := by decide +kernel
theorem rng_mem {a n M : Nat} (h1 : a ≤ M) (h2 : M < a + n) : M ∈ rng a n := List.mem_map.mpr ⟨M - a, List.mem_range.mpr (by omega), by omega⟩
theorem ckE_all (M : Nat) (h : M < 161) : ckE M = true := by
  rcases Nat.lt_or_ge M 11 with c0 | c0
  · exact List.all_eq_true.mp ckE_0 M (rng_mem (by omega) (by omega))
  rcases Nat.lt_or_ge M 18 with c11 | c11
  · exact List.all_eq_true.mp ckE_11 M (rng_mem (by omega) (by omega))
  rcases Nat.lt_or_ge M 25 with c18 | c18
  · exact List.all_eq_true.mp ckE_18 M (rng_mem (by omega) (by omega))
  rcases Nat.lt_or_ge M 30 with c25 | c25
  · exact List.all_eq_true.mp ckE_25 M (rng_mem (by omega) (by omega))
  rcases Nat.lt_or_ge M 38 with c30 | c30
  · exact List.all_eq_true.mp ckE_30 M (rng_mem (by omega) (by omega))
  rcases Nat.lt_or_ge M 43 with c38 | c38
  · exact List.all_eq_true.mp ckE_38 M (rng_mem (by omega) (by omega))
  rcases Nat.lt_or_ge M 47 with c43 | c43
  · exact List.all_eq_true.mp ckE_43 M (rng_mem (by omega) (by omega))
  rcases Nat.lt_or_ge M 55 with c47 | c47
  · exact List.all_eq_true.mp ckE_47 M (rng_mem (by omega) (by omega))
  rcases Nat.lt_or_ge M 59 with c55 | c55
  · exact List.all_eq_true.mp ckE_55 M (rng_mem (by omega) (by omega))
  rcases Nat.lt_or_ge M 64 with c59 | c59
  · exact List.all_eq_true.mp ckE_59 M (rng_mem (by omega) (by omega))
  rcases Nat.lt_or_ge M 69 with c64 | c64
  · exact List.all_eq_true.mp ckE_64 M (rng_mem (by omega) (by omega))
  rcases Nat.lt_or_ge M 75 with c69 | c69
  · exact List.all_eq_true.mp ckE_69 M (rng_mem (by omega) (by omega))
  rcases Nat.lt_or_ge M 79 with c75 | c75
  · exact List.all_eq_true.mp ckE_75 M (rng_mem (by omega) (by omega))
  rcases Nat.lt_or_ge M 86 with c79 | c79
  · exact List.all_eq_true.mp ckE_79 M (rng_mem (by omega) (by omega))
  rcases Nat.lt_or_ge M 95 with c86 | c86
  · exact List.all_eq_true.mp ckE_86 M (rng_mem (by omega) (by omega))
  rcases Nat.lt_or_ge M 100 with c95 | c95
  · exact List.all_eq_true.mp ckE_95 M (rng_mem (by omega) (by omega))
  rcases Nat.lt_or_ge M 103 with c100 | c100
  · exact List.all_eq_true.mp ckE_100 M (rng_mem (by omega) (by omega))
  rcases Nat.lt_or_ge M 105 with c103 | c103
  · exact List.all_eq_true.mp ckE_103 M (rng_mem (by omega) (by omega))
  rcases Nat.lt_or_ge M 109 with c105 | c105
  · exact List.all_eq_true.mp ckE_105 M (rng_mem (by omega) (by omega))
  rcases Nat.lt_or_ge M 114 with c109 | c109
  · exact List.all_eq_true.mp ckE_109 M (rng_mem (by omega) (by omega))
  rcases Nat.lt_or_ge M 118 with c114 | c114
  · exact List.all_eq_true.mp ckE_114 M (rng_mem (by omega) (by omega))
  rcases Nat.lt_or_ge M 122 with c118 | c118
  · exact List.all_eq_true.mp ckE_118 M (rng_mem (by omega) (by omega))
  rcases Nat.lt_or_ge M 126 with c122 | c122
  · exact List.all_eq_true.mp ckE_122 M (rng_mem (by omega) (by omega))
  rcases Nat.lt_or_ge M 131 with c126 | c126
  · exact List.all_eq_true.mp ckE_126 M (rng_mem (by omega) (by omega))
  rcases Nat.lt_or_ge M 136 with c131 | c131
  · exact List.all_eq_true.mp ckE_131 M (rng_mem (by omega) (by omega))
  rcases Nat.lt_or_ge M 138 with c136 | c136
  · exact List.all_eq_true.mp ckE_136 M (rng_mem (by omega) (by omega))
  rcases Nat.lt_or_ge M 142 with c138 | c138
  · exact List.all_eq_true.mp ckE_138 M (rng_mem (by omega) (by omega))
  rcases Nat.lt_or_ge M 146 with c142 | c142
  · exact List.all_eq_true.mp ckE_142 M (rng_mem (by omega) (by omega))
  rcases Nat.lt_or_ge M 151 with c146 | c146
  · exact List.all_eq_true.mp ckE_146 M (rng_mem (by omega) (by omega))
  rcases Nat.lt_or_ge M 158 with c151 | c151
  · exact List.all_eq_true.mp ckE_151 M (rng_mem (by omega) (by omega))
  exact List.all_eq_true.mp ckE_158 M (rng_mem (by omega) (by omega))
theorem code_ok (M : Nat) (r : MR) (h : mrec[M]? = some r) : ∀ e ∈ codeOf M, okE r e = true := by
  have hM : M < 161 := (List.getElem?_eq_some_iff.mp h).1
  have h1 := ckE_all M hM
  unfold ckE at h1
  rw [h] at h1
  exact List.all_eq_true.mp h1
def stT (q : Nat) : Term := .static (statN q).1 (statN q).2 "[I"
def stC (q : Nat) : List Cond := [.arrayOf (stT q) .int, .eq (.length (stT q)) (.int (Int32.ofNat (valsOf q).length))] ++ (List.range (valsOf q).length).map (fun j => .eq (.elem (stT q) (.int (Int32.ofNat j))) (.int (Int32.ofInt ((valsOf q).getD j 0))))
theorem stC_in : [28, 29, 30, 31].all (fun q => (stC q).all (fun w => decide (w ∈ flatC (Jvm.Cond.and given_1 narrow_1)))) = true := by decide +kernel
theorem stL_in : [28, 29, 30, 31].all (fun q => decide (Cond.laysStatic (statN q).1 (statN q).2 "[I" ∈ lw_tbl) && decide (Cond.initialized (statN q).1 ∈ lw_tbl)) = true := by decide +kernel
theorem nest_in : (List.range 12).all (fun o => (mcp.getD o []).all (fun x => !(Nat.beq x.2.2 3) || decide (cnwd o x ∈ lw_tbl)) && (scp.getD o []).all (fun x => !(Nat.beq x.2.2 1) || decide (snwd o x ∈ lw_tbl))) = true := by decide +kernel
