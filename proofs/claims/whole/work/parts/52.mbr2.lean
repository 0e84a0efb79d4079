/-! Canonical labels; the model's bridges. -/
noncomputable def labC (O : Int → Prop) : Int → Int := fun p => if 0 ≤ p ∧ p < 144 then (@dite _ (∃ f, LabOK O f) (Classical.propDecidable _) (fun h => Classical.choose h p) (fun _ => 0)) else 0
theorem labC_eq {O : Int → Prop} {f : Int → Int} (h : LabOK O f) (hz : ∀ p, ¬ (0 ≤ p ∧ p < 144) → f p = 0) : f = labC O := by
  funext p
  unfold labC
  by_cases c : 0 ≤ p ∧ p < 144
  · rw [if_pos c, dif_pos ⟨f, h⟩]
    exact h.uniq (Classical.choose_spec (⟨f, h⟩ : ∃ f, LabOK O f)) c.1 c.2
  · rw [if_neg c]; exact hz p c
theorem RunAt_eq {m m' : Mem} {O : Int → Prop} {f : Int → Int} {k i : Int} (h : ∀ q, 40 ≤ q → q ≤ 45 → m' q = m q) : RunAt m' O f k i ↔ RunAt m O f k i := by
  unfold RunAt
  rw [h 40 (by decide) (by decide), h 41 (by decide) (by decide), h 42 (by decide) (by decide), h 43 (by decide) (by decide), h 44 (by decide) (by decide), h 45 (by decide) (by decide)]
theorem MRn_eq {m m' : Mem} {l : Int} {f : Int → Int} (h34 : m' 34 = m 34) (h : ∀ q, 37 ≤ q → q ≤ 45 → m' q = m q) (h6 : m' 33 0 6 = m 33 0 6) (h7 : m' 33 0 7 = m 33 0 7) (h14 : m' 33 0 14 = m 33 0 14) : MRn m' l f ↔ MRn m l f := by
  unfold MRn
  rw [MPc_eq h34 (h 37 (by decide) (by decide)) (h 38 (by decide) (by decide)) (h 39 (by decide) (by decide)) h6 h7, h14, OM_eq h34]
  constructor
  · rintro ⟨a, b, c⟩
    exact ⟨a, b, fun k k0 k1 hk => (RunAt_eq (fun q q0 q1 => h q (by omega) q1)).mp (c k k0 k1 hk)⟩
  · rintro ⟨a, b, c⟩
    exact ⟨a, b, fun k k0 k1 hk => (RunAt_eq (fun q q0 q1 => h q (by omega) q1)).mpr (c k k0 k1 hk)⟩
/-- what is true of all stages of the bridges -/
def BOk (O : Int → Prop) (f : Int → Int) (T : Nat) (s : BS) : Prop := (0 ≤ s.2.2.1 ∧ s.2.2.1 ≤ cP (RK O f) T) ∧ (∀ q, s.2.1 q = -6 ∨ (0 ≤ s.2.1 q ∧ s.2.1 q < s.2.2.1 ∧ O q)) ∧ ∀ b, 0 ≤ b → b < s.2.2.1 → RK O f (s.2.2.2 b) ∧ 0 ≤ s.2.2.2 b ∧ s.2.2.2 b < (T : Int)
theorem brS_ok (O : Int → Prop) (f : Int → Int) : ∀ T : Nat, BOk O f T (brS O f T)
  | 0 => ⟨⟨Int.le_refl 0, (cP_rng 0).1⟩, fun _ => Or.inl rfl, fun b b0 b1 => absurd b1 (by show ¬ b < 0; omega)⟩
  | T + 1 => by
    obtain ⟨⟨a1, a2⟩, a3, a4⟩ := brS_ok O f T
    by_cases c : Sel O f (brS O f T) (T : Int)
    · rw [brS_yes c]
      generalize hs : brS O f T = s at *
      refine ⟨⟨by show 0 ≤ s.2.2.1 + 1; omega, ?_⟩, fun q => ?_, fun b b0 b1 => ?_⟩
      · rw [cP_yes c.1]
        show s.2.2.1 + 1 ≤ _
        omega
      · show (@ite _ (onR (T : Int) q) (Classical.propDecidable _) s.2.2.1 (s.2.1 q)) = -6 ∨ (0 ≤ (@ite _ (onR (T : Int) q) (Classical.propDecidable _) s.2.2.1 (s.2.1 q)) ∧ (@ite _ (onR (T : Int) q) (Classical.propDecidable _) s.2.2.1 (s.2.1 q)) < s.2.2.1 + 1 ∧ O q)
        by_cases d : onR (T : Int) q
        · rw [if_pos d]
          obtain ⟨i, i0, i1, e⟩ := d
          exact Or.inr ⟨a1, by omega, by rw [e]; exact c.1.1.2.2.1 i i0 i1⟩
        · rw [if_neg d]
          rcases a3 q with e | ⟨e1, e2, e3⟩
          · exact Or.inl e
          · exact Or.inr ⟨e1, by omega, e3⟩
      · have b1 : b < s.2.2.1 + 1 := b1
        show RK O f (if b = s.2.2.1 then (T : Int) else s.2.2.2 b) ∧ 0 ≤ (if b = s.2.2.1 then (T : Int) else s.2.2.2 b) ∧ (if b = s.2.2.1 then (T : Int) else s.2.2.2 b) < ((T + 1 : Nat) : Int)
        by_cases e : b = s.2.2.1
        · rw [if_pos e]
          exact ⟨c.1, by omega, by omega⟩
        · rw [if_neg e]
          obtain ⟨e1, e2, e3⟩ := a4 b b0 (by omega)
          exact ⟨e1, e2, by omega⟩
    · rw [brS_no c]
      refine ⟨⟨a1, ?_⟩, a3, fun b b0 b1 => ?_⟩
      · have := cP_mono (P := RK O f) (show T ≤ T + 1 by omega)
        omega
      · obtain ⟨e1, e2, e3⟩ := a4 b b0 b1
        exact ⟨e1, e2, by omega⟩
theorem run_xy {O : Int → Prop} (hC : Cel O) {p d n : Int} (hd : d = 0 ∨ d = 1) (h : ∀ i, 0 ≤ i → i < n → O (p + i * stp d)) : ∀ k : Nat, (k : Int) < n → (p + (k : Int) * stp d) % 12 = p % 12 + (k : Int) * (1 - d) ∧ (p + (k : Int) * stp d) / 12 = p / 12 + (k : Int) * d
  | 0, _ => by simp
  | k + 1, hk => by
    obtain ⟨i1, i2⟩ := run_xy hC hd h k (by omega)
    have hO := hC _ (h (k : Int) (by omega) (by omega))
    rcases hd with rfl | rfl
    · have e : stp 0 = 1 := rfl
      rw [e] at *
      omega
    · have e : stp 1 = 12 := rfl
      rw [e] at *
      omega
/-- where a run lies -/
theorem run_geo {O : Int → Prop} {f : Int → Int} (hC : Cel O) {k : Int} (hk : RK O f k) : (k / 144 % 2 = 0 ∨ k / 144 % 2 = 1) ∧ 1 ≤ k / 288 ∧ k / 288 ≤ 10 ∧ (0 ≤ k % 144 - stp (k / 144 % 2) ∧ k % 144 - stp (k / 144 % 2) < 144) ∧ (0 ≤ k % 144 + k / 288 * stp (k / 144 % 2) ∧ k % 144 + k / 288 * stp (k / 144 % 2) < 144) ∧ ∀ i, 0 ≤ i → i < k / 288 → (k % 144 + i * stp (k / 144 % 2)) % 12 = k % 144 % 12 + i * (1 - k / 144 % 2) ∧ (k % 144 + i * stp (k / 144 % 2)) / 12 = k % 144 / 12 + i * (k / 144 % 2) := by
  have hd : k / 144 % 2 = 0 ∨ k / 144 % 2 = 1 := by omega
  obtain ⟨s1, s2, s3, s4⟩ := hk.1
  have h0 := hC _ hk.1.at0
  generalize hp : k % 144 = p at *
  generalize hdd : k / 144 % 2 = d at *
  generalize hn : k / 288 = n at *
  have xy := run_xy hC hd s3
  have xyi : ∀ i, 0 ≤ i → i < n → (p + i * stp d) % 12 = p % 12 + i * (1 - d) ∧ (p + i * stp d) / 12 = p / 12 + i * d := fun i i0 i1 => by
    have := xy i.toNat (by omega)
    rwa [show ((i.toNat : Nat) : Int) = i by omega] at this
  have hl := xyi (n - 1) (by omega) (by omega)
  have hcl := hC _ (s3 (n - 1) (by omega) (by omega))
  refine ⟨hd, s1, ?_, ?_, ?_, xyi⟩
  · rcases hd with rfl | rfl <;> omega
  · rcases hd with rfl | rfl
    · have e : stp 0 = 1 := rfl
      rw [e] at *
      omega
    · have e : stp 1 = 12 := rfl
      rw [e] at *
      omega
  · rcases hd with rfl | rfl
    · have e : stp 0 = 1 := rfl
      rw [e] at *
      omega
    · have e : stp 1 = 12 := rfl
      rw [e] at *
      omega
theorem run_in {m : Mem} {l : Int} {f : Int → Int} (hw : MW m) {k : Int} (hk : RK (OM m l) f k) : ∀ i, 0 ≤ i → i < k / 288 → inS m (k % 144 % 12 - 1 + i * (1 - k / 144 % 2)) (k % 144 / 12 - 1 + i * (k / 144 % 2)) := by
  intro i i0 i1
  have g := (run_geo (OM_cel hw) hk).2.2.2.2.2 i i0 i1
  have := (hk.1.2.2.1 i i0 i1).1
  rw [g.1, g.2] at this
  rw [show k % 144 % 12 - 1 + i * (1 - k / 144 % 2) = k % 144 % 12 + i * (1 - k / 144 % 2) - 1 by omega, show k % 144 / 12 - 1 + i * (k / 144 % 2) = k % 144 / 12 + i * (k / 144 % 2) - 1 by omega]
  exact this
def onP (p d n q : Int) : Prop := ∃ i, 0 ≤ i ∧ i < n ∧ q = p + i * stp d
set_option maxHeartbeats 1000000 in
theorem sM_take {Q : AV → Mem → Prop} {r x y n d : Int} {m : Mem} (hw : MW m) (hr : 0 ≤ r ∧ r < 100) (hA : AtRun m r x y n d) (hd : d = 0 ∨ d = 1) (hn : 0 ≤ n ∧ n ≤ 10) (hin : ∀ i, 0 ≤ i → i < n → inS m (x + i * (1 - d)) (y + i * d)) (hb : 0 ≤ m 33 0 18 ∧ m 33 0 18 < 100)
    (h : ∀ m', (∀ q, q ≠ 33 → q ≠ 47 → q ≠ 48 → m' q = m q) → (∀ j, j ≠ 18 → m' 33 0 j = m 33 0 j) → m' 33 0 18 = m 33 0 18 + 1 → (∀ j, j ≠ m 33 0 18 → m' 47 0 j = m 47 0 j) → m' 47 0 (m 33 0 18) = r → (∀ a b, inS m a b → (onP (pl x y) d n (pl a b) → m' 48 0 (10 * b + a) = m 33 0 18) ∧ (¬ onP (pl x y) d n (pl a b) → m' 48 0 (10 * b + a) = m 48 0 (10 * b + a))) → Q (.inl 0) m') : WP cM_take 0 [.inr (33, 0), .inl r, uu] [] m Q := by
  obtain ⟨a1, a2, a3, a4⟩ := hA
  have hw' := hw
  obtain ⟨w1, w2, w3, w4⟩ := hw'
  refine gM_take_0 r m ?_
  refine loopU (σ := Mem) (N := n) (G := fun (k : Int) (s : Mem) => WP cM_take 2 [.inr (33, 0), .inl r, .inl k] [] s Q) (I := fun (k : Int) (s : Mem) => (∀ q, q ≠ 48 → s q = m q) ∧ ∀ a b, inS m a b → (onP (pl x y) d k (pl a b) → s 48 0 (10 * b + a) = m 33 0 18) ∧ (¬ onP (pl x y) d k (pl a b) → s 48 0 (10 * b + a) = m 48 0 (10 * b + a))) ?_ ?_ 0 m (Int.le_refl 0) hn.1 ⟨fun _ _ => rfl, fun a b hab => ⟨fun z => ?_, fun _ => rfl⟩⟩
  · rintro s ⟨hf, hs⟩
    have e33 : s 33 = m 33 := hf 33 (by decide)
    have e42 : s 42 = m 42 := hf 42 (by decide)
    have g := @gM_take_2 Q r n s
    rw [e33, e42, a3] at g
    refine g ⟨hr, fun _ => ⟨hb, ?_⟩, fun z => absurd (Int.le_refl _) z⟩
    have e : (mset s 47 0 (m 33 0 18) r) 33 0 18 = m 33 0 18 := by rw [mset_k (by decide), e33]
    rw [e]
    refine ⟨⟨by omega, by omega⟩, h _ (fun q q1 q2 q3 => ?_) (fun j j1 => ?_) ?_ (fun j j1 => ?_) ?_ (fun a b hab => ?_)⟩
    · rw [mset_k q1, mset_k q2]; exact hf q q3
    · rw [mset_i, if_neg j1, mset_k (by decide), e33]
    · rw [mset_i, if_pos rfl]
    · rw [mset_k (by decide), mset_i, if_neg j1, hf 47 (by decide)]
    · rw [mset_k (by decide), mset_i, if_pos rfl]
    · rw [mset_k (by decide), mset_k (by decide)]
      exact hs a b hab
  · rintro k s k0 k1 ⟨hf, hs⟩ hN
    have hc := hin k k0 k1
    have hc' := hc
    unfold inS at hc'
    have e0 := pl_stp (x := x) (y := y) (i := k) hd
    have g1 : Rng (1 - d) := ⟨by omega, by omega⟩
    have g2 : Rng (k * (1 - d)) := by rcases hd with rfl | rfl <;> exact ⟨by omega, by omega⟩
    have g3 : Rng (x + k * (1 - d)) := ⟨by omega, by omega⟩
    have g4 : Rng (k * d) := by rcases hd with rfl | rfl <;> exact ⟨by omega, by omega⟩
    have g5 : Rng (y + k * d) := ⟨by omega, by omega⟩
    have g := @gM_take_2 Q r k s
    rw [hf 42 (by decide), hf 43 (by decide), hf 40 (by decide), hf 41 (by decide), a1, a2, a3, a4] at g
    refine g ⟨hr, fun z => by omega, fun _ => ⟨hr, hr, g1, g2, g3, hr, hr, g4, g5, sM_at (by omega) (by omega) ⟨_, rfl, by omega, ⟨by omega, by omega⟩, ?_⟩⟩⟩
    rw [hf 33 (by decide)]
    refine hN _ ⟨fun q hq => (mset_k hq).trans (hf q hq), fun a b hab => ?_⟩
    have hab' := hab
    unfold inS at hab'
    rw [mset_i]
    generalize hX : x + k * (1 - d) = X at *
    generalize hY : y + k * d = Y at *
    by_cases e : 10 * b + a = 10 * Y + X
    · rw [if_pos e]
      refine ⟨fun _ => rfl, fun z => absurd ⟨k, k0, by omega, ?_⟩ z⟩
      rw [← e0]
      have : a = X ∧ b = Y := by omega
      rw [this.1, this.2]
    · rw [if_neg e]
      have ne : pl a b ≠ pl x y + k * stp d := by
        rw [← e0]
        unfold pl
        omega
      refine ⟨fun z => (hs a b hab).1 ?_, fun z => (hs a b hab).2 (fun w => z ?_)⟩
      · obtain ⟨i, i0, i1, ei⟩ := z
        refine ⟨i, i0, ?_, ei⟩
        rcases Int.lt_or_eq_of_le (Int.le_of_lt_add_one i1) with c | rfl
        · exact c
        · exact absurd ei ne
      · obtain ⟨i, i0, i1, ei⟩ := w
        exact ⟨i, i0, by omega, ei⟩
  · obtain ⟨i, i0, i1, -⟩ := z
    omega
