def stepAt (C : List Ent) (pc : Nat) (ls st : List AV) (m : Mem) : SR := match lkE C pc with
  | none => s_no
  | some (I, len, inf) => stepR shp I inf pc len ls st m
def wpF : Nat → List Ent → Nat → List AV → List AV → Mem → (AV → Mem → Prop) → Prop
  | 0, _, _, _, _, _, _ => False
  | n + 1, C, pc, ls, st, m, Q => runSR (stepAt C pc ls st m) (fun pc ls st m => wpF n C pc ls st m Q) (fun M a m Q' => wpF n (codeOf M) 0 a [] m Q') Q
theorem runSw_mono {x : Int} {nx nx' : Nat → Prop} (h : ∀ p, nx p → nx' p) (d : Nat) : ∀ l : List (Int × Nat), runSw x nx d l → runSw x nx' d l
  | [], k => h _ k
  | _ :: r, k => ⟨fun e => h _ (k.1 e), fun e => runSw_mono h d r (k.2 e)⟩
theorem backR_mono {rk : Nat} {r : AV} {k k' : List AV → Prop} (h : ∀ v, k v → k' v) (e : backR rk r k) : backR rk r k' := by
  match rk, e with
  | 0, e => exact h _ e
  | 1, ⟨x, e1, e2⟩ => exact ⟨x, e1, h _ e2⟩
  | q + 2, ⟨i, e1, e2⟩ => exact ⟨i, e1, h _ e2⟩
theorem runSR_mono {r : SR} {nx nx' : Nat → List AV → List AV → Mem → Prop} {cl cl' : Nat → List AV → Mem → (AV → Mem → Prop) → Prop} {rt rt' : AV → Mem → Prop}
    (h1 : ∀ pc ls st m, nx pc ls st m → nx' pc ls st m) (h2 : ∀ M a m (Q Q' : AV → Mem → Prop), (∀ r m, Q r m → Q' r m) → cl M a m Q → cl' M a m Q') (h3 : ∀ r m, rt r m → rt' r m) (h : runSR r nx cl rt) : runSR r nx' cl' rt' := by
  match r, h with
  | .inl (pc, ls, st, m), h => exact h1 _ _ _ _ h
  | .inr (.inl (g, pc, ls, st, m)), h => exact ⟨h.1, h1 _ _ _ _ h.2⟩
  | .inr (.inr (.inl (c, p1, p2, ls, st, m))), h => exact ⟨fun e => h1 _ _ _ _ (h.1 e), fun e => h1 _ _ _ _ (h.2 e)⟩
  | .inr (.inr (.inr (.inl (x, l, d, ls, st, m)))), h => exact runSw_mono (fun p => h1 _ _ _ _) d l h
  | .inr (.inr (.inr (.inr (.inl (M, a, rk, pc, ls, st, m))))), h => exact h2 _ _ _ _ _ (fun r m' e => backR_mono (fun v => h1 _ _ _ _) e) h
  | .inr (.inr (.inr (.inr (.inr (.inl (r, m)))))), h => exact h3 _ _ h
  | .inr (.inr (.inr (.inr (.inr (.inr (.inl (g, r, m))))))), h => exact ⟨h.1, h3 _ _ h.2⟩
theorem wpF_mono : ∀ (n n' : Nat) (C : List Ent) (pc : Nat) (ls st : List AV) (m : Mem) (Q Q' : AV → Mem → Prop), n ≤ n' → (∀ r m, Q r m → Q' r m) → wpF n C pc ls st m Q → wpF n' C pc ls st m Q'
  | 0, _, _, _, _, _, _, _, _, _, _, h => h.elim
  | n + 1, 0, _, _, _, _, _, _, _, hn, _, _ => absurd hn (by omega)
  | n + 1, n' + 1, C, pc, ls, st, m, Q, Q', hn, hQ, h =>
    runSR_mono (fun pc ls st m k => wpF_mono n n' C pc ls st m Q Q' (by omega) hQ k) (fun M a m Q1 Q2 h12 k => wpF_mono n n' _ _ _ _ _ Q1 Q2 (by omega) h12 k) hQ h
theorem runSw_det {x : Int} {nx : Nat → Prop} {P : (AV → Mem → Prop) → Nat → Prop} {Q : AV → Mem → Prop} (h : ∀ p, nx p → ∃ r m', Q r m' ∧ P (fun r1 m1 => r1 = r ∧ m1 = m') p) (d : Nat) :
    ∀ l : List (Int × Nat), runSw x nx d l → ∃ r m', Q r m' ∧ runSw x (P (fun r1 m1 => r1 = r ∧ m1 = m')) d l
  | [], k => h _ k
  | (a, t) :: l, k => by
    by_cases e : x = a
    · obtain ⟨r, m', h1, h2⟩ := h _ (k.1 e)
      exact ⟨r, m', h1, fun _ => h2, fun e' => absurd e e'⟩
    · obtain ⟨r, m', h1, h2⟩ := runSw_det h d l (k.2 e)
      exact ⟨r, m', h1, fun e' => absurd e' e, fun _ => h2⟩
theorem wpF_det : ∀ (n : Nat) (C : List Ent) (pc : Nat) (ls st : List AV) (m : Mem) (Q : AV → Mem → Prop), wpF n C pc ls st m Q → ∃ r m', Q r m' ∧ wpF n C pc ls st m (fun r1 m1 => r1 = r ∧ m1 = m')
  | 0, _, _, _, _, _, _, h => h.elim
  | n + 1, C, pc, ls, st, m, Q, h => by
    have h : runSR (stepAt C pc ls st m) (fun pc ls st m => wpF n C pc ls st m Q) (fun M a m Q' => wpF n (codeOf M) 0 a [] m Q') Q := h
    show ∃ r m', Q r m' ∧ runSR (stepAt C pc ls st m) (fun pc ls st m => wpF n C pc ls st m (fun r1 m1 => r1 = r ∧ m1 = m')) (fun M a m Q' => wpF n (codeOf M) 0 a [] m Q') (fun r1 m1 => r1 = r ∧ m1 = m')
    generalize stepAt C pc ls st m = s at h ⊢
    match s, h with
    | .inl (pc, ls, st, m), h => exact wpF_det n C pc ls st m Q h
    | .inr (.inl (g, pc, ls, st, m)), h =>
      obtain ⟨r, m', h1, h2⟩ := wpF_det n C pc ls st m Q h.2
      exact ⟨r, m', h1, h.1, h2⟩
    | .inr (.inr (.inl (c, p1, p2, ls, st, m))), h =>
      by_cases e : c
      · obtain ⟨r, m', h1, h2⟩ := wpF_det n C p1 ls st m Q (h.1 e)
        exact ⟨r, m', h1, fun _ => h2, fun e' => absurd e e'⟩
      · obtain ⟨r, m', h1, h2⟩ := wpF_det n C p2 ls st m Q (h.2 e)
        exact ⟨r, m', h1, fun e' => absurd e' e, fun _ => h2⟩
    | .inr (.inr (.inr (.inl (x, l, d, ls, st, m)))), h =>
      exact runSw_det (P := fun Q p => wpF n C p ls st m Q) (fun p k => wpF_det n C p ls st m Q k) d l h
    | .inr (.inr (.inr (.inr (.inl (M, a, rk, pc, ls, st, m))))), h =>
      obtain ⟨r, m', h1, h2⟩ := wpF_det n (codeOf M) 0 a [] m _ h
      have h3 : ∃ r' m'', Q r' m'' ∧ backR rk r (fun v => wpF n C pc ls (v ++ st) m' (fun r1 m1 => r1 = r' ∧ m1 = m'')) := by
        match rk, h1 with
        | 0, e => exact wpF_det n C pc ls _ m' Q e
        | 1, ⟨x, e1, e2⟩ =>
          obtain ⟨r', m'', k1, k2⟩ := wpF_det n C pc ls _ m' Q e2
          exact ⟨r', m'', k1, x, e1, k2⟩
        | q + 2, ⟨i, e1, e2⟩ =>
          obtain ⟨r', m'', k1, k2⟩ := wpF_det n C pc ls _ m' Q e2
          exact ⟨r', m'', k1, i, e1, k2⟩
      obtain ⟨r', m'', k1, k2⟩ := h3
      exact ⟨r', m'', k1, wpF_mono n n _ _ _ _ _ _ _ (Nat.le_refl n) (fun r1 m1 e => by rw [e.1, e.2]; exact k2) h2⟩
    | .inr (.inr (.inr (.inr (.inr (.inl (r, m)))))), h => exact ⟨r, m, h, rfl, rfl⟩
    | .inr (.inr (.inr (.inr (.inr (.inr (.inl (g, r, m))))))), h => exact ⟨r, m, h.2, h.1, rfl, rfl⟩
/-- from this place of this code, with these locals, stack and memory, the method comes to its end, and Q holds of its answer and of memory -/
def WP (C : List Ent) (pc : Nat) (ls st : List AV) (m : Mem) (Q : AV → Mem → Prop) : Prop := ∃ n, wpF n C pc ls st m Q
theorem WP.mono {C : List Ent} {pc : Nat} {ls st : List AV} {m : Mem} {Q Q' : AV → Mem → Prop} (h : WP C pc ls st m Q) (hQ : ∀ r m, Q r m → Q' r m) : WP C pc ls st m Q' := by
  obtain ⟨n, h⟩ := h
  exact ⟨n, wpF_mono n n _ _ _ _ _ _ _ (Nat.le_refl n) hQ h⟩
theorem WP.use {C : List Ent} {pc : Nat} {ls st : List AV} {m : Mem} {Q Q' : AV → Mem → Prop} (hQ : ∀ r m, Q r m → Q' r m) (h : WP C pc ls st m Q) : WP C pc ls st m Q' := h.mono hQ
abbrev WPs (C : List Ent) (pc : Nat) (ls st : List AV) (m : Mem) (Q : AV → Mem → Prop) : Prop := runSR (stepAt C pc ls st m) (fun pc ls st m => WP C pc ls st m Q) (fun M a m Q' => WP (codeOf M) 0 a [] m Q') Q
theorem runSw_some {x : Int} {P : Nat → Nat → Prop} (mono : ∀ n n' p, n ≤ n' → P n p → P n' p) (d : Nat) : ∀ l : List (Int × Nat), runSw x (fun p => ∃ n, P n p) d l → ∃ n, runSw x (P n) d l
  | [], ⟨n, k⟩ => ⟨n, k⟩
  | (a, t) :: l, k => by
    by_cases e : x = a
    · obtain ⟨n, h⟩ := k.1 e
      exact ⟨n, fun _ => h, fun e' => absurd e e'⟩
    · obtain ⟨n, h⟩ := runSw_some mono d l (k.2 e)
      exact ⟨n, fun e' => absurd e' e, fun _ => h⟩
theorem WP.of_step {C : List Ent} {pc : Nat} {ls st : List AV} {m : Mem} {Q : AV → Mem → Prop} (h : WPs C pc ls st m Q) : WP C pc ls st m Q := by
  suffices hh : ∃ n, runSR (stepAt C pc ls st m) (fun pc ls st m => wpF n C pc ls st m Q) (fun M a m Q' => wpF n (codeOf M) 0 a [] m Q') Q by
    obtain ⟨n, k⟩ := hh
    exact ⟨n + 1, k⟩
  unfold WPs at h
  generalize stepAt C pc ls st m = s at h ⊢
  match s, h with
  | .inl (pc, ls, st, m), h => exact h
  | .inr (.inl (g, pc, ls, st, m)), h =>
    obtain ⟨n, k⟩ := h.2
    exact ⟨n, h.1, k⟩
  | .inr (.inr (.inl (c, p1, p2, ls, st, m))), h =>
    by_cases e : c
    · obtain ⟨n, k⟩ := h.1 e
      exact ⟨n, fun _ => k, fun e' => absurd e e'⟩
    · obtain ⟨n, k⟩ := h.2 e
      exact ⟨n, fun e' => absurd e' e, fun _ => k⟩
  | .inr (.inr (.inr (.inl (x, l, d, ls, st, m)))), h =>
    exact runSw_some (P := fun n p => wpF n C p ls st m Q) (fun n n' p hn k => wpF_mono n n' _ _ _ _ _ _ _ hn (fun _ _ e => e) k) d l h
  | .inr (.inr (.inr (.inr (.inl (M, a, rk, pc, ls, st, m))))), h =>
    obtain ⟨n1, h⟩ := h
    obtain ⟨r, m', h1, h2⟩ := wpF_det n1 (codeOf M) 0 a [] m _ h
    have h3 : ∃ n2, backR rk r (fun v => wpF n2 C pc ls (v ++ st) m' Q) := by
      match rk, h1 with
      | 0, ⟨n, e⟩ => exact ⟨n, e⟩
      | 1, ⟨x, e1, n, e2⟩ => exact ⟨n, x, e1, e2⟩
      | q + 2, ⟨i, e1, n, e2⟩ => exact ⟨n, i, e1, e2⟩
    obtain ⟨n2, h3⟩ := h3
    refine ⟨n1 + n2, wpF_mono n1 (n1 + n2) _ _ _ _ _ _ _ (by omega) (fun r1 m1 e => ?_) h2⟩
    rw [e.1, e.2]
    exact backR_mono (fun v k => wpF_mono n2 (n1 + n2) _ _ _ _ _ _ _ (by omega) (fun _ _ e => e) k) h3
  | .inr (.inr (.inr (.inr (.inr (.inl (r, m)))))), h => exact ⟨0, h⟩
  | .inr (.inr (.inr (.inr (.inr (.inr (.inl (g, r, m))))))), h => exact ⟨0, h⟩
def elN : Nat → List Nat → Bool
  | _, [] => false
  | p, q :: r => match Nat.beq p q with
    | true => true
    | false => elN p r
/-- some steps, up to the places of 'cut' -/
def stN : Nat → List Nat → List Ent → (AV → Mem → Prop) → Nat → List AV → List AV → Mem → Prop
  | 0, _, C, Q, pc, ls, st, m => WP C pc ls st m Q
  | k + 1, cut, C, Q, pc, ls, st, m => match elN pc cut with
    | true => WP C pc ls st m Q
    | false => runSR (stepAt C pc ls st m) (stN k cut C Q) (fun M a m Q' => WP (codeOf M) 0 a [] m Q') Q
theorem stN_WP : ∀ (k : Nat) (cut : List Nat) (C : List Ent) (Q : AV → Mem → Prop) (pc : Nat) (ls st : List AV) (m : Mem), stN k cut C Q pc ls st m → WP C pc ls st m Q
  | 0, _, _, _, _, _, _, _, h => h
  | k + 1, cut, C, Q, pc, ls, st, m, h => by
    unfold stN at h
    cases hc : elN pc cut with
    | true => rw [hc] at h; exact h
    | false =>
      rw [hc] at h
      exact WP.of_step (runSR_mono (fun pc ls st m e => stN_WP k cut C Q pc ls st m e) (fun M a m Q1 Q2 h12 e => e.mono h12) (fun _ _ e => e) h)
theorem WP.seg (k : Nat) (cut : List Nat) {C : List Ent} {Q : AV → Mem → Prop} {pc : Nat} {ls st : List AV} {m : Mem} (h : runSR (stepAt C pc ls st m) (stN k cut C Q) (fun M a m Q' => WP (codeOf M) 0 a [] m Q') Q) : WP C pc ls st m Q :=
  WP.of_step (runSR_mono (fun pc ls st m e => stN_WP k cut C Q pc ls st m e) (fun M a m Q1 Q2 h12 e => e.mono h12) (fun _ _ e => e) h)
