/-! the pure picture: a chart D = (counts, ranked costs, best rule, best split) and what filling it does -/
abbrev pr_D : Type := (Nat → Int32) × (Nat → Int32) × (Nat → Int32) × (Nat → Int32)
def pr_ce (i j a : Nat) : Nat := 18 * i + 3 * j + a
def pr_cN (G : Nat → Nat → Int32) (f k : Nat) : Nat := (G f k).toNatClampNeg
/-- x goes into the k sorted cells behind b, from the end -/
def pr_sh : Nat → (Nat → Int32) → Nat → Int32 → (Nat → Int32)
  | 0, R, b, x => upd R b x
  | k + 1, R, b, x => if R (b + k) ≤ x then upd R (b + k + 1) x else pr_sh k (upd R (b + k + 1) (R (b + k))) b x
def pr_ins (c : Nat) (k m : Int32) (D : pr_D) (x : Int32) : pr_D :=
  (if 8 ≤ D.1 c then D.1 else upd D.1 c (D.1 c + 1),
   if 8 ≤ D.1 c then (if x < D.2.1 (8 * c + 7) then pr_sh 7 D.2.1 (8 * c) x else D.2.1) else pr_sh (D.1 c).toNatClampNeg D.2.1 (8 * c) x,
   if D.1 c = 0 ∨ x < D.2.1 (8 * c) then upd D.2.2.1 c k else D.2.2.1,
   if D.1 c = 0 ∨ x < D.2.1 (8 * c) then upd D.2.2.2 c m else D.2.2.2)
def pr_j2 (c r : Nat) (k m s : Int32) (D : pr_D) (y : Nat) : pr_D := pr_ins c k m D (s + D.2.1 (8 * r + y))
def pr_j1 (c l r : Nat) (p k m : Int32) (D : pr_D) (x : Nat) : pr_D :=
  (List.range' 0 (D.1 r).toNatClampNeg).foldl (pr_j2 c r k m (p + D.2.1 (8 * l + x))) D
def pr_jn (c l r : Nat) (p k m : Int32) (D : pr_D) : pr_D := (List.range' 0 (D.1 l).toNatClampNeg).foldl (pr_j1 c l r p k m) D
def pr_w (G : Nat → Nat → Int32) (i j k : Nat) (D : pr_D) : pr_D :=
  if G 0 k = 2 ∧ j = i + 1 ∧ G 2 k = G 5 i then pr_ins (pr_ce i j (pr_cN G 1 k)) (nI k) (nI i) D (G 4 k) else D
def pr_sm (G : Nat → Nat → Int32) (i j k : Nat) (D : pr_D) (m : Nat) : pr_D :=
  pr_jn (pr_ce i j (pr_cN G 1 k)) (pr_ce i m (pr_cN G 2 k)) (pr_ce m j (pr_cN G 3 k)) (G 4 k) (nI k) (nI m) D
def pr_rl (G : Nat → Nat → Int32) (i j : Nat) (D : pr_D) (k : Nat) : pr_D :=
  if G 0 k = 1 then (List.range' (i + 1) (j - 1 - i)).foldl (pr_sm G i j k) (pr_w G i j k D) else pr_w G i j k D
def pr_sp (G : Nat → Nat → Int32) (D : pr_D) (s : Nat × Nat) : pr_D := (List.range' 0 8).foldl (pr_rl G s.1 s.2) D
/-- the rules are in their ranges -/
def pr_GI (G : Nat → Nat → Int32) : Prop := ∀ k, k < 8 →
  (G 0 k = 0 ∨ G 0 k = 1 ∨ G 0 k = 2) ∧ (∃ s, s < 3 ∧ G 1 k = nI s) ∧ (∃ s, s < 3 ∧ G 2 k = nI s) ∧ (∃ s, s < 3 ∧ G 3 k = nI s) ∧ (∃ s, s ≤ 50 ∧ G 4 k = nI s)
def pr_TI (D : pr_D) : Prop := ∀ c, c < 90 → ∃ t, t ≤ 8 ∧ D.1 c = nI t
/-- unchanged at cell c -/
def pr_same (c : Nat) (D D' : pr_D) : Prop := D'.1 c = D.1 c ∧ (∀ p, p < 8 → D'.2.1 (8 * c + p) = D.2.1 (8 * c + p)) ∧ D'.2.2.1 c = D.2.2.1 c ∧ D'.2.2.2 c = D.2.2.2 c
/-- alike at cell c, as far as a reader may look -/
def pr_ag (c : Nat) (D D' : pr_D) : Prop := ∃ t, t ≤ 8 ∧ D.1 c = nI t ∧ D'.1 c = nI t ∧ (∀ p, p < t → D.2.1 (8 * c + p) = D'.2.1 (8 * c + p)) ∧ (t ≠ 0 → D.2.2.1 c = D'.2.2.1 c ∧ D.2.2.2 c = D'.2.2.2 c)
theorem fo_inv {α β : Type} {P : β → Prop} {f : β → α → β} : ∀ (l : List α) (b : β), P b → (∀ b a, a ∈ l → P b → P (f b a)) → P (l.foldl f b) := by
  intro l
  induction l with
  | nil => intro b h _; exact h
  | cons a l ih =>
    intro b h hs
    exact ih _ (hs b a (by simp) h) (fun b' a' ha' hb' => hs b' a' (by simp [ha']) hb')
theorem fo_rel {α β γ : Type} {P : β → γ → Prop} {f : β → α → β} {g : γ → α → γ} : ∀ (l : List α) (b : β) (c : γ), P b c → (∀ b c a, a ∈ l → P b c → P (f b a) (g c a)) → P (l.foldl f b) (l.foldl g c) := by
  intro l
  induction l with
  | nil => intro b c h _; exact h
  | cons a l ih =>
    intro b c h hs
    exact ih _ _ (hs b c a (by simp) h) (fun b' c' a' ha' hb' => hs b' c' a' (by simp [ha']) hb')
theorem fo_mem {m s d : Nat} (h : m ∈ List.range' s d) : s ≤ m ∧ m < s + d := by
  simpa using h
theorem pr_sh_spec : ∀ (k : Nat) (R : Nat → Int32) (b : Nat) (x : Int32), ∃ m, m ≤ k ∧ (∀ q, q < b + m → pr_sh k R b x q = R q) ∧ pr_sh k R b x (b + m) = x
    ∧ (∀ q, b + m < q → q ≤ b + k → pr_sh k R b x q = R (q - 1)) ∧ (∀ q, b + k < q → pr_sh k R b x q = R q) ∧ (0 < m → R (b + m - 1) ≤ x) ∧ (∀ p, m ≤ p → p < k → ¬ R (b + p) ≤ x) := by
  intro k
  induction k with
  | zero =>
    intro R b x
    refine ⟨0, Nat.le_refl _, ?_, ?_, ?_, ?_, ?_, ?_⟩
    · intro q hq; exact pk_un (by omega)
    · exact pk_us
    · intro q h1 h2; omega
    · intro q hq; exact pk_un (by omega)
    · intro h; omega
    · intro p h1 h2; omega
  | succ k ih =>
    intro R b x
    by_cases h : R (b + k) ≤ x
    · refine ⟨k + 1, Nat.le_refl _, ?_, ?_, ?_, ?_, ?_, ?_⟩
      · intro q hq; simp only [pr_sh, if_pos h]; exact pk_un (by omega)
      · simp only [pr_sh, if_pos h]; exact pk_us
      · intro q h1 h2; omega
      · intro q hq; simp only [pr_sh, if_pos h]; exact pk_un (by omega)
      · intro _; exact h
      · intro p h1 h2; omega
    · obtain ⟨m, hm, h1, h2, h3, h4, h5, h6⟩ := ih (upd R (b + k + 1) (R (b + k))) b x
      refine ⟨m, by omega, ?_, ?_, ?_, ?_, ?_, ?_⟩
      · intro q hq; simp only [pr_sh, if_neg h]; rw [h1 q hq]; exact pk_un (by omega)
      · simp only [pr_sh, if_neg h]; exact h2
      · intro q hq hq2
        simp only [pr_sh, if_neg h]
        by_cases e : q = b + k + 1
        · subst e
          rw [h4 _ (by omega)]
          exact pk_us
        · rw [h3 q hq (by omega)]; exact pk_un (by omega)
      · intro q hq; simp only [pr_sh, if_neg h]; rw [h4 q (by omega)]; exact pk_un (by omega)
      · intro h0
        have := h5 h0
        rw [pk_un (by omega)] at this
        exact this
      · intro p hp hpk
        by_cases e : p = k
        · subst e; exact h
        · have := h6 p hp (by omega)
          rw [pk_un (by omega)] at this
          exact this
theorem pr_sh_out {k : Nat} {R : Nat → Int32} {b : Nat} {x : Int32} {q : Nat} (h : q < b ∨ b + k < q) : pr_sh k R b x q = R q := by
  obtain ⟨m, hm, h1, h2, h3, h4, h5, h6⟩ := pr_sh_spec k R b x
  rcases h with h | h
  · exact h1 q (by omega)
  · exact h4 q h
theorem pr_sh_congr : ∀ (k : Nat) (R R' : Nat → Int32) (b : Nat) (x : Int32), (∀ p, p < k → R (b + p) = R' (b + p)) → ∀ p, p ≤ k → pr_sh k R b x (b + p) = pr_sh k R' b x (b + p) := by
  intro k
  induction k with
  | zero => intro R R' b x _ p hp; obtain rfl : p = 0 := by omega
            exact (pk_us (f := R) (k := b)).trans (pk_us (f := R') (k := b)).symm
  | succ k ih =>
    intro R R' b x hR p hp
    have e := hR k (by omega)
    by_cases h : R (b + k) ≤ x
    · have h' : R' (b + k) ≤ x := by rw [← e]; exact h
      simp only [pr_sh, if_pos h, if_pos h']
      by_cases ep : p = k + 1
      · subst ep; exact (pk_us (f := R) (k := b + k + 1)).trans (pk_us (f := R') (k := b + k + 1)).symm
      · rw [pk_un (by omega), pk_un (by omega)]; exact hR p (by omega)
    · have h' : ¬ R' (b + k) ≤ x := by rw [← e]; exact h
      simp only [pr_sh, if_neg h, if_neg h']
      by_cases ep : p = k + 1
      · subst ep
        rw [pr_sh_out (by omega), pr_sh_out (by omega)]
        exact (pk_us (f := R) (k := b + k + 1)).trans (e.trans (pk_us (f := R') (k := b + k + 1)).symm)
      · refine ih _ _ b x ?_ p (by omega)
        intro q hq
        rw [pk_un (by omega), pk_un (by omega)]; exact hR q (by omega)
theorem pr_same_rf {c : Nat} {D : pr_D} : pr_same c D D := ⟨rfl, fun _ _ => rfl, rfl, rfl⟩
theorem pr_same_tr {c : Nat} {D D' D'' : pr_D} (h : pr_same c D D') (h' : pr_same c D' D'') : pr_same c D D'' :=
  ⟨h'.1.trans h.1, fun p hp => (h'.2.1 p hp).trans (h.2.1 p hp), h'.2.2.1.trans h.2.2.1, h'.2.2.2.trans h.2.2.2⟩
theorem pr_ag_sy {c : Nat} {D D' : pr_D} (h : pr_ag c D D') : pr_ag c D' D := by
  obtain ⟨t, h0, h1, h2, h3, h4⟩ := h
  exact ⟨t, h0, h2, h1, fun p hp => (h3 p hp).symm, fun z => ⟨(h4 z).1.symm, (h4 z).2.symm⟩⟩
theorem pr_ag_tr {c : Nat} {D D' D'' : pr_D} (h : pr_ag c D D') (h' : pr_ag c D' D'') : pr_ag c D D'' := by
  obtain ⟨t, h0, h1, h2, h3, h4⟩ := h
  obtain ⟨t', g0, g1, g2, g3, g4⟩ := h'
  have e : t = t' := (nI_eq (by omega) (by omega)).mp (h2.symm.trans g1)
  subst e
  exact ⟨t, h0, h1, g2, fun p hp => (h3 p hp).trans (g3 p hp), fun z => ⟨(h4 z).1.trans (g4 z).1, (h4 z).2.trans (g4 z).2⟩⟩
theorem pr_ag_same {c : Nat} {D D' : pr_D} (ht : ∃ t, t ≤ 8 ∧ D.1 c = nI t) (h : pr_same c D D') : pr_ag c D D' := by
  obtain ⟨t, h0, h1⟩ := ht
  exact ⟨t, h0, h1, h.1.trans h1, fun p hp => (h.2.1 p (by omega)).symm, fun _ => ⟨h.2.2.1.symm, h.2.2.2.symm⟩⟩
/-- the step of one insertion at a cell with t costs -/
theorem pr_ins8 {c : Nat} {D : pr_D} (k m x : Int32) (h : D.1 c = nI 8) : pr_ins c k m D x = (D.1, if x < D.2.1 (8 * c + 7) then pr_sh 7 D.2.1 (8 * c) x else D.2.1, if x < D.2.1 (8 * c) then upd D.2.2.1 c k else D.2.2.1, if x < D.2.1 (8 * c) then upd D.2.2.2 c m else D.2.2.2) := by
  have h8 : (8 : Int32) ≤ D.1 c := by rw [h]; decide
  have h0 : ¬ D.1 c = 0 := by rw [h]; decide
  simp only [pr_ins, if_pos h8, h0, false_or]
theorem pr_insN {c t : Nat} {D : pr_D} (k m x : Int32) (h : D.1 c = nI t) (ht : t < 8) : pr_ins c k m D x = (upd D.1 c (nI (t + 1)), pr_sh t D.2.1 (8 * c) x, if t = 0 ∨ x < D.2.1 (8 * c) then upd D.2.2.1 c k else D.2.2.1, if t = 0 ∨ x < D.2.1 (8 * c) then upd D.2.2.2 c m else D.2.2.2) := by
  have h8 : ¬ (8 : Int32) ≤ D.1 c := by rw [h]; exact nI_ge (b := 8) ht (by decide)
  have h0 : D.1 c = 0 ↔ t = 0 := by rw [h, ← nI_0]; exact nI_eq (by omega) (by omega)
  have e : (D.1 c).toNatClampNeg = t := by rw [h]; exact nI_clamp (by omega)
  have e1 : D.1 c + 1 = nI (t + 1) := by rw [h]; exact nI_1 t
  simp only [pr_ins, if_neg h8, h0, e, e1]
theorem pr_ins_same {c c' : Nat} {k m x : Int32} {D : pr_D} (hD : ∃ t, t ≤ 8 ∧ D.1 c = nI t) (hc : c' ≠ c) : pr_same c' D (pr_ins c k m D x) := by
  obtain ⟨t, h0, h1⟩ := hD
  by_cases e : t = 8
  · subst e
    rw [pr_ins8 k m x h1]
    refine ⟨rfl, ?_, ?_, ?_⟩
    · intro p hp
      dsimp only
      split
      · exact pr_sh_out (by omega)
      · rfl
    · dsimp only; split
      · exact pk_un hc
      · rfl
    · dsimp only; split
      · exact pk_un hc
      · rfl
  · rw [pr_insN k m x h1 (by omega)]
    refine ⟨?_, ?_, ?_, ?_⟩
    · exact pk_un hc
    · intro p hp
      exact pr_sh_out (by omega)
    · dsimp only; split
      · exact pk_un hc
      · rfl
    · dsimp only; split
      · exact pk_un hc
      · rfl
theorem pr_ins_t {c : Nat} {k m x : Int32} {D : pr_D} (hD : ∃ t, t ≤ 8 ∧ D.1 c = nI t) : ∃ t, t ≤ 8 ∧ (pr_ins c k m D x).1 c = nI t := by
  obtain ⟨t, h0, h1⟩ := hD
  by_cases e : t = 8
  · subst e
    rw [pr_ins8 k m x h1]
    exact ⟨8, by omega, h1⟩
  · rw [pr_insN k m x h1 (by omega)]
    exact ⟨t + 1, by omega, pk_us⟩
theorem pr_ins_TI {c : Nat} {k m x : Int32} {D : pr_D} (hc : c < 90) (hD : pr_TI D) : pr_TI (pr_ins c k m D x) := by
  intro c' hc'
  by_cases e : c' = c
  · subst e; exact pr_ins_t (hD c' hc')
  · rw [(pr_ins_same (hD c hc) e).1]; exact hD c' hc'
theorem pr_ins_ag {c : Nat} {k m x : Int32} {D D' : pr_D} (h : pr_ag c D D') : pr_ag c (pr_ins c k m D x) (pr_ins c k m D' x) := by
  obtain ⟨t, h0, h1, h2, h3, h4⟩ := h
  by_cases e : t = 8
  · subst e
    have e0 := h3 0 (by omega)
    have e7 := h3 7 (by omega)
    simp only [Nat.add_zero] at e0
    rw [pr_ins8 k m x h1, pr_ins8 k m x h2, e0, e7]
    refine ⟨8, by omega, h1, h2, ?_, ?_⟩
    · intro p hp
      dsimp only
      split
      · exact pr_sh_congr 7 _ _ _ _ (fun q hq => h3 q (by omega)) p (by omega)
      · exact h3 p hp
    · intro _
      have := h4 (by omega)
      dsimp only
      split
      · exact ⟨(pk_us (f := D.2.2.1) (k := c)).trans (pk_us (f := D'.2.2.1) (k := c)).symm, (pk_us (f := D.2.2.2) (k := c)).trans (pk_us (f := D'.2.2.2) (k := c)).symm⟩
      · exact this
  · rw [pr_insN k m x h1 (by omega), pr_insN k m x h2 (by omega)]
    refine ⟨t + 1, by omega, pk_us, pk_us, ?_, ?_⟩
    · intro p hp
      exact pr_sh_congr t _ _ _ _ (fun q hq => h3 q (by omega)) p (by omega)
    · intro _
      by_cases e0 : t = 0
      · subst e0
        simp only [true_or, if_true]
        exact ⟨(pk_us (f := D.2.2.1) (k := c)).trans (pk_us (f := D'.2.2.1) (k := c)).symm, (pk_us (f := D.2.2.2) (k := c)).trans (pk_us (f := D'.2.2.2) (k := c)).symm⟩
      · have := h4 e0
        have e1 := h3 0 (by omega)
        simp only [Nat.add_zero] at e1
        rw [e1]
        dsimp only
        split
        · exact ⟨(pk_us (f := D.2.2.1) (k := c)).trans (pk_us (f := D'.2.2.1) (k := c)).symm, (pk_us (f := D.2.2.2) (k := c)).trans (pk_us (f := D'.2.2.2) (k := c)).symm⟩
        · exact this
