/-! X: fillChart is the pure filling -/
theorem ce_X (i j a : Nat) : (nI i * 6 + nI j) * 3 + nI a = nI (pr_ce i j a) := by
  rw [show (6 : Int32) = nI 6 from rfl, show (3 : Int32) = nI 3 from rfl, pk_mul, nI_add, pk_mul, nI_add]
  exact congrArg nI (by unfold pr_ce; omega)
theorem ce_R (r y : Nat) : nI r * 8 + nI y = nI (8 * r + y) := by
  rw [show (8 : Int32) = nI 8 from rfl, pk_mul, nI_add]
  exact congrArg nI (by omega)
section
variable (n : Nat) (G : Nat → Nat → Int32) (W BL WC : Nat → Int32)
theorem xs_53 (post : SX → Prop) (J21 : Int32 → Int32 → (Nat → Int32) → (Nat → Int32) → (Nat → Int32) → (Nat → Int32) → (Nat → Int32) → (Nat → Int32) → (Nat → Int32) → (Nat → Int32) → (Nat → Int32) → (Nat → Int32) → (Nat → Int32) → (Nat → Int32) → (Nat → Int32) → Prop) (c r tr x : Nat) (k m x4 x6 s : Int32) (hc : c < 90) (hr : r < 90) (htr : tr ≤ 8) :
    ∀ (d y : Nat) (D : pr_D) (nf : Nat), y + d = tr → d < nf → pr_TI D → J21 (nI (x + 1)) (nI n) (G 0) (G 1) (G 2) (G 3) (G 4) (G 5) ((List.range' y d).foldl (pr_j2 c r k m s) D).1 ((List.range' y d).foldl (pr_j2 c r k m s) D).2.1 ((List.range' y d).foldl (pr_j2 c r k m s) D).2.2.1 ((List.range' y d).foldl (pr_j2 c r k m s) D).2.2.2 W BL WC → wX_addTreesOfSplit_53 post J21 (nI c) k m x4 (nI r) x6 (nI tr) (nI x) s nf (nI y) (nI n) (G 0) (G 1) (G 2) (G 3) (G 4) (G 5) D.1 D.2.1 D.2.2.1 D.2.2.2 W BL WC := by
  intro d
  induction d with
  | zero =>
    intro y D nf hy hnf hT hp
    obtain ⟨f, rfl⟩ : ∃ f, nf = f + 1 := ⟨nf - 1, by omega⟩
    rw [wX_addTreesOfSplit_53]
    exact br_t (nI_le (by omega) (by omega)) (nm_r (nI_1 x) hp)
  | succ d ih =>
    intro y D nf hy hnf hT hp
    obtain ⟨f, rfl⟩ : ∃ f, nf = f + 1 := ⟨nf - 1, by omega⟩
    rw [wX_addTreesOfSplit_53]
    dsimp only
    rw [ce_R, nI_clamp (n := 8 * r + y) (by omega)]
    refine br_f (nI_ge (by omega) (by omega)) ⟨vp_in_nI (by omega) (by omega), ?_⟩
    refine xa_add n G W BL WC D _ _ k m c hc (hT c hc) ?_
    exact nm_r (nI_1 y) (ih (y + 1) _ f (by omega) (by omega) (pr_ins_TI hc hT) hp)
theorem xs_21 (post : SX → Prop) (c l r tl tr k : Nat) (m : Int32) (hc : c < 90) (hl : l < 90) (hr : r < 90) (nr : r ≠ c) (htl : tl ≤ 8) (htr : tr ≤ 8) (hk : k < 8) :
    ∀ (d x : Nat) (D : pr_D) (nf : Nat), x + d = tl → d < nf → pr_TI D → D.1 r = nI tr → post (st_X n G ((List.range' x d).foldl (pr_j1 c l r (G 4 k) (nI k) m) D) W BL WC) → wX_addTreesOfSplit_21 post (nI c) (nI k) m (nI l) (nI r) (nI tl) (nI tr) nf (nI x) (nI n) (G 0) (G 1) (G 2) (G 3) (G 4) (G 5) D.1 D.2.1 D.2.2.1 D.2.2.2 W BL WC := by
  intro d
  induction d with
  | zero =>
    intro x D nf hy hnf hT hr hp
    obtain ⟨f, rfl⟩ : ∃ f, nf = f + 1 := ⟨nf - 1, by omega⟩
    rw [wX_addTreesOfSplit_21]
    exact br_t (nI_le (by omega) (by omega)) hp
  | succ d ih =>
    intro x D nf hy hnf hT hrr hp
    obtain ⟨f, rfl⟩ : ∃ f, nf = f + 1 := ⟨nf - 1, by omega⟩
    rw [wX_addTreesOfSplit_21]
    dsimp only
    rw [ce_R, nI_clamp (n := 8 * l + x) (by omega), nI_clamp (n := k) (by omega)]
    refine br_f (nI_ge (by omega) (by omega)) ⟨vp_in_nI hk (by omega), vp_in_nI (by omega) (by omega), nm_e ⟨9, ?_⟩⟩
    have hI := pr_j1_inv (l := l) (r := r) (c0 := c) (p := G 4 k) (k := nI k) (m := m) (D := D) (D0 := D) (x := x) hc ⟨hT, fun _ _ => pr_same_rf⟩
    have e : (D.1 r).toNatClampNeg = tr := by rw [hrr]; exact nI_clamp (by omega)
    refine xs_53 n G W BL WC post _ c r tr x (nI k) m (nI l) (nI tl) _ hc hr htr tr 0 D 9 (by omega) (by omega) hT ?_
    have hp' := ih (x + 1) (pr_j1 c l r (G 4 k) (nI k) m D x) f (by omega) (by omega) hI.1 ((hI.2 r nr).1.trans hrr) hp
    unfold pr_j1 at hp'
    rw [e] at hp'
    exact hp'
theorem xs_split (post : SX → Prop) (D : pr_D) (c l r k : Nat) (m : Int32) (hc : c < 90) (hl : l < 90) (hr : r < 90) (nr : r ≠ c) (hk : k < 8) (hT : pr_TI D) (hp : post (st_X n G (pr_jn c l r (G 4 k) (nI k) m D) W BL WC)) : wpX_addTreesOfSplit post (st_X n G D W BL WC) (nI c) (nI k) m (nI l) (nI r) := by
  obtain ⟨tl, h1, e1⟩ := hT l hl
  obtain ⟨tr, h2, e2⟩ := hT r hr
  unfold wpX_addTreesOfSplit
  dsimp only
  rw [nI_clamp (n := l) (by omega), nI_clamp (n := r) (by omega), e1, e2]
  refine ⟨vp_in_nI hl (by omega), nm_e ⟨vp_in_nI hr (by omega), nm_e ⟨9, ?_⟩⟩⟩
  refine xs_21 n G W BL WC post c l r tl tr k m hc hl hr nr h1 h2 hk tl 0 D 9 (by omega) (by omega) hT e2 ?_
  unfold pr_jn at hp
  rw [e1, nI_clamp (by omega)] at hp
  exact hp
theorem xr_52 (post : SX → Prop) (i j k : Nat) (hG : pr_GI G) (hij : i < j) (hj : j ≤ 5) (hk : k < 8) :
    ∀ (d m : Nat) (D : pr_D) (nf : Nat), m + d = j → i < m → d < nf → pr_TI D → post (st_X n G ((List.range' m d).foldl (pr_sm G i j k) D) W BL WC) → wX_addTreesOfRule_52 post (nI k) (nI i) (nI j) (nI (pr_ce i j (pr_cN G 1 k))) nf (nI m) (nI n) (G 0) (G 1) (G 2) (G 3) (G 4) (G 5) D.1 D.2.1 D.2.2.1 D.2.2.2 W BL WC := by
  obtain ⟨⟨g1, h1⟩, ⟨g2, h2⟩, ⟨g3, h3⟩, _⟩ := pr_GIs hG hk
  intro d
  induction d with
  | zero =>
    intro m D nf hm him hnf hT hp
    obtain ⟨f, rfl⟩ : ∃ f, nf = f + 1 := ⟨nf - 1, by omega⟩
    rw [wX_addTreesOfRule_52]
    exact br_t (nI_le (by omega) (by omega)) hp
  | succ d ih =>
    intro m D nf hm him hnf hT hp
    obtain ⟨f, rfl⟩ : ∃ f, nf = f + 1 := ⟨nf - 1, by omega⟩
    rw [wX_addTreesOfRule_52]
    dsimp only
    unfold wpX_cellOf
    rw [nI_clamp (n := k) (by omega), g2, g3, ce_X, ce_X]
    have hI := pr_sm_inv (m := m) (D0 := D) hG (i := i) (j := j) (by omega) hj hk ⟨hT, fun _ _ => pr_same_rf⟩
    refine br_f (nI_ge (by omega) (by omega)) ⟨vp_in_nI hk (by omega), vp_in_nI hk (by omega), ?_⟩
    refine xs_split n G W BL WC _ D _ _ _ k (nI m) (pr_ce90 (by omega) hj h1) (pr_ce90 (by omega) (by omega) h2) (pr_ce90 (by omega) hj h3) (by unfold pr_ce; omega) hk hT ?_
    exact nm_r (nI_1 m) (ih (m + 1) _ f (by omega) (by omega) (by omega) hI.1 hp)
theorem xr_37 (post : SX → Prop) (i j k : Nat) (D : pr_D) (hG : pr_GI G) (hij : i < j) (hj : j ≤ 5) (hk : k < 8) (hT : pr_TI D) (hp : post (st_X n G (if G 0 k = 1 then (List.range' (i + 1) (j - 1 - i)).foldl (pr_sm G i j k) D else D) W BL WC)) : wX_addTreesOfRule_37 post (nI k) (nI i) (nI j) (nI (pr_ce i j (pr_cN G 1 k))) (nI n) (G 0) (G 1) (G 2) (G 3) (G 4) (G 5) D.1 D.2.1 D.2.2.1 D.2.2.2 W BL WC := by
  unfold wX_addTreesOfRule_37
  rw [nI_clamp (n := k) (by omega)]
  refine ⟨vp_in_nI hk (by omega), ?_⟩
  by_cases h : G 0 k = 1
  · rw [if_pos h] at hp
    exact br_t h (nm_r (nI_1 i) ⟨6, xr_52 n G W BL WC post i j k hG hij hj hk (j - 1 - i) (i + 1) D 6 (by omega) (by omega) (by omega) hT hp⟩)
  · rw [if_neg h] at hp
    exact br_f h hp
theorem xr_fits (post : Int32 → Prop) (i j k : Nat) (D : pr_D) (hij : i < j) (hj : j ≤ 5) (hk : k < 8) (h1 : (G 0 k = 2 ∧ j = i + 1 ∧ G 2 k = G 5 i) → post 1) (h0 : ¬ (G 0 k = 2 ∧ j = i + 1 ∧ G 2 k = G 5 i) → post 0) : wpX_wordRuleFits post (st_X n G D W BL WC) (nI k) (nI i) (nI j) := by
  unfold wpX_wordRuleFits
  dsimp only
  rw [nI_clamp (n := k) (by omega), nI_clamp (n := i) (by omega)]
  refine ⟨vp_in_nI hk (by omega), br_c (fun a => ?_) (fun a => h0 (fun z => a z.1))⟩
  rw [nI_1]
  refine pk_eq j (i + 1) (fun b => ⟨vp_in_nI hk (by omega), vp_in_nI (by omega) (by omega), br_c (fun e => h1 ⟨a, b, e⟩) (fun e => h0 (fun z => e z.2.2))⟩) (fun b => h0 (fun z => b z.2.1))
theorem xr_rule (post : SX → Prop) (i j k : Nat) (D : pr_D) (hG : pr_GI G) (hij : i < j) (hj : j ≤ 5) (hk : k < 8) (hT : pr_TI D) (hp : post (st_X n G (pr_rl G i j D k) W BL WC)) : wpX_addTreesOfRule post (st_X n G D W BL WC) (nI k) (nI i) (nI j) := by
  obtain ⟨⟨g1, h1⟩, _⟩ := pr_GIs hG hk
  have hI := pr_w_inv (D0 := D) hG (i := i) (j := j) (by omega) hj hk ⟨hT, fun _ _ => pr_same_rf⟩
  unfold wpX_addTreesOfRule
  dsimp only
  unfold wpX_cellOf
  rw [nI_clamp (n := k) (by omega), g1, ce_X]
  refine ⟨vp_in_nI hk (by omega), ?_⟩
  refine xr_fits n G W BL WC _ i j k D hij hj hk (fun h => ?_) (fun h => ?_)
  · refine br_f (by decide) ⟨vp_in_nI hk (by omega), ?_⟩
    refine xa_add n G W BL WC D _ _ _ _ _ (pr_ce90 (by omega) hj h1) (hT _ (pr_ce90 (by omega) hj h1)) ?_
    unfold pr_rl pr_w at hp
    unfold pr_w at hI
    rw [if_pos h] at hp hI
    exact xr_37 n G W BL WC post i j k _ hG hij hj hk hI.1 hp
  · refine br_t rfl ?_
    unfold pr_rl pr_w at hp
    rw [if_neg h] at hp
    exact xr_37 n G W BL WC post i j k _ hG hij hj hk hT hp
theorem xf_41 (post : SX → Prop) (J23 J35 : Int32 → Int32 → (Nat → Int32) → (Nat → Int32) → (Nat → Int32) → (Nat → Int32) → (Nat → Int32) → (Nat → Int32) → (Nat → Int32) → (Nat → Int32) → (Nat → Int32) → (Nat → Int32) → (Nat → Int32) → (Nat → Int32) → (Nat → Int32) → Prop) (i j : Nat) (hG : pr_GI G) (hij : i < j) (hj : j ≤ 5) :
    ∀ (d k : Nat) (D : pr_D) (nf : Nat), k + d = 8 → d < nf → pr_TI D → J35 (nI i + (-1)) (nI n) (G 0) (G 1) (G 2) (G 3) (G 4) (G 5) ((List.range' k d).foldl (pr_rl G i j) D).1 ((List.range' k d).foldl (pr_rl G i j) D).2.1 ((List.range' k d).foldl (pr_rl G i j) D).2.2.1 ((List.range' k d).foldl (pr_rl G i j) D).2.2.2 W BL WC → wX_fillChart_41 post J23 J35 (nI j) (nI i) nf (nI k) (nI n) (G 0) (G 1) (G 2) (G 3) (G 4) (G 5) D.1 D.2.1 D.2.2.1 D.2.2.2 W BL WC := by
  intro d
  induction d with
  | zero =>
    intro k D nf hk hnf hT hp
    obtain ⟨f, rfl⟩ : ∃ f, nf = f + 1 := ⟨nf - 1, by omega⟩
    rw [wX_fillChart_41]
    exact br_t (nI_le (a := 8) (by omega) (by omega)) (nm_e hp)
  | succ d ih =>
    intro k D nf hk hnf hT hp
    obtain ⟨f, rfl⟩ : ∃ f, nf = f + 1 := ⟨nf - 1, by omega⟩
    have hI := pr_rl_inv (D0 := D) (k := k) hG (i := i) (j := j) (by omega) hj (by omega) ⟨hT, fun _ _ => pr_same_rf⟩
    rw [wX_fillChart_41]
    refine br_f (nI_ge (b := 8) (by omega) (by decide)) ?_
    refine xr_rule n G W BL WC _ i j k D hG hij hj (by omega) hT ?_
    exact nm_r (nI_1 k) (ih (k + 1) _ f (by omega) (by omega) hI.1 hp)
theorem xf_35 (post : SX → Prop) (J23 : Int32 → Int32 → (Nat → Int32) → (Nat → Int32) → (Nat → Int32) → (Nat → Int32) → (Nat → Int32) → (Nat → Int32) → (Nat → Int32) → (Nat → Int32) → (Nat → Int32) → (Nat → Int32) → (Nat → Int32) → (Nat → Int32) → (Nat → Int32) → Prop) (e : Nat) (hG : pr_GI G) (he : e ≤ 5) :
    ∀ (d : Nat) (D : pr_D) (nf : Nat), d ≤ e → d < nf → pr_TI D → J23 (nI (e + 1)) (nI n) (G 0) (G 1) (G 2) (G 3) (G 4) (G 5) (((pr_ds d).map (fun s => (s, e))).foldl (pr_sp G) D).1 (((pr_ds d).map (fun s => (s, e))).foldl (pr_sp G) D).2.1 (((pr_ds d).map (fun s => (s, e))).foldl (pr_sp G) D).2.2.1 (((pr_ds d).map (fun s => (s, e))).foldl (pr_sp G) D).2.2.2 W BL WC → wX_fillChart_35 post J23 (nI e) nf (nI d + (-1)) (nI n) (G 0) (G 1) (G 2) (G 3) (G 4) (G 5) D.1 D.2.1 D.2.2.1 D.2.2.2 W BL WC := by
  intro d
  induction d with
  | zero =>
    intro D nf hd hnf hT hp
    obtain ⟨f, rfl⟩ : ∃ f, nf = f + 1 := ⟨nf - 1, by omega⟩
    rw [wX_fillChart_35]
    exact br_t (by decide) (nm_r (nI_1 e) hp)
  | succ d ih =>
    intro D nf hd hnf hT hp
    obtain ⟨f, rfl⟩ : ∃ f, nf = f + 1 := ⟨nf - 1, by omega⟩
    rw [wX_fillChart_35, pk_m1]
    refine br_f (nI_pos (by omega)) ⟨9, ?_⟩
    have hI := pr_sp_inv hG (i := d) (j := e) (by omega) he hT
    refine xf_41 n G W BL WC post J23 _ d e hG (by omega) he 8 0 D 9 (by omega) (by omega) hT ?_
    exact ih (pr_sp G D (d, e)) f (by omega) (by omega) hI.1 hp
theorem pr_TI_fold (hG : pr_GI G) (l : List (Nat × Nat)) (hl : ∀ s, s ∈ l → s.1 < 5 ∧ s.2 ≤ 5) (D : pr_D) (h : pr_TI D) : pr_TI (l.foldl (pr_sp G) D) :=
  fo_inv (P := pr_TI) l D h (fun b a ha hb => (pr_sp_inv hG (hl a ha).1 (hl a ha).2 hb).1)
theorem pr_ds_mem {s d : Nat} : s ∈ pr_ds d → s < d := by
  induction d with
  | zero => intro h; exact absurd h (by simp [pr_ds])
  | succ d ih =>
    intro h
    simp only [pr_ds, List.mem_cons] at h
    rcases h with h | h
    · omega
    · have := ih h; omega
theorem xf_23 (post : SX → Prop) (hG : pr_GI G) (hn : n ≤ 5) :
    ∀ (d e : Nat) (D : pr_D) (nf : Nat), e + d = n + 1 → 1 ≤ e → d < nf → pr_TI D → post (st_X n G (((List.range' e d).flatMap (fun e => (pr_ds e).map (fun s => (s, e)))).foldl (pr_sp G) D) W BL WC) → wX_fillChart_23 post nf (nI e) (nI n) (G 0) (G 1) (G 2) (G 3) (G 4) (G 5) D.1 D.2.1 D.2.2.1 D.2.2.2 W BL WC := by
  intro d
  induction d with
  | zero =>
    intro e D nf he h1 hnf hT hp
    obtain ⟨f, rfl⟩ : ∃ f, nf = f + 1 := ⟨nf - 1, by omega⟩
    rw [wX_fillChart_23]
    exact br_t (nI_lt (by omega) (by omega)) hp
  | succ d ih =>
    intro e D nf he h1 hnf hT hp
    obtain ⟨f, rfl⟩ : ∃ f, nf = f + 1 := ⟨nf - 1, by omega⟩
    rw [wX_fillChart_23]
    refine br_f (nI_nlt (by omega) (by omega)) (nm_r (e' := nI e + (-1)) (Int32.sub_eq_add_neg _ _) ⟨6, ?_⟩)
    rw [List.range'_succ, List.flatMap_cons, List.foldl_append] at hp
    refine xf_35 n G W BL WC post _ e hG (by omega) e D 6 (by omega) (by omega) hT ?_
    refine ih (e + 1) _ f (by omega) (by omega) (by omega) ?_ hp
    refine pr_TI_fold G hG _ ?_ D hT
    intro s hs
    simp only [List.mem_map] at hs
    obtain ⟨a, ha, rfl⟩ := hs
    have := pr_ds_mem ha
    exact ⟨by omega, by omega⟩
/-- the counts of the first N cells are set back -/
def pr_z (N q : Nat) (D : pr_D) : pr_D := (fun c => if c < q ∧ c < N then 0 else D.1 c, D.2)
theorem pr_z_up (N q : Nat) (D : pr_D) (hq : q < N) : upd (pr_z N q D).1 q 0 = (pr_z N (q + 1) D).1 := by
  funext c
  unfold upd pr_z
  dsimp only
  by_cases e : c = q
  · rw [if_pos e, if_pos (by omega)]
  · rw [if_neg e]
    by_cases h : c < q ∧ c < N
    · rw [if_pos h, if_pos (by omega)]
    · rw [if_neg h, if_neg (by omega)]
theorem pr_z_TI (N q : Nat) (D : pr_D) (h : 90 ≤ q) (hN : 90 ≤ N) : pr_TI (pr_z N q D) := by
  intro c hc
  refine ⟨0, by omega, ?_⟩
  unfold pr_z
  dsimp only
  rw [if_pos (by omega)]
  rfl
theorem xf_2 (post : SX → Prop) (hG : pr_GI G) (hn : n ≤ 5) (D : pr_D) (hp : post (st_X n G ((pr_lX n).foldl (pr_sp G) (pr_z 90 90 D)) W BL WC)) :
    ∀ (d q : Nat) (nf : Nat), q + d = 90 → d < nf → wX_fillChart_2 post (nI n) nf (nI q) (G 0) (G 1) (G 2) (G 3) (G 4) (G 5) (pr_z 90 q D).1 (pr_z 90 q D).2.1 (pr_z 90 q D).2.2.1 (pr_z 90 q D).2.2.2 W BL WC := by
  intro d
  induction d with
  | zero =>
    intro q nf hq hnf
    obtain ⟨f, rfl⟩ : ∃ f, nf = f + 1 := ⟨nf - 1, by omega⟩
    obtain rfl : q = 90 := by omega
    rw [wX_fillChart_2]
    refine br_t (by decide) ⟨n + 1, ?_⟩
    exact xf_23 n G W BL WC post hG hn n 1 _ (n + 1) (by omega) (by omega) (by omega) (pr_z_TI 90 90 D (by omega) (by omega)) hp
  | succ d ih =>
    intro q nf hq hnf
    obtain ⟨f, rfl⟩ : ∃ f, nf = f + 1 := ⟨nf - 1, by omega⟩
    rw [wX_fillChart_2]
    dsimp only
    rw [nI_clamp (n := q) (by omega), pr_z_up 90 q D (by omega)]
    refine br_f (nI_ge (b := 90) (by omega) (by decide)) ⟨vp_in_nI (by omega) (by omega), nm_e (nm_r (nI_1 q) ?_)⟩
    exact ih (q + 1) f (by omega) (by omega)
theorem xf_fill (post : SX → Prop) (hG : pr_GI G) (hn : n ≤ 5) (D : pr_D) (hp : post (st_X n G ((pr_lX n).foldl (pr_sp G) (pr_z 90 90 D)) W BL WC)) : wpX_fillChart post (st_X n G D W BL WC) := by
  have e : pr_z 90 0 D = D := by
    unfold pr_z
    refine Prod.ext ?_ rfl
    funext c
    dsimp only
    rw [if_neg (by omega)]
  have := xf_2 n G W BL WC post hG hn D hp 90 0 91 (by omega) (by omega)
  rw [e] at this
  exact ⟨91, this⟩
end
