/-! Y: work is the pure filling, in its own order -/
theorem ce_Y (i j a : Nat) : 18 * nI i + 3 * nI j + nI a = nI (pr_ce i j a) := by
  rw [show (18 : Int32) = nI 18 from rfl, show (3 : Int32) = nI 3 from rfl, pk_mul, pk_mul, nI_add, nI_add]
  exact congrArg nI (by unfold pr_ce; omega)
theorem ce_S (r y : Nat) : 8 * nI r + nI y = nI (8 * r + y) := by
  rw [show (8 : Int32) = nI 8 from rfl, pk_mul, nI_add]
abbrev jt_Y : Type := Int32 → Int32 → Int32 → (Nat → Int32) → (Nat → Int32) → (Nat → Int32) → (Nat → Int32) → (Nat → Int32) → (Nat → Int32) → (Nat → Int32) → (Nat → Int32) → (Nat → Int32) → (Nat → Int32) → (Nat → Int32) → Prop
section
variable (n : Nat) (ls : Int32) (G : Nat → Nat → Int32) (U LI OP : Nat → Int32)
theorem ya_23 (post : SY → Prop) (T : Nat → Int32) (x : Int32) (c : Nat) (hc : c < 90) : ∀ (p : Nat) (R : Nat → Int32) (nf : Nat), p ≤ 7 → p < nf → wY_insert_98 post (nI c) (nI n) ls (G 0) (G 1) (G 2) (G 3) (G 4) (G 5) (pr_sh p R (8 * c) x) T U LI OP → wY_insert_23 post (nI c) x (nI n) ls nf (nI p) (G 0) (G 1) (G 2) (G 3) (G 4) (G 5) R T U LI OP := by
  intro p
  induction p with
  | zero =>
    intro R nf _ hnf hp
    obtain ⟨m, rfl⟩ : ∃ m, nf = m + 1 := ⟨nf - 1, by omega⟩
    rw [wY_insert_23]
    refine br_t (by decide : nI 0 ≤ 0) ?_
    unfold wY_insert_80
    rw [ce_S, nI_clamp (n := 8 * c + 0) (by omega)]
    exact br_f (by decide) ⟨vp_in_nI (by omega) (by omega), nm_e hp⟩
  | succ p ih =>
    intro R nf h7 hnf hp
    obtain ⟨m, rfl⟩ : ∃ m, nf = m + 1 := ⟨nf - 1, by omega⟩
    have e1 : nI (8 * c + (p + 1)) - 1 = nI (8 * c + p) := nI_pred (8 * c + p)
    have c1 : (nI (8 * c + p)).toNatClampNeg = 8 * c + p := nI_clamp (by omega)
    have c2 : (nI (8 * c + (p + 1))).toNatClampNeg = 8 * c + p + 1 := nI_clamp (by omega)
    have h8 : ¬ (8 : Int32) ≤ nI (p + 1) := nI_ge (b := 8) (by omega) (by decide)
    rw [wY_insert_23]
    dsimp only
    rw [ce_S, e1, c1, c2]
    refine br_f (nI_nle (by omega) (by omega)) ⟨vp_in_nI (by omega) (by omega), ?_⟩
    by_cases h : R (8 * c + p) ≤ x
    · refine br_t h ?_
      unfold wY_insert_80
      rw [ce_S, c2]
      simp only [pr_sh, if_pos h] at hp
      exact br_f h8 ⟨vp_in_nI (by omega) (by omega), nm_e hp⟩
    · simp only [pr_sh, if_neg h] at hp
      refine br_f h (br_f h8 ⟨vp_in_nI (by omega) (by omega), vp_in_nI (by omega) (by omega), nm_e (nm_r (pk_m1 p) ?_)⟩)
      exact ih _ m (by omega) (by omega) hp
theorem ya_ins (D : pr_D) (post : SY → Prop) (x k m : Int32) (c : Nat) (hc : c < 90) (hT : ∃ t, t ≤ 8 ∧ D.1 c = nI t) (hp : post (st_Y n ls G (pr_ins c k m D x) U LI OP)) : wpY_insert post (st_Y n ls G D U LI OP) (nI c) x := by
  obtain ⟨t, ht, hD⟩ := hT
  obtain ⟨T, R, BR, BS⟩ := D
  dsimp only at hD
  have c1 : (nI c).toNatClampNeg = c := nI_clamp (by omega)
  unfold wpY_insert
  dsimp only
  rw [c1, hD]
  refine ⟨vp_in_nI (by omega) (by omega), ?_⟩
  by_cases e : t = 8
  · subst e
    rw [pr_ins8 (D := (T, R, BR, BS)) k m x hD] at hp
    have K : ∀ R', post (nI n, ls, G 0, G 1, G 2, G 3, G 4, G 5, R', T, U, LI, OP) → wY_insert_98 post (nI c) (nI n) ls (G 0) (G 1) (G 2) (G 3) (G 4) (G 5) R' T U LI OP := by
      intro R' h
      unfold wY_insert_98
      rw [c1, hD]
      have eT : upd T c 8 = T := by
        funext q
        unfold upd
        by_cases z : q = c
        · rw [if_pos z, z, hD]; rfl
        · rw [if_neg z]
      exact ⟨vp_in_nI (by omega) (by omega), br_t (by decide) ⟨vp_in_nI (by omega) (by omega), nm_r eT h⟩⟩
    refine br_t (by decide : (8 : Int32) ≤ nI 8) ⟨9, ?_⟩
    have e1 : nI (8 * c + 8) - 1 = nI (8 * c + 7) := nI_pred (8 * c + 7)
    have c2 : (nI (8 * c + 7)).toNatClampNeg = 8 * c + 7 := nI_clamp (by omega)
    rw [wY_insert_23]
    dsimp only
    rw [show 8 * nI c + 8 = nI (8 * c + 8) from ce_S c 8, e1, c2]
    refine br_f (by decide) ⟨vp_in_nI (by omega) (by omega), ?_⟩
    by_cases h : x < R (8 * c + 7)
    · dsimp only at hp
      rw [if_pos h] at hp
      refine br_f (Int32.not_le.mpr h) (br_t (by decide) (nm_r (pk_m1 7) ?_))
      exact ya_23 n ls G U LI OP post T x c hc 7 R 8 (by omega) (by omega) (K _ hp)
    · dsimp only at hp
      rw [if_neg h] at hp
      refine br_t (Int32.not_lt.mp h) ?_
      unfold wY_insert_80
      exact br_t (by decide) (K _ hp)
  · have h8 : ¬ (8 : Int32) ≤ nI t := nI_ge (b := 8) (by omega) (by decide)
    rw [pr_insN (D := (T, R, BR, BS)) k m x hD (by omega)] at hp
    refine br_f h8 ⟨vp_in_nI (by omega) (by omega), nm_e ⟨8, ?_⟩⟩
    refine ya_23 n ls G U LI OP post T x c hc t R 8 (by omega) (by omega) ?_
    unfold wY_insert_98
    rw [c1, hD, nI_1]
    exact ⟨vp_in_nI (by omega) (by omega), br_f h8 ⟨vp_in_nI (by omega) (by omega), vp_in_nI (by omega) (by omega), nm_e hp⟩⟩
theorem yj_17 (post : SY → Prop) (J3 : jt_Y) (c l r tr x : Nat) (p k m s : Int32) (hc : c < 90) (hl : l < 90) (hr : r < 90) (nl : l ≠ c) (nr : r ≠ c) (htr : tr ≤ 8) (hx : x < 8) :
    ∀ (d y : Nat) (D : pr_D) (nf : Nat), y + d = tr → d < nf → pr_TI D → D.1 r = nI tr → p + D.2.1 (8 * l + x) = s → J3 (nI (x + 1)) (nI n) ls (G 0) (G 1) (G 2) (G 3) (G 4) (G 5) ((List.range' y d).foldl (pr_j2 c r k m s) D).2.1 ((List.range' y d).foldl (pr_j2 c r k m s) D).1 U LI OP → wY_join_17 post J3 (nI c) (nI l) (nI r) p (nI x) nf (nI y) (nI n) ls (G 0) (G 1) (G 2) (G 3) (G 4) (G 5) D.2.1 D.1 U LI OP := by
  intro d
  induction d with
  | zero =>
    intro y D nf hy hnf hT hDr hs hp
    obtain ⟨f, rfl⟩ : ∃ f, nf = f + 1 := ⟨nf - 1, by omega⟩
    rw [wY_join_17]
    dsimp only
    rw [nI_clamp (n := r) (by omega), hDr]
    exact ⟨vp_in_nI (by omega) (by omega), br_t (nI_le (by omega) (by omega)) (nm_r (nI_1 x) hp)⟩
  | succ d ih =>
    intro y D nf hy hnf hT hDr hs hp
    obtain ⟨f, rfl⟩ : ∃ f, nf = f + 1 := ⟨nf - 1, by omega⟩
    rw [wY_join_17]
    dsimp only
    rw [ce_S, ce_S, nI_clamp (n := 8 * r + y) (by omega), nI_clamp (n := 8 * l + x) (by omega), nI_clamp (n := r) (by omega), hDr, hs]
    refine ⟨vp_in_nI (by omega) (by omega), br_f (nI_ge (by omega) (by omega)) ⟨vp_in_nI (by omega) (by omega), vp_in_nI (by omega) (by omega), ?_⟩⟩
    refine ya_ins n ls G U LI OP D _ _ k m c hc (hT c hc) ?_
    have F := fun c' (h : c' ≠ c) => pr_ins_same (k := k) (m := m) (x := s + D.2.1 (8 * r + y)) (hT c hc) h
    exact nm_r (nI_1 y) (ih (y + 1) _ f (by omega) (by omega) (pr_ins_TI hc hT) ((F r nr).1.trans hDr) (by rw [(F l nl).2.1 x hx]; exact hs) hp)
theorem yj_3 (post : SY → Prop) (c l r tl tr : Nat) (p k m : Int32) (hc : c < 90) (hl : l < 90) (hr : r < 90) (nl : l ≠ c) (nr : r ≠ c) (htl : tl ≤ 8) (htr : tr ≤ 8) :
    ∀ (d x : Nat) (D : pr_D) (nf : Nat), x + d = tl → d < nf → pr_TI D → D.1 l = nI tl → D.1 r = nI tr → post (st_Y n ls G ((List.range' x d).foldl (pr_j1 c l r p k m) D) U LI OP) → wY_join_3 post (nI c) (nI l) (nI r) p nf (nI x) (nI n) ls (G 0) (G 1) (G 2) (G 3) (G 4) (G 5) D.2.1 D.1 U LI OP := by
  intro d
  induction d with
  | zero =>
    intro x D nf hx hnf hT hDl hDr hp
    obtain ⟨f, rfl⟩ : ∃ f, nf = f + 1 := ⟨nf - 1, by omega⟩
    rw [wY_join_3]
    dsimp only
    rw [nI_clamp (n := l) (by omega), hDl]
    exact ⟨vp_in_nI (by omega) (by omega), br_t (nI_le (by omega) (by omega)) hp⟩
  | succ d ih =>
    intro x D nf hx hnf hT hDl hDr hp
    obtain ⟨f, rfl⟩ : ∃ f, nf = f + 1 := ⟨nf - 1, by omega⟩
    rw [wY_join_3]
    dsimp only
    rw [nI_clamp (n := l) (by omega), hDl]
    refine ⟨vp_in_nI (by omega) (by omega), br_f (nI_ge (by omega) (by omega)) ⟨9, ?_⟩⟩
    have hI := pr_j1_inv (l := l) (r := r) (c0 := c) (p := p) (k := k) (m := m) (D := D) (D0 := D) (x := x) hc ⟨hT, fun _ _ => pr_same_rf⟩
    have e : (D.1 r).toNatClampNeg = tr := by rw [hDr]; exact nI_clamp (by omega)
    refine yj_17 n ls G U LI OP post _ c l r tr x p k m _ hc hl hr nl nr htr (by omega) tr 0 D 9 (by omega) (by omega) hT hDr rfl ?_
    have hp' := ih (x + 1) (pr_j1 c l r p k m D x) f (by omega) (by omega) hI.1 ((hI.2 l nl).1.trans hDl) ((hI.2 r nr).1.trans hDr) hp
    unfold pr_j1 at hp'
    rw [e] at hp'
    exact hp'
theorem yj_join (post : SY → Prop) (D : pr_D) (c l r : Nat) (p k m : Int32) (hc : c < 90) (hl : l < 90) (hr : r < 90) (nl : l ≠ c) (nr : r ≠ c) (hT : pr_TI D) (hp : post (st_Y n ls G (pr_jn c l r p k m D) U LI OP)) : wpY_join post (st_Y n ls G D U LI OP) (nI c) (nI l) (nI r) p := by
  obtain ⟨tl, h1, e1⟩ := hT l hl
  obtain ⟨tr, h2, e2⟩ := hT r hr
  unfold wpY_join
  dsimp only
  refine ⟨9, yj_3 n ls G U LI OP post c l r tl tr p k m hc hl hr nl nr h1 h2 tl 0 D 9 (by omega) (by omega) hT e1 e2 ?_⟩
  unfold pr_jn at hp
  rw [e1, nI_clamp (by omega)] at hp
  exact hp
theorem yr_67 (post : SY → Prop) (J2 : jt_Y) (i j k : Nat) (hG : pr_GI G) (hij : i < j) (hj : j ≤ 5) (hk : k < 8) (h1k : G 0 k = 1) :
    ∀ (d m : Nat) (D : pr_D) (nf : Nat), m + d = j → i < m → d < nf → pr_TI D → J2 (nI (k + 1)) (nI n) ls (G 0) (G 1) (G 2) (G 3) (G 4) (G 5) ((List.range' m d).foldl (pr_sm G i j k) D).2.1 ((List.range' m d).foldl (pr_sm G i j k) D).1 U LI OP → wY_fill_67 post J2 (nI i) (nI j) (nI k) nf (nI m) (nI n) ls (G 0) (G 1) (G 2) (G 3) (G 4) (G 5) D.2.1 D.1 U LI OP := by
  obtain ⟨⟨g1, h1⟩, ⟨g2, h2⟩, ⟨g3, h3⟩, _⟩ := pr_GIs hG hk
  intro d
  induction d with
  | zero =>
    intro m D nf hm him hnf hT hp
    obtain ⟨f, rfl⟩ : ∃ f, nf = f + 1 := ⟨nf - 1, by omega⟩
    rw [wY_fill_67]
    exact br_t (nI_le (by omega) (by omega)) (nm_r (nI_1 k) hp)
  | succ d ih =>
    intro m D nf hm him hnf hT hp
    obtain ⟨f, rfl⟩ : ∃ f, nf = f + 1 := ⟨nf - 1, by omega⟩
    rw [wY_fill_67]
    dsimp only
    unfold wpY_cell
    dsimp only
    rw [nI_clamp (n := k) (by omega), g1, g2, g3, ce_Y, ce_Y, ce_Y]
    have hI := pr_sm_inv (m := m) (D0 := D) hG (i := i) (j := j) (by omega) hj hk ⟨hT, fun _ _ => pr_same_rf⟩
    have v := vp_in_nI hk (by omega)
    refine br_f (nI_ge (by omega) (by omega)) ⟨v, br_t h1k ⟨v, v, v, v, ?_⟩⟩
    refine yj_join n ls G U LI OP _ D _ _ _ _ (nI k) (nI m) (pr_ce90 (by omega) hj h1) (pr_ce90 (by omega) (by omega) h2) (pr_ce90 (by omega) hj h3) (by unfold pr_ce; omega) (by unfold pr_ce; omega) hT ?_
    exact nm_r (nI_1 m) (ih (m + 1) _ f (by omega) (by omega) (by omega) hI.1 hp)
theorem yr_67e (post : SY → Prop) (J2 : jt_Y) (i j k : Nat) (D : pr_D) (hG : pr_GI G) (hij : i < j) (hj : j ≤ 5) (hk : k < 8) (hT : pr_TI D) (hp : J2 (nI (k + 1)) (nI n) ls (G 0) (G 1) (G 2) (G 3) (G 4) (G 5) (if G 0 k = 1 then (List.range' (i + 1) (j - 1 - i)).foldl (pr_sm G i j k) D else D).2.1 (if G 0 k = 1 then (List.range' (i + 1) (j - 1 - i)).foldl (pr_sm G i j k) D else D).1 U LI OP) : ∃ n67 : Nat, wY_fill_67 post J2 (nI i) (nI j) (nI k) n67 (nI (i + 1)) (nI n) ls (G 0) (G 1) (G 2) (G 3) (G 4) (G 5) D.2.1 D.1 U LI OP := by
  by_cases h : G 0 k = 1
  · rw [if_pos h] at hp
    exact ⟨6, yr_67 n ls G U LI OP post J2 i j k hG hij hj hk h (j - 1 - i) (i + 1) D 6 (by omega) (by omega) (by omega) hT hp⟩
  · rw [if_neg h] at hp
    refine ⟨1, ?_⟩
    rw [wY_fill_67]
    dsimp only
    rw [nI_clamp (n := k) (by omega)]
    exact br_c (fun _ => nm_r (nI_1 k) hp) (fun _ => ⟨vp_in_nI hk (by omega), br_f h (nm_r (nI_1 k) hp)⟩)
theorem yf_2 (post : SY → Prop) (i j : Nat) (hG : pr_GI G) (hij : i < j) (hj : j ≤ 5) :
    ∀ (d k : Nat) (D : pr_D) (nf : Nat), k + d = 8 → d < nf → pr_TI D → post (st_Y n ls G ((List.range' k d).foldl (pr_rl G i j) D) U LI OP) → wY_fill_2 post (nI i) (nI j) nf (nI k) (nI n) ls (G 0) (G 1) (G 2) (G 3) (G 4) (G 5) D.2.1 D.1 U LI OP := by
  intro d
  induction d with
  | zero =>
    intro k D nf hk hnf hT hp
    obtain ⟨f, rfl⟩ : ∃ f, nf = f + 1 := ⟨nf - 1, by omega⟩
    rw [wY_fill_2]
    exact br_t (nI_le (a := 8) (by omega) (by omega)) hp
  | succ d ih =>
    intro k D nf hk hnf hT hp
    obtain ⟨f, rfl⟩ : ∃ f, nf = f + 1 := ⟨nf - 1, by omega⟩
    have hk8 : k < 8 := by omega
    have hI := pr_rl_inv (D0 := D) (k := k) hG (i := i) (j := j) (by omega) hj (by omega) ⟨hT, fun _ _ => pr_same_rf⟩
    have hw := pr_w_inv (D0 := D) (k := k) hG (i := i) (j := j) (by omega) hj (by omega) ⟨hT, fun _ _ => pr_same_rf⟩
    have hp' := ih (k + 1) (pr_rl G i j D k) f (by omega) (by omega) hI.1 hp
    obtain ⟨⟨g1, h1⟩, _⟩ := pr_GIs hG hk8
    have v := vp_in_nI hk8 (by omega)
    rw [wY_fill_2]
    dsimp only
    unfold wpY_cell
    dsimp only
    rw [nI_clamp (n := k) (by omega), nI_clamp (n := i) (by omega), g1, ce_Y, nI_1]
    unfold pr_rl at hp'
    by_cases c : G 0 k = 2 ∧ j = i + 1 ∧ G 2 k = G 5 i
    · unfold pr_w at hp' hw
      rw [if_pos c] at hp' hw
      refine br_f (nI_ge (b := 8) (by omega) (by decide)) ⟨v, br_t c.1 (br_t (by rw [c.2.1]) ⟨vp_in_nI (by omega) (by omega), v, br_t c.2.2.symm ⟨v, v, ?_⟩⟩)⟩
      refine ya_ins n ls G U LI OP D _ _ (nI k) (nI i) _ (pr_ce90 (by omega) hj h1) (hT _ (pr_ce90 (by omega) hj h1)) ?_
      exact nm_e (yr_67e n ls G U LI OP post _ i j k _ hG hij hj hk8 hw.1 hp')
    · unfold pr_w at hp'
      rw [if_neg c] at hp'
      have Z := yr_67e n ls G U LI OP post _ i j k _ hG hij hj hk8 hT hp'
      refine br_f (nI_ge (b := 8) (by omega) (by decide)) ⟨v, br_c (fun a => ?_) (fun _ => nm_e Z)⟩
      refine pk_eq j (i + 1) (fun b => ⟨vp_in_nI (by omega) (by omega), v, br_f (fun e => c ⟨a, b, e.symm⟩) (nm_e Z)⟩) (fun _ => nm_e Z)
theorem yf_33 (post : SY → Prop) (J23 : jt_Y) (w : Nat) (hG : pr_GI G) (hn : n ≤ 5) (hw : 1 ≤ w) :
    ∀ (d i : Nat) (D : pr_D) (nf : Nat), i + d + w = n + 1 → d < nf → pr_TI D → J23 (nI (w + 1)) (nI n) ls (G 0) (G 1) (G 2) (G 3) (G 4) (G 5) (((List.range' i d).map (fun i => (i, i + w))).foldl (pr_sp G) D).2.1 (((List.range' i d).map (fun i => (i, i + w))).foldl (pr_sp G) D).1 U LI OP → wY_work_33 post J23 (nI w) nf (nI i) (nI n) ls (G 0) (G 1) (G 2) (G 3) (G 4) (G 5) D.2.1 D.1 U LI OP := by
  intro d
  induction d with
  | zero =>
    intro i D nf hi hnf hT hp
    obtain ⟨f, rfl⟩ : ∃ f, nf = f + 1 := ⟨nf - 1, by omega⟩
    rw [wY_work_33]
    dsimp only
    rw [nI_add]
    exact br_t (nI_lt (by omega) (by omega)) (nm_r (nI_1 w) hp)
  | succ d ih =>
    intro i D nf hi hnf hT hp
    obtain ⟨f, rfl⟩ : ∃ f, nf = f + 1 := ⟨nf - 1, by omega⟩
    have hI := pr_sp_inv hG (i := i) (j := i + w) (by omega) (by omega) hT
    rw [wY_work_33]
    dsimp only
    rw [nI_add]
    refine br_f (nI_nlt (by omega) (by omega)) ⟨9, ?_⟩
    refine yf_2 n ls G U LI OP _ i (i + w) hG (by omega) (by omega) 8 0 D 9 (by omega) (by omega) hT ?_
    exact nm_r (nI_1 i) (ih (i + 1) _ f (by omega) (by omega) hI.1 hp)
theorem yf_23 (post : SY → Prop) (hG : pr_GI G) (hn : n ≤ 5) :
    ∀ (d w : Nat) (D : pr_D) (nf : Nat), w + d = n + 1 → 1 ≤ w → d < nf → pr_TI D → post (st_Y n ls G (((List.range' w d).flatMap (fun w => (List.range' 0 (n + 1 - w)).map (fun i => (i, i + w)))).foldl (pr_sp G) D) U LI OP) → wY_work_23 post nf (nI w) (nI n) ls (G 0) (G 1) (G 2) (G 3) (G 4) (G 5) D.2.1 D.1 U LI OP := by
  intro d
  induction d with
  | zero =>
    intro w D nf he h1 hnf hT hp
    obtain ⟨f, rfl⟩ : ∃ f, nf = f + 1 := ⟨nf - 1, by omega⟩
    rw [wY_work_23]
    exact br_t (nI_lt (by omega) (by omega)) hp
  | succ d ih =>
    intro w D nf he h1 hnf hT hp
    obtain ⟨f, rfl⟩ : ∃ f, nf = f + 1 := ⟨nf - 1, by omega⟩
    rw [wY_work_23]
    refine br_f (nI_nlt (by omega) (by omega)) ⟨7, ?_⟩
    rw [List.range'_succ, List.flatMap_cons, List.foldl_append] at hp
    refine yf_33 n ls G U LI OP post _ w hG hn h1 (n + 1 - w) 0 D 7 (by omega) (by omega) hT ?_
    refine ih (w + 1) _ f (by omega) (by omega) (by omega) ?_ hp
    refine pr_TI_fold G hG _ ?_ D hT
    intro s hs
    simp only [List.mem_map] at hs
    obtain ⟨a, ha, rfl⟩ := hs
    have := fo_mem ha
    exact ⟨by dsimp only; omega, by dsimp only; omega⟩
theorem yf_z (post : SY → Prop) (hG : pr_GI G) (hn : n ≤ 5) (D : pr_D) (hp : post (st_Y n ls G ((pr_lY n).foldl (pr_sp G) (pr_z 108 108 D)) U LI OP)) :
    ∀ (d q : Nat) (nf : Nat), q + d = 108 → d < nf → wY_work_2 post (nI n) ls nf (nI q) (G 0) (G 1) (G 2) (G 3) (G 4) (G 5) (pr_z 108 q D).2.1 (pr_z 108 q D).1 U LI OP := by
  intro d
  induction d with
  | zero =>
    intro q nf hq hnf
    obtain ⟨f, rfl⟩ : ∃ f, nf = f + 1 := ⟨nf - 1, by omega⟩
    obtain rfl : q = 108 := by omega
    rw [wY_work_2]
    refine br_t (by decide) ⟨n + 1, ?_⟩
    exact yf_23 n ls G U LI OP post hG hn n 1 _ (n + 1) (by omega) (by omega) (by omega) (pr_z_TI 108 108 D (by omega) (by omega)) hp
  | succ d ih =>
    intro q nf hq hnf
    obtain ⟨f, rfl⟩ : ∃ f, nf = f + 1 := ⟨nf - 1, by omega⟩
    rw [wY_work_2]
    dsimp only
    rw [nI_clamp (n := q) (by omega), pr_z_up 108 q D (by omega)]
    refine br_f (nI_ge (b := 108) (by omega) (by decide)) ⟨vp_in_nI (by omega) (by omega), nm_e (nm_r (nI_1 q) ?_)⟩
    exact ih (q + 1) f (by omega) (by omega)
theorem yf_work (post : SY → Prop) (hG : pr_GI G) (hn : n ≤ 5) (D : pr_D) (hp : post (st_Y n ls G ((pr_lY n).foldl (pr_sp G) (pr_z 108 108 D)) U LI OP)) : wpY_work post (st_Y n ls G D U LI OP) := by
  have e : pr_z 108 0 D = D := by
    unfold pr_z
    refine Prod.ext ?_ rfl
    funext c
    dsimp only
    rw [if_neg (by omega)]
  have := yf_z n ls G U LI OP post hG hn D hp 108 0 109 (by omega) (by omega)
  rw [e] at this
  exact ⟨109, this⟩
end
