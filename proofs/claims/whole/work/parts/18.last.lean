/-! costWith to its end -/
section
variable (n : Nat) (ls : Int32) (G : Nat → Nat → Int32) (E : pr_D) (LI OP : Nat → Int32)
theorem yw_83e (post : SY → Prop) (J3 : jt_Y) (W : Nat → Int32) (rr i j k : Nat) (hG : pr_GI G) (hn : n ≤ 5) (hT : pr_TI E) (hB : ∀ i j a, i < j → j ≤ n → a < 3 → pr_Bst G E i j a) (hrr : rr < 8) (hij : i < j) (hj : j ≤ n) (hk : k < 8) (hI : wo_I n E W) (hp : J3 (nI (k + 1)) (nI n) ls (G 0) (G 1) (G 2) (G 3) (G 4) (G 5) E.2.1 E.1 (if G 0 k = 1 then (List.range' (i + 1) (j - 1 - i)).foldl (wo_m G E rr i j k) W else W) LI OP) : ∃ n83 : Nat, wY_fillUsing_83 post J3 (nI rr) (nI i) (nI j) (nI k) (nI (pr_ce i j (pr_cN G 1 k))) n83 (nI (i + 1)) (nI n) ls (G 0) (G 1) (G 2) (G 3) (G 4) (G 5) E.2.1 E.1 W LI OP := by
  by_cases h : G 0 k = 1
  · rw [if_pos h] at hp
    exact ⟨6, yw_83 n ls G E LI OP post J3 rr i j k hG hn hT hB hrr hij hj hk h (j - 1 - i) (i + 1) W 6 (by omega) (by omega) (by omega) hI hp⟩
  · rw [if_neg h] at hp
    refine ⟨1, ?_⟩
    rw [wY_fillUsing_83]
    dsimp only
    rw [nI_clamp (n := k) (by omega)]
    exact br_c (fun _ => nm_r (nI_1 k) hp) (fun _ => ⟨vp_in_nI hk (by omega), br_f h (nm_r (nI_1 k) hp)⟩)
theorem wo_r_I {W : Nat → Int32} {rr i j k : Nat} (hG : pr_GI G) (hn : n ≤ 5) (hB : ∀ i j a, i < j → j ≤ n → a < 3 → pr_Bst G E i j a) (hij : i < j) (hj : j ≤ n) (hk : k < 8) (h : wo_I n E W) : wo_I n E (wo_r G E rr i j W k) := by
  unfold wo_r
  split
  · rename_i h1
    refine fo_inv (P := wo_I n E) _ _ (wo_w_I hG hn hB hij hj hk h) ?_
    intro V m hm hV
    have hm' := fo_mem hm
    exact wo_m_I hG hn hB (by omega) (by omega) hj hk h1 hV
  · exact wo_w_I hG hn hB hij hj hk h
theorem wo_p_I {W : Nat → Int32} {rr i j : Nat} (hG : pr_GI G) (hn : n ≤ 5) (hB : ∀ i j a, i < j → j ≤ n → a < 3 → pr_Bst G E i j a) (hij : i < j) (hj : j ≤ n) (h : wo_I n E W) : wo_I n E (wo_p G E rr W (i, j)) := by
  unfold wo_p
  refine fo_inv (P := wo_I n E) _ _ h ?_
  intro V k hk hV
  have hk' := fo_mem hk
  exact wo_r_I n G E hG hn hB hij hj (by omega) hV
theorem yw_3 (post : SY → Prop) (rr i j : Nat) (hG : pr_GI G) (hn : n ≤ 5) (hT : pr_TI E) (hB : ∀ i j a, i < j → j ≤ n → a < 3 → pr_Bst G E i j a) (hrr : rr < 8) (hij : i < j) (hj : j ≤ n) :
    ∀ (d k : Nat) (W : Nat → Int32) (nf : Nat), k + d = 8 → d < nf → wo_I n E W → post (st_Y n ls G E ((List.range' k d).foldl (wo_r G E rr i j) W) LI OP) → wY_fillUsing_3 post (nI rr) (nI i) (nI j) nf (nI k) (nI n) ls (G 0) (G 1) (G 2) (G 3) (G 4) (G 5) E.2.1 E.1 W LI OP := by
  intro d
  induction d with
  | zero =>
    intro k W nf hk hnf hI hp
    obtain ⟨f, rfl⟩ : ∃ f, nf = f + 1 := ⟨nf - 1, by omega⟩
    rw [wY_fillUsing_3]
    exact br_t (nI_le (a := 8) (by omega) (by omega)) hp
  | succ d ih =>
    intro k W nf hk hnf hI hp
    obtain ⟨f, rfl⟩ : ∃ f, nf = f + 1 := ⟨nf - 1, by omega⟩
    have hk8 : k < 8 := by omega
    obtain ⟨⟨g1, h1⟩, _⟩ := pr_GIs hG hk8
    have c90 := pr_ce90 (i := i) (j := j) (by omega) (by omega) h1
    have g4 := pr_G4 hG hk8
    have hp' := ih (k + 1) (wo_r G E rr i j W k) f (by omega) (by omega) (wo_r_I n G E hG hn hB hij hj hk8 hI) hp
    have hw := wo_w_I (rr := rr) hG hn hB hij hj hk8 hI
    have v : vp_in (nI k) 8 := vp_in_nI hk8 (by omega)
    have vi : vp_in (nI i) 5 := vp_in_nI (by omega) (by omega)
    unfold wo_r at hp'
    rw [wY_fillUsing_3]
    dsimp only
    unfold wpY_cell
    dsimp only
    rw [nI_clamp (n := k) (by omega), nI_clamp (n := i) (by omega), g1, ce_Y, nI_1 i]
    by_cases c : k = rr ∧ G 0 k = 2 ∧ j = i + 1 ∧ G 2 k = G 5 i
    · unfold wo_w at hp' hw
      rw [if_pos c] at hp' hw
      have Z := yw_83e n ls G E LI OP post _ _ rr i j k hG hn hT hB hrr hij hj hk8 hw hp'
      refine br_f (nI_ge (b := 8) (by omega) (by decide)) ⟨v, v, br_t c.2.1 (br_t (by rw [c.2.2.1]) ⟨vi, v, br_t c.2.2.2.symm (br_t (by rw [c.1]) ⟨v, ?_⟩)⟩)⟩
      refine yw_better n ls G E LI OP W _ _ _ c90 (wo_V0 (hI i j _ hij hj h1)) ?_
      rw [wo_bt_l (by omega)]
      exact nm_e Z
    · unfold wo_w at hp'
      rw [if_neg c] at hp'
      have Z := yw_83e n ls G E LI OP post _ _ rr i j k hG hn hT hB hrr hij hj hk8 hI hp'
      refine br_f (nI_ge (b := 8) (by omega) (by decide)) ⟨v, v, br_c (fun z1 => ?_) (fun _ => nm_e Z)⟩
      refine pk_eq j (i + 1) (fun z2 => ⟨vi, v, br_c (fun z3 => ?_) (fun _ => nm_e Z)⟩) (fun _ => nm_e Z)
      exact pk_eq k rr (fun z4 => absurd ⟨z4, z1, z2, z3.symm⟩ c) (fun _ => nm_e Z)
theorem yw_56 (post : Int32 → SY → Prop) (J45 : jt_Y) (x1 : Int32) (rr w : Nat) (hG : pr_GI G) (hn : n ≤ 5) (hT : pr_TI E) (hB : ∀ i j a, i < j → j ≤ n → a < 3 → pr_Bst G E i j a) (hrr : rr < 8) (hw : 1 ≤ w) :
    ∀ (d i : Nat) (W : Nat → Int32) (nf : Nat), i + d + w = n + 1 → d < nf → wo_I n E W → J45 (nI (w + 1)) (nI n) ls (G 0) (G 1) (G 2) (G 3) (G 4) (G 5) E.2.1 E.1 (((List.range' i d).map (fun i => (i, i + w))).foldl (wo_p G E rr) W) LI OP → wY_costWith_56 post J45 x1 (nI rr) (nI w) nf (nI i) (nI n) ls (G 0) (G 1) (G 2) (G 3) (G 4) (G 5) E.2.1 E.1 W LI OP := by
  intro d
  induction d with
  | zero =>
    intro i W nf hi hnf hI hp
    obtain ⟨f, rfl⟩ : ∃ f, nf = f + 1 := ⟨nf - 1, by omega⟩
    rw [wY_costWith_56]
    dsimp only
    rw [nI_add]
    exact br_t (nI_lt (by omega) (by omega)) (nm_r (nI_1 w) hp)
  | succ d ih =>
    intro i W nf hi hnf hI hp
    obtain ⟨f, rfl⟩ : ∃ f, nf = f + 1 := ⟨nf - 1, by omega⟩
    rw [wY_costWith_56]
    dsimp only
    rw [nI_add]
    refine br_f (nI_nlt (by omega) (by omega)) ⟨9, ?_⟩
    refine yw_3 n ls G E LI OP _ rr i (i + w) hG hn hT hB hrr (by omega) (by omega) 8 0 W 9 (by omega) (by omega) hI ?_
    exact nm_r (nI_1 i) (ih (i + 1) (wo_p G E rr W (i, i + w)) f (by omega) (by omega) (wo_p_I n G E hG hn hB (by omega) (by omega) hI) hp)
theorem yw_45 (post : Int32 → SY → Prop) (a rr : Nat) (hG : pr_GI G) (hn : n ≤ 5) (hn0 : 0 < n) (ha : a < 3) (hT : pr_TI E) (hB : ∀ i j a, i < j → j ≤ n → a < 3 → pr_Bst G E i j a) (hrr : rr < 8) :
    ∀ (d w : Nat) (W : Nat → Int32) (nf : Nat), w + d = n + 1 → 1 ≤ w → d < nf → wo_I n E W → (∀ V, V = ((List.range' w d).flatMap (fun w => (List.range' 0 (n + 1 - w)).map (fun i => (i, i + w)))).foldl (wo_p G E rr) W → post (V (pr_ce 0 n a)) (st_Y n ls G E V LI OP)) → wY_costWith_45 post (nI a) (nI rr) nf (nI w) (nI n) ls (G 0) (G 1) (G 2) (G 3) (G 4) (G 5) E.2.1 E.1 W LI OP := by
  intro d
  induction d with
  | zero =>
    intro w W nf he h1 hnf hI hp
    obtain ⟨f, rfl⟩ : ∃ f, nf = f + 1 := ⟨nf - 1, by omega⟩
    have c90 := pr_ce90 (i := 0) (j := n) (by omega) hn ha
    have e : 18 * (0 : Int32) + 3 * nI n + nI a = nI (pr_ce 0 n a) := ce_Y 0 n a
    rw [wY_costWith_45]
    unfold wpY_cell
    dsimp only
    rw [e, nI_clamp (n := pr_ce 0 n a) (by omega)]
    exact br_t (nI_lt (by omega) (by omega)) ⟨vp_in_nI (by omega) (by omega), hp W rfl⟩
  | succ d ih =>
    intro w W nf he h1 hnf hI hp
    obtain ⟨f, rfl⟩ : ∃ f, nf = f + 1 := ⟨nf - 1, by omega⟩
    rw [wY_costWith_45]
    refine br_f (nI_nlt (by omega) (by omega)) ⟨7, ?_⟩
    rw [List.range'_succ, List.flatMap_cons, List.foldl_append] at hp
    refine yw_56 n ls G E LI OP post _ (nI a) rr w hG hn hT hB hrr h1 (n + 1 - w) 0 W 7 (by omega) (by omega) hI ?_
    refine ih (w + 1) _ f (by omega) (by omega) (by omega) ?_ hp
    refine fo_inv (P := wo_I n E) _ _ hI ?_
    intro V s hs hV
    simp only [List.mem_map] at hs
    obtain ⟨q, hq, rfl⟩ := hs
    have := fo_mem hq
    exact wo_p_I n G E hG hn hB (by omega) (by omega) hV
theorem yw_24 (post : Int32 → SY → Prop) (a rr : Nat) (hG : pr_GI G) (hn : n ≤ 5) (hn0 : 0 < n) (ha : a < 3) (hT : pr_TI E) (hB : ∀ i j a, i < j → j ≤ n → a < 3 → pr_Bst G E i j a) (hrr : rr < 8) (W : Nat → Int32) (hp : ∀ V, V = (pr_lY n).foldl (wo_p G E rr) (wo_z 108 108 W) → post (V (pr_ce 0 n a)) (st_Y n ls G E V LI OP)) :
    ∀ (d q : Nat) (nf : Nat), q + d = 108 → d < nf → wY_costWith_24 post (nI a) (nI rr) (nI n) ls nf (nI q) (G 0) (G 1) (G 2) (G 3) (G 4) (G 5) E.2.1 E.1 (wo_z 108 q W) LI OP := by
  intro d
  induction d with
  | zero =>
    intro q nf hq hnf
    obtain ⟨f, rfl⟩ : ∃ f, nf = f + 1 := ⟨nf - 1, by omega⟩
    obtain rfl : q = 108 := by omega
    rw [wY_costWith_24]
    refine br_t (by decide) ⟨n + 1, ?_⟩
    refine yw_45 n ls G E LI OP post a rr hG hn hn0 ha hT hB hrr n 1 _ (n + 1) (by omega) (by omega) (by omega) ?_ hp
    intro i j b h1 h2 h3
    exact Or.inl (wo_z0 (pr_ce90 (by omega) (by omega) h3) (by omega))
  | succ d ih =>
    intro q nf hq hnf
    obtain ⟨f, rfl⟩ : ∃ f, nf = f + 1 := ⟨nf - 1, by omega⟩
    rw [wY_costWith_24]
    dsimp only
    rw [nI_clamp (n := q) (by omega), wo_z_up 108 q W (by omega)]
    refine br_f (nI_ge (b := 108) (by omega) (by decide)) ⟨vp_in_nI (by omega) (by omega), nm_e (nm_r (nI_1 q) ?_)⟩
    exact ih (q + 1) f (by omega) (by omega)
end
theorem pr_FX_T {n : Nat} {G : Nat → Nat → Int32} (D : pr_D) (hn : n ≤ 5) (hG : pr_GI G) : pr_TI (pr_FX n G D) := by
  refine pr_TI_fold G hG _ ?_ _ (pr_z_TI 90 90 D (by omega) (by omega))
  intro s hs
  have := (cl_lX hn).1 s hs
  unfold cl_v at this
  omega
theorem rd_yCW (n : Nat) (ls : Int32) (G : Nat → Nat → Int32) (D' : pr_D) (U LI OP : Nat → Int32) (hn : n ≤ 5) (hG : pr_GI G) (v1 v2 : Int32) (post : Int32 → SY → Prop)
    (h0 : ¬ (rd_vS v1 ∧ rd_vR G v2 ∧ 0 < n) → post (-1) (st_Y n ls G D' U LI OP))
    (h1 : ∀ a rr, a < 3 → rr < 8 → 0 < n → v1 = nI a → v2 = nI rr → ¬ G 0 rr = 0 → ∀ V, V = (pr_lY n).foldl (wo_p G (pr_FY n G D') rr) (wo_z 108 108 U) → post (V (pr_ce 0 n a)) (st_Y n ls G (pr_FY n G D') V LI OP)) : wpY_costWith post (st_Y n ls G D' U LI OP) v1 v2 := by
  unfold wpY_costWith wpY_whole
  dsimp only
  refine rd_ySym (fun s => ?_) (fun s => br_t rfl (h0 (fun z => s z.1)))
  by_cases hz : n = 0
  · subst hz
    exact br_t (by decide) (br_t rfl (h0 (fun z => absurd z.2.2 (by omega))))
  · refine br_f (nI_nle (by omega) (by omega)) (br_f (by decide) ?_)
    refine rd_isY hG (fun t => br_f (by decide) ?_) (fun t => br_t rfl (h0 (fun z => t z.2.1)))
    obtain ⟨a, ha, rfl⟩ := s
    obtain ⟨rr, hrr, rfl, nf0⟩ := t
    refine yf_F n ls G U LI OP _ hG hn D' ?_
    have e : wo_z 108 0 U = U := by
      funext c
      unfold wo_z
      rw [if_neg (by omega)]
    have K := yw_24 n ls G (pr_FY n G D') LI OP post a rr hG hn (by omega) ha (pr_FY_T D' hn hG) (fun i j a h1 h2 h3 => pr_FY_B D' hn hG h1 h2 h3) hrr U (h1 a rr ha hrr (by omega) rfl rfl nf0) 108 0 109 (by omega) (by omega)
    rw [e] at K
    exact ⟨109, K⟩
theorem i_vc_costWith {k : Nat} {u : SX} {v : SY} (I : i_Rel k u v) (hk : k + 5 ≤ 2560) (v1 : Int32) (v2 : Int32) : wpX_costWith (fun r u' => wpY_costWith (fun r' v' => r' = r ∧ i_Rel (k + 5) u' v') v v1 v2) u v1 v2 := by
  obtain ⟨n, G, D, W, BL, WC, ls, D', U, LI, OP, hn, hG, rfl, rfl⟩ := I
  have N : ¬ (rd_vS v1 ∧ rd_vR G v2 ∧ 0 < n) → wpY_costWith (fun r' v' => r' = -1 ∧ i_Rel (k + 5) (st_X n G D W BL WC) v') (st_Y n ls G D' U LI OP) v1 v2 := by
    intro o
    exact rd_yCW n ls G D' U LI OP hn hG v1 v2 _ (fun _ => ⟨rfl, rd_mk hn hG⟩) (fun a rr ha hrr h0 e1 e2 nf0 V eV => absurd ⟨⟨a, ha, e1⟩, ⟨rr, hrr, e2, nf0⟩, h0⟩ o)
  unfold wpX_costWith
  dsimp only
  refine rd_sym (fun s => br_f (by decide) (rd_isX (fun t => br_f (by decide) ?_) (fun t => br_t rfl (N (fun z => t z.2.1))))) (fun s => br_t rfl (N (fun z => s z.1)))
  by_cases hz : n = 0
  · subst hz
    exact br_t (by decide) (N (fun z => absurd z.2.2 (by omega)))
  · refine br_f (nI_ne0 (by omega) (by omega)) ?_
    obtain ⟨a, ha, rfl⟩ := s
    obtain ⟨rr, hrr, rfl, nf0⟩ := t
    refine xf_F n G W BL WC _ hG hn D ?_
    refine xg_fill n G (pr_FX n G D) BL WC _ rr hG (pr_FX_T D hn hG) hrr hn W ?_
    unfold wpX_cellOf
    dsimp only
    have c90 := pr_ce90 (i := 0) (j := n) (by omega) hn ha
    have e : ((0 : Int32) * 6 + nI n) * 3 + nI a = nI (pr_ce 0 n a) := ce_X 0 n a
    rw [e, nI_clamp (n := pr_ce 0 n a) (by omega)]
    refine ⟨vp_in_nI c90 (by omega), ?_⟩
    refine rd_yCW n ls G D' U LI OP hn hG (nI a) (nI rr) _ (fun z => absurd ⟨⟨a, ha, rfl⟩, ⟨rr, hrr, rfl, nf0⟩, by omega⟩ z) (fun a' rr' ha' hrr' _ e1 e2 _ V eV => ?_)
    rw [nI_eq (by omega) (by omega)] at e1 e2
    subst e1 e2 eV
    exact ⟨(wo_XY hG hn (pr_FXY D D' hn hG) W U 0 n (by omega) (by omega) a ha).symm, rd_mk hn hG⟩
