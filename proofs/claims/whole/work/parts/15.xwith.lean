/-! X: fillLeastWith is the pure picture -/
abbrev jt_X : Type := Int32 → Int32 → (Nat → Int32) → (Nat → Int32) → (Nat → Int32) → (Nat → Int32) → (Nat → Int32) → (Nat → Int32) → (Nat → Int32) → (Nat → Int32) → (Nat → Int32) → (Nat → Int32) → (Nat → Int32) → (Nat → Int32) → (Nat → Int32) → Prop
section
variable (n : Nat) (G : Nat → Nat → Int32) (E : pr_D) (BL WC : Nat → Int32)
theorem xo_offer (W : Nat → Int32) (post : SX → Prop) (x : Int32) (c : Nat) (hc : c < 90) (hp : post (st_X n G E (upd W c (wo_mn (W c) x)) BL WC)) : wpX_offerWith post (st_X n G E W BL WC) (nI c) x := by
  have v : vp_in (nI c) 90 := vp_in_nI hc (by omega)
  unfold wpX_offerWith
  dsimp only
  rw [nI_clamp (n := c) (by omega)]
  refine ⟨v, br_c (fun z => ⟨v, nm_e ?_⟩) (fun z => ⟨v, br_c (fun y => ?_) (fun y => ⟨v, nm_e ?_⟩)⟩)⟩
  · have e : wo_mn (W c) x = x := if_pos (Or.inl z)
    rw [e] at hp
    exact hp
  · have e : wo_mn (W c) x = W c := if_neg (fun o => o.elim z (fun w => absurd y (Int32.not_le.mpr w)))
    rw [wo_id e] at hp
    exact hp
  · have e : wo_mn (W c) x = x := if_pos (Or.inr (Int32.not_le.mp y))
    rw [e] at hp
    exact hp
theorem xo_79 (W : Nat → Int32) (post : SX → Prop) (x6 x7 y : Int32) (c r : Nat) (hc : c < 90) (hr : r < 90) (nr : r ≠ c) (hp : post (st_X n G E (upd W c (if W r = -1 then y else wo_mn y (x6 + x7 + W r))) BL WC)) : wX_offerSplitWith_79 post (nI c) (nI r) x6 x7 (nI n) (G 0) (G 1) (G 2) (G 3) (G 4) (G 5) E.1 E.2.1 E.2.2.1 E.2.2.2 (upd W c y) BL WC := by
  have v : vp_in (nI r) 90 := vp_in_nI hr (by omega)
  unfold wX_offerSplitWith_79
  rw [nI_clamp (n := r) (by omega), pk_un nr]
  by_cases z : W r = -1
  · rw [if_pos z] at hp
    exact ⟨v, br_t z hp⟩
  · rw [if_neg z] at hp
    refine ⟨v, br_f z ⟨v, xo_offer n G E BL WC _ _ _ c hc ?_⟩⟩
    rw [wo_uu, pk_us]
    exact hp
theorem xo_50 (W : Nat → Int32) (post : SX → Prop) (x6 x7 x8 y : Int32) (c l r : Nat) (hc : c < 90) (hl : l < 90) (hr : r < 90) (nl : l ≠ c) (nr : r ≠ c) (hp : post (st_X n G E (upd W c (if W r = -1 then (if W l = -1 then y else wo_mn y (x6 + W l + x8)) else wo_mn (if W l = -1 then y else wo_mn y (x6 + W l + x8)) (x6 + x7 + W r))) BL WC)) : wX_offerSplitWith_50 post (nI c) (nI l) (nI r) x6 x7 x8 (nI n) (G 0) (G 1) (G 2) (G 3) (G 4) (G 5) E.1 E.2.1 E.2.2.1 E.2.2.2 (upd W c y) BL WC := by
  have v : vp_in (nI l) 90 := vp_in_nI hl (by omega)
  unfold wX_offerSplitWith_50
  rw [nI_clamp (n := l) (by omega), pk_un nl]
  by_cases z : W l = -1
  · rw [if_pos z] at hp
    exact ⟨v, br_t z (xo_79 n G E BL WC W post x6 x7 _ c r hc hr nr hp)⟩
  · rw [if_neg z] at hp
    refine ⟨v, br_f z ⟨v, xo_offer n G E BL WC _ _ _ c hc ?_⟩⟩
    rw [wo_uu, pk_us]
    exact xo_79 n G E BL WC W post x6 x7 _ c r hc hr nr hp
theorem xo_split (W : Nat → Int32) (post : SX → Prop) (rr c k l r : Nat) (hrr : rr < 8) (hk : k < 8) (hc : c < 90) (hl : l < 90) (hr : r < 90) (nl : l ≠ c) (nr : r ≠ c) (hp : post (st_X n G E (upd W c (wo_3 G E rr c k l r W)) BL WC)) : wpX_offerSplitWith post (st_X n G E W BL WC) (nI rr) (nI c) (nI k) (nI l) (nI r) := by
  have el : nI l * 8 = nI (8 * l) := by rw [show (8 : Int32) = nI 8 from rfl, pk_mul, Nat.mul_comm]
  have er : nI r * 8 = nI (8 * r) := by rw [show (8 : Int32) = nI 8 from rfl, pk_mul, Nat.mul_comm]
  unfold wpX_offerSplitWith
  dsimp only
  rw [el, er, nI_clamp (n := k) (by omega), nI_clamp (n := 8 * l) (by omega), nI_clamp (n := 8 * r) (by omega)]
  unfold wo_3 wo_2 wo_1 at hp
  refine ⟨vp_in_nI hk (by omega), nm_e ⟨vp_in_nI (by omega) (by omega), nm_e ⟨vp_in_nI (by omega) (by omega), nm_e ?_⟩⟩⟩
  refine pk_eq k rr (fun e => ?_) (fun e => ?_)
  · rw [if_pos e] at hp
    refine xo_offer n G E BL WC _ _ _ c hc ?_
    exact xo_50 n G E BL WC W post _ _ _ _ c l r hc hl hr nl nr hp
  · rw [if_neg e] at hp
    have K := xo_50 n G E BL WC W post (G 4 k) (E.2.1 (8 * l)) (E.2.1 (8 * r)) (W c) c l r hc hl hr nl nr hp
    rw [wo_id rfl] at K
    exact K
theorem xo_T {t : Nat} {x : Int32} (ht : t ≤ 8) (h : x = nI t) : x ≤ 0 ↔ x = 0 := by
  subst h
  by_cases z : t = 0
  · subst z; decide
  · constructor
    · intro y; exact absurd y (nI_nle (by omega) (by omega))
    · intro y; exact absurd y (nI_ne0 (by omega) (by omega))
theorem xo_57 (post : SX → Prop) (rr i j k : Nat) (hG : pr_GI G) (hT : pr_TI E) (hrr : rr < 8) (hij : i < j) (hj : j ≤ 5) (hk : k < 8) :
    ∀ (d m : Nat) (W : Nat → Int32) (nf : Nat), m + d = j → i < m → d < nf → post (st_X n G E ((List.range' m d).foldl (wo_m G E rr i j k) W) BL WC) → wX_offerTreesWith_57 post (nI rr) (nI k) (nI i) (nI j) (nI (pr_ce i j (pr_cN G 1 k))) nf (nI m) (nI n) (G 0) (G 1) (G 2) (G 3) (G 4) (G 5) E.1 E.2.1 E.2.2.1 E.2.2.2 W BL WC := by
  obtain ⟨⟨g1, h1⟩, ⟨g2, h2⟩, ⟨g3, h3⟩, _⟩ := pr_GIs hG hk
  intro d
  induction d with
  | zero =>
    intro m W nf hm him hnf hp
    obtain ⟨f, rfl⟩ : ∃ f, nf = f + 1 := ⟨nf - 1, by omega⟩
    rw [wX_offerTreesWith_57]
    exact br_t (nI_le (by omega) (by omega)) hp
  | succ d ih =>
    intro m W nf hm him hnf hp
    obtain ⟨f, rfl⟩ : ∃ f, nf = f + 1 := ⟨nf - 1, by omega⟩
    have c90 := pr_ce90 (i := i) (by omega) hj h1
    have l90 := pr_ce90 (i := i) (j := m) (by omega) (by omega) h2
    have r90 := pr_ce90 (i := m) (j := j) (by omega) hj h3
    have hp' := ih (m + 1) (wo_m G E rr i j k W m) f (by omega) (by omega) (by omega) hp
    unfold wo_m wo_s at hp'
    obtain ⟨tl, q1, q2⟩ := hT _ l90
    obtain ⟨tr, q3, q4⟩ := hT _ r90
    rw [wX_offerTreesWith_57]
    dsimp only
    unfold wpX_cellOf
    rw [nI_clamp (n := k) (by omega), g2, g3, ce_X, ce_X]
    dsimp only
    rw [nI_clamp (n := pr_ce i m (pr_cN G 2 k)) (by omega), nI_clamp (n := pr_ce m j (pr_cN G 3 k)) (by omega), xo_T q1 q2, xo_T q3 q4, nI_1 m]
    refine br_f (nI_ge (by omega) (by omega)) ⟨vp_in_nI hk (by omega), vp_in_nI hk (by omega), vp_in_nI l90 (by omega), br_c (fun z => ?_) (fun z => ⟨vp_in_nI r90 (by omega), br_c (fun y => ?_) (fun y => ?_)⟩)⟩
    · rw [if_pos (Or.inl z)] at hp'
      exact nm_e hp'
    · rw [if_pos (Or.inr y)] at hp'
      exact nm_e hp'
    · rw [if_neg (fun o => o.elim z y)] at hp'
      refine xo_split n G E BL WC W _ rr _ k _ _ hrr hk c90 l90 r90 (by unfold pr_ce; omega) (by unfold pr_ce; omega) ?_
      exact nm_e hp'
theorem xo_42 (W : Nat → Int32) (post : SX → Prop) (rr i j k : Nat) (hG : pr_GI G) (hT : pr_TI E) (hrr : rr < 8) (hij : i < j) (hj : j ≤ 5) (hk : k < 8) (hp : post (st_X n G E (if G 0 k = 1 then (List.range' (i + 1) (j - 1 - i)).foldl (wo_m G E rr i j k) W else W) BL WC)) : wX_offerTreesWith_42 post (nI rr) (nI k) (nI i) (nI j) (nI (pr_ce i j (pr_cN G 1 k))) (nI n) (G 0) (G 1) (G 2) (G 3) (G 4) (G 5) E.1 E.2.1 E.2.2.1 E.2.2.2 W BL WC := by
  unfold wX_offerTreesWith_42
  rw [nI_clamp (n := k) (by omega)]
  refine ⟨vp_in_nI hk (by omega), ?_⟩
  by_cases h : G 0 k = 1
  · rw [if_pos h] at hp
    exact br_t h (nm_r (nI_1 i) ⟨6, xo_57 n G E BL WC post rr i j k hG hT hrr hij hj hk (j - 1 - i) (i + 1) W 6 (by omega) (by omega) (by omega) hp⟩)
  · rw [if_neg h] at hp
    exact br_f h hp
theorem xo_rule (W : Nat → Int32) (post : SX → Prop) (rr i j k : Nat) (hG : pr_GI G) (hT : pr_TI E) (hrr : rr < 8) (hij : i < j) (hj : j ≤ 5) (hk : k < 8) (hp : post (st_X n G E (wo_r G E rr i j W k) BL WC)) : wpX_offerTreesWith post (st_X n G E W BL WC) (nI rr) (nI k) (nI i) (nI j) := by
  obtain ⟨⟨g1, h1⟩, _⟩ := pr_GIs hG hk
  have c90 := pr_ce90 (i := i) (by omega) hj h1
  unfold wpX_offerTreesWith
  dsimp only
  unfold wpX_cellOf
  rw [nI_clamp (n := k) (by omega), g1, ce_X]
  refine ⟨vp_in_nI hk (by omega), ?_⟩
  unfold wo_r wo_w at hp
  refine pk_eq k rr (fun e => ?_) (fun e => ?_)
  · refine xr_fits n G W BL WC _ i j k E hij hj hk (fun h => ?_) (fun h => ?_)
    · have cc : k = rr ∧ G 0 k = 2 ∧ j = i + 1 ∧ G 2 k = G 5 i := ⟨e, h⟩
      rw [if_pos cc] at hp
      refine br_f (by decide) ⟨vp_in_nI hk (by omega), xo_offer n G E BL WC W _ _ _ c90 ?_⟩
      exact xo_42 n G E BL WC (upd W (pr_ce i j (pr_cN G 1 k)) (wo_mn (W (pr_ce i j (pr_cN G 1 k))) (G 4 k))) post rr i j k hG hT hrr hij hj hk hp
    · have cc : ¬ (k = rr ∧ G 0 k = 2 ∧ j = i + 1 ∧ G 2 k = G 5 i) := fun o => h o.2
      rw [if_neg cc] at hp
      exact br_t rfl (xo_42 n G E BL WC _ post rr i j k hG hT hrr hij hj hk hp)
  · have cc : ¬ (k = rr ∧ G 0 k = 2 ∧ j = i + 1 ∧ G 2 k = G 5 i) := fun o => e o.1
    rw [if_neg cc] at hp
    exact xo_42 n G E BL WC _ post rr i j k hG hT hrr hij hj hk hp
theorem xg_42 (post : SX → Prop) (J23 J35 : jt_X) (rr i j : Nat) (hG : pr_GI G) (hT : pr_TI E) (hrr : rr < 8) (hij : i < j) (hj : j ≤ 5) :
    ∀ (d k : Nat) (W : Nat → Int32) (nf : Nat), k + d = 8 → d < nf → J35 (nI i + (-1)) (nI n) (G 0) (G 1) (G 2) (G 3) (G 4) (G 5) E.1 E.2.1 E.2.2.1 E.2.2.2 ((List.range' k d).foldl (wo_r G E rr i j) W) BL WC → wX_fillLeastWith_42 post J23 J35 (nI rr) (nI j) (nI i) nf (nI k) (nI n) (G 0) (G 1) (G 2) (G 3) (G 4) (G 5) E.1 E.2.1 E.2.2.1 E.2.2.2 W BL WC := by
  intro d
  induction d with
  | zero =>
    intro k W nf hk hnf hp
    obtain ⟨f, rfl⟩ : ∃ f, nf = f + 1 := ⟨nf - 1, by omega⟩
    rw [wX_fillLeastWith_42]
    exact br_t (nI_le (a := 8) (by omega) (by omega)) (nm_e hp)
  | succ d ih =>
    intro k W nf hk hnf hp
    obtain ⟨f, rfl⟩ : ∃ f, nf = f + 1 := ⟨nf - 1, by omega⟩
    rw [wX_fillLeastWith_42]
    refine br_f (nI_ge (b := 8) (by omega) (by decide)) ?_
    refine xo_rule n G E BL WC W _ rr i j k hG hT hrr hij hj (by omega) ?_
    exact nm_r (nI_1 k) (ih (k + 1) _ f (by omega) (by omega) hp)
theorem xg_35 (post : SX → Prop) (J23 : jt_X) (rr e : Nat) (hG : pr_GI G) (hT : pr_TI E) (hrr : rr < 8) (he : e ≤ 5) :
    ∀ (d : Nat) (W : Nat → Int32) (nf : Nat), d ≤ e → d < nf → J23 (nI (e + 1)) (nI n) (G 0) (G 1) (G 2) (G 3) (G 4) (G 5) E.1 E.2.1 E.2.2.1 E.2.2.2 (((pr_ds d).map (fun s => (s, e))).foldl (wo_p G E rr) W) BL WC → wX_fillLeastWith_35 post J23 (nI rr) (nI e) nf (nI d + (-1)) (nI n) (G 0) (G 1) (G 2) (G 3) (G 4) (G 5) E.1 E.2.1 E.2.2.1 E.2.2.2 W BL WC := by
  intro d
  induction d with
  | zero =>
    intro W nf hd hnf hp
    obtain ⟨f, rfl⟩ : ∃ f, nf = f + 1 := ⟨nf - 1, by omega⟩
    rw [wX_fillLeastWith_35]
    exact br_t (by decide) (nm_r (nI_1 e) hp)
  | succ d ih =>
    intro W nf hd hnf hp
    obtain ⟨f, rfl⟩ : ∃ f, nf = f + 1 := ⟨nf - 1, by omega⟩
    rw [wX_fillLeastWith_35, pk_m1]
    refine br_f (nI_pos (by omega)) ⟨9, ?_⟩
    refine xg_42 n G E BL WC post J23 _ rr d e hG hT hrr (by omega) he 8 0 W 9 (by omega) (by omega) ?_
    exact ih (wo_p G E rr W (d, e)) f (by omega) (by omega) hp
theorem xg_23 (post : SX → Prop) (rr : Nat) (hG : pr_GI G) (hT : pr_TI E) (hrr : rr < 8) (hn : n ≤ 5) :
    ∀ (d e : Nat) (W : Nat → Int32) (nf : Nat), e + d = n + 1 → 1 ≤ e → d < nf → post (st_X n G E (((List.range' e d).flatMap (fun e => (pr_ds e).map (fun s => (s, e)))).foldl (wo_p G E rr) W) BL WC) → wX_fillLeastWith_23 post (nI rr) nf (nI e) (nI n) (G 0) (G 1) (G 2) (G 3) (G 4) (G 5) E.1 E.2.1 E.2.2.1 E.2.2.2 W BL WC := by
  intro d
  induction d with
  | zero =>
    intro e W nf he h1 hnf hp
    obtain ⟨f, rfl⟩ : ∃ f, nf = f + 1 := ⟨nf - 1, by omega⟩
    rw [wX_fillLeastWith_23]
    exact br_t (nI_lt (by omega) (by omega)) hp
  | succ d ih =>
    intro e W nf he h1 hnf hp
    obtain ⟨f, rfl⟩ : ∃ f, nf = f + 1 := ⟨nf - 1, by omega⟩
    rw [wX_fillLeastWith_23]
    refine br_f (nI_nlt (by omega) (by omega)) (nm_r (e' := nI e + (-1)) (Int32.sub_eq_add_neg _ _) ⟨6, ?_⟩)
    rw [List.range'_succ, List.flatMap_cons, List.foldl_append] at hp
    refine xg_35 n G E BL WC post _ rr e hG hT hrr (by omega) e W 6 (by omega) (by omega) ?_
    exact ih (e + 1) _ f (by omega) (by omega) (by omega) hp
theorem xg_2 (post : SX → Prop) (rr : Nat) (hG : pr_GI G) (hT : pr_TI E) (hrr : rr < 8) (hn : n ≤ 5) (W : Nat → Int32) (hp : post (st_X n G E ((pr_lX n).foldl (wo_p G E rr) (wo_z 90 90 W)) BL WC)) :
    ∀ (d q : Nat) (nf : Nat), q + d = 90 → d < nf → wX_fillLeastWith_2 post (nI rr) (nI n) nf (nI q) (G 0) (G 1) (G 2) (G 3) (G 4) (G 5) E.1 E.2.1 E.2.2.1 E.2.2.2 (wo_z 90 q W) BL WC := by
  intro d
  induction d with
  | zero =>
    intro q nf hq hnf
    obtain ⟨f, rfl⟩ : ∃ f, nf = f + 1 := ⟨nf - 1, by omega⟩
    obtain rfl : q = 90 := by omega
    rw [wX_fillLeastWith_2]
    refine br_t (by decide) ⟨n + 1, ?_⟩
    exact xg_23 n G E BL WC post rr hG hT hrr hn n 1 _ (n + 1) (by omega) (by omega) (by omega) hp
  | succ d ih =>
    intro q nf hq hnf
    obtain ⟨f, rfl⟩ : ∃ f, nf = f + 1 := ⟨nf - 1, by omega⟩
    rw [wX_fillLeastWith_2]
    dsimp only
    rw [nI_clamp (n := q) (by omega), wo_z_up 90 q W (by omega)]
    refine br_f (nI_ge (b := 90) (by omega) (by decide)) ⟨vp_in_nI (by omega) (by omega), nm_e (nm_r (nI_1 q) ?_)⟩
    exact ih (q + 1) f (by omega) (by omega)
theorem xg_fill (post : SX → Prop) (rr : Nat) (hG : pr_GI G) (hT : pr_TI E) (hrr : rr < 8) (hn : n ≤ 5) (W : Nat → Int32) (hp : post (st_X n G E ((pr_lX n).foldl (wo_p G E rr) (wo_z 90 90 W)) BL WC)) : wpX_fillLeastWith post (st_X n G E W BL WC) (nI rr) := by
  have e : wo_z 90 0 W = W := by
    funext c
    unfold wo_z
    rw [if_neg (by omega)]
  have := xg_2 n G E BL WC post rr hG hT hrr hn W hp 90 0 91 (by omega) (by omega)
  rw [e] at this
  exact ⟨91, this⟩
end
