/-! rules, say, unsay, length; then the questions that read the chart alone -/
theorem rd_rules (n : Nat) (G : Nat → Nat → Int32) (D : pr_D) (W BL WC : Nat → Int32) (ls : Int32) (D' : pr_D) (U LI OP : Nat → Int32) (hG : pr_GI G) :
    ∀ d k, k + d = 8 → ∀ x : Int32, ∃ r, (∀ post : Int32 → Prop, post r → wX_rules_4 post (nI n) (G 0) (G 1) (G 2) (G 3) (G 4) (G 5) D.1 D.2.1 D.2.2.1 D.2.2.2 W BL WC (d + 1) x (nI k)) ∧ (∀ post : Int32 → Prop, post r → wY_rules_4 post (nI n) ls (G 0) (G 1) (G 2) (G 3) (G 4) (G 5) D'.2.1 D'.1 U LI OP (d + 1) x (nI k)) := by
  intro d
  induction d with
  | zero =>
    intro k hk x
    have h : (8 : Int32) ≤ nI k := nI_le (a := 8) (by omega) (by omega)
    exact ⟨x, fun _ hp => br_t h hp, fun _ hp => br_t h hp⟩
  | succ d ih =>
    intro k hk x
    have h : ¬ (8 : Int32) ≤ nI k := nI_ge (b := 8) (by omega) (by decide)
    have v : vp_in (nI k) 8 := vp_in_nI (by omega) (by omega)
    have c : (nI k).toNatClampNeg = k := nI_clamp (by omega)
    by_cases z : G 0 k = 0
    · obtain ⟨r, hX, hY⟩ := ih (k + 1) (by omega) x
      refine ⟨r, fun post hp => ?_, fun post hp => ?_⟩
      · rw [wX_rules_4]
        dsimp only
        rw [c]
        exact br_f h ⟨v, br_t z (nm_r (nI_1 k) (hX post hp))⟩
      · rw [wY_rules_4]
        refine br_f h (rd_isY hG (fun w => ?_) (fun _ => br_t rfl (nm_r (Int32.or_zero) (nm_r (nI_1 k) (hY post hp)))))
        obtain ⟨q, hq, e, ne⟩ := w
        rw [nI_eq (by omega) (by omega)] at e
        subst e
        exact absurd z ne
    · obtain ⟨r, hX, hY⟩ := ih (k + 1) (by omega) (x ||| ((1 : Int32) <<< (nI k &&& 31)))
      refine ⟨r, fun post hp => ?_, fun post hp => ?_⟩
      · rw [wX_rules_4]
        dsimp only
        rw [c]
        exact br_f h ⟨v, br_f z (nm_e (nm_r (nI_1 k) (hX post hp)))⟩
      · rw [wY_rules_4]
        exact br_f h (rd_isY hG (fun _ => br_f (by decide) (nm_e (nm_r (nI_1 k) (hY post hp)))) (fun w => absurd ⟨k, by omega, rfl, z⟩ w))
theorem i_vc_rules {k : Nat} {u : SX} {v : SY} (I : i_Rel k u v) (hk : k + 5 ≤ 2560) : wpX_rules (fun r => wpY_rules (fun r' => r' = r ∧ i_Rel (k + 5) u v) v) u := by
  have I' := I
  obtain ⟨n, G, D, W, BL, WC, ls, D', U, LI, OP, hn, hG, rfl, rfl⟩ := I'
  obtain ⟨r, hX, hY⟩ := rd_rules n G D W BL WC ls D' U LI OP hG 8 0 (by omega) 0
  exact ⟨9, hX _ ⟨9, hY _ ⟨rfl, I⟩⟩⟩
theorem i_vc_length {k : Nat} {u : SX} {v : SY} (I : i_Rel k u v) (hk : k + 5 ≤ 2560) : wpX_length (fun r => wpY_length (fun r' => r' = r ∧ i_Rel (k + 5) u v) v) u := by
  have I' := I
  obtain ⟨n, G, D, W, BL, WC, ls, D', U, LI, OP, hn, hG, rfl, rfl⟩ := I'
  exact ⟨rfl, I⟩
theorem i_vc_say {k : Nat} {u : SX} {v : SY} (I : i_Rel k u v) (hk : k + 5 ≤ 2560) (v1 : Int32) : wpX_say (fun r u' => wpY_say (fun r' v' => r' = r ∧ i_Rel (k + 5) u' v') v v1) u v1 := by
  obtain ⟨n, G, D, W, BL, WC, ls, D', U, LI, OP, hn, hG, rfl, rfl⟩ := I
  unfold wpX_say wpY_say
  dsimp only
  refine rd_wrd (fun s => br_f (by decide) ?_) (fun s => br_t rfl ?_)
  · by_cases h : n < 5
    · have h5 : nI n < 5 := nI_lt (b := 5) h (by decide)
      refine br_t h5 ⟨vp_in_nI h (by omega), nm_e (nm_r (nI_1 n) ?_)⟩
      refine rd_ySym (fun _ => br_t h5 ⟨vp_in_nI h (by omega), nm_e (nm_r (nI_1 n) ⟨rfl, ?_⟩)⟩) (fun z => absurd s z)
      have g : pr_GI (rd_set G 5 (upd (G 5) (nI n).toNatClampNeg v1)) := hG
      exact ⟨n + 1, rd_set G 5 (upd (G 5) (nI n).toNatClampNeg v1), D, W, BL, WC, ls, D', U, LI, OP, by omega, g, rfl, rfl⟩
    · have h5 : ¬ nI n < 5 := nI_nlt (b := 5) (by omega) (by omega)
      exact br_f h5 (rd_ySym (fun _ => br_f h5 ⟨rfl, rd_mk hn hG⟩) (fun z => absurd s z))
  · exact rd_ySym (fun z => absurd z s) (fun _ => ⟨rfl, rd_mk hn hG⟩)
theorem i_vc_unsay {k : Nat} {u : SX} {v : SY} (I : i_Rel k u v) (hk : k + 5 ≤ 2560) : wpX_unsay (fun r u' => wpY_unsay (fun r' v' => r' = r ∧ i_Rel (k + 5) u' v') v) u := by
  obtain ⟨n, G, D, W, BL, WC, ls, D', U, LI, OP, hn, hG, rfl, rfl⟩ := I
  unfold wpX_unsay wpY_unsay
  dsimp only
  cases n with
  | zero => exact br_f (by decide) (br_t rfl ⟨rfl, rd_mk hn hG⟩)
  | succ n =>
    refine br_t (nI_lt (a := 0) (by omega) (by omega)) (nm_r (nI_pred n) ⟨vp_in_nI (by omega) (by omega), ?_⟩)
    exact br_f (nI_ne0 (by omega) (by omega)) (nm_r (nI_pred n) ⟨vp_in_nI (by omega) (by omega), rfl, rd_mk (by omega) hG⟩)
/-! the two full charts -/
def pr_FX (n : Nat) (G : Nat → Nat → Int32) (D : pr_D) : pr_D := (pr_lX n).foldl (pr_sp G) (pr_z 90 90 D)
def pr_FY (n : Nat) (G : Nat → Nat → Int32) (D : pr_D) : pr_D := (pr_lY n).foldl (pr_sp G) (pr_z 108 108 D)
theorem xf_F (n : Nat) (G : Nat → Nat → Int32) (W BL WC : Nat → Int32) (post : SX → Prop) (hG : pr_GI G) (hn : n ≤ 5) (D : pr_D) (hp : post (st_X n G (pr_FX n G D) W BL WC)) : wpX_fillChart post (st_X n G D W BL WC) := xf_fill n G W BL WC post hG hn D hp
theorem yf_F (n : Nat) (ls : Int32) (G : Nat → Nat → Int32) (U LI OP : Nat → Int32) (post : SY → Prop) (hG : pr_GI G) (hn : n ≤ 5) (D : pr_D) (hp : post (st_Y n ls G (pr_FY n G D) U LI OP)) : wpY_work post (st_Y n ls G D U LI OP) := yf_work n ls G U LI OP post hG hn D hp
theorem pr_FX_C {n : Nat} {G : Nat → Nat → Int32} (D : pr_D) (hn : n ≤ 5) (hG : pr_GI G) : pr_C G n (pr_FX n G D) (pr_z 90 90 D) := pr_C_fold hG hn (cl_lX hn) _ (pr_z_TI 90 90 D (by omega) (by omega))
theorem pr_FY_C {n : Nat} {G : Nat → Nat → Int32} (D : pr_D) (hn : n ≤ 5) (hG : pr_GI G) : pr_C G n (pr_FY n G D) (pr_z 108 108 D) := pr_C_fold hG hn (cl_lY hn) _ (pr_z_TI 108 108 D (by omega) (by omega))
theorem pr_z0 {N c : Nat} {D : pr_D} (hc : c < 90) (hN : 90 ≤ N) : (pr_z N N D).1 c = nI 0 := by
  unfold pr_z
  dsimp only
  rw [if_pos (by omega)]
  rfl
theorem pr_FXY {n : Nat} {G : Nat → Nat → Int32} (D D' : pr_D) (hn : n ≤ 5) (hG : pr_GI G) : ∀ i j, i < j → j ≤ n → pr_Ag (i, j) (pr_FX n G D) (pr_FY n G D') := by
  refine pr_C_uniq hG hn (pr_FX_C D hn hG) (pr_FY_C D' hn hG) ?_
  intro i j hij hj a ha
  exact ⟨0, by omega, pr_z0 (pr_ce90 (by dsimp only; omega) (by dsimp only; omega) ha) (by omega), pr_z0 (pr_ce90 (by dsimp only; omega) (by dsimp only; omega) ha) (by omega), fun p hp => absurd hp (by omega), fun z => absurd rfl z⟩
def rd_vP (n : Nat) (p q : Int32) : Prop := ∃ i j, i < j ∧ j ≤ n ∧ p = nI i ∧ q = nI j
theorem rd_P3 {n : Nat} {p q : Int32} (hn : n ≤ 5) (h1 : ¬ p < 0) (h2 : ¬ q ≤ p) (h3 : ¬ nI n < q) : rd_vP n p q := by
  obtain ⟨i, hi, rfl⟩ := nI_of h1
  have hq : ¬ q < 0 := fun z => h2 (Int32.le_trans (Int32.le_of_lt z) (nI_pos' hi))
  obtain ⟨j, hj, rfl⟩ := nI_of hq
  rw [nI_leI hj hi] at h2
  rw [nI_ltI (by omega) hj] at h3
  exact ⟨i, j, by omega, by omega, rfl, rfl⟩
theorem rd_P0 {n : Nat} {p q : Int32} (hn : n ≤ 5) (h : rd_vP n p q) : ¬ p < 0 ∧ ¬ q ≤ p ∧ ¬ nI n < q := by
  obtain ⟨i, j, hij, hj, rfl, rfl⟩ := h
  exact ⟨nI_pos (by omega), nI_ge hij (by omega), nI_nlt hj (by omega)⟩
theorem rd_span {n : Nat} {G : Nat → Nat → Int32} {D : pr_D} {W BL WC : Nat → Int32} {post : Int32 → Prop} {p q : Int32} (hn : n ≤ 5) (h1 : rd_vP n p q → post 1) (h0 : ¬ rd_vP n p q → post 0) : wpX_isSpan post (st_X n G D W BL WC) p q :=
  br_c (fun a => h0 (fun z => (rd_P0 hn z).1 a)) (fun a => br_c (fun b => h0 (fun z => (rd_P0 hn z).2.1 b)) (fun b => br_c (fun c => h0 (fun z => (rd_P0 hn z).2.2 c)) (fun c => h1 (rd_P3 hn a b c))))
theorem rd_ySpan {n : Nat} {A B : Prop} {p q : Int32} (hn : n ≤ 5) (h1 : rd_vP n p q → B) (h0 : ¬ rd_vP n p q → A) : (p < 0 → A) ∧ (¬ p < 0 → ((q ≤ p → A) ∧ (¬ q ≤ p → ((nI n < q → A) ∧ (¬ nI n < q → B))))) :=
  br_c (fun a => h0 (fun z => (rd_P0 hn z).1 a)) (fun a => br_c (fun b => h0 (fun z => (rd_P0 hn z).2.1 b)) (fun b => br_c (fun c => h0 (fun z => (rd_P0 hn z).2.2 c)) (fun c => h1 (rd_P3 hn a b c))))
theorem rd_ySpan' {n : Nat} {A B : Prop} {p q : Int32} (hn : n ≤ 5) (h1 : rd_vP n p q → B) (h0 : ¬ rd_vP n p q → A) : (p < 0 → A) ∧ (¬ p < 0 → ((q ≤ p → A) ∧ (¬ q ≤ p → ((q ≤ nI n → B) ∧ (¬ q ≤ nI n → A))))) :=
  br_c (fun a => h0 (fun z => (rd_P0 hn z).1 a)) (fun a => br_c (fun b => h0 (fun z => (rd_P0 hn z).2.1 b)) (fun b => br_c (fun c => h1 (rd_P3 hn a b (Int32.not_lt.mpr c))) (fun c => h0 (fun z => c (Int32.not_lt.mp (rd_P0 hn z).2.2)))))
def rd_v8 (p : Int32) : Prop := ∃ a, a < 8 ∧ p = nI a
theorem rd_83 {p : Int32} (h0 : ¬ p < 0) (h : p < 8) : rd_v8 p := by
  rcases pk_ix p (n := 8) (by omega) with h1 | h1 | ⟨j, hj, e⟩
  · exact absurd h1 h0
  · exact absurd h (Int32.not_lt.mpr h1)
  · exact ⟨j, hj, e⟩
theorem rd_80 {p : Int32} (h : rd_v8 p) : ¬ p < 0 ∧ p < 8 ∧ p ≤ 7 := by
  obtain ⟨a, ha, rfl⟩ := h
  exact ⟨nI_pos (by omega), nI_lt (b := 8) ha (by decide), nI_le (b := 7) (by omega) (by decide)⟩
theorem rd_x8 {A B : Prop} {p : Int32} (h1 : rd_v8 p → B) (h0 : ¬ rd_v8 p → A) : (p < 0 → A) ∧ (¬ p < 0 → ((p < 8 → B) ∧ (¬ p < 8 → A))) :=
  br_c (fun a => h0 (fun z => (rd_80 z).1 a)) (fun a => br_c (fun b => h1 (rd_83 a b)) (fun b => h0 (fun z => b (rd_80 z).2.1)))
theorem rd_y8 {A B : Prop} {p : Int32} (h1 : rd_v8 p → B) (h0 : ¬ rd_v8 p → A) : (p < 0 → A) ∧ (¬ p < 0 → ((p ≤ 7 → B) ∧ (¬ p ≤ 7 → A))) :=
  br_c (fun a => h0 (fun z => (rd_80 z).1 a)) (fun a => br_c (fun b => h1 (rd_83 a (Int32.lt_of_le_of_lt b (by decide)))) (fun b => h0 (fun z => b (rd_80 z).2.2)))
theorem rd_ySpanCost (n : Nat) (ls : Int32) (G : Nat → Nat → Int32) (D' : pr_D) (U LI OP : Nat → Int32) (hn : n ≤ 5) (hG : pr_GI G) (v1 v2 v3 v4 : Int32) (post : Int32 → SY → Prop)
    (h0 : ¬ (rd_vP n v1 v2 ∧ rd_vS v3 ∧ rd_v8 v4) → post (-1) (st_Y n ls G D' U LI OP)) (h1 : ∀ i j a r, i < j → j ≤ n → a < 3 → r < 8 → v1 = nI i → v2 = nI j → v3 = nI a → v4 = nI r → post (if (pr_FY n G D').1 (pr_ce i j a) ≤ nI r then -1 else (pr_FY n G D').2.1 (8 * pr_ce i j a + r)) (st_Y n ls G (pr_FY n G D') U LI OP)) : wpY_spanCost post (st_Y n ls G D' U LI OP) v1 v2 v3 v4 := by
  unfold wpY_spanCost
  dsimp only
  refine rd_ySpan hn (fun s1 => rd_ySym (fun s2 => rd_y8 (fun s3 => ?_) (fun z => h0 (fun y => z y.2.2))) (fun z => h0 (fun y => z y.2.1))) (fun z => h0 (fun y => z y.1))
  obtain ⟨i, j, hij, hj, rfl, rfl⟩ := s1
  obtain ⟨a, ha, rfl⟩ := s2
  obtain ⟨r, hr, rfl⟩ := s3
  refine yf_F n ls G U LI OP _ hG hn D' ?_
  unfold wpY_cell
  dsimp only
  have hc := pr_ce90 (i := i) (j := j) (a := a) (by omega) (by omega) ha
  have h1' := h1 i j a r hij hj ha hr rfl rfl rfl rfl
  rw [ce_Y, ce_S, nI_clamp (n := pr_ce i j a) (by omega), nI_clamp (n := 8 * pr_ce i j a + r) (by omega)]
  refine ⟨vp_in_nI (by omega) (by omega), br_c (fun z => ?_) (fun z => ⟨vp_in_nI (by omega) (by omega), ?_⟩)⟩
  · rw [if_pos z] at h1'; exact h1'
  · rw [if_neg z] at h1'; exact h1'
theorem rd_xSpanCost (n : Nat) (G : Nat → Nat → Int32) (D : pr_D) (W BL WC : Nat → Int32) (hn : n ≤ 5) (hG : pr_GI G) (v1 v2 v3 v4 : Int32) (post : Int32 → SX → Prop)
    (h0 : ¬ (rd_vP n v1 v2 ∧ rd_vS v3 ∧ rd_v8 v4) → post (-1) (st_X n G D W BL WC)) (h1 : ∀ i j a r, i < j → j ≤ n → a < 3 → r < 8 → v1 = nI i → v2 = nI j → v3 = nI a → v4 = nI r → post (if (pr_FX n G D).1 (pr_ce i j a) ≤ nI r then -1 else (pr_FX n G D).2.1 (8 * pr_ce i j a + r)) (st_X n G (pr_FX n G D) W BL WC)) : wpX_spanCost post (st_X n G D W BL WC) v1 v2 v3 v4 := by
  unfold wpX_spanCost
  dsimp only
  refine rd_span hn (fun s1 => br_f (by decide) (rd_sym (fun s2 => br_f (by decide) (rd_x8 (fun s3 => ?_) (fun z => h0 (fun y => z y.2.2)))) (fun z => br_t rfl (h0 (fun y => z y.2.1))))) (fun z => br_t rfl (h0 (fun y => z y.1)))
  obtain ⟨i, j, hij, hj, rfl, rfl⟩ := s1
  obtain ⟨a, ha, rfl⟩ := s2
  obtain ⟨r, hr, rfl⟩ := s3
  refine xf_F n G W BL WC _ hG hn D ?_
  unfold wpX_cellOf
  dsimp only
  have hc := pr_ce90 (i := i) (j := j) (a := a) (by omega) (by omega) ha
  have h1' := h1 i j a r hij hj ha hr rfl rfl rfl rfl
  rw [ce_X, ce_R, nI_clamp (n := pr_ce i j a) (by omega), nI_clamp (n := 8 * pr_ce i j a + r) (by omega)]
  refine ⟨vp_in_nI (by omega) (by omega), br_c (fun z => ?_) (fun z => ⟨vp_in_nI (by omega) (by omega), ?_⟩)⟩
  · rw [if_pos z] at h1'; exact h1'
  · rw [if_neg z] at h1'; exact h1'
theorem rd_same {c r : Nat} {E E' : pr_D} (h : pr_ag c E E') (hr : r < 8) : (if E.1 c ≤ nI r then -1 else E.2.1 (8 * c + r)) = (if E'.1 c ≤ nI r then -1 else E'.2.1 (8 * c + r)) := by
  obtain ⟨t, ht, e1, e2, e3, _⟩ := h
  rw [e1, e2]
  by_cases z : nI t ≤ nI r
  · rw [if_pos z, if_pos z]
  · rw [if_neg z, if_neg z]
    rw [nI_leI (by omega) (by omega)] at z
    exact e3 r (by omega)
theorem rd_spanCost {k n : Nat} {G : Nat → Nat → Int32} {D : pr_D} {W BL WC : Nat → Int32} {ls : Int32} {D' : pr_D} {U LI OP : Nat → Int32} (hn : n ≤ 5) (hG : pr_GI G) (v1 v2 v3 v4 : Int32) : wpX_spanCost (fun r u' => wpY_spanCost (fun r' v' => r' = r ∧ i_Rel k u' v') (st_Y n ls G D' U LI OP) v1 v2 v3 v4) (st_X n G D W BL WC) v1 v2 v3 v4 := by
  refine rd_xSpanCost n G D W BL WC hn hG v1 v2 v3 v4 _ (fun z => ?_) (fun i j a r hij hj ha hr e1 e2 e3 e4 => ?_)
  · refine rd_ySpanCost n ls G D' U LI OP hn hG v1 v2 v3 v4 _ (fun _ => ⟨rfl, rd_mk hn hG⟩) (fun i j a r hij hj ha hr e1 e2 e3 e4 => ?_)
    exact absurd ⟨⟨i, j, hij, hj, e1, e2⟩, ⟨a, ha, e3⟩, ⟨r, hr, e4⟩⟩ z
  · refine rd_ySpanCost n ls G D' U LI OP hn hG v1 v2 v3 v4 _ (fun z => absurd ⟨⟨i, j, hij, hj, e1, e2⟩, ⟨a, ha, e3⟩, ⟨r, hr, e4⟩⟩ z) (fun i' j' a' r' hij' hj' ha' hr' f1 f2 f3 f4 => ?_)
    rw [e1, nI_eq (by omega) (by omega)] at f1
    rw [e2, nI_eq (by omega) (by omega)] at f2
    rw [e3, nI_eq (by omega) (by omega)] at f3
    rw [e4, nI_eq (by omega) (by omega)] at f4
    subst f1 f2 f3 f4
    exact ⟨(rd_same (pr_FXY D D' hn hG i j hij hj a ha) hr).symm, rd_mk hn hG⟩
theorem i_vc_spanCost {k : Nat} {u : SX} {v : SY} (I : i_Rel k u v) (hk : k + 5 ≤ 2560) (v1 : Int32) (v2 : Int32) (v3 : Int32) (v4 : Int32) : wpX_spanCost (fun r u' => wpY_spanCost (fun r' v' => r' = r ∧ i_Rel (k + 5) u' v') v v1 v2 v3 v4) u v1 v2 v3 v4 := by
  obtain ⟨n, G, D, W, BL, WC, ls, D', U, LI, OP, hn, hG, rfl, rfl⟩ := I
  exact rd_spanCost hn hG v1 v2 v3 v4
theorem i_vc_cost {k : Nat} {u : SX} {v : SY} (I : i_Rel k u v) (hk : k + 5 ≤ 2560) (v1 : Int32) (v2 : Int32) : wpX_cost (fun r u' => wpY_cost (fun r' v' => r' = r ∧ i_Rel (k + 5) u' v') v v1 v2) u v1 v2 := by
  obtain ⟨n, G, D, W, BL, WC, ls, D', U, LI, OP, hn, hG, rfl, rfl⟩ := I
  unfold wpX_cost wpY_cost
  exact rd_spanCost hn hG 0 (nI n) v1 v2
theorem rd_yTrees (n : Nat) (ls : Int32) (G : Nat → Nat → Int32) (D' : pr_D) (U LI OP : Nat → Int32) (hn : n ≤ 5) (hG : pr_GI G) (v1 : Int32) (post : Int32 → SY → Prop)
    (h0 : ¬ (rd_vS v1 ∧ 0 < n) → post 0 (st_Y n ls G (pr_FY n G D') U LI OP)) (h1 : ∀ a, a < 3 → 0 < n → v1 = nI a → post ((pr_FY n G D').1 (pr_ce 0 n a)) (st_Y n ls G (pr_FY n G D') U LI OP)) : wpY_trees post (st_Y n ls G D' U LI OP) v1 := by
  unfold wpY_trees
  refine yf_F n ls G U LI OP _ hG hn D' ?_
  unfold wpY_whole wpY_cell
  dsimp only
  refine rd_ySym (fun s => ?_) (fun s => br_t rfl (h0 (fun z => s z.1)))
  by_cases hz : n = 0
  · subst hz
    exact br_t (by decide) (br_t rfl (h0 (fun z => absurd z.2 (by omega))))
  · obtain ⟨a, ha, rfl⟩ := s
    have hc := pr_ce90 (i := 0) (j := n) (a := a) (by omega) (by omega) ha
    have e : 18 * (0 : Int32) + 3 * nI n + nI a = nI (pr_ce 0 n a) := ce_Y 0 n a
    rw [e, nI_clamp (n := pr_ce 0 n a) (by omega)]
    exact br_f (nI_nle (by omega) (by omega)) (br_f (by decide) ⟨vp_in_nI (by omega) (by omega), h1 a ha (by omega) rfl⟩)
theorem i_vc_trees {k : Nat} {u : SX} {v : SY} (I : i_Rel k u v) (hk : k + 5 ≤ 2560) (v1 : Int32) : wpX_trees (fun r u' => wpY_trees (fun r' v' => r' = r ∧ i_Rel (k + 5) u' v') v v1) u v1 := by
  obtain ⟨n, G, D, W, BL, WC, ls, D', U, LI, OP, hn, hG, rfl, rfl⟩ := I
  unfold wpX_trees
  dsimp only
  refine rd_sym (fun s => br_f (by decide) ?_) (fun s => br_t rfl ?_)
  · by_cases hz : n = 0
    · subst hz
      refine br_t (by decide) (rd_yTrees 0 ls G D' U LI OP hn hG v1 _ (fun _ => ⟨rfl, rd_mk hn hG⟩) (fun a ha h _ => absurd h (by omega)))
    · refine br_f (nI_ne0 (by omega) (by omega)) ?_
      obtain ⟨a, ha, rfl⟩ := s
      refine xf_F n G W BL WC _ hG hn D ?_
      unfold wpX_cellOf
      dsimp only
      have hc := pr_ce90 (i := 0) (j := n) (a := a) (by omega) (by omega) ha
      have e : ((0 : Int32) * 6 + nI n) * 3 + nI a = nI (pr_ce 0 n a) := ce_X 0 n a
      rw [e, nI_clamp (n := pr_ce 0 n a) (by omega)]
      refine ⟨vp_in_nI (by omega) (by omega), rd_yTrees n ls G D' U LI OP hn hG (nI a) _ (fun z => absurd ⟨⟨a, ha, rfl⟩, by omega⟩ z) (fun a' ha' _ e' => ?_)⟩
      rw [nI_eq (by omega) (by omega)] at e'
      subst e'
      exact ⟨(pr_ag_t (pr_FXY D D' hn hG 0 n (by omega) (by omega) a ha)).symm, rd_mk hn hG⟩
  · exact rd_yTrees n ls G D' U LI OP hn hG v1 _ (fun _ => ⟨rfl, rd_mk hn hG⟩) (fun a ha h e => absurd ⟨a, ha, e⟩ s)
theorem rd_syms (n : Nat) (G : Nat → Nat → Int32) (E : pr_D) (W BL WC : Nat → Int32) (ls : Int32) (E' : pr_D) (U LI OP : Nat → Int32) (i j : Nat) (hi : i < 5) (hj : j ≤ 5) (hA : pr_Ag (i, j) E E') :
    ∀ d a, a + d = 3 → ∀ x : Int32, ∃ r, (∀ post : Int32 → SX → Prop, post r (st_X n G E W BL WC) → wX_symbols_20 post (nI i) (nI j) (nI n) (G 0) (G 1) (G 2) (G 3) (G 4) (G 5) E.1 E.2.1 E.2.2.1 E.2.2.2 W BL WC (d + 1) x (nI a)) ∧ (∀ post : Int32 → SY → Prop, post r (st_Y n ls G E' U LI OP) → wY_symbols_28 post (nI i) (nI j) (nI n) ls (G 0) (G 1) (G 2) (G 3) (G 4) (G 5) E'.2.1 E'.1 U LI OP (d + 1) x (nI a)) := by
  intro d
  induction d with
  | zero =>
    intro a ha x
    have h : (3 : Int32) ≤ nI a := nI_le (a := 3) (by omega) (by omega)
    exact ⟨x, fun _ hp => br_t h hp, fun _ hp => br_t h hp⟩
  | succ d ih =>
    intro a ha x
    have h : ¬ (3 : Int32) ≤ nI a := nI_ge (b := 3) (by omega) (by decide)
    have hc := pr_ce90 (i := i) (j := j) (a := a) hi hj (by omega)
    have c : (nI (pr_ce i j a)).toNatClampNeg = pr_ce i j a := nI_clamp (by omega)
    have eA : E.1 (pr_ce i j a) = E'.1 (pr_ce i j a) := pr_ag_t (hA a (by omega))
    by_cases z : E.1 (pr_ce i j a) ≤ 0
    · obtain ⟨r, hX, hY⟩ := ih (a + 1) (by omega) x
      refine ⟨r, fun post hp => ?_, fun post hp => ?_⟩
      · rw [wX_symbols_20]
        unfold wpX_cellOf
        dsimp only
        rw [ce_X, c]
        exact br_f h ⟨vp_in_nI (by omega) (by omega), br_t z (nm_r (nI_1 a) (hX post hp))⟩
      · rw [wY_symbols_28]
        unfold wpY_cell
        dsimp only
        rw [ce_Y, c, ← eA]
        exact br_f h ⟨vp_in_nI (by omega) (by omega), br_t z (nm_r Int32.or_zero (nm_r (nI_1 a) (hY post hp)))⟩
    · obtain ⟨r, hX, hY⟩ := ih (a + 1) (by omega) (x ||| ((1 : Int32) <<< (nI a &&& 31)))
      refine ⟨r, fun post hp => ?_, fun post hp => ?_⟩
      · rw [wX_symbols_20]
        unfold wpX_cellOf
        dsimp only
        rw [ce_X, c]
        exact br_f h ⟨vp_in_nI (by omega) (by omega), br_f z (nm_e (nm_r (nI_1 a) (hX post hp)))⟩
      · rw [wY_symbols_28]
        unfold wpY_cell
        dsimp only
        rw [ce_Y, c, ← eA]
        exact br_f h ⟨vp_in_nI (by omega) (by omega), br_f z (nm_e (nm_r (nI_1 a) (hY post hp)))⟩
theorem i_vc_symbols {k : Nat} {u : SX} {v : SY} (I : i_Rel k u v) (hk : k + 5 ≤ 2560) (v1 : Int32) (v2 : Int32) : wpX_symbols (fun r u' => wpY_symbols (fun r' v' => r' = r ∧ i_Rel (k + 5) u' v') v v1 v2) u v1 v2 := by
  obtain ⟨n, G, D, W, BL, WC, ls, D', U, LI, OP, hn, hG, rfl, rfl⟩ := I
  unfold wpX_symbols wpY_symbols
  dsimp only
  refine rd_span hn (fun s => br_f (by decide) ?_) (fun s => br_t rfl ?_)
  · refine xf_F n G W BL WC _ hG hn D ?_
    have s' := s
    obtain ⟨i, j, hij, hj, rfl, rfl⟩ := s'
    obtain ⟨r, hX, hY⟩ := rd_syms n G (pr_FX n G D) W BL WC ls (pr_FY n G D') U LI OP i j (by omega) (by omega) (pr_FXY D D' hn hG i j hij hj) 3 0 (by omega) 0
    refine ⟨4, hX _ ?_⟩
    refine rd_ySpan' hn (fun _ => ?_) (fun z => absurd s z)
    exact yf_F n ls G U LI OP _ hG hn D' ⟨4, hY _ ⟨rfl, rd_mk hn hG⟩⟩
  · exact rd_ySpan' hn (fun z => absurd z s) (fun _ => ⟨rfl, rd_mk hn hG⟩)
