/-! the relation, and the methods that fill no chart -/
def i_Rel (_ : Nat) (u : SX) (v : SY) : Prop := ∃ (n : Nat) (G : Nat → Nat → Int32) (D : pr_D) (W BL WC : Nat → Int32) (ls : Int32) (D' : pr_D) (U LI OP : Nat → Int32), n ≤ 5 ∧ pr_GI G ∧ u = st_X n G D W BL WC ∧ v = st_Y n ls G D' U LI OP
theorem i_up {k : Nat} {u : SX} {v : SY} (h : i_Rel k u v) : i_Rel (k + 5) u v := h
theorem i_vc0 : wpX_init (fun u => wpY_init (fun v => i_Rel 0 u v)) := by
  refine ⟨0, fun _ _ => 0, (fun _ => 0, fun _ => 0, fun _ => 0, fun _ => 0), fun _ => 0, fun _ => 0, fun _ => 0, 0, (fun _ => 0, fun _ => 0, fun _ => 0, fun _ => 0), fun _ => 0, fun _ => 0, fun _ => 0, by omega, ?_, rfl, rfl⟩
  intro k _
  exact ⟨Or.inl rfl, ⟨0, by omega, rfl⟩, ⟨0, by omega, rfl⟩, ⟨0, by omega, rfl⟩, ⟨0, by omega, rfl⟩⟩
theorem rd_mk {k n : Nat} {G : Nat → Nat → Int32} {D : pr_D} {W BL WC : Nat → Int32} {ls : Int32} {D' : pr_D} {U LI OP : Nat → Int32} (hn : n ≤ 5) (hG : pr_GI G) : i_Rel k (st_X n G D W BL WC) (st_Y n ls G D' U LI OP) :=
  ⟨n, G, D, W, BL, WC, ls, D', U, LI, OP, hn, hG, rfl, rfl⟩
def rd_vS (p : Int32) : Prop := ∃ a, a < 3 ∧ p = nI a
def rd_vC (p : Int32) : Prop := ∃ a, a ≤ 50 ∧ p = nI a
def rd_vR (G : Nat → Nat → Int32) (p : Int32) : Prop := ∃ k, k < 8 ∧ p = nI k ∧ ¬ G 0 k = 0
theorem rd_S3 {p : Int32} (h0 : ¬ p < 0) (h : ¬ 3 ≤ p) : rd_vS p := by
  rcases pk_ix p (n := 3) (by omega) with h1 | h1 | ⟨j, hj, e⟩
  · exact absurd h1 h0
  · exact absurd h1 h
  · exact ⟨j, hj, e⟩
theorem rd_S0 {p : Int32} (h : rd_vS p) : ¬ p < 0 ∧ ¬ 3 ≤ p ∧ ¬ 2 < p := by
  obtain ⟨a, ha, rfl⟩ := h
  exact ⟨nI_pos (by omega), nI_ge (b := 3) ha (by decide), nI_nlt (a := 2) (by omega) (by decide)⟩
theorem rd_sym {post : Int32 → Prop} {p : Int32} (h1 : rd_vS p → post 1) (h0 : ¬ rd_vS p → post 0) : wpX_isSymbol post p :=
  br_c (fun a => h0 (fun z => (rd_S0 z).1 a)) (fun a => br_c (fun b => h0 (fun z => (rd_S0 z).2.1 b)) (fun b => h1 (rd_S3 a b)))
theorem rd_wrd {post : Int32 → Prop} {p : Int32} (h1 : rd_vS p → post 1) (h0 : ¬ rd_vS p → post 0) : wpX_isWord post p :=
  br_c (fun a => h0 (fun z => (rd_S0 z).1 a)) (fun a => br_c (fun b => h0 (fun z => (rd_S0 z).2.1 b)) (fun b => h1 (rd_S3 a b)))
theorem rd_23 {p : Int32} (h : ¬ 2 < p) : ¬ 3 ≤ p := fun z => h (Int32.lt_of_lt_of_le (by decide) z)
theorem rd_ySym {A B : Prop} {p : Int32} (h1 : rd_vS p → B) (h0 : ¬ rd_vS p → A) : (p < 0 → A) ∧ (¬ p < 0 → ((2 < p → A) ∧ (¬ 2 < p → B))) :=
  br_c (fun a => h0 (fun z => (rd_S0 z).1 a)) (fun a => br_c (fun b => h0 (fun z => (rd_S0 z).2.2 b)) (fun b => h1 (rd_S3 a (rd_23 b))))
theorem rd_C3 {p : Int32} (h0 : ¬ p < 0) (h : p ≤ 50) : rd_vC p := nI_of2 (M := 50) (n := 50) (by decide) h0 h
theorem rd_C0 {p : Int32} (h : rd_vC p) : ¬ p < 0 ∧ p ≤ 50 := by
  obtain ⟨a, ha, rfl⟩ := h
  exact ⟨nI_pos (by omega), nI_le (b := 50) ha (by decide)⟩
theorem rd_cst {post : Int32 → Prop} {p : Int32} (h1 : rd_vC p → post 1) (h0 : ¬ rd_vC p → post 0) : wpX_isCost post p :=
  br_c (fun a => h0 (fun z => (rd_C0 z).1 a)) (fun a => br_c (fun b => h0 (fun z => absurd (rd_C0 z).2 (Int32.not_le.mpr b))) (fun b => h1 (rd_C3 a (Int32.not_lt.mp b))))
theorem rd_yCst {A B : Prop} {p : Int32} (h1 : rd_vC p → B) (h0 : ¬ rd_vC p → A) : (p < 0 → A) ∧ (¬ p < 0 → ((p ≤ 50 → B) ∧ (¬ p ≤ 50 → A))) :=
  br_c (fun a => h0 (fun z => (rd_C0 z).1 a)) (fun a => br_c (fun b => h1 (rd_C3 a b)) (fun b => h0 (fun z => b (rd_C0 z).2)))
theorem rd_isX {n : Nat} {G : Nat → Nat → Int32} {D : pr_D} {W BL WC : Nat → Int32} {post : Int32 → Prop} {p : Int32} (h1 : rd_vR G p → post 1) (h0 : ¬ rd_vR G p → post 0) : wpX_isRule post (st_X n G D W BL WC) p := by
  unfold wpX_isRule
  rcases pk_ix p (n := 8) (by omega) with h | h | ⟨j, hj, rfl⟩
  · refine br_t h (h0 ?_)
    rintro ⟨k, hk, rfl, _⟩
    exact nI_pos (by omega) h
  · refine br_f (fun z => absurd (Int32.lt_of_le_of_lt h z) (by decide)) (br_t h (h0 ?_))
    rintro ⟨k, hk, rfl, _⟩
    exact nI_ge hk (by decide) h
  · dsimp only
    rw [nI_clamp (by omega)]
    refine br_f (nI_pos (by omega)) (br_f (nI_ge (b := 8) hj (by decide)) ⟨vp_in_nI hj (by omega), br_c (fun e => h0 ?_) (fun e => h1 ⟨j, hj, rfl, e⟩)⟩)
    rintro ⟨k, hk, e', ne⟩
    rw [nI_eq (by omega) (by omega)] at e'
    subst e'
    exact ne e
theorem rd_f0 {G : Nat → Nat → Int32} (hG : pr_GI G) {k : Nat} (hk : k < 8) : G 0 k ≤ 0 ↔ G 0 k = 0 := by
  rcases (hG k hk).1 with e | e | e <;> rw [e] <;> decide
theorem rd_isY {n : Nat} {G : Nat → Nat → Int32} {ls : Int32} {D : pr_D} {U LI OP : Nat → Int32} {post : Int32 → Prop} {p : Int32} (hG : pr_GI G) (h1 : rd_vR G p → post 1) (h0 : ¬ rd_vR G p → post 0) : wpY_is post (st_Y n ls G D U LI OP) p := by
  unfold wpY_is
  rcases pk_ix p (n := 8) (by omega) with h | h | ⟨j, hj, rfl⟩
  · refine br_t h (h0 ?_)
    rintro ⟨k, hk, rfl, _⟩
    exact nI_pos (by omega) h
  · refine br_f (fun z => absurd (Int32.lt_of_le_of_lt h z) (by decide)) (br_t h (h0 ?_))
    rintro ⟨k, hk, rfl, _⟩
    exact nI_ge hk (by decide) h
  · dsimp only
    rw [nI_clamp (by omega), rd_f0 hG hj]
    refine br_f (nI_pos (by omega)) (br_f (nI_ge (b := 8) hj (by decide)) ⟨vp_in_nI hj (by omega), br_c (fun e => h0 ?_) (fun e => h1 ⟨j, hj, rfl, e⟩)⟩)
    rintro ⟨k, hk, e', ne⟩
    rw [nI_eq (by omega) (by omega)] at e'
    subst e'
    exact ne e
/-- the grammar with rule k new -/
def rd_put (G : Nat → Nat → Int32) (k : Nat) (x1 x2 x3 x4 x5 : Int32) : Nat → Nat → Int32
  | 0 => upd (G 0) k x1
  | 1 => upd (G 1) k x2
  | 2 => upd (G 2) k x3
  | 3 => upd (G 3) k x4
  | 4 => upd (G 4) k x5
  | f => G f
theorem rd_put_GI {G : Nat → Nat → Int32} (hG : pr_GI G) (k : Nat) {x1 x2 x3 x4 x5 : Int32} (h1 : x1 = 0 ∨ x1 = 1 ∨ x1 = 2) (h2 : rd_vS x2) (h3 : rd_vS x3) (h4 : rd_vS x4) (h5 : rd_vC x5) : pr_GI (rd_put G k x1 x2 x3 x4 x5) := by
  intro q hq
  show (upd (G 0) k x1 q = 0 ∨ upd (G 0) k x1 q = 1 ∨ upd (G 0) k x1 q = 2) ∧ (∃ s, s < 3 ∧ upd (G 1) k x2 q = nI s) ∧ (∃ s, s < 3 ∧ upd (G 2) k x3 q = nI s) ∧ (∃ s, s < 3 ∧ upd (G 3) k x4 q = nI s) ∧ (∃ s, s ≤ 50 ∧ upd (G 4) k x5 q = nI s)
  by_cases e : q = k
  · subst e
    rw [pk_us, pk_us, pk_us, pk_us, pk_us]
    exact ⟨h1, h2, h3, h4, h5⟩
  · rw [pk_un e, pk_un e, pk_un e, pk_un e, pk_un e]
    exact hG q hq
theorem rd_add (n : Nat) (G : Nat → Nat → Int32) (D : pr_D) (W BL WC : Nat → Int32) (ls : Int32) (D' : pr_D) (U LI OP : Nat → Int32) (hG : pr_GI G) (x1 x2 x3 x4 x5 : Int32) (h1 : x1 = 0 ∨ x1 = 1 ∨ x1 = 2) (h2 : rd_vS x2) (h3 : rd_vS x3) (h4 : rd_vS x4) (h5 : rd_vC x5) :
    ∀ d k, k + d = 8 → ∃ r G', pr_GI G' ∧ (∀ post : Int32 → SX → Prop, post r (st_X n G' D W BL WC) → wX_addRule_3 post x1 x2 x3 x4 x5 (nI n) (G 0) (G 1) (G 2) (G 3) (G 4) (G 5) D.1 D.2.1 D.2.2.1 D.2.2.2 W BL WC (d + 1) (nI k)) ∧ (∀ post : Int32 → SY → Prop, post r (st_Y n ls G' D' U LI OP) → wY_add_3 post x1 x2 x3 x4 x5 (nI n) ls (G 0) (G 1) (G 2) (G 3) (G 4) (G 5) D'.2.1 D'.1 U LI OP (d + 1) (nI k)) := by
  intro d
  induction d with
  | zero =>
    intro k hk
    have h : (8 : Int32) ≤ nI k := nI_le (a := 8) (by omega) (by omega)
    exact ⟨-2, G, hG, fun _ hp => br_t h hp, fun _ hp => br_t h hp⟩
  | succ d ih =>
    intro k hk
    have h : ¬ (8 : Int32) ≤ nI k := nI_ge (b := 8) (by omega) (by decide)
    have v : vp_in (nI k) 8 := vp_in_nI (by omega) (by omega)
    have c : (nI k).toNatClampNeg = k := nI_clamp (by omega)
    by_cases z : G 0 k = 0
    · refine ⟨nI k, rd_put G k x1 x2 x3 x4 x5, rd_put_GI hG k h1 h2 h3 h4 h5, fun post hp => ?_, fun post hp => ?_⟩
      · rw [wX_addRule_3]
        dsimp only
        rw [c]
        exact br_f h ⟨v, br_t z ⟨v, nm_e ⟨v, nm_e ⟨v, nm_e ⟨v, nm_e ⟨v, nm_e hp⟩⟩⟩⟩⟩⟩
      · rw [wY_add_3]
        dsimp only
        rw [c]
        exact br_f h ⟨v, br_t z ⟨v, nm_e ⟨v, nm_e ⟨v, nm_e ⟨v, nm_e ⟨v, nm_e hp⟩⟩⟩⟩⟩⟩
    · obtain ⟨r, G', g, hX, hY⟩ := ih (k + 1) (by omega)
      refine ⟨r, G', g, fun post hp => ?_, fun post hp => ?_⟩
      · rw [wX_addRule_3]
        dsimp only
        rw [c]
        exact br_f h ⟨v, br_f z (nm_r (nI_1 k) (hX post hp))⟩
      · rw [wY_add_3]
        dsimp only
        rw [c]
        exact br_f h ⟨v, br_f z (nm_r (nI_1 k) (hY post hp))⟩
theorem i_vc_word {k : Nat} {u : SX} {v : SY} (I : i_Rel k u v) (hk : k + 5 ≤ 2560) (v1 : Int32) (v2 : Int32) (v3 : Int32) : wpX_word (fun r u' => wpY_word (fun r' v' => r' = r ∧ i_Rel (k + 5) u' v') v v1 v2 v3) u v1 v2 v3 := by
  obtain ⟨n, G, D, W, BL, WC, ls, D', U, LI, OP, hn, hG, rfl, rfl⟩ := I
  unfold wpX_word wpY_word
  dsimp only
  refine rd_sym (fun s1 => br_f (by decide) (rd_wrd (fun s2 => br_f (by decide) (rd_cst (fun s3 => br_f (by decide) ?_) (fun s3 => br_t rfl ?_))) (fun s2 => br_t rfl ?_))) (fun s1 => br_t rfl ?_)
  · obtain ⟨r, G', g, hX, hY⟩ := rd_add n G D W BL WC ls D' U LI OP hG 2 v1 v2 0 v3 (Or.inr (Or.inr rfl)) s1 s2 ⟨0, by omega, rfl⟩ s3 8 0 (by omega)
    refine ⟨9, hX _ ?_⟩
    refine rd_ySym (fun _ => rd_ySym (fun _ => rd_yCst (fun _ => ⟨9, hY _ ⟨rfl, rd_mk hn g⟩⟩) (fun z => absurd s3 z)) (fun z => absurd s2 z)) (fun z => absurd s1 z)
  · exact rd_ySym (fun _ => rd_ySym (fun _ => rd_yCst (fun z => absurd z s3) (fun z => ⟨rfl, rd_mk hn hG⟩)) (fun z => absurd s2 z)) (fun z => absurd s1 z)
  · exact rd_ySym (fun _ => rd_ySym (fun z => absurd z s2) (fun z => ⟨rfl, rd_mk hn hG⟩)) (fun z => absurd s1 z)
  · exact rd_ySym (fun z => absurd z s1) (fun z => ⟨rfl, rd_mk hn hG⟩)
theorem rd_a3 {A B : Prop} {x : Int32} (h1 : rd_vS (x &&& 3) → B) (h0 : ¬ rd_vS (x &&& 3) → A) : (2 < x &&& 3 → A) ∧ (¬ 2 < x &&& 3 → B) := by
  obtain ⟨j, hj, e⟩ := pk_andE x (m := 3) 2 (by decide)
  rw [e] at h1 h0 ⊢
  exact br_c (fun a => h0 (fun z => (rd_S0 z).2.2 a)) (fun a => h1 (rd_S3 (nI_pos (by omega)) (rd_23 a)))
theorem i_vc_pair {k : Nat} {u : SX} {v : SY} (I : i_Rel k u v) (hk : k + 5 ≤ 2560) (v1 : Int32) (v2 : Int32) : wpX_pair (fun r u' => wpY_pair (fun r' v' => r' = r ∧ i_Rel (k + 5) u' v') v v1 v2) u v1 v2 := by
  obtain ⟨n, G, D, W, BL, WC, ls, D', U, LI, OP, hn, hG, rfl, rfl⟩ := I
  unfold wpX_pair wpY_pair
  dsimp only
  generalize v1 >>> ((4 : Int32) &&& 31) = c
  generalize v1 >>> ((2 : Int32) &&& 31) = b
  refine nm_e (nm_e (nm_e ?_))
  refine rd_sym (fun s1 => br_f (by decide) (rd_sym (fun s2 => br_f (by decide) (rd_sym (fun s3 => br_f (by decide) (rd_cst (fun s4 => br_f (by decide) ?_) (fun s4 => br_t rfl ?_))) (fun s3 => br_t rfl ?_))) (fun s2 => br_t rfl ?_))) (fun s1 => br_t rfl ?_)
  · obtain ⟨r, G', g, hX, hY⟩ := rd_add n G D W BL WC ls D' U LI OP hG 1 (v1 &&& 3) (b &&& 3) c v2 (Or.inr (Or.inl rfl)) s1 s2 s3 s4 8 0 (by omega)
    refine ⟨9, hX _ ?_⟩
    refine nm_e (nm_e (nm_e ?_))
    exact rd_a3 (fun _ => rd_a3 (fun _ => rd_ySym (fun _ => rd_yCst (fun _ => ⟨9, hY _ ⟨rfl, rd_mk hn g⟩⟩) (fun z => absurd s4 z)) (fun z => absurd s3 z)) (fun z => absurd s2 z)) (fun z => absurd s1 z)
  · refine nm_e (nm_e (nm_e ?_))
    exact rd_a3 (fun _ => rd_a3 (fun _ => rd_ySym (fun _ => rd_yCst (fun z => absurd z s4) (fun z => ⟨rfl, rd_mk hn hG⟩)) (fun z => absurd s3 z)) (fun z => absurd s2 z)) (fun z => absurd s1 z)
  · refine nm_e (nm_e (nm_e ?_))
    exact rd_a3 (fun _ => rd_a3 (fun _ => rd_ySym (fun z => absurd z s3) (fun z => ⟨rfl, rd_mk hn hG⟩)) (fun z => absurd s2 z)) (fun z => absurd s1 z)
  · refine nm_e (nm_e (nm_e ?_))
    exact rd_a3 (fun _ => rd_a3 (fun z => absurd z s2) (fun z => ⟨rfl, rd_mk hn hG⟩)) (fun z => absurd s1 z)
  · refine nm_e (nm_e (nm_e ?_))
    exact rd_a3 (fun z => absurd z s1) (fun z => ⟨rfl, rd_mk hn hG⟩)
/-- the grammar with one field new -/
def rd_set (G : Nat → Nat → Int32) (f0 : Nat) (g : Nat → Int32) : Nat → Nat → Int32 := fun f => if f = f0 then g else G f
theorem i_vc_drop {k : Nat} {u : SX} {v : SY} (I : i_Rel k u v) (hk : k + 5 ≤ 2560) (v1 : Int32) : wpX_drop (fun r u' => wpY_drop (fun r' v' => r' = r ∧ i_Rel (k + 5) u' v') v v1) u v1 := by
  obtain ⟨n, G, D, W, BL, WC, ls, D', U, LI, OP, hn, hG, rfl, rfl⟩ := I
  unfold wpX_drop wpY_drop
  dsimp only
  refine rd_isX (fun s => br_f (by decide) ?_) (fun s => br_t rfl ?_)
  · have s' := s
    obtain ⟨j, hj, rfl, _⟩ := s'
    refine ⟨vp_in_nI hj (by omega), nm_e ?_⟩
    refine rd_isY hG (fun _ => br_f (by decide) ⟨vp_in_nI hj (by omega), nm_e ⟨rfl, ?_⟩⟩) (fun z => absurd s z)
    have g : pr_GI (rd_set G 0 (upd (G 0) (nI j).toNatClampNeg 0)) := by
      intro q hq
      show (upd (G 0) (nI j).toNatClampNeg 0 q = 0 ∨ upd (G 0) (nI j).toNatClampNeg 0 q = 1 ∨ upd (G 0) (nI j).toNatClampNeg 0 q = 2) ∧ _
      refine ⟨?_, (hG q hq).2⟩
      by_cases e : q = (nI j).toNatClampNeg
      · rw [e, pk_us]; exact Or.inl rfl
      · rw [pk_un e]; exact (hG q hq).1
    exact ⟨n, rd_set G 0 (upd (G 0) (nI j).toNatClampNeg 0), D, W, BL, WC, ls, D', U, LI, OP, hn, g, rfl, rfl⟩
  · exact rd_isY hG (fun z => absurd z s) (fun _ => br_t rfl ⟨rfl, rd_mk hn hG⟩)
theorem i_vc_price {k : Nat} {u : SX} {v : SY} (I : i_Rel k u v) (hk : k + 5 ≤ 2560) (v1 : Int32) (v2 : Int32) : wpX_price (fun r u' => wpY_price (fun r' v' => r' = r ∧ i_Rel (k + 5) u' v') v v1 v2) u v1 v2 := by
  obtain ⟨n, G, D, W, BL, WC, ls, D', U, LI, OP, hn, hG, rfl, rfl⟩ := I
  unfold wpX_price wpY_price
  dsimp only
  refine rd_isX (fun s => br_f (by decide) (rd_cst (fun t => br_f (by decide) ?_) (fun t => br_t rfl ?_))) (fun s => br_t rfl ?_)
  · have s' := s
    obtain ⟨j, hj, rfl, _⟩ := s'
    refine ⟨vp_in_nI hj (by omega), nm_e ?_⟩
    refine rd_isY hG (fun _ => br_f (by decide) (rd_yCst (fun _ => ⟨vp_in_nI hj (by omega), nm_e ⟨rfl, ?_⟩⟩) (fun z => absurd t z))) (fun z => absurd s z)
    have g : pr_GI (rd_set G 4 (upd (G 4) (nI j).toNatClampNeg v2)) := by
      intro q hq
      refine ⟨(hG q hq).1, (hG q hq).2.1, (hG q hq).2.2.1, (hG q hq).2.2.2.1, ?_⟩
      show ∃ s, s ≤ 50 ∧ upd (G 4) (nI j).toNatClampNeg v2 q = nI s
      by_cases e : q = (nI j).toNatClampNeg
      · rw [e, pk_us]; exact t
      · rw [pk_un e]; exact (hG q hq).2.2.2.2
    exact ⟨n, rd_set G 4 (upd (G 4) (nI j).toNatClampNeg v2), D, W, BL, WC, ls, D', U, LI, OP, hn, g, rfl, rfl⟩
  · exact rd_isY hG (fun _ => br_f (by decide) (rd_yCst (fun z => absurd z t) (fun _ => ⟨rfl, rd_mk hn hG⟩))) (fun z => absurd s z)
  · exact rd_isY hG (fun z => absurd z s) (fun _ => br_t rfl ⟨rfl, rd_mk hn hG⟩)
