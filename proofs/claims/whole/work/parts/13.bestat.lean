/-! bestAt: X's list and Y's list, cell by cell -/
theorem de_1 {i j a : Nat} (hi : i < 5) (hj : j ≤ 5) (ha : a < 3) : nI (pr_ce i j a) / 18 = nI i := by
  have := pr_ce90 hi hj ha
  rw [show (18 : Int32) = nI 18 from rfl, pk_div (by omega) (by omega) (by omega)]
  exact congrArg nI (by unfold pr_ce; omega)
theorem de_2 {i j a : Nat} (hi : i < 5) (hj : j ≤ 5) (ha : a < 3) : (nI (pr_ce i j a) - nI (pr_ce i j a) / 18 * 18) / 3 = nI j := by
  have := pr_ce90 hi hj ha
  rw [show (18 : Int32) = nI 18 from rfl, pk_rem (by omega) (by omega) (by omega), show (3 : Int32) = nI 3 from rfl, pk_div (by omega) (by omega) (by omega)]
  exact congrArg nI (by unfold pr_ce; omega)
theorem de_3 {i j a : Nat} (hi : i < 5) (hj : j ≤ 5) (ha : a < 3) : nI (pr_ce i j a) - nI (pr_ce i j a) / 3 * 3 = nI a := by
  have := pr_ce90 hi hj ha
  rw [show (3 : Int32) = nI 3 from rfl, pk_rem (by omega) (by omega) (by omega)]
  exact congrArg nI (by unfold pr_ce; omega)
theorem de_4 {i j a : Nat} (hi : i < 5) (hj : j ≤ 5) (ha : a < 3) : nI (pr_ce i j a) / 3 = nI (6 * i + j) := by
  have := pr_ce90 hi hj ha
  rw [show (3 : Int32) = nI 3 from rfl, pk_div (by omega) (by omega) (by omega)]
  exact congrArg nI (by unfold pr_ce; omega)
theorem de_5 {i j : Nat} (hi : i < 5) (hj : j ≤ 5) : nI (6 * i + j) - nI (6 * i + j) / 6 * 6 = nI j := by
  rw [show (6 : Int32) = nI 6 from rfl, pk_rem (by omega) (by omega) (by omega)]
  exact congrArg nI (by omega)
theorem de_6 {i j : Nat} (hi : i < 5) (hj : j ≤ 5) : nI (6 * i + j) / 6 = nI i := by
  rw [show (6 : Int32) = nI 6 from rfl, pk_div (by omega) (by omega) (by omega)]
  exact congrArg nI (by omega)
section
variable (n : Nat) (G : Nat → Nat → Int32) (E : pr_D) (W BL WC : Nat → Int32)
theorem xb_word (post : Int32 → SX → Prop) (i j a k0 wr t node nf : Nat) (hi : i < 5) (hj : j ≤ 5) (ha : a < 3) (hk : k0 < 8) (hwr : wr < 13) (ht : t < 5) (hnode : node < 9) (hWC : WC t = nI (pr_ce i j a)) (hb : E.2.2.1 (pr_ce i j a) = nI k0) (h2 : G 0 k0 = 2)
    (hp : wX_writeBestList_14 post (nI n) nf (nI (wr + 1)) (nI t) (nI (node + 1)) (G 0) (G 1) (G 2) (G 3) (G 4) (G 5) E.1 E.2.1 E.2.2.1 E.2.2.2 W (upd BL wr (nI k0)) WC) :
    wX_writeBestList_14 post (nI n) (nf + 1) (nI wr) (nI (t + 1)) (nI node) (G 0) (G 1) (G 2) (G 3) (G 4) (G 5) E.1 E.2.1 E.2.2.1 E.2.2.2 W BL WC := by
  have c90 := pr_ce90 hi hj ha
  rw [wX_writeBestList_14]
  dsimp only
  refine br_f (nI_ge (b := 9) hnode (by decide)) (br_f (nI_nle (by omega) (by omega)) (nm_r (pk_m1 t) ⟨vp_in_nI ht (by omega), nm_r (e' := nI (pr_ce i j a)) (by rw [nI_clamp (by omega)]; exact hWC) ⟨vp_in_nI c90 (by omega), nm_r (e' := nI k0) (by rw [nI_clamp (by omega)]; exact hb) ⟨vp_in_nI hwr (by omega), nm_r (e' := upd BL wr (nI k0)) (by rw [nI_clamp (by omega)]) (nm_r (nI_1 wr) ⟨vp_in_nI hk (by omega), br_f ?_ (nm_r (nI_1 node) hp)⟩)⟩⟩⟩))
  rw [nI_clamp (by omega), h2]
  decide
theorem xb_pair (post : Int32 → SX → Prop) (i j a k0 m0 b1 b2 wr t node nf : Nat) (hi : i < m0) (hm : m0 < j) (hj : j ≤ 5) (ha : a < 3) (hk : k0 < 8) (hwr : wr + 1 < 13) (ht : t + 1 < 5) (hnode : node < 9) (hWC : WC t = nI (pr_ce i j a)) (hb : E.2.2.1 (pr_ce i j a) = nI k0) (hs : E.2.2.2 (pr_ce i j a) = nI m0) (h1 : G 0 k0 = 1) (e1 : G 2 k0 = nI b1) (e2 : G 3 k0 = nI b2)
    (hp : wX_writeBestList_14 post (nI n) nf (nI (wr + 2)) (nI (t + 2)) (nI (node + 1)) (G 0) (G 1) (G 2) (G 3) (G 4) (G 5) E.1 E.2.1 E.2.2.1 E.2.2.2 W (upd (upd BL wr (nI k0)) (wr + 1) (nI m0)) (upd (upd WC t (nI (pr_ce m0 j b2))) (t + 1) (nI (pr_ce i m0 b1)))) :
    wX_writeBestList_14 post (nI n) (nf + 1) (nI wr) (nI (t + 1)) (nI node) (G 0) (G 1) (G 2) (G 3) (G 4) (G 5) E.1 E.2.1 E.2.2.1 E.2.2.2 W BL WC := by
  have c90 := pr_ce90 (i := i) (by omega) hj ha
  have vk : vp_in (nI k0) 8 := vp_in_nI hk (by omega)
  have kk : (nI k0).toNatClampNeg = k0 := nI_clamp (by omega)
  rw [wX_writeBestList_14]
  dsimp only
  refine br_f (nI_ge (b := 9) hnode (by decide)) (br_f (nI_nle (by omega) (by omega)) (nm_r (pk_m1 t) ⟨vp_in_nI (by omega) (by omega), nm_r (e' := nI (pr_ce i j a)) (by rw [nI_clamp (by omega)]; exact hWC) ⟨vp_in_nI c90 (by omega), nm_r (e' := nI k0) (by rw [nI_clamp (by omega)]; exact hb) ⟨vp_in_nI (by omega) (by omega), nm_r (e' := upd BL wr (nI k0)) (by rw [nI_clamp (by omega)]) (nm_r (nI_1 wr) ⟨vk, br_t ?_ ?_⟩)⟩⟩⟩))
  · rw [kk, h1]
  · refine ⟨vp_in_nI c90 (by omega), nm_r (e' := nI m0) (by rw [nI_clamp (by omega)]; exact hs) ⟨vp_in_nI hwr (by omega), nm_r (e' := upd (upd BL wr (nI k0)) (wr + 1) (nI m0)) (by rw [nI_clamp (by omega)]) (nm_r (nI_1 (wr + 1)) ⟨by decide, nm_r (de_4 (by omega) hj ha) ⟨by decide, vk, ?_⟩⟩)⟩⟩
    unfold wpX_cellOf
    rw [kk, e1, e2, de_5 (by omega) hj, de_6 (by omega) hj, ce_X, ce_X]
    refine ⟨vp_in_nI (by omega) (by omega), nm_r (e' := upd WC t (nI (pr_ce m0 j b2))) (by rw [nI_clamp (by omega)]) ⟨by decide, vk, ?_⟩⟩
    rw [nI_1]
    refine ⟨vp_in_nI ht (by omega), nm_r (e' := upd (upd WC t (nI (pr_ce m0 j b2))) (t + 1) (nI (pr_ce i m0 b1))) (by rw [nI_clamp (by omega)]) (nm_r (nI_add t 2) (nm_r (nI_1 node) hp))⟩
theorem xb_end (post : Int32 → SX → Prop) (wr s node nf : Nat) (h : node = 9 ∨ s = 0) (hn : node ≤ 9) (hp : post (nI wr) (st_X n G E W BL WC)) : wX_writeBestList_14 post (nI n) (nf + 1) (nI wr) (nI s) (nI node) (G 0) (G 1) (G 2) (G 3) (G 4) (G 5) E.1 E.2.1 E.2.2.1 E.2.2.2 W BL WC := by
  rw [wX_writeBestList_14]
  by_cases z : node = 9
  · subst z
    exact br_t (by decide) hp
  · obtain rfl := h.resolve_left z
    exact br_f (nI_ge (b := 9) (by omega) (by decide)) (br_t (by decide) hp)
end
section
variable (n : Nat) (G : Nat → Nat → Int32) (E : pr_D) (U LI OP : Nat → Int32)
theorem yb_end (post : Int32 → SY → Prop) (x2 : Int32) (wr s node nf : Nat) (h : node = 9 ∨ s = 0) (hn : node ≤ 9) (hp : wY_bestAt_164 post x2 (nI n) (nI wr) (G 0) (G 1) (G 2) (G 3) (G 4) (G 5) E.2.1 E.1 U LI OP) : wY_bestAt_36 post x2 (nf + 1) (nI s) (nI node) (nI n) (nI wr) (G 0) (G 1) (G 2) (G 3) (G 4) (G 5) E.2.1 E.1 U LI OP := by
  rw [wY_bestAt_36]
  by_cases z : node = 9
  · subst z
    exact br_t (by decide) hp
  · obtain rfl := h.resolve_left z
    exact br_f (nI_ge (b := 9) (by omega) (by decide)) (br_t (by decide) hp)
theorem yb_node (post : Int32 → SY → Prop) (x2 : Int32) (i j a k0 m0 b1 b2 wr t node nf : Nat) (hG : pr_GI G) (hT : pr_TI E) (hij : i < j) (hj : j ≤ 5) (hjn : j ≤ n) (ha : a < 3) (nz : ¬ E.1 (pr_ce i j a) = 0) (hwr : wr + 1 < 16) (ht : t + 1 < 16) (hnode : node < 9) (hOP : OP t = nI (pr_ce i j a))
    (hB : ∀ i j a, i < j → j ≤ n → a < 3 → E.1 (pr_ce i j a) = 0 ∨ pr_Q 5 (E.2.1 (8 * pr_ce i j a)))
    (hc : pr_cd G E i j a k0 m0 (E.2.1 (8 * pr_ce i j a))) (hf : ∀ k' m' v, pr_lx k' m' k0 m0 → pr_cd G E i j a k' m' v → E.2.1 (8 * pr_ce i j a) < v) (e1 : G 2 k0 = nI b1) (e2 : G 3 k0 = nI b2)
    (hw : G 0 k0 = 2 → wY_bestAt_36 post x2 nf (nI t) (nI (node + 1)) (nI n) (nI (wr + 1)) (G 0) (G 1) (G 2) (G 3) (G 4) (G 5) E.2.1 E.1 U (upd LI wr (nI k0)) OP)
    (hp : G 0 k0 = 1 → i < m0 → m0 < j → wY_bestAt_36 post x2 nf (nI (t + 2)) (nI (node + 1)) (nI n) (nI (wr + 2)) (G 0) (G 1) (G 2) (G 3) (G 4) (G 5) E.2.1 E.1 U (upd (upd LI wr (nI k0)) (wr + 1) (nI m0)) (upd (upd OP t (nI (pr_ce m0 j b2))) (t + 1) (nI (pr_ce i m0 b1)))) :
    wY_bestAt_36 post x2 (nf + 1) (nI (t + 1)) (nI node) (nI n) (nI wr) (G 0) (G 1) (G 2) (G 3) (G 4) (G 5) E.2.1 E.1 U LI OP := by
  have hk0 := (pr_cd_m hij hc).2.2
  have vt : vp_in (nI t) 16 := vp_in_nI (by omega) (by omega)
  have ct : (nI t).toNatClampNeg = t := nI_clamp (by omega)
  have cw : (nI wr).toNatClampNeg = wr := nI_clamp (by omega)
  have ck : (nI k0).toNatClampNeg = k0 := nI_clamp (by omega)
  have vk : vp_in (nI k0) 8 := vp_in_nI hk0 (by omega)
  have i5 : i < 5 := by omega
  rw [wY_bestAt_36]
  dsimp only
  refine br_f (nI_ge (b := 9) hnode (by decide)) (br_f (nI_nle (by omega) (by omega)) (nm_r (pk_m1 t) ?_))
  rw [ct, hOP, de_2 i5 hj ha, de_3 i5 hj ha, de_1 i5 hj ha]
  refine ⟨vt, by decide, nm_e ⟨vt, by decide, by decide, nm_e ⟨vt, by decide, ?_⟩⟩⟩
  refine yb_begin n (nI wr) G E U LI OP _ i j a k0 m0 hG hT hij hj hjn ha nz hB hc hf (fun z => ⟨vp_in_nI (by omega) (by omega), ?_⟩) (fun z h1 h2 => ?_)
  · have h := hw z
    rw [cw, nI_1 wr]
    exact br_t (by decide) (nm_r (nI_1 node) h)
  · have h := hp z h1 h2
    have l2 : nI wr + 2 = nI (wr + 2) := nI_add wr 2
    have l0 : nI (wr + 2) - 2 = nI wr := pk_sub (a := wr + 2) (b := 2) (by omega)
    have c1 : (nI (wr + 1)).toNatClampNeg = wr + 1 := nI_clamp (by omega)
    have cL : upd (upd LI wr (nI k0)) (wr + 1) (nI m0) wr = nI k0 := by rw [pk_un (by omega), pk_us]
    rw [cw, nI_1 wr, c1, l2]
    refine ⟨vp_in_nI (by omega) (by omega), vp_in_nI (by omega) (by omega), ?_⟩
    dsimp only
    rw [l0, cw, cL]
    refine br_f (nI_nle (by omega) (by omega)) ⟨vp_in_nI (by omega) (by omega), nm_e ⟨vk, ?_⟩⟩
    unfold wpY_cell
    dsimp only
    rw [ck, e1, e2, ce_Y, ce_Y, nI_1 t, nI_clamp (n := t + 1) (by omega)]
    exact ⟨vt, nm_e ⟨vk, vp_in_nI ht (by omega), nm_e (nm_r (nI_add t 2) (nm_r (nI_1 node) h))⟩⟩
end
/-- the waiting spans, the top one first -/
def sk_S (A : Nat → Int32) : List (Nat × Nat × Nat) → Prop
  | [] => True
  | c :: st => A st.length = nI (pr_ce c.1 c.2.1 c.2.2) ∧ sk_S A st
def sk_w : List (Nat × Nat × Nat) → Nat
  | [] => 0
  | c :: st => (c.2.1 - c.1) + sk_w st
def sk_ok (n : Nat) (E E' : pr_D) (st : List (Nat × Nat × Nat)) : Prop := ∀ c, c ∈ st → c.1 < c.2.1 ∧ c.2.1 ≤ n ∧ c.2.2 < 3 ∧ ¬ E'.1 (pr_ce c.1 c.2.1 c.2.2) = 0
theorem sk_up {A : Nat → Int32} {p : Nat} {v : Int32} : ∀ st : List (Nat × Nat × Nat), st.length ≤ p → sk_S A st → sk_S (upd A p v) st := by
  intro st
  induction st with
  | nil => intro _ _; trivial
  | cons c st ih =>
    intro h hs
    have h' : st.length < p := h
    refine ⟨?_, ih (by omega) hs.2⟩
    rw [pk_un (by omega)]
    exact hs.1
theorem sk_len {n : Nat} {E E' : pr_D} : ∀ st : List (Nat × Nat × Nat), sk_ok n E E' st → st.length ≤ sk_w st := by
  intro st
  induction st with
  | nil => intro _; exact Nat.le_refl 0
  | cons c st ih =>
    intro h
    have a := ih (fun d hd => h d (by simp [hd]))
    have b := (h c (by simp)).1
    simp only [List.length_cons, sk_w]
    omega
theorem sk_run (n : Nat) (G : Nat → Nat → Int32) (E : pr_D) (W : Nat → Int32) (E' : pr_D) (U : Nat → Int32) (hn : n ≤ 5) (hG : pr_GI G) (hT : pr_TI E') (hA : ∀ i j, i < j → j ≤ n → pr_Ag (i, j) E E') (hBst : ∀ i j a, i < j → j ≤ n → a < 3 → pr_Bst G E' i j a) (hB : ∀ i j a, i < j → j ≤ n → a < 3 → E'.1 (pr_ce i j a) = 0 ∨ pr_Q 5 (E'.2.1 (8 * pr_ce i j a))) :
    ∀ (d node wr : Nat) (st : List (Nat × Nat × Nat)) (BL WC LI OP : Nat → Int32), node + d = 9 → sk_ok n E E' st → sk_w st ≤ n → 0 < n → wr + 2 + 3 * sk_w st = 3 * n + 2 * st.length → sk_S WC st → sk_S OP st → (∀ p, p < wr → BL p = LI p) →
      ∃ (wr' : Nat) (BL' WC' LI' OP' : Nat → Int32), wr' ≤ 13 ∧ (∀ p, p < wr' → BL' p = LI' p) ∧ (∀ post : Int32 → SX → Prop, post (nI wr') (st_X n G E W BL' WC') → wX_writeBestList_14 post (nI n) (d + 1) (nI wr) (nI st.length) (nI node) (G 0) (G 1) (G 2) (G 3) (G 4) (G 5) E.1 E.2.1 E.2.2.1 E.2.2.2 W BL WC) ∧
        (∀ (post : Int32 → SY → Prop) (x2 : Int32), wY_bestAt_164 post x2 (nI n) (nI wr') (G 0) (G 1) (G 2) (G 3) (G 4) (G 5) E'.2.1 E'.1 U LI' OP' → wY_bestAt_36 post x2 (d + 1) (nI st.length) (nI node) (nI n) (nI wr) (G 0) (G 1) (G 2) (G 3) (G 4) (G 5) E'.2.1 E'.1 U LI OP) := by
  intro d
  induction d with
  | zero =>
    intro node wr st BL WC LI OP hd hok hw hn0 he hWC hOP hBL
    have := sk_len st hok
    exact ⟨wr, BL, WC, LI, OP, by omega, hBL, fun post hp => xb_end n G E W BL WC post wr _ node 0 (Or.inl (by omega)) (by omega) hp, fun post x2 hp => yb_end n G E' U LI OP post x2 wr _ node 0 (Or.inl (by omega)) (by omega) hp⟩
  | succ d ih =>
    intro node wr st BL WC LI OP hd hok hw hn0 he hWC hOP hBL
    have hlen := sk_len st hok
    cases st with
    | nil => exact ⟨wr, BL, WC, LI, OP, by omega, hBL, fun post hp => xb_end n G E W BL WC post wr _ node _ (Or.inr rfl) (by omega) hp, fun post x2 hp => yb_end n G E' U LI OP post x2 wr _ node _ (Or.inr rfl) (by omega) hp⟩
    | cons c st =>
      obtain ⟨i, j, a⟩ := c
      obtain ⟨hij, hj, ha, nz⟩ := hok (i, j, a) (by simp)
      have hok' : sk_ok n E E' st := fun x hx => hok x (by simp [hx])
      have hlen' := sk_len st hok'
      dsimp only at hij hj ha nz
      simp only [List.length_cons, sk_w] at hlen hw he
      obtain ⟨s1, s2⟩ := hWC
      obtain ⟨p1, p2⟩ := hOP
      dsimp only at s1 p1
      obtain ⟨g, _, bn⟩ := hBst i j a hij hj ha
      obtain ⟨k0, m0, b1, b2, hc, hf⟩ := bn nz
      have hk0 := (pr_cd_m hij hc).2.2
      obtain ⟨⟨g1, l1⟩, ⟨g2, l2⟩, ⟨g3, l3⟩, _⟩ := pr_GIs hG hk0
      obtain ⟨t, ht, u1, u2, u3, u4⟩ := hA i j hij hj a ha
      have t0 : t ≠ 0 := by
        rintro rfl
        exact nz u2
      have xr := (u4 t0).1.trans b1
      have xs := (u4 t0).2.trans b2
      have hc' := hc
      obtain ⟨_, c1, c2⟩ := hc'
      rcases c2 with ⟨o1, o2, o3, o4, o5⟩ | ⟨o1, o2, o3, o4, o5, o6⟩
      · obtain ⟨wr', BL', WC', LI', OP', r1, r2, r3, r4⟩ := ih (node + 1) (wr + 1) st (upd BL wr (nI k0)) WC (upd LI wr (nI k0)) OP (by omega) hok' (by omega) hn0 (by omega) s2 p2 (fun p hp => by
          by_cases e : p = wr
          · rw [e, pk_us, pk_us]
          · rw [pk_un e, pk_un e]; exact hBL p (by omega))
        refine ⟨wr', BL', WC', LI', OP', r1, r2, fun post hp => ?_, fun post x2 hp => ?_⟩
        · exact xb_word n G E W BL WC post i j a k0 wr st.length node (d + 1) (by omega) (by omega) ha hk0 (by omega) (by omega) (by omega) s1 xr o1 (r3 post hp)
        · exact yb_node n G E' U LI OP post x2 i j a k0 m0 _ _ wr st.length node (d + 1) hG hT hij (by omega) hj ha nz (by omega) (by omega) (by omega) p1 hB hc hf g2 g3 (fun _ => r4 post x2 hp) (fun z => absurd (o1.symm.trans z) (by decide))
      · have w2 : sk_w ((i, m0, pr_cN G 2 k0) :: (m0, j, pr_cN G 3 k0) :: st) = (j - i) + sk_w st := by
          simp only [sk_w]
          omega
        obtain ⟨wr', BL', WC', LI', OP', r1, r2, r3, r4⟩ := ih (node + 1) (wr + 2) ((i, m0, pr_cN G 2 k0) :: (m0, j, pr_cN G 3 k0) :: st) (upd (upd BL wr (nI k0)) (wr + 1) (nI m0)) (upd (upd WC st.length (nI (pr_ce m0 j (pr_cN G 3 k0)))) (st.length + 1) (nI (pr_ce i m0 (pr_cN G 2 k0)))) (upd (upd LI wr (nI k0)) (wr + 1) (nI m0)) (upd (upd OP st.length (nI (pr_ce m0 j (pr_cN G 3 k0)))) (st.length + 1) (nI (pr_ce i m0 (pr_cN G 2 k0))))
          (by omega) (by
            intro x hx
            simp only [List.mem_cons] at hx
            rcases hx with rfl | rfl | hx
            · exact ⟨o2, by dsimp only; omega, l2, o4⟩
            · exact ⟨o3, hj, l3, o5⟩
            · exact hok' x hx) (by rw [w2]; omega) hn0 (by rw [w2]; simp only [List.length_cons]; omega)
          ⟨pk_us, by rw [pk_un (by omega)]; exact pk_us, sk_up st (by omega) (sk_up st (by omega) s2)⟩
          ⟨pk_us, by rw [pk_un (by omega)]; exact pk_us, sk_up st (by omega) (sk_up st (by omega) p2)⟩ (fun p hp => by
          by_cases e : p = wr + 1
          · rw [e, pk_us, pk_us]
          · rw [pk_un e, pk_un e]
            by_cases e' : p = wr
            · rw [e', pk_us, pk_us]
            · rw [pk_un e', pk_un e']; exact hBL p (by omega))
        refine ⟨wr', BL', WC', LI', OP', r1, r2, fun post hp => ?_, fun post x2 hp => ?_⟩
        · exact xb_pair n G E W BL WC post i j a k0 m0 _ _ wr st.length node (d + 1) o2 o3 (by omega) ha hk0 (by omega) (by omega) (by omega) s1 xr xs o1 g2 g3 (r3 post hp)
        · exact yb_node n G E' U LI OP post x2 i j a k0 m0 _ _ wr st.length node (d + 1) hG hT hij (by omega) hj ha nz (by omega) (by omega) (by omega) p1 hB hc hf g2 g3 (fun z => absurd (o1.symm.trans z) (by decide)) (fun _ _ _ => r4 post x2 hp)
theorem sk_164 (post : Int32 → SY → Prop) (x2 : Int32) (n wr : Nat) (G : Nat → Nat → Int32) (E : pr_D) (U LI OP : Nat → Int32) (hwr : wr ≤ 13) (h1 : ∀ p, p < wr → x2 = nI p → post (LI p) (st_Y n (nI wr) G E U LI OP)) (h0 : (∀ p, p < wr → ¬ x2 = nI p) → post (-1) (st_Y n (nI wr) G E U LI OP)) : wY_bestAt_164 post x2 (nI n) (nI wr) (G 0) (G 1) (G 2) (G 3) (G 4) (G 5) E.2.1 E.1 U LI OP := by
  unfold wY_bestAt_164
  rcases pk_ix x2 (n := wr) (by omega) with h | h | ⟨p, hp, rfl⟩
  · refine br_t h (h0 ?_)
    rintro p hp rfl
    exact nI_pos (by omega) h
  · have hn : ∀ p, p < wr → ¬ x2 = nI p := by
      rintro p hp rfl
      exact nI_ge hp (by omega) h
    exact br_c (fun _ => h0 hn) (fun _ => br_t h (h0 hn))
  · rw [nI_clamp (by omega)]
    exact br_f (nI_pos (by omega)) (br_f (nI_ge hp (by omega)) ⟨vp_in_nI (by omega) (by omega), h1 p hp rfl⟩)
theorem pr_FY_T {n : Nat} {G : Nat → Nat → Int32} (D : pr_D) (hn : n ≤ 5) (hG : pr_GI G) : pr_TI (pr_FY n G D) := by
  refine pr_TI_fold G hG _ ?_ _ (pr_z_TI 108 108 D (by omega) (by omega))
  intro s hs
  have := (cl_lY hn).1 s hs
  unfold cl_v at this
  omega
theorem pr_Bst_q {G : Nat → Nat → Int32} {E : pr_D} {i j a : Nat} (hij : i < j) (hj : j ≤ 5) (h : pr_Bst G E i j a) : E.1 (pr_ce i j a) = 0 ∨ pr_Q 5 (E.2.1 (8 * pr_ce i j a)) := by
  by_cases z : E.1 (pr_ce i j a) = 0
  · exact Or.inl z
  · refine Or.inr ?_
    have := pr_Gd_0 h.1 z
    unfold pr_Q at *
    omega
/-- both lists from the whole row's cell -/
theorem sk_all {n : Nat} {G : Nat → Nat → Int32} (E : pr_D) (D' : pr_D) (W U BL WC LI OP : Nat → Int32) (hn : n ≤ 5) (h0 : 0 < n) (hG : pr_GI G) (hA : ∀ i j, i < j → j ≤ n → pr_Ag (i, j) E (pr_FY n G D')) (a : Nat) (ha : a < 3) (nz : ¬ (pr_FY n G D').1 (pr_ce 0 n a) = 0) :
    ∃ (wr' : Nat) (BL' WC' LI' OP' : Nat → Int32), wr' ≤ 13 ∧ (∀ p, p < wr' → BL' p = LI' p) ∧ (∀ post : Int32 → SX → Prop, post (nI wr') (st_X n G E W BL' WC') → wX_writeBestList_14 post (nI n) 10 0 1 0 (G 0) (G 1) (G 2) (G 3) (G 4) (G 5) E.1 E.2.1 E.2.2.1 E.2.2.2 W BL (upd WC 0 (nI (pr_ce 0 n a)))) ∧
        (∀ (post : Int32 → SY → Prop) (x2 : Int32), wY_bestAt_164 post x2 (nI n) (nI wr') (G 0) (G 1) (G 2) (G 3) (G 4) (G 5) (pr_FY n G D').2.1 (pr_FY n G D').1 U LI' OP' → wY_bestAt_36 post x2 10 1 0 (nI n) 0 (G 0) (G 1) (G 2) (G 3) (G 4) (G 5) (pr_FY n G D').2.1 (pr_FY n G D').1 U LI (upd OP 0 (nI (pr_ce 0 n a)))) := by
  have K := sk_run n G E W (pr_FY n G D') U hn hG (pr_FY_T D' hn hG) hA (fun i j a h1 h2 h3 => pr_FY_B D' hn hG h1 h2 h3) (fun i j a h1 h2 h3 => pr_Bst_q h1 (by omega) (pr_FY_B D' hn hG h1 h2 h3)) 9 0 0 [(0, n, a)] BL (upd WC 0 (nI (pr_ce 0 n a))) LI (upd OP 0 (nI (pr_ce 0 n a))) (by omega)
    (by
      intro c hc
      simp only [List.mem_singleton] at hc
      subst hc
      exact ⟨h0, Nat.le_refl n, ha, nz⟩) (by simp only [sk_w]; omega) h0 (by simp only [sk_w, List.length_cons, List.length_nil]; omega) ⟨pk_us, trivial⟩ ⟨pk_us, trivial⟩ (fun p hp => absurd hp (by omega))
  exact K
theorem rd_yBest (n : Nat) (ls : Int32) (G : Nat → Nat → Int32) (D' : pr_D) (U LI OP : Nat → Int32) (hn : n ≤ 5) (hG : pr_GI G) (v1 v2 : Int32) (post : Int32 → SY → Prop)
    (h0 : (∀ a, a < 3 → 0 < n → v1 = nI a → (pr_FY n G D').1 (pr_ce 0 n a) = 0) → post (-1) (st_Y n ls G (pr_FY n G D') U LI OP))
    (h1 : ∀ a, a < 3 → 0 < n → v1 = nI a → ¬ (pr_FY n G D').1 (pr_ce 0 n a) = 0 → ∃ n36 : Nat, wY_bestAt_36 post v2 n36 1 0 (nI n) 0 (G 0) (G 1) (G 2) (G 3) (G 4) (G 5) (pr_FY n G D').2.1 (pr_FY n G D').1 U LI (upd OP 0 (nI (pr_ce 0 n a)))) : wpY_bestAt post (st_Y n ls G D' U LI OP) v1 v2 := by
  unfold wpY_bestAt
  refine rd_yTrees n ls G D' U LI OP hn hG v1 _ (fun z => ?_) (fun a ha hn0 e => ?_)
  · exact br_t rfl (h0 (fun a ha hn0 e => absurd ⟨⟨a, ha, e⟩, hn0⟩ z))
  · by_cases z : (pr_FY n G D').1 (pr_ce 0 n a) = 0
    · refine br_t z (h0 (fun a' ha' _ e' => ?_))
      rw [e, nI_eq (by omega) (by omega)] at e'
      subst e'
      exact z
    · refine br_f z ?_
      have h := h1 a ha hn0 e z
      unfold wpY_cell
      dsimp only
      have e18 : 18 * (0 : Int32) + 3 * nI n + v1 = nI (pr_ce 0 n a) := by rw [e]; exact ce_Y 0 n a
      rw [e18]
      exact nm_e h
theorem i_vc_bestAt {k : Nat} {u : SX} {v : SY} (I : i_Rel k u v) (hk : k + 5 ≤ 2560) (v1 : Int32) (v2 : Int32) : wpX_bestAt (fun r u' => wpY_bestAt (fun r' v' => r' = r ∧ i_Rel (k + 5) u' v') v v1 v2) u v1 v2 := by
  obtain ⟨n, G, D, W, BL, WC, ls, D', U, LI, OP, hn, hG, rfl, rfl⟩ := I
  have N : (¬ (rd_vS v1 ∧ 0 < n) ∨ ∀ p, p < 13 → ¬ v2 = nI p) → wpY_bestAt (fun r' v' => r' = -1 ∧ i_Rel (k + 5) (st_X n G D W BL WC) v') (st_Y n ls G D' U LI OP) v1 v2 := by
    intro o
    refine rd_yBest n ls G D' U LI OP hn hG v1 v2 _ (fun _ => ⟨rfl, rd_mk hn hG⟩) (fun a ha hn0 e nz => ?_)
    have o' := o.resolve_left (fun z => z ⟨⟨a, ha, e⟩, hn0⟩)
    obtain ⟨wr, BL', WC', LI', OP', r1, r2, r3, r4⟩ := sk_all (pr_FX n G D) D' W U BL WC LI OP hn hn0 hG (pr_FXY D D' hn hG) a ha nz
    exact ⟨10, r4 _ v2 (sk_164 _ v2 n wr G (pr_FY n G D') U LI' OP' r1 (fun p hp e => absurd e (o' p (by omega))) (fun _ => ⟨rfl, rd_mk hn hG⟩))⟩
  unfold wpX_bestAt
  dsimp only
  refine rd_sym (fun s => br_f (by decide) ?_) (fun s => br_t rfl (N (Or.inl (fun z => s z.1))))
  by_cases hz : n = 0
  · subst hz
    exact br_t (by decide) (N (Or.inl (fun z => absurd z.2 (by omega))))
  refine br_f (nI_ne0 (by omega) (by omega)) ?_
  rcases pk_ix v2 (n := 13) (by omega) with h | h | ⟨q, hq, rfl⟩
  · refine br_t h (N (Or.inr ?_))
    rintro p hp rfl
    exact nI_pos (by omega) h
  · have hn13 : ∀ p, p < 13 → ¬ v2 = nI p := by
      rintro p hp rfl
      exact nI_ge hp (by omega) h
    exact br_c (fun _ => N (Or.inr hn13)) (fun _ => br_f (fun z => absurd (Int32.lt_of_le_of_lt h z) (by decide)) (N (Or.inr hn13)))
  · refine br_f (nI_pos (by omega)) (br_t (nI_lt (b := 13) hq (by decide)) ?_)
    obtain ⟨a, ha, rfl⟩ := s
    refine xf_F n G W BL WC _ hG hn D ?_
    unfold wpX_cellOf
    dsimp only
    have c90 := pr_ce90 (i := 0) (j := n) (by omega) hn ha
    have e : ((0 : Int32) * 6 + nI n) * 3 + nI a = nI (pr_ce 0 n a) := ce_X 0 n a
    have A := pr_FXY D D' hn hG 0 n (by omega) (by omega) a ha
    have eT := pr_ag_t A
    dsimp only at eT
    rw [e, nI_clamp (n := pr_ce 0 n a) (by omega)]
    refine ⟨vp_in_nI c90 (by omega), br_c (fun z => ?_) (fun z => ?_)⟩
    · refine rd_yBest n ls G D' U LI OP hn hG (nI a) _ _ (fun _ => ⟨rfl, rd_mk hn hG⟩) (fun a' ha' _ e' nz => ?_)
      rw [nI_eq (by omega) (by omega)] at e'
      subst e'
      exact absurd (eT.symm.trans z) nz
    · have nz : ¬ (pr_FY n G D').1 (pr_ce 0 n a) = 0 := by rw [← eT]; exact z
      obtain ⟨wr, BL', WC', LI', OP', r1, r2, r3, r4⟩ := sk_all (pr_FX n G D) D' W U BL WC LI OP hn (by omega) hG (pr_FXY D D' hn hG) a ha nz
      unfold wpX_writeBestList
      dsimp only
      refine nm_e ⟨10, r3 _ ?_⟩
      have Y : ∀ (r : Int32) (u' : SX), (∃ E BL WC, u' = st_X n G E W BL WC) → (∀ p, p < wr → nI q = nI p → LI' p = r) → ((∀ p, p < wr → ¬ nI q = nI p) → -1 = r) → wpY_bestAt (fun r' v' => r' = r ∧ i_Rel (k + 5) u' v') (st_Y n ls G D' U LI OP) (nI a) (nI q) := by
        rintro r u' ⟨E2, BL2, WC2, rfl⟩ y1 y0
        refine rd_yBest n ls G D' U LI OP hn hG (nI a) _ _ (fun y => absurd (y a ha (by omega) rfl) nz) (fun a' ha' _ e' nz' => ?_)
        rw [nI_eq (by omega) (by omega)] at e'
        subst e'
        exact ⟨10, r4 _ _ (sk_164 _ _ n wr G (pr_FY n G D') U LI' OP' r1 (fun p hp e => ⟨y1 p hp e, rd_mk hn hG⟩) (fun o => ⟨y0 o, rd_mk hn hG⟩))⟩
      refine pk_le wr q (fun le => ?_) (fun lt => ⟨vp_in_nI hq (by omega), ?_⟩)
      · refine Y _ _ ⟨_, _, _, rfl⟩ (fun p hp e => ?_) (fun _ => rfl)
        rw [nI_eq (by omega) (by omega)] at e
        omega
      · rw [nI_clamp (by omega)]
        refine Y _ _ ⟨_, _, _, rfl⟩ (fun p hp e => ?_) (fun o => absurd rfl (o q lt))
        rw [nI_eq (by omega) (by omega)] at e
        subst e
        exact (r2 q lt).symm
