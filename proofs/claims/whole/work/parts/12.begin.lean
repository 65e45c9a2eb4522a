/-! Y: begin finds the first rule and split that reach the least cost -/
def pr_ls (E : pr_D) (c : Nat) : Int32 := if E.1 c = 0 then 100000 else E.2.1 (8 * c)
def pr_sum (G : Nat → Nat → Int32) (E : pr_D) (i j k m : Nat) : Int32 := G 4 k + pr_ls E (pr_ce i m (pr_cN G 2 k)) + pr_ls E (pr_ce m j (pr_cN G 3 k))
theorem io_100 : (100000 : Int32).toInt = 100000 := by decide +kernel
theorem pr_Gd_t {w c : Nat} {E : pr_D} (h : pr_Gd w c E) : ∃ t, t ≤ 8 ∧ E.1 c = nI t := by obtain ⟨t, a, b, _⟩ := h; exact ⟨t, a, b⟩
theorem pr_Gd_0 {w c : Nat} {E : pr_D} (h : pr_Gd w c E) (z : ¬ E.1 c = 0) : pr_Q w (E.2.1 (8 * c)) := by
  obtain ⟨t, a, b, d⟩ := h
  have : t ≠ 0 := by
    rintro rfl
    exact z b
  exact (d 0 (by omega)).1
theorem pr_ls_b {w c : Nat} {E : pr_D} (h : pr_Gd w c E) (hw : w ≤ 5) : 0 ≤ (pr_ls E c).toInt ∧ (pr_ls E c).toInt ≤ 100000 ∧ (E.1 c = 0 → (pr_ls E c).toInt = 100000) ∧ (¬ E.1 c = 0 → pr_ls E c = E.2.1 (8 * c) ∧ (pr_ls E c).toInt ≤ 450) := by
  unfold pr_ls
  by_cases z : E.1 c = 0
  · rw [if_pos z]
    rw [io_100]
    exact ⟨by omega, by omega, fun _ => rfl, fun y => absurd z y⟩
  · rw [if_neg z]
    have q := pr_Gd_0 h z
    unfold pr_Q at q
    exact ⟨by omega, by omega, fun y => absurd y z, fun _ => ⟨rfl, by omega⟩⟩
section
variable (n : Nat) (ls : Int32) (G : Nat → Nat → Int32) (E : pr_D) (U LI OP : Nat → Int32)
theorem yl_least (post : Int32 → Prop) (c : Nat) (hc : c < 90) (hT : ∃ t, t ≤ 8 ∧ E.1 c = nI t) (hp : post (pr_ls E c)) : wpY_least post (st_Y n ls G E U LI OP) (nI c) := by
  obtain ⟨t, ht, hE⟩ := hT
  have e8 : 8 * nI c = nI (8 * c) := by rw [show (8 : Int32) = nI 8 from rfl, pk_mul]
  unfold wpY_least
  unfold pr_ls at hp
  dsimp only
  rw [e8, nI_clamp (n := c) (by omega), nI_clamp (n := 8 * c) (by omega)]
  rw [hE] at hp ⊢
  refine ⟨vp_in_nI (by omega) (by omega), ?_⟩
  by_cases z : t = 0
  · subst z
    exact br_t (by decide) hp
  · rw [if_neg (nI_ne0 (by omega) (by omega))] at hp
    exact br_f (nI_nle (by omega) (by omega)) ⟨vp_in_nI (by omega) (by omega), hp⟩
theorem yb_108 (post : Int32 → SY → Prop) (J16 : Int32 → Prop) (due : Int32) (i j a k m : Nat) (nf : Nat) (hG : pr_GI G) (hT : pr_TI E) (hk : k < 8) (him : i < m) (hmj : m < j) (hj : j ≤ 5) (ha : a < 3)
    (h1 : G 0 k = 1 → pr_cN G 1 k = a → pr_sum G E i j k m = due → vp_in ls 16 ∧ vp_in (ls + 1) 16 ∧ post (nI m) (st_Y n (ls + 2) G E U (upd (upd LI ls.toNatClampNeg (nI k)) (ls + 1).toNatClampNeg (nI m)) OP))
    (h2 : G 0 k = 1 → pr_cN G 1 k = a → ¬ pr_sum G E i j k m = due → wY_begin_108 post J16 (nI i) (nI j) (nI a) due (nI k) (nI n) ls (G 0) (G 1) (G 2) (G 3) (G 4) (G 5) E.2.1 E.1 U LI OP nf (nI (m + 1)))
    (h3 : ¬ (G 0 k = 1 ∧ pr_cN G 1 k = a) → J16 (nI (k + 1))) : wY_begin_108 post J16 (nI i) (nI j) (nI a) due (nI k) (nI n) ls (G 0) (G 1) (G 2) (G 3) (G 4) (G 5) E.2.1 E.1 U LI OP (nf + 1) (nI m) := by
  obtain ⟨⟨g1, l1⟩, ⟨g2, l2⟩, ⟨g3, l3⟩, _⟩ := pr_GIs hG hk
  have v : vp_in (nI k) 8 := vp_in_nI hk (by omega)
  rw [wY_begin_108]
  dsimp only
  unfold wpY_cell
  dsimp only
  rw [nI_clamp (n := k) (by omega), g1, g2, g3, ce_Y, ce_Y, nI_1 k, nI_1 m]
  refine br_f (nI_ge (by omega) (by omega)) ⟨v, br_c (fun z1 => ⟨v, ?_⟩) (fun z1 => nm_e (h3 (fun y => z1 y.1)))⟩
  refine pk_eq (pr_cN G 1 k) a (fun z2 => ⟨v, v, ?_⟩) (fun z2 => nm_e (h3 (fun y => z2 y.2)))
  have cl := pr_ce90 (i := i) (j := m) (by omega) (by omega) l2
  have cr := pr_ce90 (i := m) (j := j) (by omega) hj l3
  refine yl_least n ls G E U LI OP _ _ cl (hT _ cl) ⟨v, ?_⟩
  refine yl_least n ls G E U LI OP _ _ cr (hT _ cr) ?_
  refine br_c (fun z3 => ?_) (fun z3 => nm_e (h2 z1 z2 z3))
  obtain ⟨q1, q2, q3⟩ := h1 z1 z2 z3
  exact ⟨q1, nm_e ⟨q2, nm_e (nm_e q3)⟩⟩
theorem yb_108n (post : Int32 → SY → Prop) (J16 : Int32 → Prop) (due : Int32) (i j a k : Nat) (hG : pr_GI G) (hT : pr_TI E) (hk : k < 8) (hj : j ≤ 5) (ha : a < 3) (hne : G 0 k = 1 → pr_cN G 1 k = a → ∀ m, i < m → m < j → ¬ pr_sum G E i j k m = due) (hJ : J16 (nI (k + 1))) :
    ∀ d m nf, m + d = j → i < m → d < nf → wY_begin_108 post J16 (nI i) (nI j) (nI a) due (nI k) (nI n) ls (G 0) (G 1) (G 2) (G 3) (G 4) (G 5) E.2.1 E.1 U LI OP nf (nI m) := by
  intro d
  induction d with
  | zero =>
    intro m nf hm him hnf
    obtain ⟨f, rfl⟩ : ∃ f, nf = f + 1 := ⟨nf - 1, by omega⟩
    rw [wY_begin_108]
    exact br_t (nI_le (by omega) (by omega)) (nm_r (nI_1 k) hJ)
  | succ d ih =>
    intro m nf hm him hnf
    obtain ⟨f, rfl⟩ : ∃ f, nf = f + 1 := ⟨nf - 1, by omega⟩
    exact yb_108 n ls G E U LI OP post J16 due i j a k m f hG hT hk him (by omega) hj ha (fun z1 z2 z3 => absurd z3 (hne z1 z2 m him (by omega))) (fun _ _ _ => ih (m + 1) f (by omega) (by omega) (by omega)) (fun _ => hJ)
theorem yb_108y (post : Int32 → SY → Prop) (J16 : Int32 → Prop) (due : Int32) (i j a k m0 : Nat) (hG : pr_GI G) (hT : pr_TI E) (hk : k < 8) (hj : j ≤ 5) (ha : a < 3) (hk1 : G 0 k = 1) (hka : pr_cN G 1 k = a) (hm0 : m0 < j) (hne : ∀ m, i < m → m < m0 → ¬ pr_sum G E i j k m = due) (he : pr_sum G E i j k m0 = due)
    (hp : vp_in ls 16 ∧ vp_in (ls + 1) 16 ∧ post (nI m0) (st_Y n (ls + 2) G E U (upd (upd LI ls.toNatClampNeg (nI k)) (ls + 1).toNatClampNeg (nI m0)) OP)) :
    ∀ d m nf, m + d = m0 → i < m → d < nf → wY_begin_108 post J16 (nI i) (nI j) (nI a) due (nI k) (nI n) ls (G 0) (G 1) (G 2) (G 3) (G 4) (G 5) E.2.1 E.1 U LI OP nf (nI m) := by
  intro d
  induction d with
  | zero =>
    intro m nf hm him hnf
    obtain ⟨f, rfl⟩ : ∃ f, nf = f + 1 := ⟨nf - 1, by omega⟩
    obtain rfl : m = m0 := by omega
    exact yb_108 n ls G E U LI OP post J16 due i j a k m f hG hT hk him (by omega) hj ha (fun _ _ _ => hp) (fun _ _ z => absurd he z) (fun z => absurd ⟨hk1, hka⟩ z)
  | succ d ih =>
    intro m nf hm him hnf
    obtain ⟨f, rfl⟩ : ∃ f, nf = f + 1 := ⟨nf - 1, by omega⟩
    exact yb_108 n ls G E U LI OP post J16 due i j a k m f hG hT hk him (by omega) hj ha (fun _ _ z => absurd z (hne m him (by omega))) (fun _ _ _ => ih (m + 1) f (by omega) (by omega) (by omega)) (fun z => absurd ⟨hk1, hka⟩ z)
/-- one rule of begin: the word's case, or on to the splits -/
theorem yb_16 (post : Int32 → SY → Prop) (due : Int32) (i j a k nf : Nat) (hG : pr_GI G) (hij : i < j) (hj : j ≤ 5) (ha : a < 3) (hk : k < 8)
    (h1 : G 0 k = 2 → pr_cN G 1 k = a → j = i + 1 → G 2 k = G 5 i → G 4 k = due → vp_in ls 16 ∧ post 0 (st_Y n (ls + 1) G E U (upd LI ls.toNatClampNeg (nI k)) OP))
    (h2 : ¬ (G 0 k = 2 ∧ pr_cN G 1 k = a ∧ j = i + 1 ∧ G 2 k = G 5 i ∧ G 4 k = due) → ∃ n108 : Nat, wY_begin_108 post (wY_begin_16 post (nI i) (nI j) (nI a) due (nI n) ls (G 0) (G 1) (G 2) (G 3) (G 4) (G 5) E.2.1 E.1 U LI OP nf) (nI i) (nI j) (nI a) due (nI k) (nI n) ls (G 0) (G 1) (G 2) (G 3) (G 4) (G 5) E.2.1 E.1 U LI OP n108 (nI (i + 1))) : wY_begin_16 post (nI i) (nI j) (nI a) due (nI n) ls (G 0) (G 1) (G 2) (G 3) (G 4) (G 5) E.2.1 E.1 U LI OP (nf + 1) (nI k) := by
  obtain ⟨⟨g1, l1⟩, _⟩ := pr_GIs hG hk
  have v : vp_in (nI k) 8 := vp_in_nI hk (by omega)
  have vi : vp_in (nI i) 5 := vp_in_nI (by omega) (by omega)
  rw [wY_begin_16]
  dsimp only
  rw [nI_clamp (n := k) (by omega), nI_clamp (n := i) (by omega), g1, nI_1 i]
  refine br_f (nI_ge (b := 8) hk (by decide)) ⟨v, br_c (fun z1 => ⟨v, ?_⟩) (fun z1 => nm_e (h2 (fun y => z1 y.1)))⟩
  refine pk_eq (pr_cN G 1 k) a (fun z2 => ?_) (fun z2 => nm_e (h2 (fun y => z2 y.2.1)))
  refine pk_eq j (i + 1) (fun z3 => ⟨vi, v, ?_⟩) (fun z3 => nm_e (h2 (fun y => z3 y.2.2.1)))
  refine br_c (fun z4 => ⟨v, ?_⟩) (fun z4 => nm_e (h2 (fun y => z4 y.2.2.2.1.symm)))
  refine br_c (fun z5 => ?_) (fun z5 => nm_e (h2 (fun y => z5 y.2.2.2.2)))
  obtain ⟨q1, q2⟩ := h1 z1 z2 z3 z4.symm z5
  exact ⟨q1, nm_e (nm_e q2)⟩
theorem yb_begin (post : Int32 → SY → Prop) (i j a k0 m0 : Nat) (hG : pr_GI G) (hT : pr_TI E) (hij : i < j) (hj : j ≤ 5) (hjn : j ≤ n) (ha : a < 3) (nz : ¬ E.1 (pr_ce i j a) = 0)
    (hB : ∀ i j a, i < j → j ≤ n → a < 3 → E.1 (pr_ce i j a) = 0 ∨ pr_Q 5 (E.2.1 (8 * pr_ce i j a)))
    (hc : pr_cd G E i j a k0 m0 (E.2.1 (8 * pr_ce i j a))) (hf : ∀ k' m' v, pr_lx k' m' k0 m0 → pr_cd G E i j a k' m' v → E.2.1 (8 * pr_ce i j a) < v)
    (hw : G 0 k0 = 2 → vp_in ls 16 ∧ post 0 (st_Y n (ls + 1) G E U (upd LI ls.toNatClampNeg (nI k0)) OP))
    (hp : G 0 k0 = 1 → i < m0 → m0 < j → vp_in ls 16 ∧ vp_in (ls + 1) 16 ∧ post (nI m0) (st_Y n (ls + 2) G E U (upd (upd LI ls.toNatClampNeg (nI k0)) (ls + 1).toNatClampNeg (nI m0)) OP)) : wpY_begin post (st_Y n ls G E U LI OP) (nI i) (nI j) (nI a) := by
  have c90 := pr_ce90 (i := i) (by omega) hj ha
  have hk0 := (pr_cd_m hij hc).2.2
  have q0 := (hB i j a hij hjn ha).resolve_left nz
  have hsum : ∀ k m, k < 8 → G 0 k = 1 → pr_cN G 1 k = a → i < m → m < j → pr_lx k m k0 m0 → ¬ pr_sum G E i j k m = E.2.1 (8 * pr_ce i j a) := by
    intro k m hk z1 z2 him hmj l e
    obtain ⟨_, ⟨_, l2⟩, ⟨_, l3⟩, _⟩ := pr_GIs hG hk
    have g4 := pr_G4 hG hk
    unfold pr_sum pr_ls at e
    unfold pr_Q at q0
    by_cases y1 : E.1 (pr_ce i m (pr_cN G 2 k)) = 0
    · rw [if_pos y1] at e
      have t1 : (G 4 k + 100000).toInt = (G 4 k).toInt + 100000 := by
        rw [io_add g4.1 (by omega) (by rw [io_100]; omega) (by rw [io_100]; omega), io_100]
      have e' := congrArg Int32.toInt e
      by_cases y2 : E.1 (pr_ce m j (pr_cN G 3 k)) = 0
      · rw [if_pos y2, io_add (by omega) (by omega) (by rw [io_100]; omega) (by rw [io_100]; omega), t1, io_100] at e'
        omega
      · have q := (hB m j _ hmj hjn l3).resolve_left y2
        unfold pr_Q at q
        rw [if_neg y2, io_add (by omega) (by omega) (by omega) (by omega), t1] at e'
        omega
    · rw [if_neg y1] at e
      have q := (hB i m _ him (by omega) l2).resolve_left y1
      unfold pr_Q at q
      have t1 := io_add (a := G 4 k) (b := E.2.1 (8 * pr_ce i m (pr_cN G 2 k))) g4.1 (by omega) (by omega) (by omega)
      by_cases y2 : E.1 (pr_ce m j (pr_cN G 3 k)) = 0
      · have e' := congrArg Int32.toInt e
        rw [if_pos y2, io_add (by omega) (by omega) (by rw [io_100]; omega) (by rw [io_100]; omega), t1, io_100] at e'
        omega
      · rw [if_neg y2] at e
        have lt := hf k m _ l ⟨hk, z2, Or.inr ⟨z1, him, hmj, y1, y2, rfl⟩⟩
        rw [e] at lt
        exact Int32.lt_irrefl lt
  have K : ∀ d k nf, k + d = k0 → d < nf → wY_begin_16 post (nI i) (nI j) (nI a) (E.2.1 (8 * pr_ce i j a)) (nI n) ls (G 0) (G 1) (G 2) (G 3) (G 4) (G 5) E.2.1 E.1 U LI OP nf (nI k) := by
    intro d
    induction d with
    | zero =>
      intro k nf hk hnf
      obtain ⟨f, rfl⟩ : ∃ f, nf = f + 1 := ⟨nf - 1, by omega⟩
      obtain rfl : k = k0 := by omega
      obtain ⟨_, c1, c2⟩ := hc
      rcases c2 with ⟨o1, o2, o3, o4, o5⟩ | ⟨o1, o2, o3, o4, o5, o6⟩
      · exact yb_16 n ls G E U LI OP post _ i j a k f hG hij hj ha hk0 (fun _ _ _ _ _ => hw o1) (fun z => absurd ⟨o1, c1, o2, o3, o5.symm⟩ z)
      · refine yb_16 n ls G E U LI OP post _ i j a k f hG hij hj ha hk0 (fun z => absurd (o1.symm.trans z) (by decide)) (fun _ => ⟨6, ?_⟩)
        have he : pr_sum G E i j k m0 = E.2.1 (8 * pr_ce i j a) := by
          unfold pr_sum pr_ls
          rw [if_neg o4, if_neg o5, ← o6]
        exact yb_108y n ls G E U LI OP post _ _ i j a k m0 hG hT hk0 hj ha o1 c1 o3 (fun m h1 h2 => hsum k m hk0 o1 c1 h1 (by omega) (Or.inr ⟨rfl, h2⟩)) he (hp o1 o2 o3) (m0 - (i + 1)) (i + 1) 6 (by omega) (by omega) (by omega)
    | succ d ih =>
      intro k nf hk hnf
      obtain ⟨f, rfl⟩ : ∃ f, nf = f + 1 := ⟨nf - 1, by omega⟩
      refine yb_16 n ls G E U LI OP post _ i j a k f hG hij hj ha (by omega) (fun z1 z2 z3 z4 z5 => ?_) (fun _ => ⟨6, ?_⟩)
      · have lt := hf k i _ (Or.inl (by omega)) ⟨by omega, z2, Or.inl ⟨z1, z3, z4, rfl, rfl⟩⟩
        rw [z5] at lt
        exact absurd lt Int32.lt_irrefl
      · exact yb_108n n ls G E U LI OP post _ _ i j a k hG hT (by omega) hj ha (fun z1 z2 m h1 h2 => hsum k m (by omega) z1 z2 h1 h2 (Or.inl (by omega))) (ih (k + 1) f (by omega) (by omega)) (j - 1 - i) (i + 1) 6 (by omega) (by omega) (by omega)
  unfold wpY_begin
  dsimp only
  unfold wpY_cell
  dsimp only
  rw [ce_Y]
  refine yl_least n ls G E U LI OP _ _ c90 (hT _ c90) ?_
  have e : pr_ls E (pr_ce i j a) = E.2.1 (8 * pr_ce i j a) := if_neg nz
  rw [e]
  exact ⟨9, K k0 0 9 (by omega) (by omega)⟩
end
