/-! the first rule and split that reach the least cost -/
def pr_lx (k' m' k m : Nat) : Prop := k' < k ∨ (k' = k ∧ m' < m)
/-- rule k at split m gives a tree of symbol a over i j, the least such costs v -/
def pr_cd (G : Nat → Nat → Int32) (D : pr_D) (i j a k m : Nat) (v : Int32) : Prop := k < 8 ∧ pr_cN G 1 k = a ∧ ((G 0 k = 2 ∧ j = i + 1 ∧ G 2 k = G 5 i ∧ m = i ∧ v = G 4 k)
  ∨ (G 0 k = 1 ∧ i < m ∧ m < j ∧ ¬ D.1 (pr_ce i m (pr_cN G 2 k)) = 0 ∧ ¬ D.1 (pr_ce m j (pr_cN G 3 k)) = 0 ∧ v = G 4 k + D.2.1 (8 * pr_ce i m (pr_cN G 2 k)) + D.2.1 (8 * pr_ce m j (pr_cN G 3 k))))
theorem pr_cd_u {G : Nat → Nat → Int32} {D : pr_D} {i j a a' k m : Nat} {v v' : Int32} (h : pr_cd G D i j a k m v) (h' : pr_cd G D i j a' k m v') : v = v' ∧ a = a' := by
  obtain ⟨_, e, o⟩ := h
  obtain ⟨_, e', o'⟩ := h'
  refine ⟨?_, e.symm.trans e'⟩
  rcases o with ⟨o1, _, _, _, o2⟩ | ⟨o1, _, _, _, _, o2⟩ <;> rcases o' with ⟨q1, _, _, _, q2⟩ | ⟨q1, _, _, _, _, q2⟩
  · rw [o2, q2]
  · rw [o1] at q1; exact absurd q1 (by decide)
  · rw [o1] at q1; exact absurd q1 (by decide)
  · rw [o2, q2]
theorem pr_cd_m {G : Nat → Nat → Int32} {D : pr_D} {i j a k m : Nat} {v : Int32} (hij : i < j) (h : pr_cd G D i j a k m v) : i ≤ m ∧ m < j ∧ k < 8 := by
  obtain ⟨h8, e, o⟩ := h
  rcases o with ⟨_, _, _, o1, _⟩ | ⟨_, o1, o2, _⟩ <;> omega
/-- all candidates ahead of (k, m) are in -/
def pr_Bi (G : Nat → Nat → Int32) (D0 : pr_D) (i j k m : Nat) (D : pr_D) : Prop := pr_TI D ∧ (∀ c', pr_off i j c' → pr_same c' D0 D) ∧ ∀ a, a < 3 →
  pr_Gd (j - i) (pr_ce i j a) D ∧ (D.1 (pr_ce i j a) = 0 → ∀ k' m' v, pr_lx k' m' k m → ¬ pr_cd G D0 i j a k' m' v) ∧
  (¬ D.1 (pr_ce i j a) = 0 → ∃ k0 m0, pr_lx k0 m0 k m ∧ D.2.2.1 (pr_ce i j a) = nI k0 ∧ D.2.2.2 (pr_ce i j a) = nI m0 ∧ pr_cd G D0 i j a k0 m0 (D.2.1 (8 * pr_ce i j a))
    ∧ (∀ k' m' v, pr_lx k' m' k m → pr_cd G D0 i j a k' m' v → D.2.1 (8 * pr_ce i j a) ≤ v) ∧ (∀ k' m' v, pr_lx k' m' k0 m0 → pr_cd G D0 i j a k' m' v → D.2.1 (8 * pr_ce i j a) < v))
theorem pr_Bi_mono {G : Nat → Nat → Int32} {D0 D : pr_D} {i j k m k2 m2 : Nat} (h : pr_Bi G D0 i j k m D) (h1 : ∀ k' m', pr_lx k' m' k m → pr_lx k' m' k2 m2) (h2 : ∀ k' m' a v, pr_lx k' m' k2 m2 → pr_cd G D0 i j a k' m' v → pr_lx k' m' k m) : pr_Bi G D0 i j k2 m2 D := by
  refine ⟨h.1, h.2.1, fun a ha => ?_⟩
  obtain ⟨g, z, nz⟩ := h.2.2 a ha
  refine ⟨g, fun e k' m' v l c => z e k' m' v (h2 k' m' a v l c) c, fun e => ?_⟩
  obtain ⟨k0, m0, l0, b1, b2, c0, f1, f2⟩ := nz e
  exact ⟨k0, m0, h1 _ _ l0, b1, b2, c0, fun k' m' v l c => f1 k' m' v (h2 k' m' a v l c) c, f2⟩
theorem pr_Bi_step {G : Nat → Nat → Int32} {D0 D D' : pr_D} {i j k m a0 : Nat} {v0 : Int32} (h : pr_Bi G D0 i j k m D) (ha0 : a0 < 3) (hc : pr_cd G D0 i j a0 k m v0) (hT : pr_TI D') (hs : ∀ c', c' ≠ pr_ce i j a0 → pr_same c' D D') (g : pr_Gd (j - i) (pr_ce i j a0) D') (hd : pr_Hd (pr_ce i j a0) (nI k) (nI m) D v0 D') : pr_Bi G D0 i j k (m + 1) D' := by
  have lx1 : ∀ k' m', pr_lx k' m' k (m + 1) ↔ pr_lx k' m' k m ∨ (k' = k ∧ m' = m) := by
    intro k' m'
    unfold pr_lx
    omega
  refine ⟨hT, fun c' hc' => pr_same_tr (h.2.1 c' hc') (hs c' (hc' a0 ha0)), fun a ha => ?_⟩
  by_cases e : a = a0
  · subst e
    obtain ⟨_, z, nz⟩ := h.2.2 a ha
    refine ⟨g, fun e => absurd e hd.1, fun _ => ?_⟩
    by_cases o : D.1 (pr_ce i j a) = 0 ∨ v0 < D.2.1 (8 * pr_ce i j a)
    · obtain ⟨r1, r2, r3⟩ := hd.2.1 o
      rw [r1]
      have lt : ∀ k' m' v, pr_lx k' m' k m → pr_cd G D0 i j a k' m' v → v0 < v := by
        intro k' m' v l c
        by_cases t0 : D.1 (pr_ce i j a) = 0
        · exact absurd c (z t0 k' m' v l)
        · obtain ⟨k0, m0, l0, b1, b2, c0, f1, f2⟩ := nz t0
          exact Int32.lt_of_lt_of_le (o.resolve_left t0) (f1 k' m' v l c)
      refine ⟨k, m, (lx1 k m).mpr (Or.inr ⟨rfl, rfl⟩), r2, r3, hc, fun k' m' v l c => ?_, lt⟩
      rcases (lx1 k' m').mp l with l | ⟨rfl, rfl⟩
      · exact Int32.le_of_lt (lt k' m' v l c)
      · rw [(pr_cd_u hc c).1]; exact Int32.le_refl v
    · obtain ⟨r1, r2, r3⟩ := hd.2.2 o
      have t0 : ¬ D.1 (pr_ce i j a) = 0 := fun y => o (Or.inl y)
      have le : D.2.1 (8 * pr_ce i j a) ≤ v0 := Int32.not_lt.mp (fun y => o (Or.inr y))
      obtain ⟨k0, m0, l0, b1, b2, c0, f1, f2⟩ := nz t0
      rw [r1, r2, r3]
      refine ⟨k0, m0, (lx1 k0 m0).mpr (Or.inl l0), b1, b2, c0, fun k' m' v l c => ?_, f2⟩
      rcases (lx1 k' m').mp l with l | ⟨rfl, rfl⟩
      · exact f1 k' m' v l c
      · rw [← (pr_cd_u hc c).1]; exact le
  · have s := hs (pr_ce i j a) (by unfold pr_ce; omega)
    have s0 := s.2.1 0 (by omega)
    simp only [Nat.add_zero] at s0
    obtain ⟨g', z, nz⟩ := h.2.2 a ha
    rw [s.1, s.2.2.1, s.2.2.2, s0]
    refine ⟨pr_Gd_same g' s, fun e1 k' m' v l c => ?_, fun e1 => ?_⟩
    · rcases (lx1 k' m').mp l with l | ⟨rfl, rfl⟩
      · exact z e1 k' m' v l c
      · exact e (pr_cd_u hc c).2.symm
    · obtain ⟨k0, m0, l0, b1, b2, c0, f1, f2⟩ := nz e1
      refine ⟨k0, m0, (lx1 k0 m0).mpr (Or.inl l0), b1, b2, c0, fun k' m' v l c => ?_, f2⟩
      rcases (lx1 k' m').mp l with l | ⟨rfl, rfl⟩
      · exact f1 k' m' v l c
      · exact absurd (pr_cd_u hc c).2.symm e
theorem pr_Bi_skip {G : Nat → Nat → Int32} {D0 D : pr_D} {i j k m : Nat} (h : pr_Bi G D0 i j k m D) (hn : ∀ a v, ¬ pr_cd G D0 i j a k m v) : pr_Bi G D0 i j k (m + 1) D := by
  refine pr_Bi_mono h (fun k' m' l => ?_) (fun k' m' a v l c => ?_)
  · unfold pr_lx at *; omega
  · by_cases e : k' = k ∧ m' = m
    · obtain ⟨rfl, rfl⟩ := e
      exact absurd c (hn a v)
    · unfold pr_lx at *; omega
theorem pr_G4 {G : Nat → Nat → Int32} (hG : pr_GI G) {k : Nat} (hk : k < 8) : 0 ≤ (G 4 k).toInt ∧ (G 4 k).toInt ≤ 50 := by
  obtain ⟨_, _, _, ⟨e, h⟩⟩ := pr_GIs hG hk
  rw [e, nI_toInt (by omega)]
  omega
theorem pr_Bi_w {G : Nat → Nat → Int32} {D0 D : pr_D} {i j k : Nat} (hG : pr_GI G) (hij : i < j) (hj : j ≤ 5) (hk : k < 8) (h : pr_Bi G D0 i j k i D) : pr_Bi G D0 i j k (i + 1) (pr_w G i j k D) := by
  obtain ⟨⟨_, h3⟩, _⟩ := pr_GIs hG hk
  have c90 := pr_ce90 (i := i) (by omega) hj h3
  unfold pr_w
  by_cases c : G 0 k = 2 ∧ j = i + 1 ∧ G 2 k = G 5 i
  · rw [if_pos c]
    have q : pr_Q (j - i) (G 4 k) := by
      have := pr_G4 hG hk
      unfold pr_Q
      omega
    have hd := pr_ins_head (k := nI k) (m := nI i) (h.2.2 _ h3).1 q
    exact pr_Bi_step h h3 ⟨hk, rfl, Or.inl ⟨c.1, c.2.1, c.2.2, rfl, rfl⟩⟩ (pr_ins_TI c90 h.1) (fun c' hc' => pr_ins_same (h.1 _ c90) hc') hd.1 hd.2
  · rw [if_neg c]
    refine pr_Bi_skip h ?_
    rintro a v ⟨_, _, o | o⟩
    · exact c ⟨o.1, o.2.1, o.2.2.1⟩
    · omega
theorem pr_Bi_s {G : Nat → Nat → Int32} {D0 D : pr_D} {i j k m : Nat} (hG : pr_GI G) (him : i < m) (hmj : m < j) (hj : j ≤ 5) (hk : k < 8) (h1 : G 0 k = 1) (hp : ∀ a, a < 3 → pr_Gd (m - i) (pr_ce i m a) D0 ∧ pr_Gd (j - m) (pr_ce m j a) D0) (h : pr_Bi G D0 i j k m D) : pr_Bi G D0 i j k (m + 1) (pr_sm G i j k D m) := by
  obtain ⟨⟨_, a3⟩, ⟨_, b3⟩, ⟨_, c3⟩, _⟩ := pr_GIs hG hk
  have c90 := pr_ce90 (i := i) (by omega) hj a3
  have offl : pr_off i j (pr_ce i m (pr_cN G 2 k)) := by intro a ha; unfold pr_ce; omega
  have offr : pr_off i j (pr_ce m j (pr_cN G 3 k)) := by intro a ha; unfold pr_ce; omega
  have sl := h.2.1 _ offl
  have sr := h.2.1 _ offr
  have sl0 := sl.2.1 0 (by omega)
  have sr0 := sr.2.1 0 (by omega)
  simp only [Nat.add_zero] at sl0 sr0
  have gl := pr_Gd_same (hp _ b3).1 sl
  have gr := pr_Gd_same (hp _ c3).2 sr
  have J := pr_jn_head (k := nI k) (m := nI m) c90 (offl _ a3) (offr _ a3) h.1 gl gr (h.2.2 _ a3).1 (by omega) (by omega) (pr_G4 hG hk)
  have F := pr_sm_inv (m := m) (D0 := D) hG (i := i) (j := j) (by omega) hj hk ⟨h.1, fun _ _ => pr_same_rf⟩
  have F2 := pr_jn_inv (l := pr_ce i m (pr_cN G 2 k)) (r := pr_ce m j (pr_cN G 3 k)) (p := G 4 k) (k := nI k) (m := nI m) (D0 := D) c90 ⟨h.1, fun _ _ => pr_same_rf⟩
  rw [sl0, sr0, sl.1, sr.1] at J
  unfold pr_sm
  by_cases z : D0.1 (pr_ce i m (pr_cN G 2 k)) = 0 ∨ D0.1 (pr_ce m j (pr_cN G 3 k)) = 0
  · rw [J.1 z]
    refine pr_Bi_skip h ?_
    rintro a v ⟨_, _, o | o⟩
    · rw [h1] at o; exact absurd o.1 (by decide)
    · exact z.elim o.2.2.2.1 o.2.2.2.2.1
  · have hd := J.2 z
    exact pr_Bi_step h a3 ⟨hk, rfl, Or.inr ⟨h1, him, hmj, fun y => z (Or.inl y), fun y => z (Or.inr y), rfl⟩⟩ F2.1 F2.2 hd.1 hd.2
theorem pr_Bi_r {G : Nat → Nat → Int32} {D0 D : pr_D} {i j k : Nat} (hG : pr_GI G) (hij : i < j) (hj : j ≤ 5) (hk : k < 8) (hp : ∀ m, i < m → m < j → ∀ a, a < 3 → pr_Gd (m - i) (pr_ce i m a) D0 ∧ pr_Gd (j - m) (pr_ce m j a) D0) (h : pr_Bi G D0 i j k i D) : pr_Bi G D0 i j (k + 1) i (pr_rl G i j D k) := by
  have w := pr_Bi_w hG hij hj hk h
  unfold pr_rl
  by_cases h1 : G 0 k = 1
  · rw [if_pos h1]
    have K : ∀ d m E, m + d = j → i < m → pr_Bi G D0 i j k m E → pr_Bi G D0 i j k j ((List.range' m d).foldl (pr_sm G i j k) E) := by
      intro d
      induction d with
      | zero => intro m E hm _ hE; obtain rfl : m = j := by omega
                exact hE
      | succ d ih =>
        intro m E hm him hE
        rw [List.range'_succ, List.foldl_cons]
        exact ih (m + 1) _ (by omega) (by omega) (pr_Bi_s hG him (by omega) hj hk h1 (hp m him (by omega)) hE)
    refine pr_Bi_mono (K (j - 1 - i) (i + 1) _ (by omega) (by omega) w) (fun k' m' l => ?_) (fun k' m' a v l c => ?_)
    · unfold pr_lx at *; omega
    · have := pr_cd_m hij c
      unfold pr_lx at *; omega
  · rw [if_neg h1]
    refine pr_Bi_mono w (fun k' m' l => ?_) (fun k' m' a v l c => ?_)
    · unfold pr_lx at *; omega
    · obtain ⟨h8, e, o⟩ := c
      rcases o with ⟨_, _, _, o1, _⟩ | ⟨o1, o2, o3, _⟩
      · unfold pr_lx at *; omega
      · by_cases e : k' = k
        · subst e; exact absurd o1 h1
        · unfold pr_lx at *; omega
theorem pr_Bi_sp {G : Nat → Nat → Int32} {D0 : pr_D} {i j : Nat} (hG : pr_GI G) (hij : i < j) (hj : j ≤ 5) (hp : ∀ m, i < m → m < j → ∀ a, a < 3 → pr_Gd (m - i) (pr_ce i m a) D0 ∧ pr_Gd (j - m) (pr_ce m j a) D0) (hT : pr_TI D0) (hz : ∀ a, a < 3 → D0.1 (pr_ce i j a) = nI 0) : pr_Bi G D0 i j 8 i (pr_sp G D0 (i, j)) := by
  have K : ∀ d k E, k + d = 8 → pr_Bi G D0 i j k i E → pr_Bi G D0 i j 8 i ((List.range' k d).foldl (pr_rl G i j) E) := by
    intro d
    induction d with
    | zero => intro k E hk hE; obtain rfl : k = 8 := by omega
              exact hE
    | succ d ih =>
      intro k E hk hE
      rw [List.range'_succ, List.foldl_cons]
      exact ih (k + 1) _ (by omega) (pr_Bi_r hG hij hj (by omega) hp hE)
  refine K 8 0 D0 (by omega) ⟨hT, fun _ _ => pr_same_rf, fun a ha => ⟨⟨0, by omega, hz a ha, fun p hp => absurd hp (by omega)⟩, fun _ k' m' v l c => ?_, fun e => absurd (hz a ha) e⟩⟩
  have := pr_cd_m hij c
  unfold pr_lx at l
  omega
/-- the cell of symbol a over i j in a full chart -/
def pr_Bst (G : Nat → Nat → Int32) (F : pr_D) (i j a : Nat) : Prop := pr_Gd (j - i) (pr_ce i j a) F ∧ (F.1 (pr_ce i j a) = 0 → ∀ k m v, ¬ pr_cd G F i j a k m v) ∧
  (¬ F.1 (pr_ce i j a) = 0 → ∃ k0 m0, F.2.2.1 (pr_ce i j a) = nI k0 ∧ F.2.2.2 (pr_ce i j a) = nI m0 ∧ pr_cd G F i j a k0 m0 (F.2.1 (8 * pr_ce i j a)) ∧ (∀ k' m' v, pr_lx k' m' k0 m0 → pr_cd G F i j a k' m' v → F.2.1 (8 * pr_ce i j a) < v))
theorem pr_ag_0 {c : Nat} {D F : pr_D} (h : pr_ag c D F) (z : ¬ D.1 c = 0) : D.2.1 (8 * c) = F.2.1 (8 * c) := by
  obtain ⟨t, ht, e1, e2, e3, _⟩ := h
  have : t ≠ 0 := by
    rintro rfl
    exact z e1
  exact e3 0 (by omega)
theorem pr_cd_ag {G : Nat → Nat → Int32} {D F : pr_D} {i j a k m : Nat} {v : Int32} (hG : pr_GI G) (h : ∀ m, i < m → m < j → pr_Ag (i, m) D F ∧ pr_Ag (m, j) D F) (c : pr_cd G D i j a k m v) : pr_cd G F i j a k m v := by
  obtain ⟨hk, e, o⟩ := c
  refine ⟨hk, e, ?_⟩
  rcases o with o | ⟨o1, o2, o3, o4, o5, o6⟩
  · exact Or.inl o
  · obtain ⟨_, ⟨_, b3⟩, ⟨_, c3⟩, _⟩ := pr_GIs hG hk
    have al := (h m o2 o3).1 _ b3
    have ar := (h m o2 o3).2 _ c3
    dsimp only at al ar
    refine Or.inr ⟨o1, o2, o3, ?_, ?_, ?_⟩
    · rw [← pr_ag_t al]; exact o4
    · rw [← pr_ag_t ar]; exact o5
    · rw [← pr_ag_0 al o4, ← pr_ag_0 ar o5]; exact o6
theorem pr_Bst_all {G : Nat → Nat → Int32} {n : Nat} {F D0 : pr_D} (hG : pr_GI G) (hn : n ≤ 5) (hC : pr_C G n F D0) (hz : ∀ c, c < 90 → D0.1 c = nI 0) : ∀ w i j, i < j → j ≤ n → j - i < w → ∀ a, a < 3 → pr_Bst G F i j a := by
  intro w
  induction w with
  | zero => intro i j _ _ hw; omega
  | succ w ih =>
    intro i j hij hj hw a ha
    obtain ⟨D', t1, t2, t3, t4⟩ := hC i j hij hj
    have t4' : ∀ m, i < m → m < j → pr_Ag (i, m) F D' ∧ pr_Ag (m, j) F D' := fun m h1 h2 => ⟨pr_Ag_sy _ _ _ (t4 m h1 h2).1, pr_Ag_sy _ _ _ (t4 m h1 h2).2⟩
    have B := pr_Bi_sp (D0 := D') hG hij (by omega) (fun m h1 h2 b hb => ⟨pr_Gd_ag (ih i m h1 (by omega) (by omega) b hb).1 ((t4' m h1 h2).1 b hb), pr_Gd_ag (ih m j h2 (by omega) (by omega) b hb).1 ((t4' m h1 h2).2 b hb)⟩) t1
      (fun b hb => by rw [pr_ag_t (t3 b hb)]; exact hz _ (pr_ce90 (by dsimp only; omega) (by dsimp only; omega) hb))
    obtain ⟨g, z, nz⟩ := B.2.2 a ha
    have A := pr_ag_sy (t2 a ha)
    dsimp only at A
    have lx8 : ∀ k m v, pr_cd G D' i j a k m v → pr_lx k m 8 i := by
      intro k m v c
      have := pr_cd_m hij c
      unfold pr_lx
      omega
    refine ⟨pr_Gd_ag g A, fun e k m v c => ?_, fun e => ?_⟩
    · have c' := pr_cd_ag hG t4' c
      exact z ((pr_ag_t A).trans e) k m v (lx8 _ _ _ c') c'
    · have e' : ¬ (pr_sp G D' (i, j)).1 (pr_ce i j a) = 0 := by rw [pr_ag_t A]; exact e
      obtain ⟨k0, m0, l0, b1, b2, c0, f1, f2⟩ := nz e'
      have a0 := pr_ag_0 A e'
      obtain ⟨t, ht, u1, u2, u3, u4⟩ := A
      have t0 : t ≠ 0 := by
        rintro rfl
        exact e u2
      rw [a0] at c0 f2
      refine ⟨k0, m0, (u4 t0).1.symm.trans b1, (u4 t0).2.symm.trans b2, pr_cd_ag hG t4 c0, fun k' m' v l c => f2 k' m' v l (pr_cd_ag hG t4' c)⟩
theorem pr_FX_B {n : Nat} {G : Nat → Nat → Int32} (D : pr_D) (hn : n ≤ 5) (hG : pr_GI G) {i j a : Nat} (hij : i < j) (hj : j ≤ n) (ha : a < 3) : pr_Bst G (pr_FX n G D) i j a := pr_Bst_all hG hn (pr_FX_C D hn hG) (fun c hc => pr_z0 hc (by omega)) (j - i + 1) i j hij hj (by omega) a ha
theorem pr_FY_B {n : Nat} {G : Nat → Nat → Int32} (D : pr_D) (hn : n ≤ 5) (hG : pr_GI G) {i j a : Nat} (hij : i < j) (hj : j ≤ n) (ha : a < 3) : pr_Bst G (pr_FY n G D) i j a := pr_Bst_all hG hn (pr_FY_C D hn hG) (fun c hc => pr_z0 hc (by omega)) (j - i + 1) i j hij hj (by omega) a ha
