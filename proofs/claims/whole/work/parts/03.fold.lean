/-! frame, range and likeness through join, rule and span -/
theorem pr_j2_inv {c r : Nat} {k m s : Int32} {D : pr_D} {y : Nat} (hc : c < 90) (hD : pr_TI D) : pr_TI (pr_j2 c r k m s D y) := pr_ins_TI hc hD
theorem pr_j2s {c r c' : Nat} {k m s : Int32} {D : pr_D} {y : Nat} (hc : c < 90) (hD : pr_TI D) (h : c' ≠ c) : pr_same c' D (pr_j2 c r k m s D y) := pr_ins_same (hD c hc) h
theorem pr_j1_inv {c l r c0 : Nat} {p k m : Int32} {D D0 : pr_D} {x : Nat} (hc : c < 90) (h : pr_TI D ∧ ∀ c', c' ≠ c → pr_same c' D0 D) : pr_TI (pr_j1 c l r p k m D x) ∧ ∀ c', c' ≠ c → pr_same c' D0 (pr_j1 c l r p k m D x) :=
  fo_inv (P := fun E => pr_TI E ∧ ∀ c', c' ≠ c → pr_same c' D0 E) _ _ h (fun b a _ hb => ⟨pr_j2_inv hc hb.1, fun c' hc' => pr_same_tr (hb.2 c' hc') (pr_j2s hc hb.1 hc')⟩)
theorem pr_jn_inv {c l r : Nat} {p k m : Int32} {D D0 : pr_D} (hc : c < 90) (h : pr_TI D ∧ ∀ c', c' ≠ c → pr_same c' D0 D) : pr_TI (pr_jn c l r p k m D) ∧ ∀ c', c' ≠ c → pr_same c' D0 (pr_jn c l r p k m D) :=
  fo_inv (P := fun E => pr_TI E ∧ ∀ c', c' ≠ c → pr_same c' D0 E) _ _ h (fun b a _ hb => pr_j1_inv (c0 := c) hc hb)
theorem pr_GIs {G : Nat → Nat → Int32} (hG : pr_GI G) {k : Nat} (hk : k < 8) : (G 1 k = nI (pr_cN G 1 k) ∧ pr_cN G 1 k < 3) ∧ (G 2 k = nI (pr_cN G 2 k) ∧ pr_cN G 2 k < 3) ∧ (G 3 k = nI (pr_cN G 3 k) ∧ pr_cN G 3 k < 3) ∧ (G 4 k = nI (pr_cN G 4 k) ∧ pr_cN G 4 k ≤ 50) := by
  obtain ⟨_, ⟨a, ha, ea⟩, ⟨b, hb, eb⟩, ⟨c, hc, ec⟩, ⟨d, hd, ed⟩⟩ := hG k hk
  have fa : pr_cN G 1 k = a := by unfold pr_cN; rw [ea]; exact nI_clamp (by omega)
  have fb : pr_cN G 2 k = b := by unfold pr_cN; rw [eb]; exact nI_clamp (by omega)
  have fc : pr_cN G 3 k = c := by unfold pr_cN; rw [ec]; exact nI_clamp (by omega)
  have fd : pr_cN G 4 k = d := by unfold pr_cN; rw [ed]; exact nI_clamp (by omega)
  rw [fa, fb, fc, fd]
  exact ⟨⟨ea, ha⟩, ⟨eb, hb⟩, ⟨ec, hc⟩, ⟨ed, hd⟩⟩
theorem pr_ce90 {i j a : Nat} (hi : i < 5) (hj : j ≤ 5) (ha : a < 3) : pr_ce i j a < 90 := by unfold pr_ce; omega
/-- c is none of the cells of span i j -/
def pr_off (i j c : Nat) : Prop := ∀ a, a < 3 → c ≠ pr_ce i j a
theorem pr_w_inv {G : Nat → Nat → Int32} {i j k : Nat} {D D0 : pr_D} (hG : pr_GI G) (hi : i < 5) (hj : j ≤ 5) (hk : k < 8) (h : pr_TI D ∧ ∀ c', pr_off i j c' → pr_same c' D0 D) : pr_TI (pr_w G i j k D) ∧ ∀ c', pr_off i j c' → pr_same c' D0 (pr_w G i j k D) := by
  unfold pr_w
  obtain ⟨⟨_, h3⟩, _⟩ := pr_GIs hG hk
  split
  · exact ⟨pr_ins_TI (pr_ce90 hi hj h3) h.1, fun c' hc' => pr_same_tr (h.2 c' hc') (pr_ins_same (h.1 _ (pr_ce90 hi hj h3)) (hc' _ h3))⟩
  · exact h
theorem pr_sm_inv {G : Nat → Nat → Int32} {i j k m : Nat} {D D0 : pr_D} (hG : pr_GI G) (hi : i < 5) (hj : j ≤ 5) (hk : k < 8) (h : pr_TI D ∧ ∀ c', pr_off i j c' → pr_same c' D0 D) : pr_TI (pr_sm G i j k D m) ∧ ∀ c', pr_off i j c' → pr_same c' D0 (pr_sm G i j k D m) := by
  obtain ⟨⟨_, h3⟩, _⟩ := pr_GIs hG hk
  have := pr_jn_inv (l := pr_ce i m (pr_cN G 2 k)) (r := pr_ce m j (pr_cN G 3 k)) (p := G 4 k) (k := nI k) (m := nI m) (D0 := D) (pr_ce90 hi hj h3) ⟨h.1, fun _ _ => pr_same_rf⟩
  exact ⟨this.1, fun c' hc' => pr_same_tr (h.2 c' hc') (this.2 c' (hc' _ h3))⟩
theorem pr_rl_inv {G : Nat → Nat → Int32} {i j k : Nat} {D D0 : pr_D} (hG : pr_GI G) (hi : i < 5) (hj : j ≤ 5) (hk : k < 8) (h : pr_TI D ∧ ∀ c', pr_off i j c' → pr_same c' D0 D) : pr_TI (pr_rl G i j D k) ∧ ∀ c', pr_off i j c' → pr_same c' D0 (pr_rl G i j D k) := by
  unfold pr_rl
  split
  · exact fo_inv (P := fun E => pr_TI E ∧ ∀ c', pr_off i j c' → pr_same c' D0 E) _ _ (pr_w_inv hG hi hj hk h) (fun b a _ hb => pr_sm_inv hG hi hj hk hb)
  · exact pr_w_inv hG hi hj hk h
theorem pr_sp_inv {G : Nat → Nat → Int32} {i j : Nat} {D : pr_D} (hG : pr_GI G) (hi : i < 5) (hj : j ≤ 5) (h : pr_TI D) : pr_TI (pr_sp G D (i, j)) ∧ ∀ c', pr_off i j c' → pr_same c' D (pr_sp G D (i, j)) :=
  fo_inv (P := fun E => pr_TI E ∧ ∀ c', pr_off i j c' → pr_same c' D E) _ _ ⟨h, fun _ _ => pr_same_rf⟩ (fun b a ha hb => pr_rl_inv hG hi hj (by have := fo_mem ha; omega) hb)
/-- likeness on a set of cells, through an insertion at one of them -/
theorem pr_ins_P {P : Nat → Prop} {c : Nat} {k m x : Int32} {D D' : pr_D} (hc : P c) (h : ∀ c, P c → pr_ag c D D') : ∀ c', P c' → pr_ag c' (pr_ins c k m D x) (pr_ins c k m D' x) := by
  intro c' hc'
  by_cases e : c' = c
  · subst e; exact pr_ins_ag (h c' hc')
  · have tD : ∃ t, t ≤ 8 ∧ D.1 c = nI t := by obtain ⟨t, a, b, _⟩ := h c hc; exact ⟨t, a, b⟩
    have tD' : ∃ t, t ≤ 8 ∧ D'.1 c = nI t := by obtain ⟨t, a, _, b, _⟩ := h c hc; exact ⟨t, a, b⟩
    have uD : ∃ t, t ≤ 8 ∧ D.1 c' = nI t := by obtain ⟨t, a, b, _⟩ := h c' hc'; exact ⟨t, a, b⟩
    have uD' : ∃ t, t ≤ 8 ∧ D'.1 c' = nI t := by obtain ⟨t, a, _, b, _⟩ := h c' hc'; exact ⟨t, a, b⟩
    exact pr_ag_tr (pr_ag_sy (pr_ag_same uD (pr_ins_same tD e))) (pr_ag_tr (h c' hc') (pr_ag_same uD' (pr_ins_same tD' e)))
theorem pr_ag_t {c : Nat} {D D' : pr_D} (h : pr_ag c D D') : D.1 c = D'.1 c := by
  obtain ⟨t, _, a, b, _⟩ := h
  exact a.trans b.symm
theorem pr_ag_r {c : Nat} {D D' : pr_D} (h : pr_ag c D D') {p : Nat} (hp : p < (D.1 c).toNatClampNeg) : D.2.1 (8 * c + p) = D'.2.1 (8 * c + p) := by
  obtain ⟨t, ht, a, b, e, _⟩ := h
  rw [a, nI_clamp (by omega)] at hp
  exact e p hp
theorem pr_ag_d {c : Nat} {D D' : pr_D} (h : pr_ag c D D') : ∃ t, t ≤ 8 ∧ D.1 c = nI t := by obtain ⟨t, a, b, _⟩ := h; exact ⟨t, a, b⟩
theorem pr_j1_P {P : Nat → Prop} {c l r : Nat} {p k m : Int32} {D D' : pr_D} {x : Nat} (hc : P c) (hl : P l) (hr : P r) (nr : r ≠ c) (hx : x < (D.1 l).toNatClampNeg) (h : ∀ c, P c → pr_ag c D D') : (pr_j1 c l r p k m D x).1 r = D.1 r ∧ (l ≠ c → (pr_j1 c l r p k m D x).1 l = D.1 l) ∧ ∀ c', P c' → pr_ag c' (pr_j1 c l r p k m D x) (pr_j1 c l r p k m D' x) := by
  unfold pr_j1
  rw [← pr_ag_t (h r hr), ← pr_ag_r (h l hl) hx]
  have K := fo_rel (P := fun E E' => E.1 r = D.1 r ∧ (l ≠ c → E.1 l = D.1 l) ∧ ∀ c', P c' → pr_ag c' E E') (f := pr_j2 c r k m (p + D.2.1 (8 * l + x))) (g := pr_j2 c r k m (p + D.2.1 (8 * l + x))) (List.range' 0 (D.1 r).toNatClampNeg) D D' ⟨rfl, fun _ => rfl, h⟩
  refine K ?_
  intro E E' y hy hE
  have hy' := fo_mem hy
  unfold pr_j2
  rw [← pr_ag_r (hE.2.2 r hr) (p := y) (by rw [hE.1]; omega)]
  exact ⟨(pr_ins_same (pr_ag_d (hE.2.2 c hc)) nr).1.trans hE.1, fun nl => (pr_ins_same (pr_ag_d (hE.2.2 c hc)) nl).1.trans (hE.2.1 nl), pr_ins_P hc hE.2.2⟩
theorem pr_jn_P {P : Nat → Prop} {c l r : Nat} {p k m : Int32} {D D' : pr_D} (hc : P c) (hl : P l) (hr : P r) (nl : l ≠ c) (nr : r ≠ c) (h : ∀ c, P c → pr_ag c D D') : ∀ c', P c' → pr_ag c' (pr_jn c l r p k m D) (pr_jn c l r p k m D') := by
  unfold pr_jn
  rw [← pr_ag_t (h l hl)]
  have K := fo_rel (P := fun E E' => E.1 l = D.1 l ∧ ∀ c', P c' → pr_ag c' E E') (f := pr_j1 c l r p k m) (g := pr_j1 c l r p k m) (List.range' 0 (D.1 l).toNatClampNeg) D D' ⟨rfl, h⟩
  refine (K ?_).2
  intro E E' x hx hE
  have hx' := fo_mem hx
  have := pr_j1_P (p := p) (k := k) (m := m) hc hl hr nr (x := x) (by rw [hE.1]; omega) hE.2
  exact ⟨(this.2.1 nl).trans hE.1, this.2.2⟩
/-- span i j of the two charts is alike -/
def pr_Ag (s : Nat × Nat) (D D' : pr_D) : Prop := ∀ a, a < 3 → pr_ag (pr_ce s.1 s.2 a) D D'
theorem pr_sp_congr {G : Nat → Nat → Int32} {i j : Nat} {D D' : pr_D} (hG : pr_GI G) (hij : i < j) (hj : j ≤ 5) (h : pr_Ag (i, j) D D') (hp : ∀ m, i < m → m < j → pr_Ag (i, m) D D' ∧ pr_Ag (m, j) D D') : pr_Ag (i, j) (pr_sp G D (i, j)) (pr_sp G D' (i, j)) := by
  have K : ∀ c, (∃ a, a < 3 ∧ (c = pr_ce i j a ∨ ∃ m, i < m ∧ m < j ∧ (c = pr_ce i m a ∨ c = pr_ce m j a))) → pr_ag c (pr_sp G D (i, j)) (pr_sp G D' (i, j)) := by
    unfold pr_sp
    refine fo_rel (P := fun E E' => ∀ c, (∃ a, a < 3 ∧ (c = pr_ce i j a ∨ ∃ m, i < m ∧ m < j ∧ (c = pr_ce i m a ∨ c = pr_ce m j a))) → pr_ag c E E') _ _ _ ?_ ?_
    · rintro c ⟨a, ha, rfl | ⟨m, h1, h2, rfl | rfl⟩⟩
      · exact h a ha
      · exact (hp m h1 h2).1 a ha
      · exact (hp m h1 h2).2 a ha
    · intro E E' k hk hE
      have hk8 : k < 8 := by have := fo_mem hk; omega
      obtain ⟨⟨_, h1⟩, ⟨_, h2⟩, ⟨_, h3⟩, _⟩ := pr_GIs hG hk8
      have hw : ∀ c, (∃ a, a < 3 ∧ (c = pr_ce i j a ∨ ∃ m, i < m ∧ m < j ∧ (c = pr_ce i m a ∨ c = pr_ce m j a))) → pr_ag c (pr_w G i j k E) (pr_w G i j k E') := by
        unfold pr_w
        split
        · exact pr_ins_P ⟨_, h1, Or.inl rfl⟩ hE
        · exact hE
      show ∀ c, _ → pr_ag c (pr_rl G i j E k) (pr_rl G i j E' k)
      unfold pr_rl
      split
      · refine fo_rel (P := fun E E' => ∀ c, (∃ a, a < 3 ∧ (c = pr_ce i j a ∨ ∃ m, i < m ∧ m < j ∧ (c = pr_ce i m a ∨ c = pr_ce m j a))) → pr_ag c E E') _ _ _ hw ?_
        intro F F' m hm hF
        have hm' := fo_mem hm
        refine pr_jn_P ⟨_, h1, Or.inl rfl⟩ ⟨_, h2, Or.inr ⟨m, by omega, by omega, Or.inl rfl⟩⟩ ⟨_, h3, Or.inr ⟨m, by omega, by omega, Or.inr rfl⟩⟩ ?_ ?_ hF
        · unfold pr_ce; omega
        · unfold pr_ce; omega
      · exact hw
  intro a ha
  exact K _ ⟨a, ha, Or.inl rfl⟩
theorem pr_sp_frame {G : Nat → Nat → Int32} {i j i' j' : Nat} {D : pr_D} (hG : pr_GI G) (hij : i < j) (hj : j ≤ 5) (hj' : j' ≤ 5) (hij' : i' < j') (ne : (i', j') ≠ (i, j)) (h : pr_TI D) : pr_Ag (i', j') D (pr_sp G D (i, j)) := by
  intro a ha
  refine pr_ag_same (h _ (pr_ce90 (by omega) hj' ha)) ((pr_sp_inv hG (by omega) hj h).2 _ ?_)
  intro b hb e
  unfold pr_ce at e
  simp only [ne_eq, Prod.mk.injEq] at ne
  dsimp only at e
  omega
