/-! what a filled chart holds: costs in their bounds, the least one first, the best rule and split the first that reach it -/
def pr_Q (w : Nat) (y : Int32) : Prop := 0 ≤ y.toInt ∧ y.toInt + 50 ≤ 100 * (w : Int)
def pr_Gd (w c : Nat) (D : pr_D) : Prop := ∃ t, t ≤ 8 ∧ D.1 c = nI t ∧ ∀ p, p < t → pr_Q w (D.2.1 (8 * c + p)) ∧ D.2.1 (8 * c) ≤ D.2.1 (8 * c + p)
theorem pr_sh_good (Q : Int32 → Prop) (k : Nat) (R : Nat → Int32) (b : Nat) (x : Int32) (hR : ∀ p, p < k → Q (R (b + p)) ∧ R b ≤ R (b + p)) (hx : Q x) :
    (∀ p, p < k + 1 → Q (pr_sh k R b x (b + p)) ∧ pr_sh k R b x b ≤ pr_sh k R b x (b + p)) ∧ (k = 0 ∨ x < R b → pr_sh k R b x b = x) ∧ (¬ (k = 0 ∨ x < R b) → pr_sh k R b x b = R b) := by
  obtain ⟨m, hm, h1, h2, h3, h4, h5, h6⟩ := pr_sh_spec k R b x
  by_cases z : m = 0
  · subst z
    simp only [Nat.add_zero] at h2
    have hd : k = 0 ∨ x < R b := by
      by_cases k0 : k = 0
      · exact Or.inl k0
      · exact Or.inr (Int32.not_le.mp (h6 0 (by omega) (by omega)))
    refine ⟨fun p hp => ?_, fun _ => h2, fun n => absurd hd n⟩
    by_cases p0 : p = 0
    · subst p0
      rw [Nat.add_zero, h2]
      exact ⟨hx, Int32.le_refl x⟩
    · rw [h3 (b + p) (by omega) (by omega), h2, show b + p - 1 = b + (p - 1) by omega]
      exact ⟨(hR (p - 1) (by omega)).1, Int32.le_of_lt (Int32.not_le.mp (h6 (p - 1) (by omega) (by omega)))⟩
  · have e0 : pr_sh k R b x b = R b := h1 b (by omega)
    have hle : R b ≤ x := by
      have a := h5 (by omega)
      have c := (hR (m - 1) (by omega)).2
      rw [show b + (m - 1) = b + m - 1 by omega] at c
      exact Int32.le_trans c a
    have hd : ¬ (k = 0 ∨ x < R b) := by
      rintro (a | a)
      · omega
      · exact absurd hle (Int32.not_le.mpr a)
    refine ⟨fun p hp => ?_, fun n => absurd n hd, fun _ => e0⟩
    rw [e0]
    by_cases p1 : p < m
    · rw [h1 (b + p) (by omega)]; exact hR p (by omega)
    · by_cases p2 : p = m
      · subst p2; rw [h2]; exact ⟨hx, hle⟩
      · rw [h3 (b + p) (by omega) (by omega), show b + p - 1 = b + (p - 1) by omega]
        exact hR (p - 1) (by omega)
/-- what an insertion of v (or of a join whose least is v) does to cell c -/
def pr_Hd (c : Nat) (k m : Int32) (D : pr_D) (v : Int32) (D' : pr_D) : Prop := ¬ D'.1 c = 0 ∧ (D.1 c = 0 ∨ v < D.2.1 (8 * c) → D'.2.1 (8 * c) = v ∧ D'.2.2.1 c = k ∧ D'.2.2.2 c = m) ∧ (¬ (D.1 c = 0 ∨ v < D.2.1 (8 * c)) → D'.2.1 (8 * c) = D.2.1 (8 * c) ∧ D'.2.2.1 c = D.2.2.1 c ∧ D'.2.2.2 c = D.2.2.2 c)
theorem pr_ins_head {w c : Nat} {k m x : Int32} {D : pr_D} (h : pr_Gd w c D) (hx : pr_Q w x) : pr_Gd w c (pr_ins c k m D x) ∧ pr_Hd c k m D x (pr_ins c k m D x) := by
  obtain ⟨t, ht, hD, hR⟩ := h
  by_cases e : t = 8
  · subst e
    have n0 : ¬ D.1 c = 0 := by rw [hD]; decide
    rw [pr_ins8 k m x hD]
    by_cases l7 : x < D.2.1 (8 * c + 7)
    · obtain ⟨g1, g2, g3⟩ := pr_sh_good (pr_Q w) 7 D.2.1 (8 * c) x (fun p hp => hR p (by omega)) hx
      rw [if_pos l7]
      refine ⟨⟨8, by omega, hD, fun p hp => g1 p hp⟩, n0, ?_, ?_⟩
      · intro o
        have o' : x < D.2.1 (8 * c) := o.resolve_left n0
        rw [if_pos o', if_pos o']
        exact ⟨g2 (Or.inr o'), pk_us, pk_us⟩
      · intro o
        have o' : ¬ x < D.2.1 (8 * c) := fun z => o (Or.inr z)
        rw [if_neg o', if_neg o']
        exact ⟨g3 (fun z => z.elim (by omega) o'), rfl, rfl⟩
    · have l0 : ¬ x < D.2.1 (8 * c) := fun z => l7 (Int32.lt_of_lt_of_le z (hR 7 (by omega)).2)
      rw [if_neg l7, if_neg l0, if_neg l0]
      exact ⟨⟨8, by omega, hD, hR⟩, n0, fun o => absurd (o.resolve_left n0) l0, fun _ => ⟨rfl, rfl, rfl⟩⟩
  · have i0 : D.1 c = 0 ↔ t = 0 := by rw [hD, ← nI_0]; exact nI_eq (by omega) (by omega)
    obtain ⟨g1, g2, g3⟩ := pr_sh_good (pr_Q w) t D.2.1 (8 * c) x hR hx
    rw [pr_insN k m x hD (by omega)]
    refine ⟨⟨t + 1, by omega, pk_us, fun p hp => g1 p hp⟩, ?_, ?_, ?_⟩
    · dsimp only
      rw [pk_us]
      exact nI_ne0 (by omega) (by omega)
    · intro o
      rw [i0] at o
      rw [if_pos o, if_pos o]
      exact ⟨g2 o, pk_us, pk_us⟩
    · intro o
      rw [i0] at o
      rw [if_neg o, if_neg o]
      exact ⟨g3 o, rfl, rfl⟩
theorem pr_Hd_next {w c : Nat} {k m v x : Int32} {D E : pr_D} (g : pr_Gd w c E) (h : pr_Hd c k m D v E) (hx : pr_Q w x) (hv : v ≤ x) : pr_Gd w c (pr_ins c k m E x) ∧ pr_Hd c k m D v (pr_ins c k m E x) := by
  obtain ⟨a, b⟩ := pr_ins_head (k := k) (m := m) g hx
  have le : E.2.1 (8 * c) ≤ x := by
    by_cases o : D.1 c = 0 ∨ v < D.2.1 (8 * c)
    · rw [(h.2.1 o).1]; exact hv
    · rw [(h.2.2 o).1]
      exact Int32.le_trans (Int32.not_lt.mp (fun z => o (Or.inr z))) hv
  have no : ¬ (E.1 c = 0 ∨ x < E.2.1 (8 * c)) := by
    rintro (z | z)
    · exact h.1 z
    · exact absurd le (Int32.not_le.mpr z)
  have q := b.2.2 no
  refine ⟨a, b.1, fun o => ?_, fun o => ?_⟩
  · have := h.2.1 o
    exact ⟨q.1.trans this.1, q.2.1.trans this.2.1, q.2.2.trans this.2.2⟩
  · have := h.2.2 o
    exact ⟨q.1.trans this.1, q.2.1.trans this.2.1, q.2.2.trans this.2.2⟩
theorem io_add {a b : Int32} (h1 : 0 ≤ a.toInt) (h2 : a.toInt ≤ 1000000) (h3 : 0 ≤ b.toInt) (h4 : b.toInt ≤ 1000000) : (a + b).toInt = a.toInt + b.toInt := by
  rw [Int32.toInt_add]
  exact Int.bmod_eq_of_le (by omega) (by omega)
theorem io_Q3 {wl wr w : Nat} {p a b : Int32} (hp : 0 ≤ p.toInt ∧ p.toInt ≤ 50) (ha : pr_Q wl a) (hb : pr_Q wr b) (hw : wl + wr = w) (h5 : w ≤ 5) : (p + a + b).toInt = p.toInt + a.toInt + b.toInt ∧ pr_Q w (p + a + b) := by
  obtain ⟨a1, a2⟩ := ha
  obtain ⟨b1, b2⟩ := hb
  have e1 : (p + a).toInt = p.toInt + a.toInt := io_add (by omega) (by omega) (by omega) (by omega)
  have e2 : (p + a + b).toInt = p.toInt + a.toInt + b.toInt := by
    rw [io_add (by omega) (by omega) (by omega) (by omega), e1]
  refine ⟨e2, ?_, ?_⟩
  · rw [e2]; omega
  · rw [e2]; omega
theorem pr_Gd_same {w c : Nat} {D E : pr_D} (h : pr_Gd w c D) (s : pr_same c D E) : pr_Gd w c E := by
  obtain ⟨t, ht, hD, hR⟩ := h
  refine ⟨t, ht, s.1.trans hD, fun p hp => ?_⟩
  have e0 := s.2.1 0 (by omega)
  simp only [Nat.add_zero] at e0
  rw [s.2.1 p (by omega), e0]
  exact hR p hp
theorem pr_Gd_ag {w c : Nat} {D E : pr_D} (h : pr_Gd w c D) (s : pr_ag c D E) : pr_Gd w c E := by
  obtain ⟨t, ht, hD, hR⟩ := h
  obtain ⟨t', ht', e1, e2, e3, e4⟩ := s
  have et : t = t' := (nI_eq (by omega) (by omega)).mp (hD.symm.trans e1)
  subst et
  refine ⟨t, ht, e2, fun p hp => ?_⟩
  have e0 := e3 0 (by omega)
  simp only [Nat.add_zero] at e0
  rw [← e3 p hp, ← e0]
  exact hR p hp
theorem pr_jn_head {w wl wr c l r : Nat} {p k m : Int32} {D : pr_D} (hc : c < 90) (nl : l ≠ c) (nr : r ≠ c) (hT : pr_TI D) (gl : pr_Gd wl l D) (gr : pr_Gd wr r D) (gc : pr_Gd w c D) (hw : wl + wr = w) (h5 : w ≤ 5) (hp : 0 ≤ p.toInt ∧ p.toInt ≤ 50) :
    (D.1 l = 0 ∨ D.1 r = 0 → pr_jn c l r p k m D = D) ∧ (¬ (D.1 l = 0 ∨ D.1 r = 0) → pr_Gd w c (pr_jn c l r p k m D) ∧ pr_Hd c k m D (p + D.2.1 (8 * l) + D.2.1 (8 * r)) (pr_jn c l r p k m D)) := by
  obtain ⟨tl, htl, el, hl⟩ := gl
  obtain ⟨tr, htr, er, hr⟩ := gr
  have cl : (D.1 l).toNatClampNeg = tl := by rw [el]; exact nI_clamp (by omega)
  have cr : (D.1 r).toNatClampNeg = tr := by rw [er]; exact nI_clamp (by omega)
  have zl : D.1 l = 0 ↔ tl = 0 := by rw [el, ← nI_0]; exact nI_eq (by omega) (by omega)
  have zr : D.1 r = 0 ↔ tr = 0 := by rw [er, ← nI_0]; exact nI_eq (by omega) (by omega)
  rw [zl, zr]
  constructor
  · rintro (z | z)
    · unfold pr_jn
      rw [cl, z]
      rfl
    · unfold pr_jn
      refine fo_inv (P := fun E => E = D) _ _ rfl (fun b a _ hb => ?_)
      rw [hb]
      unfold pr_j1
      rw [cr, z]
      rfl
  · intro hz
    obtain ⟨sl, rfl⟩ : ∃ s, tl = s + 1 := ⟨tl - 1, by omega⟩
    obtain ⟨sr, rfl⟩ : ∃ s, tr = s + 1 := ⟨tr - 1, by omega⟩
    have l0 := hl 0 (by omega)
    have r0 := hr 0 (by omega)
    simp only [Nat.add_zero] at l0 r0
    have hv := io_Q3 (p := p) hp l0.1 r0.1 hw h5
    have hval : ∀ x y, x < sl + 1 → y < sr + 1 → pr_Q w (p + D.2.1 (8 * l + x) + D.2.1 (8 * r + y)) ∧ p + D.2.1 (8 * l) + D.2.1 (8 * r) ≤ p + D.2.1 (8 * l + x) + D.2.1 (8 * r + y) := by
      intro x y hx hy
      have a := hl x hx
      have b := hr y hy
      have q := io_Q3 (p := p) hp a.1 b.1 hw h5
      refine ⟨q.2, ?_⟩
      have a2 := Int32.le_iff_toInt_le.mp a.2
      have b2 := Int32.le_iff_toInt_le.mp b.2
      rw [Int32.le_iff_toInt_le, q.1, hv.1]
      omega
    have step : ∀ (E : pr_D) (x y : Nat), x < sl + 1 → y < sr + 1 → (pr_TI E ∧ (∀ c', c' ≠ c → pr_same c' D E) ∧ pr_Gd w c E ∧ pr_Hd c k m D (p + D.2.1 (8 * l) + D.2.1 (8 * r)) E) →
        (pr_TI (pr_j2 c r k m (p + D.2.1 (8 * l + x)) E y) ∧ (∀ c', c' ≠ c → pr_same c' D (pr_j2 c r k m (p + D.2.1 (8 * l + x)) E y)) ∧ pr_Gd w c (pr_j2 c r k m (p + D.2.1 (8 * l + x)) E y) ∧ pr_Hd c k m D (p + D.2.1 (8 * l) + D.2.1 (8 * r)) (pr_j2 c r k m (p + D.2.1 (8 * l + x)) E y)) := by
      intro E x y hx hy hE
      have val := hval x y hx hy
      have eR : E.2.1 (8 * r + y) = D.2.1 (8 * r + y) := (hE.2.1 r nr).2.1 y (by omega)
      unfold pr_j2
      rw [eR]
      have nx := pr_Hd_next hE.2.2.1 hE.2.2.2 val.1 val.2
      exact ⟨pr_ins_TI hc hE.1, fun c' hc' => pr_same_tr (hE.2.1 c' hc') (pr_ins_same (hE.1 c hc) hc'), nx.1, nx.2⟩
    have first : (pr_TI (pr_j2 c r k m (p + D.2.1 (8 * l + 0)) D 0) ∧ (∀ c', c' ≠ c → pr_same c' D (pr_j2 c r k m (p + D.2.1 (8 * l + 0)) D 0)) ∧ pr_Gd w c (pr_j2 c r k m (p + D.2.1 (8 * l + 0)) D 0) ∧ pr_Hd c k m D (p + D.2.1 (8 * l) + D.2.1 (8 * r)) (pr_j2 c r k m (p + D.2.1 (8 * l + 0)) D 0)) := by
      have nx := pr_ins_head (k := k) (m := m) gc hv.2
      exact ⟨pr_ins_TI hc hT, fun c' hc' => pr_ins_same (hT c hc) hc', nx.1, nx.2⟩
    have row0 : (pr_TI (pr_j1 c l r p k m D 0) ∧ (∀ c', c' ≠ c → pr_same c' D (pr_j1 c l r p k m D 0)) ∧ pr_Gd w c (pr_j1 c l r p k m D 0) ∧ pr_Hd c k m D (p + D.2.1 (8 * l) + D.2.1 (8 * r)) (pr_j1 c l r p k m D 0)) := by
      unfold pr_j1
      rw [cr, List.range'_succ, List.foldl_cons]
      have K := fo_inv (P := fun E => pr_TI E ∧ (∀ c', c' ≠ c → pr_same c' D E) ∧ pr_Gd w c E ∧ pr_Hd c k m D (p + D.2.1 (8 * l) + D.2.1 (8 * r)) E) (f := pr_j2 c r k m (p + D.2.1 (8 * l + 0))) (List.range' (0 + 1) sr) _ first
      refine K ?_
      intro E y hy hE
      have := fo_mem hy
      exact step E 0 y (by omega) (by omega) hE
    unfold pr_jn
    rw [cl, List.range'_succ, List.foldl_cons]
    have K := fo_inv (P := fun E => pr_TI E ∧ (∀ c', c' ≠ c → pr_same c' D E) ∧ pr_Gd w c E ∧ pr_Hd c k m D (p + D.2.1 (8 * l) + D.2.1 (8 * r)) E) (f := pr_j1 c l r p k m) (List.range' (0 + 1) sl) _ row0
    refine (K ?_).2.2
    intro E x hx hE
    have hx' := fo_mem hx
    have er' : (E.1 r).toNatClampNeg = sr + 1 := by rw [(hE.2.1 r nr).1]; exact cr
    have eR : E.2.1 (8 * l + x) = D.2.1 (8 * l + x) := (hE.2.1 l nl).2.1 x (by omega)
    unfold pr_j1
    rw [er', eR]
    have K2 := fo_inv (P := fun E => pr_TI E ∧ (∀ c', c' ≠ c → pr_same c' D E) ∧ pr_Gd w c E ∧ pr_Hd c k m D (p + D.2.1 (8 * l) + D.2.1 (8 * r)) E) (f := pr_j2 c r k m (p + D.2.1 (8 * l + x))) (List.range' 0 (sr + 1)) _ hE
    refine K2 ?_
    intro E' y hy hE'
    have := fo_mem hy
    exact step E' x y (by omega) (by omega) hE'
