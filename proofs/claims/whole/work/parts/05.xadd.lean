/-! X: addTree is the pure insertion -/
abbrev st_X (n : Nat) (G : Nat → Nat → Int32) (D : pr_D) (W BL WC : Nat → Int32) : SX := (nI n, G 0, G 1, G 2, G 3, G 4, G 5, D.1, D.2.1, D.2.2.1, D.2.2.2, W, BL, WC)
abbrev st_Y (n : Nat) (ls : Int32) (G : Nat → Nat → Int32) (D : pr_D) (U LI OP : Nat → Int32) : SY := (nI n, ls, G 0, G 1, G 2, G 3, G 4, G 5, D.2.1, D.1, U, LI, OP)
section
variable (n : Nat) (G : Nat → Nat → Int32) (T BR BS W BL WC : Nat → Int32)
theorem xa_98 (post : SX → Prop) (x : Int32) (c : Nat) (hc : c < 90) : ∀ (p : Nat) (R : Nat → Int32) (nf : Nat), p ≤ 7 → p < nf → post (nI n, G 0, G 1, G 2, G 3, G 4, G 5, T, pr_sh p R (8 * c) x, BR, BS, W, BL, WC) → wX_addTree_98 post x (nI (8 * c)) (nI n) nf (nI p) (G 0) (G 1) (G 2) (G 3) (G 4) (G 5) T R BR BS W BL WC := by
  intro p
  induction p with
  | zero =>
    intro R nf _ hnf hp
    obtain ⟨m, rfl⟩ : ∃ m, nf = m + 1 := ⟨nf - 1, by omega⟩
    rw [wX_addTree_98]
    refine br_t (by decide : nI 0 ≤ 0) ?_
    unfold wX_addTree_147
    rw [show nI (8 * c) + nI 0 = nI (8 * c) from nI_add (8 * c) 0]
    exact ⟨vp_in_nI (by omega) (by omega), nm_r (by rw [nI_clamp (by omega)]; rfl) hp⟩
  | succ p ih =>
    intro R nf h7 hnf hp
    obtain ⟨m, rfl⟩ : ∃ m, nf = m + 1 := ⟨nf - 1, by omega⟩
    have e1 : nI (8 * c) + nI (p + 1) - 1 = nI (8 * c + p) := by rw [nI_add]; exact nI_pred (8 * c + p)
    have e2 : nI (8 * c) + nI (p + 1) = nI (8 * c + p + 1) := nI_add (8 * c) (p + 1)
    have c1 : (nI (8 * c + p)).toNatClampNeg = 8 * c + p := nI_clamp (by omega)
    have c2 : (nI (8 * c + p + 1)).toNatClampNeg = 8 * c + p + 1 := nI_clamp (by omega)
    rw [wX_addTree_98]
    dsimp only
    rw [e1, e2, c1, c2]
    refine br_f (nI_nle (by omega) (by omega)) ⟨vp_in_nI (by omega) (by omega), ?_⟩
    by_cases h : R (8 * c + p) ≤ x
    · refine br_t h ?_
      unfold wX_addTree_147
      rw [e2, c2]
      simp only [pr_sh, if_pos h] at hp
      exact ⟨vp_in_nI (by omega) (by omega), nm_e hp⟩
    · simp only [pr_sh, if_neg h] at hp
      refine br_f h ⟨vp_in_nI (by omega) (by omega), vp_in_nI (by omega) (by omega), nm_e (nm_r (pk_m1 p) ?_)⟩
      exact ih _ m (by omega) (by omega) hp
theorem xa_45_8 (R : Nat → Int32) (post : SX → Prop) (x : Int32) (c : Nat) (hc : c < 90) (hp : post (nI n, G 0, G 1, G 2, G 3, G 4, G 5, T, (if x < R (8 * c + 7) then pr_sh 7 R (8 * c) x else R), BR, BS, W, BL, WC)) : wX_addTree_45 post (nI c) x (nI (8 * c)) (nI 8) (nI n) (G 0) (G 1) (G 2) (G 3) (G 4) (G 5) T R BR BS W BL WC := by
  have e1 : nI (8 * c) + 8 - 1 = nI (8 * c + 7) := by rw [show (8 : Int32) = nI 8 from rfl, nI_add]; exact nI_pred (8 * c + 7)
  have c1 : (nI (8 * c + 7)).toNatClampNeg = 8 * c + 7 := nI_clamp (by omega)
  unfold wX_addTree_45
  rw [e1, c1]
  refine br_t (by decide : (8 : Int32) ≤ nI 8) ⟨vp_in_nI (by omega) (by omega), ?_⟩
  by_cases h : x < R (8 * c + 7)
  · rw [if_pos h] at hp
    exact br_t h (br_t (by decide : (8 : Int32) ≤ nI 8) ⟨8, xa_98 n G T BR BS W BL WC post x c hc 7 R 8 (by omega) (by omega) hp⟩)
  · rw [if_neg h] at hp
    exact br_f h hp
theorem xa_45_N (R : Nat → Int32) (post : SX → Prop) (x : Int32) (c : Nat) (hc : c < 90) (t : Nat) (ht : t < 8) (hp : post (nI n, G 0, G 1, G 2, G 3, G 4, G 5, upd T c (nI (t + 1)), pr_sh t R (8 * c) x, BR, BS, W, BL, WC)) : wX_addTree_45 post (nI c) x (nI (8 * c)) (nI t) (nI n) (G 0) (G 1) (G 2) (G 3) (G 4) (G 5) T R BR BS W BL WC := by
  have c1 : (nI c).toNatClampNeg = c := nI_clamp (by omega)
  have h8 : ¬ (8 : Int32) ≤ nI t := nI_ge (b := 8) ht (by decide)
  unfold wX_addTree_45
  rw [c1, nI_1]
  refine br_f h8 ⟨vp_in_nI (by omega) (by omega), nm_e ?_⟩
  exact br_f h8 ⟨8, xa_98 n G (upd T c (nI (t + 1))) BR BS W BL WC post x c hc t R 8 (by omega) (by omega) hp⟩
theorem xa_add (D : pr_D) (post : SX → Prop) (x k m : Int32) (c : Nat) (hc : c < 90) (hT : ∃ t, t ≤ 8 ∧ D.1 c = nI t) (hp : post (st_X n G (pr_ins c k m D x) W BL WC)) : wpX_addTree post (st_X n G D W BL WC) (nI c) x k m := by
  obtain ⟨t, ht, hD⟩ := hT
  obtain ⟨T, R, BR, BS⟩ := D
  dsimp only at hD
  have c1 : (nI c).toNatClampNeg = c := nI_clamp (by omega)
  have c2 : (nI (8 * c)).toNatClampNeg = 8 * c := nI_clamp (by omega)
  have e1 : nI c * 8 = nI (8 * c) := by rw [show (8 : Int32) = nI 8 from rfl, pk_mul, Nat.mul_comm]
  unfold wpX_addTree
  dsimp only
  refine nm_r e1 ⟨vp_in_nI hc (by omega), ?_⟩
  rw [c1, hD, c2]
  refine nm_e ?_
  have K : ∀ (BR' BS' : Nat → Int32), post (nI n, G 0, G 1, G 2, G 3, G 4, G 5, (pr_ins c k m (T, R, BR, BS) x).1, (pr_ins c k m (T, R, BR, BS) x).2.1, BR', BS', W, BL, WC) → wX_addTree_45 post (nI c) x (nI (8 * c)) (nI t) (nI n) (G 0) (G 1) (G 2) (G 3) (G 4) (G 5) T R BR' BS' W BL WC := by
    intro BR' BS' h
    by_cases e : t = 8
    · subst e
      rw [pr_ins8 (D := (T, R, BR, BS)) k m x hD] at h
      exact xa_45_8 n G T BR' BS' W BL WC R post x c hc h
    · rw [pr_insN (D := (T, R, BR, BS)) k m x hD (by omega)] at h
      exact xa_45_N n G T BR' BS' W BL WC R post x c hc t (by omega) h
  have K2 : ∀ (h : T c = 0 ∨ x < R (8 * c)), wX_addTree_30 post (nI c) x k m (nI (8 * c)) (nI t) (nI n) (G 0) (G 1) (G 2) (G 3) (G 4) (G 5) T R BR BS W BL WC := by
    intro h
    unfold wX_addTree_30
    rw [c1]
    refine ⟨vp_in_nI hc (by omega), nm_e ⟨vp_in_nI hc (by omega), nm_e (K _ _ ?_)⟩⟩
    simp only [pr_ins, if_pos h] at hp ⊢
    exact hp
  by_cases h0 : nI t = 0
  · exact br_t h0 (K2 (Or.inl (hD.trans h0)))
  · refine br_f h0 ⟨vp_in_nI (by omega) (by omega), ?_⟩
    by_cases h : R (8 * c) ≤ x
    · refine br_t h (K _ _ ?_)
      have hn : ¬ (T c = 0 ∨ x < R (8 * c)) := by
        rintro (z | z)
        · exact h0 (hD.symm.trans z)
        · exact absurd h (Int32.not_le.mpr z)
      simp only [pr_ins, if_neg hn] at hp ⊢
      exact hp
    · exact br_f h (K2 (Or.inr (Int32.not_le.mp h)))
end
