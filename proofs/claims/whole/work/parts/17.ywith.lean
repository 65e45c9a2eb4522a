/-! Y: costWith's filling is the pure picture; the answer -/
section
variable (n : Nat) (ls : Int32) (G : Nat → Nat → Int32) (E : pr_D) (LI OP : Nat → Int32)
theorem yw_better (W : Nat → Int32) (post : SY → Prop) (x : Int32) (c : Nat) (hc : c < 90) (hV : W c = -1 ∨ 0 ≤ (W c).toInt) (hp : post (st_Y n ls G E (upd W c (wo_bt (W c) x)) LI OP)) : wpY_better post (st_Y n ls G E W LI OP) (nI c) x := by
  have v : vp_in (nI c) 108 := vp_in_nI (by omega) (by omega)
  have neg : W c < 0 ↔ W c = -1 := by
    constructor
    · intro z
      refine hV.elim id (fun y => ?_)
      rw [Int32.lt_iff_toInt_lt] at z
      have : (0 : Int32).toInt = 0 := by decide
      omega
    · intro z
      rw [z]
      decide
  unfold wpY_better
  dsimp only
  rw [nI_clamp (n := c) (by omega), neg]
  unfold wo_bt at hp
  refine br_c (fun z => ?_) (fun z => ?_)
  · rw [if_pos z, wo_id rfl] at hp
    exact hp
  · rw [if_neg z] at hp
    refine ⟨v, br_c (fun y => ⟨v, nm_e ?_⟩) (fun y => ⟨v, br_c (fun w => ?_) (fun w => ⟨v, nm_e ?_⟩)⟩)⟩
    · rw [wo_mnx y] at hp
      exact hp
    · rw [wo_mng y (fun q => absurd w (Int32.not_le.mpr q)), wo_id rfl] at hp
      exact hp
    · rw [wo_mnl (Int32.not_le.mp w)] at hp
      exact hp
theorem yw_with (W : Nat → Int32) (post : Int32 → Prop) (c : Nat) (hc : c < 90) (hV : W c = -1 ∨ 0 ≤ (W c).toInt) (hp : post (wo_wi W c)) : wpY_with post (st_Y n ls G E W LI OP) (nI c) := by
  have v : vp_in (nI c) 108 := vp_in_nI (by omega) (by omega)
  unfold wpY_with
  dsimp only
  rw [nI_clamp (n := c) (by omega)]
  unfold wo_wi at hp
  refine ⟨v, ?_⟩
  by_cases z : W c = -1
  · rw [if_pos z] at hp
    exact br_f (by rw [z]; decide) hp
  · rw [if_neg z] at hp
    refine br_t ?_ ⟨v, hp⟩
    rw [Int32.le_iff_toInt_le]
    exact hV.resolve_left z
theorem wo_V0 {w c : Nat} {E : pr_D} {y : Int32} (h : wo_V w c E y) : y = -1 ∨ 0 ≤ y.toInt := h.elim Or.inl (fun q => Or.inr q.1.1)
theorem wo_bt0 {y x : Int32} (hy : y = -1 ∨ 0 ≤ y.toInt) (hx : 0 ≤ x.toInt) : wo_bt y x = -1 ∨ 0 ≤ (wo_bt y x).toInt := by
  unfold wo_bt wo_mn
  split
  · exact hy
  · split
    · exact Or.inr hx
    · exact hy
theorem yw_bet2 (W : Nat → Int32) (y : Int32) (post : SY → Prop) (x : Int32) (c : Nat) (hc : c < 90) (hV : y = -1 ∨ 0 ≤ y.toInt) (hp : post (st_Y n ls G E (upd W c (wo_bt y x)) LI OP)) : wpY_better post (st_Y n ls G E (upd W c y) LI OP) (nI c) x := by
  refine yw_better n ls G E LI OP (upd W c y) post x c hc (by rw [pk_us]; exact hV) ?_
  rw [wo_uu, pk_us]
  exact hp
theorem yw_83 (post : SY → Prop) (J3 : jt_Y) (rr i j k : Nat) (hG : pr_GI G) (hn : n ≤ 5) (hT : pr_TI E) (hB : ∀ i j a, i < j → j ≤ n → a < 3 → pr_Bst G E i j a) (hrr : rr < 8) (hij : i < j) (hj : j ≤ n) (hk : k < 8) (h1k : G 0 k = 1) :
    ∀ (d m : Nat) (W : Nat → Int32) (nf : Nat), m + d = j → i < m → d < nf → wo_I n E W → J3 (nI (k + 1)) (nI n) ls (G 0) (G 1) (G 2) (G 3) (G 4) (G 5) E.2.1 E.1 ((List.range' m d).foldl (wo_m G E rr i j k) W) LI OP → wY_fillUsing_83 post J3 (nI rr) (nI i) (nI j) (nI k) (nI (pr_ce i j (pr_cN G 1 k))) nf (nI m) (nI n) ls (G 0) (G 1) (G 2) (G 3) (G 4) (G 5) E.2.1 E.1 W LI OP := by
  obtain ⟨⟨g1, h1⟩, ⟨g2, h2⟩, ⟨g3, h3⟩, _⟩ := pr_GIs hG hk
  have g4 := pr_G4 hG hk
  intro d
  induction d with
  | zero =>
    intro m W nf hm him hnf hI hp
    obtain ⟨f, rfl⟩ : ∃ f, nf = f + 1 := ⟨nf - 1, by omega⟩
    rw [wY_fillUsing_83]
    exact br_t (nI_le (by omega) (by omega)) (nm_r (nI_1 k) hp)
  | succ d ih =>
    intro m W nf hm him hnf hI hp
    obtain ⟨f, rfl⟩ : ∃ f, nf = f + 1 := ⟨nf - 1, by omega⟩
    have c90 := pr_ce90 (i := i) (j := j) (by omega) (by omega) h1
    have l90 := pr_ce90 (i := i) (j := m) (by omega) (by omega) h2
    have r90 := pr_ce90 (i := m) (j := j) (by omega) (by omega) h3
    have hp' := ih (m + 1) (wo_m G E rr i j k W m) f (by omega) (by omega) (by omega) (wo_m_I hG hn hB him (by omega) hj hk h1k hI) hp
    have vc := wo_V0 (hI i j _ hij hj h1)
    have vl := hI i m _ him (by omega) h2
    have vr := hI m j _ (by omega) hj h3
    have gl := (hB i m _ him (by omega) h2).1
    have gr := (hB m j _ (by omega) hj h3).1
    have nl : pr_ce i m (pr_cN G 2 k) ≠ pr_ce i j (pr_cN G 1 k) := by unfold pr_ce; omega
    have nr : pr_ce m j (pr_cN G 3 k) ≠ pr_ce i j (pr_cN G 1 k) := by unfold pr_ce; omega
    have wq := wo_eq (W := W) (rr := rr) (c := pr_ce i j (pr_cN G 1 k)) hG hk (by omega) gl gr vl vr
    unfold wo_m at hp'
    rw [← wq] at hp'
    clear wq
    obtain ⟨lb1, lb2, _, _⟩ := pr_ls_b gl (by omega)
    obtain ⟨rb1, rb2, _, _⟩ := pr_ls_b gr (by omega)
    have wiB : ∀ (w q : Nat), w ≤ 5 → wo_V w q E (W q) → 0 ≤ (wo_wi W q).toInt ∧ (wo_wi W q).toInt ≤ 100000 := by
      intro w q hw5 hv
      unfold wo_wi
      by_cases z : W q = -1
      · rw [if_pos z, io_100]
        omega
      · rw [if_neg z]
        have := (hv.resolve_left z).1
        unfold pr_Q at this
        omega
    obtain ⟨a1, a2⟩ := wiB _ _ (by omega) vl
    obtain ⟨b1, b2⟩ := wiB _ _ (by omega) vr
    generalize pr_ce i j (pr_cN G 1 k) = c at *
    generalize el : pr_ce i m (pr_cN G 2 k) = l at *
    generalize er : pr_ce m j (pr_cN G 3 k) = r at *
    have s1 : 0 ≤ (G 4 k + wo_wi W l + pr_ls E r).toInt := by
      have e := io_add (a := G 4 k) (b := wo_wi W l) g4.1 (by omega) a1 (by omega)
      rw [io_add (by omega) (by omega) rb1 (by omega), e]
      omega
    have s2 : 0 ≤ (G 4 k + pr_ls E l + wo_wi W r).toInt := by
      have e := io_add (a := G 4 k) (b := pr_ls E l) g4.1 (by omega) lb1 (by omega)
      rw [io_add (by omega) (by omega) b1 (by omega), e]
      omega
    have v := vp_in_nI hk (N := 8) (by omega)
    have x1 := wo_bt0 vc s1
    have x2 := wo_bt0 x1 s2
    rw [wY_fillUsing_83]
    dsimp only
    unfold wpY_cell
    dsimp only
    rw [nI_clamp (n := k) (by omega), g2, g3, ce_Y, ce_Y, el, er]
    refine br_f (nI_ge (by omega) (by omega)) ⟨v, br_t h1k ⟨v, v, v, ?_⟩⟩
    refine yw_with n ls G E LI OP W _ l l90 (wo_V0 vl) ?_
    refine yl_least n ls G E W LI OP _ r r90 (hT r r90) ?_
    refine yw_better n ls G E LI OP W _ _ c c90 vc ?_
    have ewi : wo_wi (upd W c (wo_bt (W c) (G 4 k + wo_wi W l + pr_ls E r))) r = wo_wi W r := by
      unfold wo_wi
      rw [pk_un nr]
    generalize wo_bt (W c) (G 4 k + wo_wi W l + pr_ls E r) = y1 at *
    dsimp only
    refine ⟨v, ?_⟩
    refine yl_least n ls G E (upd W c y1) LI OP _ l l90 (hT l l90) ?_
    refine yw_with n ls G E LI OP (upd W c y1) _ r r90 (by rw [pk_un nr]; exact wo_V0 vr) ?_
    rw [ewi]
    refine yw_bet2 n ls G E LI OP W y1 _ _ c c90 x1 ?_
    generalize wo_bt y1 (G 4 k + pr_ls E l + wo_wi W r) = y2 at *
    dsimp only
    refine ⟨v, ?_⟩
    refine yl_least n ls G E (upd W c y2) LI OP _ l l90 (hT l l90) ?_
    refine yl_least n ls G E (upd W c y2) LI OP _ r r90 (hT r r90) ?_
    refine pk_eq k rr (fun e => ?_) (fun e => ?_)
    · unfold wY_fillUsing_222
      refine yw_bet2 n ls G E LI OP W y2 _ _ c c90 x2 ?_
      rw [if_pos e] at hp'
      exact nm_r (nI_1 m) hp'
    · unfold wY_fillUsing_222
      refine yw_bet2 n ls G E LI OP W y2 _ _ c c90 x2 ?_
      rw [if_neg e] at hp'
      exact nm_r (nI_1 m) hp'
end
