/-! costWith: the pure picture -/
def wo_mn (y x : Int32) : Int32 := if y = -1 ∨ x < y then x else y
def wo_1 (G : Nat → Nat → Int32) (E : pr_D) (rr c k l r : Nat) (W : Nat → Int32) : Int32 := if k = rr then wo_mn (W c) (G 4 k + E.2.1 (8 * l) + E.2.1 (8 * r)) else W c
def wo_2 (G : Nat → Nat → Int32) (E : pr_D) (rr c k l r : Nat) (W : Nat → Int32) : Int32 := if W l = -1 then wo_1 G E rr c k l r W else wo_mn (wo_1 G E rr c k l r W) (G 4 k + W l + E.2.1 (8 * r))
def wo_3 (G : Nat → Nat → Int32) (E : pr_D) (rr c k l r : Nat) (W : Nat → Int32) : Int32 := if W r = -1 then wo_2 G E rr c k l r W else wo_mn (wo_2 G E rr c k l r W) (G 4 k + E.2.1 (8 * l) + W r)
def wo_s (G : Nat → Nat → Int32) (E : pr_D) (rr c k l r : Nat) (W : Nat → Int32) : Nat → Int32 := if E.1 l = 0 ∨ E.1 r = 0 then W else upd W c (wo_3 G E rr c k l r W)
def wo_w (G : Nat → Nat → Int32) (rr i j k : Nat) (W : Nat → Int32) : Nat → Int32 := if k = rr ∧ G 0 k = 2 ∧ j = i + 1 ∧ G 2 k = G 5 i then upd W (pr_ce i j (pr_cN G 1 k)) (wo_mn (W (pr_ce i j (pr_cN G 1 k))) (G 4 k)) else W
def wo_m (G : Nat → Nat → Int32) (E : pr_D) (rr i j k : Nat) (W : Nat → Int32) (m : Nat) : Nat → Int32 := wo_s G E rr (pr_ce i j (pr_cN G 1 k)) k (pr_ce i m (pr_cN G 2 k)) (pr_ce m j (pr_cN G 3 k)) W
def wo_r (G : Nat → Nat → Int32) (E : pr_D) (rr i j : Nat) (W : Nat → Int32) (k : Nat) : Nat → Int32 :=
  if G 0 k = 1 then (List.range' (i + 1) (j - 1 - i)).foldl (wo_m G E rr i j k) (wo_w G rr i j k W) else wo_w G rr i j k W
def wo_p (G : Nat → Nat → Int32) (E : pr_D) (rr : Nat) (W : Nat → Int32) (s : Nat × Nat) : Nat → Int32 := (List.range' 0 8).foldl (wo_r G E rr s.1 s.2) W
theorem wo_uu {W : Nat → Int32} {c : Nat} {a b : Int32} : upd (upd W c a) c b = upd W c b := by
  funext q
  unfold upd
  by_cases e : q = c
  · rw [if_pos e, if_pos e]
  · rw [if_neg e, if_neg e, if_neg e]
theorem wo_id {W : Nat → Int32} {c : Nat} {a : Int32} (h : a = W c) : upd W c a = W := by
  funext q
  unfold upd
  by_cases e : q = c
  · rw [if_pos e, h, e]
  · rw [if_neg e]
/-- off the span nothing changes -/
theorem wo_p_off {G : Nat → Nat → Int32} {E : pr_D} {rr i j : Nat} {W : Nat → Int32} (hG : pr_GI G) : ∀ c', pr_off i j c' → wo_p G E rr W (i, j) c' = W c' := by
  intro c' hc'
  refine fo_inv (P := fun V : Nat → Int32 => V c' = W c') _ _ rfl ?_
  intro V k hk hV
  have hk8 : k < 8 := by have := fo_mem hk; omega
  obtain ⟨⟨_, h1⟩, _⟩ := pr_GIs hG hk8
  have hw : wo_w G rr i j k V c' = W c' := by
    unfold wo_w
    split
    · rw [pk_un (hc' _ h1)]; exact hV
    · exact hV
  show wo_r G E rr i j V k c' = W c'
  unfold wo_r
  split
  · refine fo_inv (P := fun V : Nat → Int32 => V c' = W c') _ _ hw ?_
    intro V' m _ hV'
    unfold wo_m wo_s
    split
    · exact hV'
    · rw [pk_un (hc' _ h1)]; exact hV'
  · exact hw
def wo_Ag (s : Nat × Nat) (W W' : Nat → Int32) : Prop := ∀ a, a < 3 → W (pr_ce s.1 s.2 a) = W' (pr_ce s.1 s.2 a)
theorem wo_p_congr {G : Nat → Nat → Int32} {E : pr_D} {rr i j : Nat} {W W' : Nat → Int32} (hG : pr_GI G) (h : wo_Ag (i, j) W W') (hp : ∀ m, i < m → m < j → wo_Ag (i, m) W W' ∧ wo_Ag (m, j) W W') : wo_Ag (i, j) (wo_p G E rr W (i, j)) (wo_p G E rr W' (i, j)) := by
  have K : ∀ c, (∃ a, a < 3 ∧ (c = pr_ce i j a ∨ ∃ m, i < m ∧ m < j ∧ (c = pr_ce i m a ∨ c = pr_ce m j a))) → wo_p G E rr W (i, j) c = wo_p G E rr W' (i, j) c := by
    unfold wo_p
    refine fo_rel (P := fun V V' : Nat → Int32 => ∀ c, (∃ a, a < 3 ∧ (c = pr_ce i j a ∨ ∃ m, i < m ∧ m < j ∧ (c = pr_ce i m a ∨ c = pr_ce m j a))) → V c = V' c) _ _ _ ?_ ?_
    · rintro c ⟨a, ha, rfl | ⟨m, h1, h2, rfl | rfl⟩⟩
      · exact h a ha
      · exact (hp m h1 h2).1 a ha
      · exact (hp m h1 h2).2 a ha
    · intro V V' k hk hV
      have hk8 : k < 8 := by have := fo_mem hk; omega
      obtain ⟨⟨_, h1⟩, ⟨_, h2⟩, ⟨_, h3⟩, _⟩ := pr_GIs hG hk8
      have up : ∀ (X X' : Nat → Int32) (q : Nat) (x x' : Int32), x = x' → (∀ c, (∃ a, a < 3 ∧ (c = pr_ce i j a ∨ ∃ m, i < m ∧ m < j ∧ (c = pr_ce i m a ∨ c = pr_ce m j a))) → X c = X' c) → ∀ c, (∃ a, a < 3 ∧ (c = pr_ce i j a ∨ ∃ m, i < m ∧ m < j ∧ (c = pr_ce i m a ∨ c = pr_ce m j a))) → upd X q x c = upd X' q x' c := by
        intro X X' q x x' ex hX c hc
        subst ex
        unfold upd
        by_cases e : c = q
        · rw [if_pos e, if_pos e]
        · rw [if_neg e, if_neg e]; exact hX c hc
      have hw : ∀ c, (∃ a, a < 3 ∧ (c = pr_ce i j a ∨ ∃ m, i < m ∧ m < j ∧ (c = pr_ce i m a ∨ c = pr_ce m j a))) → wo_w G rr i j k V c = wo_w G rr i j k V' c := by
        unfold wo_w
        split
        · refine up _ _ _ _ _ ?_ hV
          rw [hV _ ⟨_, h1, Or.inl rfl⟩]
        · exact hV
      show ∀ c, _ → wo_r G E rr i j V k c = wo_r G E rr i j V' k c
      unfold wo_r
      split
      · refine fo_rel (P := fun V V' : Nat → Int32 => ∀ c, (∃ a, a < 3 ∧ (c = pr_ce i j a ∨ ∃ m, i < m ∧ m < j ∧ (c = pr_ce i m a ∨ c = pr_ce m j a))) → V c = V' c) _ _ _ hw ?_
        intro X X' m hm hX
        have hm' := fo_mem hm
        unfold wo_m wo_s
        split
        · exact hX
        · refine up _ _ _ _ _ ?_ hX
          unfold wo_3 wo_2 wo_1
          rw [hX _ ⟨_, h1, Or.inl rfl⟩, hX (pr_ce i m (pr_cN G 2 k)) ⟨_, h2, Or.inr ⟨m, by omega, by omega, Or.inl rfl⟩⟩, hX (pr_ce m j (pr_cN G 3 k)) ⟨_, h3, Or.inr ⟨m, by omega, by omega, Or.inr rfl⟩⟩]
      · exact hw
  intro a ha
  exact K _ ⟨a, ha, Or.inl rfl⟩
/-- two charts that are alike give the same -/
theorem wo_p_E {G : Nat → Nat → Int32} {E E' : pr_D} {rr i j : Nat} {W : Nat → Int32} (hG : pr_GI G) (hA : ∀ m, i < m → m < j → pr_Ag (i, m) E E' ∧ pr_Ag (m, j) E E') : wo_p G E rr W (i, j) = wo_p G E' rr W (i, j) := by
  unfold wo_p
  refine fo_rel (P := fun V V' : Nat → Int32 => V = V') _ _ _ rfl ?_
  intro V V' k hk hV
  subst hV
  have hk8 : k < 8 := by have := fo_mem hk; omega
  obtain ⟨_, ⟨_, h2⟩, ⟨_, h3⟩, _⟩ := pr_GIs hG hk8
  show wo_r G E rr i j V k = wo_r G E' rr i j V k
  unfold wo_r
  split
  · refine fo_rel (P := fun V V' : Nat → Int32 => V = V') _ _ _ rfl ?_
    intro X X' m hm hX
    subst hX
    have hm' := fo_mem hm
    have al := (hA m (by omega) (by omega)).1 _ h2
    have ar := (hA m (by omega) (by omega)).2 _ h3
    dsimp only at al ar
    unfold wo_m wo_s
    rw [← pr_ag_t al, ← pr_ag_t ar]
    by_cases z : E.1 (pr_ce i m (pr_cN G 2 k)) = 0 ∨ E.1 (pr_ce m j (pr_cN G 3 k)) = 0
    · rw [if_pos z, if_pos z]
    · rw [if_neg z, if_neg z]
      unfold wo_3 wo_2 wo_1
      rw [pr_ag_0 al (fun y => z (Or.inl y)), pr_ag_0 ar (fun y => z (Or.inr y))]
  · rfl
theorem wo_fold_E {G : Nat → Nat → Int32} {E E' : pr_D} {rr n : Nat} (hG : pr_GI G) (hA : ∀ i j, i < j → j ≤ n → pr_Ag (i, j) E E') (L : List (Nat × Nat)) (hL : ∀ s, s ∈ L → cl_v n s) (W : Nat → Int32) : L.foldl (wo_p G E rr) W = L.foldl (wo_p G E' rr) W := by
  refine fo_rel (P := fun V V' : Nat → Int32 => V = V') L W W rfl ?_
  intro V V' s hs hV
  subst hV
  obtain ⟨v1, v2⟩ := hL s hs
  exact wo_p_E (i := s.1) (j := s.2) hG (fun m h1 h2 => ⟨hA _ _ h1 (by omega), hA _ _ h2 v2⟩)
theorem wo_C {G : Nat → Nat → Int32} {E : pr_D} {rr n : Nat} (hG : pr_GI G) (hn : n ≤ 5) {L : List (Nat × Nat)} (hL : cl_ok n L) (W : Nat → Int32) : cl_C (wo_p G E rr) wo_Ag (fun _ => True) n (L.foldl (wo_p G E rr) W) W := by
  refine cl_fold (n := n) (wo_p G E rr) wo_Ag (fun _ => True) (fun s a b h x hx => (h x hx).symm) (fun s a b c h h' x hx => (h x hx).trans (h' x hx)) (fun _ _ _ _ _ _ => rfl) (fun _ _ _ _ => trivial) ?_ hL W trivial
  rintro ⟨i, j⟩ ⟨i', j'⟩ a ⟨v1, v2⟩ ⟨v3, v4⟩ ne _ x hx
  refine (wo_p_off hG _ ?_).symm
  intro b hb e
  unfold pr_ce at e
  simp only [ne_eq, Prod.mk.injEq] at ne
  dsimp only at e v1 v2 v3 v4
  omega
/-- before: no cell is reached -/
def wo_z (N q : Nat) (W : Nat → Int32) : Nat → Int32 := fun c => if c < q ∧ c < N then -1 else W c
theorem wo_z_up (N q : Nat) (W : Nat → Int32) (hq : q < N) : upd (wo_z N q W) q (-1) = wo_z N (q + 1) W := by
  funext c
  unfold upd wo_z
  by_cases e : c = q
  · rw [if_pos e, if_pos (by omega)]
  · rw [if_neg e]
    by_cases h : c < q ∧ c < N
    · rw [if_pos h, if_pos (by omega)]
    · rw [if_neg h, if_neg (by omega)]
theorem wo_z0 {N c : Nat} {W : Nat → Int32} (hc : c < 90) (hN : 90 ≤ N) : wo_z N N W c = -1 := by
  unfold wo_z
  rw [if_pos (by omega)]
theorem wo_XY {G : Nat → Nat → Int32} {E E' : pr_D} {rr n : Nat} (hG : pr_GI G) (hn : n ≤ 5) (hA : ∀ i j, i < j → j ≤ n → pr_Ag (i, j) E E') (W W' : Nat → Int32) : ∀ i j, i < j → j ≤ n → wo_Ag (i, j) ((pr_lX n).foldl (wo_p G E rr) (wo_z 90 90 W)) ((pr_lY n).foldl (wo_p G E' rr) (wo_z 108 108 W')) := by
  intro i j hij hj
  rw [wo_fold_E hG hA (pr_lX n) (cl_lX hn).1]
  refine cl_uniq (n := n) (wo_p G E' rr) wo_Ag (fun _ => True) (fun s a b h x hx => (h x hx).symm) (fun s a b c h h' x hx => (h x hx).trans (h' x hx)) (fun i j a b _ _ _ _ h hp => wo_p_congr hG h hp) (wo_C hG hn (cl_lX hn) _) (wo_C hG hn (cl_lY hn) _) ?_ (j - i + 1) i j hij hj (by omega)
  intro i j hij hj a ha
  have := pr_ce90 (i := i) (j := j) (by omega) (by omega) ha
  dsimp only
  rw [wo_z0 this (by omega), wo_z0 this (by omega)]
