/-! two orders of filling spans give charts that are alike -/
def cl_v (n : Nat) (s : Nat × Nat) : Prop := s.1 < s.2 ∧ s.2 ≤ n
def cl_ok (n : Nat) (L : List (Nat × Nat)) : Prop := (∀ s, s ∈ L → cl_v n s) ∧ ∀ i j, i < j → j ≤ n → ∃ p q, L = p ++ (i, j) :: q ∧ (i, j) ∉ p ∧ (i, j) ∉ q ∧ ∀ m, i < m → m < j → (i, m) ∉ q ∧ (m, j) ∉ q
def cl_okB (n : Nat) (L : List (Nat × Nat)) : Bool :=
  L.all (fun s => decide (s.1 < s.2 ∧ s.2 ≤ n)) && (List.range (n + 1)).all (fun i => (List.range (n + 1)).all (fun j =>
    decide (i < j → L = L.take (L.idxOf (i, j)) ++ (i, j) :: L.drop (L.idxOf (i, j) + 1) ∧ (i, j) ∉ L.take (L.idxOf (i, j)) ∧ (i, j) ∉ L.drop (L.idxOf (i, j) + 1)
      ∧ ∀ m, m ∈ List.range j → i < m → (i, m) ∉ L.drop (L.idxOf (i, j) + 1) ∧ (m, j) ∉ L.drop (L.idxOf (i, j) + 1))))
theorem cl_okB_ok {n : Nat} {L : List (Nat × Nat)} (h : cl_okB n L = true) : cl_ok n L := by
  unfold cl_okB at h
  rw [Bool.and_eq_true, List.all_eq_true, List.all_eq_true] at h
  obtain ⟨h1, h2⟩ := h
  refine ⟨fun s hs => by have z := h1 s hs; simp only [decide_eq_true_eq] at z; exact z, fun i j hij hj => ?_⟩
  have h3 := h2 i (List.mem_range.mpr (by omega))
  rw [List.all_eq_true] at h3
  have h4 := of_decide_eq_true (h3 j (List.mem_range.mpr (by omega))) hij
  exact ⟨_, _, h4.1, h4.2.1, h4.2.2.1, fun m h5 h6 => h4.2.2.2 m (List.mem_range.mpr h6) h5⟩
def pr_ds : Nat → List Nat
  | 0 => []
  | d + 1 => d :: pr_ds d
def pr_lX (n : Nat) : List (Nat × Nat) := (List.range' 1 n).flatMap (fun e => (pr_ds e).map (fun s => (s, e)))
def pr_lY (n : Nat) : List (Nat × Nat) := (List.range' 1 n).flatMap (fun w => (List.range' 0 (n + 1 - w)).map (fun i => (i, i + w)))
theorem cl_lX {n : Nat} (h : n ≤ 5) : cl_ok n (pr_lX n) := by
  refine cl_okB_ok ?_
  match n, h with
  | 0, _ => decide +kernel
  | 1, _ => decide +kernel
  | 2, _ => decide +kernel
  | 3, _ => decide +kernel
  | 4, _ => decide +kernel
  | 5, _ => decide +kernel
theorem cl_lY {n : Nat} (h : n ≤ 5) : cl_ok n (pr_lY n) := by
  refine cl_okB_ok ?_
  match n, h with
  | 0, _ => decide +kernel
  | 1, _ => decide +kernel
  | 2, _ => decide +kernel
  | 3, _ => decide +kernel
  | 4, _ => decide +kernel
  | 5, _ => decide +kernel
section
variable {S : Type} {n : Nat} (f : S → Nat × Nat → S) (Ag : Nat × Nat → S → S → Prop) (I : S → Prop)
theorem cl_frame (tr : ∀ s a b c, Ag s a b → Ag s b c → Ag s a c) (rf : ∀ s a, cl_v n s → I a → Ag s a a) (fI : ∀ s a, cl_v n s → I a → I (f a s)) (fr : ∀ s s' a, cl_v n s → cl_v n s' → s' ≠ s → I a → Ag s' a (f a s)) :
    ∀ (l : List (Nat × Nat)) (a : S), (∀ s, s ∈ l → cl_v n s) → I a → I (l.foldl f a) ∧ ∀ s', cl_v n s' → s' ∉ l → Ag s' a (l.foldl f a) := by
  intro l
  induction l with
  | nil => intro a _ ha; exact ⟨ha, fun s' hs _ => rf s' a hs ha⟩
  | cons s l ih =>
    intro a hv ha
    have h1 := hv s (by simp)
    have := ih (f a s) (fun s hs => hv s (by simp [hs])) (fI s a h1 ha)
    refine ⟨this.1, fun s' hs' hn => ?_⟩
    simp only [List.mem_cons, not_or] at hn
    exact tr _ _ _ _ (fr s s' a h1 hs' hn.1 ha) (this.2 s' hs' hn.2)
/-- each span of F is what filling makes of its parts in F -/
def cl_C (n : Nat) (F D0 : S) : Prop := ∀ i j, i < j → j ≤ n → ∃ D', I D' ∧ Ag (i, j) F (f D' (i, j)) ∧ Ag (i, j) D' D0 ∧ ∀ m, i < m → m < j → Ag (i, m) D' F ∧ Ag (m, j) D' F
theorem cl_fold (sy : ∀ s a b, Ag s a b → Ag s b a) (tr : ∀ s a b c, Ag s a b → Ag s b c → Ag s a c) (rf : ∀ s a, cl_v n s → I a → Ag s a a) (fI : ∀ s a, cl_v n s → I a → I (f a s)) (fr : ∀ s s' a, cl_v n s → cl_v n s' → s' ≠ s → I a → Ag s' a (f a s))
    {L : List (Nat × Nat)} (hL : cl_ok n L) (D0 : S) (h0 : I D0) : cl_C f Ag I n (L.foldl f D0) D0 := by
  intro i j hij hj
  obtain ⟨p, q, e, np, nq, hm⟩ := hL.2 i j hij hj
  have hvp : ∀ s, s ∈ p → cl_v n s := fun s hs => hL.1 s (by rw [e]; simp [hs])
  have hvq : ∀ s, s ∈ q → cl_v n s := fun s hs => hL.1 s (by rw [e]; simp [hs])
  have hv : cl_v n (i, j) := ⟨hij, hj⟩
  have A := cl_frame f Ag I tr rf fI fr p D0 hvp h0
  have B := cl_frame f Ag I tr rf fI fr q (f (p.foldl f D0) (i, j)) hvq (fI _ _ hv A.1)
  have eF : L.foldl f D0 = q.foldl f (f (p.foldl f D0) (i, j)) := by rw [e, List.foldl_append]; rfl
  rw [eF]
  refine ⟨p.foldl f D0, A.1, sy _ _ _ (B.2 _ hv nq), sy _ _ _ (A.2 _ hv np), fun m h1 h2 => ⟨?_, ?_⟩⟩
  · have v : cl_v n (i, m) := ⟨h1, by omega⟩
    exact tr _ _ _ _ (fr (i, j) (i, m) _ hv v (by simp only [ne_eq, Prod.mk.injEq]; omega) A.1) (B.2 _ v (hm m h1 h2).1)
  · have v : cl_v n (m, j) := ⟨h2, by omega⟩
    exact tr _ _ _ _ (fr (i, j) (m, j) _ hv v (by simp only [ne_eq, Prod.mk.injEq]; omega) A.1) (B.2 _ v (hm m h1 h2).2)
theorem cl_uniq (sy : ∀ s a b, Ag s a b → Ag s b a) (tr : ∀ s a b c, Ag s a b → Ag s b c → Ag s a c) (cg : ∀ i j a b, i < j → j ≤ n → I a → I b → Ag (i, j) a b → (∀ m, i < m → m < j → Ag (i, m) a b ∧ Ag (m, j) a b) → Ag (i, j) (f a (i, j)) (f b (i, j)))
    {F D0 F' D0' : S} (h : cl_C f Ag I n F D0) (h' : cl_C f Ag I n F' D0') (h0 : ∀ i j, i < j → j ≤ n → Ag (i, j) D0 D0') : ∀ w i j, i < j → j ≤ n → j - i < w → Ag (i, j) F F' := by
  intro w
  induction w with
  | zero => intro i j _ _ hw; omega
  | succ w ih =>
    intro i j hij hj hw
    obtain ⟨E, e1, e2, e3, e4⟩ := h i j hij hj
    obtain ⟨E', f1, f2, f3, f4⟩ := h' i j hij hj
    refine tr _ _ _ _ e2 (tr _ _ _ _ (cg i j E E' hij hj e1 f1 ?_ ?_) (sy _ _ _ f2))
    · exact tr _ _ _ _ e3 (tr _ _ _ _ (h0 i j hij hj) (sy _ _ _ f3))
    · intro m h1 h2
      exact ⟨tr _ _ _ _ (e4 m h1 h2).1 (tr _ _ _ _ (ih i m h1 (by omega) (by omega)) (sy _ _ _ (f4 m h1 h2).1)),
        tr _ _ _ _ (e4 m h1 h2).2 (tr _ _ _ _ (ih m j h2 (by omega) (by omega)) (sy _ _ _ (f4 m h1 h2).2))⟩
end
/-! the chart's own -/
theorem pr_Ag_sy (s : Nat × Nat) (a b : pr_D) (h : pr_Ag s a b) : pr_Ag s b a := fun x hx => pr_ag_sy (h x hx)
theorem pr_Ag_tr (s : Nat × Nat) (a b c : pr_D) (h : pr_Ag s a b) (h' : pr_Ag s b c) : pr_Ag s a c := fun x hx => pr_ag_tr (h x hx) (h' x hx)
theorem pr_Ag_rf {n : Nat} (hn : n ≤ 5) (s : Nat × Nat) (a : pr_D) (v : cl_v n s) (h : pr_TI a) : pr_Ag s a a := by
  intro x hx
  have v1 := v.1
  have v2 := v.2
  exact pr_ag_same (h _ (pr_ce90 (by omega) (by omega) hx)) pr_same_rf
/-- the chart closed under filling -/
def pr_C (G : Nat → Nat → Int32) (n : Nat) (F D0 : pr_D) : Prop := cl_C (pr_sp G) pr_Ag pr_TI n F D0
theorem pr_C_fold {G : Nat → Nat → Int32} {n : Nat} (hG : pr_GI G) (hn : n ≤ 5) {L : List (Nat × Nat)} (hL : cl_ok n L) (D0 : pr_D) (h0 : pr_TI D0) : pr_C G n (L.foldl (pr_sp G) D0) D0 := by
  refine cl_fold (n := n) (pr_sp G) pr_Ag pr_TI pr_Ag_sy pr_Ag_tr (pr_Ag_rf hn) ?_ ?_ hL D0 h0
  · intro s a v h
    have v1 := v.1
    have v2 := v.2
    exact (pr_sp_inv hG (by omega) (by omega) h).1
  · intro s s' a v v' ne h
    have v1 := v.1
    have v2 := v.2
    have v3 := v'.1
    have v4 := v'.2
    exact pr_sp_frame hG v1 (by omega) (by omega) v3 ne h
theorem pr_C_uniq {G : Nat → Nat → Int32} {n : Nat} (hG : pr_GI G) (hn : n ≤ 5) {F D0 F' D0' : pr_D} (h : pr_C G n F D0) (h' : pr_C G n F' D0') (h0 : ∀ i j, i < j → j ≤ n → pr_Ag (i, j) D0 D0') : ∀ i j, i < j → j ≤ n → pr_Ag (i, j) F F' := by
  intro i j hij hj
  exact cl_uniq (n := n) (pr_sp G) pr_Ag pr_TI pr_Ag_sy pr_Ag_tr (fun i j a b hij hj _ _ h hp => pr_sp_congr hG hij (by omega) h hp) h h' h0 (j - i + 1) i j hij hj (by omega)
