/-! costWith: ranges, and that Y's three offers are X's -/
def wo_bt (y x : Int32) : Int32 := if 50000 ≤ x then y else wo_mn y x
def wo_wi (W : Nat → Int32) (c : Nat) : Int32 := if W c = -1 then 100000 else W c
/-- not reached, or in its bounds and with a tree -/
def wo_V (w c : Nat) (E : pr_D) (y : Int32) : Prop := y = -1 ∨ (pr_Q w y ∧ ¬ E.1 c = 0)
def wo_I (n : Nat) (E : pr_D) (W : Nat → Int32) : Prop := ∀ i j a, i < j → j ≤ n → a < 3 → wo_V (j - i) (pr_ce i j a) E (W (pr_ce i j a))
theorem wo_mn_V {w c : Nat} {E : pr_D} {y x : Int32} (hy : wo_V w c E y) (hx : wo_V w c E x) : wo_V w c E (wo_mn y x) := by
  unfold wo_mn
  split
  · exact hx
  · exact hy
theorem wo_I_up {n : Nat} {E : pr_D} {W : Nat → Int32} {i j a : Nat} {y : Int32} (hn : n ≤ 5) (h : wo_I n E W) (hij : i < j) (hj : j ≤ n) (ha : a < 3) (hy : wo_V (j - i) (pr_ce i j a) E y) : wo_I n E (upd W (pr_ce i j a) y) := by
  intro i' j' a' h1 h2 h3
  by_cases e : pr_ce i' j' a' = pr_ce i j a
  · obtain ⟨rfl, rfl, rfl⟩ : i' = i ∧ j' = j ∧ a' = a := by unfold pr_ce at e; omega
    rw [pk_us]
    exact hy
  · rw [pk_un e]
    exact h i' j' a' h1 h2 h3
theorem wo_w_I {n : Nat} {G : Nat → Nat → Int32} {E : pr_D} {W : Nat → Int32} {rr i j k : Nat} (hG : pr_GI G) (hn : n ≤ 5) (hB : ∀ i j a, i < j → j ≤ n → a < 3 → pr_Bst G E i j a) (hij : i < j) (hj : j ≤ n) (hk : k < 8) (h : wo_I n E W) : wo_I n E (wo_w G rr i j k W) := by
  obtain ⟨⟨_, h1⟩, _⟩ := pr_GIs hG hk
  unfold wo_w
  split
  · rename_i c
    refine wo_I_up hn h hij hj h1 (wo_mn_V (h i j _ hij hj h1) (Or.inr ⟨?_, fun z => ?_⟩))
    · have := pr_G4 hG hk
      unfold pr_Q
      omega
    · exact (hB i j _ hij hj h1).2.1 z k i (G 4 k) ⟨hk, rfl, Or.inl ⟨c.2.1, c.2.2.1, c.2.2.2, rfl, rfl⟩⟩
  · exact h
theorem wo_m_I {n : Nat} {G : Nat → Nat → Int32} {E : pr_D} {W : Nat → Int32} {rr i j k m : Nat} (hG : pr_GI G) (hn : n ≤ 5) (hB : ∀ i j a, i < j → j ≤ n → a < 3 → pr_Bst G E i j a) (him : i < m) (hmj : m < j) (hj : j ≤ n) (hk : k < 8) (h1k : G 0 k = 1) (h : wo_I n E W) : wo_I n E (wo_m G E rr i j k W m) := by
  obtain ⟨⟨_, h1⟩, ⟨_, h2⟩, ⟨_, h3⟩, _⟩ := pr_GIs hG hk
  have g4 := pr_G4 hG hk
  unfold wo_m wo_s
  split
  · exact h
  · rename_i z
    have zl : ¬ E.1 (pr_ce i m (pr_cN G 2 k)) = 0 := fun y => z (Or.inl y)
    have zr : ¬ E.1 (pr_ce m j (pr_cN G 3 k)) = 0 := fun y => z (Or.inr y)
    have ql := pr_Gd_0 (hB i m _ him (by omega) h2).1 zl
    have qr := pr_Gd_0 (hB m j _ hmj hj h3).1 zr
    have nc : ¬ E.1 (pr_ce i j (pr_cN G 1 k)) = 0 := fun y => (hB i j _ (by omega) hj h1).2.1 y k m _ ⟨hk, rfl, Or.inr ⟨h1k, him, hmj, zl, zr, rfl⟩⟩
    have hc := h i j _ (by omega) hj h1
    have v1 : wo_V (j - i) (pr_ce i j (pr_cN G 1 k)) E (wo_1 G E rr (pr_ce i j (pr_cN G 1 k)) k (pr_ce i m (pr_cN G 2 k)) (pr_ce m j (pr_cN G 3 k)) W) := by
      unfold wo_1
      split
      · exact wo_mn_V hc (Or.inr ⟨(io_Q3 g4 ql qr (by omega) (by omega)).2, nc⟩)
      · exact hc
    have v2 : wo_V (j - i) (pr_ce i j (pr_cN G 1 k)) E (wo_2 G E rr (pr_ce i j (pr_cN G 1 k)) k (pr_ce i m (pr_cN G 2 k)) (pr_ce m j (pr_cN G 3 k)) W) := by
      unfold wo_2
      split
      · exact v1
      · rename_i y
        have q := ((h i m _ him (by omega) h2).resolve_left y).1
        exact wo_mn_V v1 (Or.inr ⟨(io_Q3 g4 q qr (by omega) (by omega)).2, nc⟩)
    refine wo_I_up hn h (by omega) hj h1 ?_
    unfold wo_3
    split
    · exact v2
    · rename_i y
      have q := ((h m j _ hmj hj h3).resolve_left y).1
      exact wo_mn_V v2 (Or.inr ⟨(io_Q3 g4 ql q (by omega) (by omega)).2, nc⟩)
theorem wo_mnx {y a : Int32} (h : y = -1) : wo_mn y a = a := if_pos (Or.inl h)
theorem wo_mnl {y a : Int32} (h : a < y) : wo_mn y a = a := if_pos (Or.inr h)
theorem wo_mng {y a : Int32} (h : ¬ y = -1) (h' : ¬ a < y) : wo_mn y a = y := if_neg (fun o => o.elim h h')
theorem wo_comm {y a b : Int32} (ha : ¬ a = -1) (hb : ¬ b = -1) : wo_mn (wo_mn y a) b = wo_mn (wo_mn y b) a := by
  have tot : ∀ p q : Int32, ¬ p < q → ¬ q < p → p = q := fun p q h1 h2 => Int32.le_antisymm (Int32.not_lt.mp h2) (Int32.not_lt.mp h1)
  by_cases y1 : y = -1
  · rw [wo_mnx y1, wo_mnx y1]
    by_cases c : b < a
    · rw [wo_mnl c, wo_mng hb (fun z => Int32.lt_irrefl (Int32.lt_trans c z))]
    · rw [wo_mng ha c]
      by_cases d : a < b
      · rw [wo_mnl d]
      · rw [wo_mng hb d, tot a b d c]
  · by_cases ay : a < y
    · rw [wo_mnl ay]
      by_cases c : b < y
      · rw [wo_mnl c]
        by_cases e : b < a
        · rw [wo_mnl e, wo_mng hb (fun z => Int32.lt_irrefl (Int32.lt_trans e z))]
        · rw [wo_mng ha e]
          by_cases d : a < b
          · rw [wo_mnl d]
          · rw [wo_mng hb d, tot a b d e]
      · rw [wo_mng y1 c, wo_mnl ay, wo_mng ha (fun z => c (Int32.lt_trans z ay))]
    · rw [wo_mng y1 ay]
      by_cases c : b < y
      · rw [wo_mnl c, wo_mng hb (fun z => ay (Int32.lt_trans z c))]
      · rw [wo_mng y1 c, wo_mng y1 ay]
theorem wo_bt_g {y x : Int32} (h : 50000 ≤ x.toInt) : wo_bt y x = y := by
  refine if_pos ?_
  rw [Int32.le_iff_toInt_le]
  exact h
theorem wo_bt_l {y x : Int32} (h : x.toInt < 50000) : wo_bt y x = wo_mn y x := by
  refine if_neg ?_
  rw [Int32.le_iff_toInt_le]
  have : (50000 : Int32).toInt = 50000 := by decide +kernel
  omega
theorem wo_n1 {x : Int32} (h : 0 ≤ x.toInt) : ¬ x = -1 := by
  rintro rfl
  exact absurd h (by decide)
/-- the three offers of the reference at one split -/
theorem wo_eq {G : Nat → Nat → Int32} {E : pr_D} {W : Nat → Int32} {rr c k l r wl wr : Nat} (hG : pr_GI G) (hk : k < 8) (hw : wl + wr ≤ 5) (gl : pr_Gd wl l E) (gr : pr_Gd wr r E) (vl : wo_V wl l E (W l)) (vr : wo_V wr r E (W r)) :
    upd W c (wo_bt (wo_bt (wo_bt (W c) (G 4 k + wo_wi W l + pr_ls E r)) (G 4 k + pr_ls E l + wo_wi W r)) (G 4 k + pr_ls E l + pr_ls E r + (if k = rr then 0 else 100000))) = wo_s G E rr c k l r W := by
  have g4 := pr_G4 hG hk
  obtain ⟨l1, l2, l3, l4⟩ := pr_ls_b gl (by omega)
  obtain ⟨r1, r2, r3, r4⟩ := pr_ls_b gr (by omega)
  have wiB : ∀ (w q : Nat), w ≤ 5 → wo_V w q E (W q) → 0 ≤ (wo_wi W q).toInt ∧ (wo_wi W q).toInt ≤ 100000 ∧ (W q = -1 → (wo_wi W q).toInt = 100000) ∧ (¬ W q = -1 → wo_wi W q = W q ∧ (wo_wi W q).toInt ≤ 450) := by
    intro w q hw5 hv
    unfold wo_wi
    by_cases z : W q = -1
    · rw [if_pos z, io_100]
      exact ⟨by omega, by omega, fun _ => rfl, fun y => absurd z y⟩
    · rw [if_neg z]
      have := (hv.resolve_left z).1
      unfold pr_Q at this
      exact ⟨by omega, by omega, fun y => absurd y z, fun _ => ⟨rfl, by omega⟩⟩
  obtain ⟨a1, a2, a3, a4⟩ := wiB wl l (by omega) vl
  obtain ⟨b1, b2, b3, b4⟩ := wiB wr r (by omega) vr
  have s1 : (G 4 k + wo_wi W l + pr_ls E r).toInt = (G 4 k).toInt + (wo_wi W l).toInt + (pr_ls E r).toInt := by
    have e := io_add (a := G 4 k) (b := wo_wi W l) g4.1 (by omega) a1 (by omega)
    rw [io_add (by omega) (by omega) r1 (by omega), e]
  have s2 : (G 4 k + pr_ls E l + wo_wi W r).toInt = (G 4 k).toInt + (pr_ls E l).toInt + (wo_wi W r).toInt := by
    have e := io_add (a := G 4 k) (b := pr_ls E l) g4.1 (by omega) l1 (by omega)
    rw [io_add (by omega) (by omega) b1 (by omega), e]
  have s3 : (G 4 k + pr_ls E l + pr_ls E r).toInt = (G 4 k).toInt + (pr_ls E l).toInt + (pr_ls E r).toInt := by
    have e := io_add (a := G 4 k) (b := pr_ls E l) g4.1 (by omega) l1 (by omega)
    rw [io_add (by omega) (by omega) r1 (by omega), e]
  have s4 : (G 4 k + pr_ls E l + pr_ls E r + (if k = rr then 0 else 100000)).toInt = (G 4 k).toInt + (pr_ls E l).toInt + (pr_ls E r).toInt + (if k = rr then 0 else 100000) := by
    by_cases e : k = rr
    · rw [if_pos e, if_pos e, Int32.add_zero, s3]
      omega
    · rw [if_neg e, if_neg e, io_add (by omega) (by omega) (by rw [io_100]; omega) (by rw [io_100]; omega), s3, io_100]
  have p0 : (0 : Int) ≤ (if k = rr then 0 else 100000) := by split <;> omega
  unfold wo_s
  by_cases zl : E.1 l = 0
  · rw [if_pos (Or.inl zl)]
    have wl1 : W l = -1 := vl.elim id (fun q => absurd zl q.2)
    have := l3 zl
    have := a3 wl1
    rw [wo_bt_g (by omega), wo_bt_g (by omega), wo_bt_g (by omega)]
    exact wo_id rfl
  · by_cases zr : E.1 r = 0
    · rw [if_pos (Or.inr zr)]
      have wr1 : W r = -1 := vr.elim id (fun q => absurd zr q.2)
      have := r3 zr
      have := b3 wr1
      rw [wo_bt_g (by omega), wo_bt_g (by omega), wo_bt_g (by omega)]
      exact wo_id rfl
    · have nn : ¬ (E.1 l = 0 ∨ E.1 r = 0) := fun o => o.elim zl zr
      rw [if_neg nn]
      obtain ⟨el, lb⟩ := l4 zl
      obtain ⟨er, rb⟩ := r4 zr
      have f1 : ∀ y, wo_bt y (G 4 k + wo_wi W l + pr_ls E r) = if W l = -1 then y else wo_mn y (G 4 k + W l + E.2.1 (8 * r)) := by
        intro y
        by_cases z : W l = -1
        · have := a3 z
          rw [if_pos z, wo_bt_g (by omega)]
        · obtain ⟨q1, q2⟩ := a4 z
          rw [if_neg z, wo_bt_l (by omega), q1, er]
      have f2 : ∀ y, wo_bt y (G 4 k + pr_ls E l + wo_wi W r) = if W r = -1 then y else wo_mn y (G 4 k + E.2.1 (8 * l) + W r) := by
        intro y
        by_cases z : W r = -1
        · have := b3 z
          rw [if_pos z, wo_bt_g (by omega)]
        · obtain ⟨q1, q2⟩ := b4 z
          rw [if_neg z, wo_bt_l (by omega), q1, el]
      have f3 : ∀ y, wo_bt y (G 4 k + pr_ls E l + pr_ls E r + (if k = rr then 0 else 100000)) = if k = rr then wo_mn y (G 4 k + E.2.1 (8 * l) + E.2.1 (8 * r)) else y := by
        intro y
        by_cases z : k = rr
        · rw [if_pos z] at s4
          rw [if_pos z, if_pos z]
          rw [if_pos z] at s4
          rw [wo_bt_l (by omega), Int32.add_zero, el, er]
        · rw [if_neg z] at s4
          rw [if_neg z, if_neg z]
          rw [if_neg z] at s4
          rw [wo_bt_g (by omega)]
      rw [f1, f2, f3]
      rw [el, er] at s3
      refine congrArg (upd W c) ?_
      unfold wo_3 wo_2 wo_1
      have n0 : ¬ G 4 k + E.2.1 (8 * l) + E.2.1 (8 * r) = -1 := wo_n1 (by rw [s3]; rw [← el, ← er]; omega)
      by_cases zk : k = rr
      · rw [if_pos zk, if_pos zk]
        by_cases wl1 : W l = -1
        · rw [if_pos wl1, if_pos wl1]
          by_cases wr1 : W r = -1
          · rw [if_pos wr1, if_pos wr1]
          · obtain ⟨q1, q2⟩ := b4 wr1
            rw [if_neg wr1, if_neg wr1]
            exact wo_comm (wo_n1 (by rw [← el, ← q1, s2]; omega)) n0
        · obtain ⟨q1, q2⟩ := a4 wl1
          have n1 : ¬ G 4 k + W l + E.2.1 (8 * r) = -1 := wo_n1 (by rw [← er, ← q1, s1]; omega)
          rw [if_neg wl1, if_neg wl1]
          by_cases wr1 : W r = -1
          · rw [if_pos wr1, if_pos wr1]
            exact wo_comm n1 n0
          · obtain ⟨q3, q4⟩ := b4 wr1
            rw [if_neg wr1, if_neg wr1]
            rw [wo_comm (wo_n1 (by rw [← el, ← q3, s2]; omega)) n0, wo_comm n1 n0]
      · rw [if_neg zk, if_neg zk]
