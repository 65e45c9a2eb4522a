section
/-! rows pasted from kit/rows: stores, arithmetic of nI, branches by naturals, loops -/
theorem pk_us {f : Nat → Int32} {k : Nat} {x : Int32} : upd f k x k = x := if_pos rfl
theorem pk_un {f : Nat → Int32} {k j : Nat} {x : Int32} (h : j ≠ k) : upd f k x j = f j := if_neg h
theorem pk_sub {a b : Nat} (h : b ≤ a) : nI a - nI b = nI (a - b) := by
  obtain ⟨c, rfl⟩ : ∃ c, a = c + b := ⟨a - b, by omega⟩
  rw [← nI_add, Int32.add_sub_cancel, Nat.add_sub_cancel]
theorem pk_m1 (n : Nat) : nI (n + 1) + (-1) = nI n := by
  rw [← nI_1, Int32.add_assoc, show (1 : Int32) + (-1) = 0 from rfl, Int32.add_zero]
theorem pk_mul (a b : Nat) : nI a * nI b = nI (a * b) := (Int32.ofNat_mul a b).symm
theorem pk_div {a d : Nat} (ha : a < 2 ^ 31) (h0 : 0 < d) (hd : d < 2 ^ 31) : nI a / nI d = nI (a / d) := by
  apply Int32.toInt_inj.mp
  rw [lg_idiv_nonneg (by rw [nI_toInt ha]; omega) (by rw [nI_toInt hd]; omega), nI_toInt ha, nI_toInt hd, nI_toInt (Nat.lt_of_le_of_lt (Nat.div_le_self a d) ha)]
  first | rfl | exact (Int.natCast_ediv _ _).symm
theorem pk_rem {a d : Nat} (ha : a < 2 ^ 31) (h0 : 0 < d) (hd : d < 2 ^ 31) : nI a - nI a / nI d * nI d = nI (a % d) := by
  rw [pk_div ha h0 hd, pk_mul, pk_sub (Nat.div_mul_le_self a d)]
  exact congrArg nI (by have := Nat.div_add_mod' a d; omega)
theorem pk_ix (x : Int32) {n : Nat} (hn : n < 2 ^ 31) : x < 0 ∨ nI n ≤ x ∨ ∃ j : Nat, j < n ∧ x = nI j := by
  by_cases h : x < 0
  · exact Or.inl h
  · obtain ⟨j, hj, rfl⟩ := nI_of h
    by_cases h2 : j < n
    · exact Or.inr (Or.inr ⟨j, h2, rfl⟩)
    · exact Or.inr (Or.inl (nI_le (by omega) hj))
theorem pk_le {x y : Int32} {A B : Prop} (a b : Nat) (f : a ≤ b → A) (g : b < a → B) (hx : x = nI a := by rfl) (hy : y = nI b := by rfl) (ha : a < 2 ^ 31 := by omega) (hb : b < 2 ^ 31 := by omega) : (x ≤ y → A) ∧ (¬ x ≤ y → B) := by
  subst hx hy
  rw [nI_leI ha hb]
  exact ⟨f, fun z => g (by omega)⟩
theorem pk_lt {x y : Int32} {A B : Prop} (a b : Nat) (f : a < b → A) (g : b ≤ a → B) (hx : x = nI a := by rfl) (hy : y = nI b := by rfl) (ha : a < 2 ^ 31 := by omega) (hb : b < 2 ^ 31 := by omega) : (x < y → A) ∧ (¬ x < y → B) := by
  subst hx hy
  rw [nI_ltI ha hb]
  exact ⟨f, fun z => g (by omega)⟩
theorem pk_eq {x y : Int32} {A B : Prop} (a b : Nat) (f : a = b → A) (g : a ≠ b → B) (hx : x = nI a := by rfl) (hy : y = nI b := by rfl) (ha : a < 2 ^ 31 := by omega) (hb : b < 2 ^ 31 := by omega) : (x = y → A) ∧ (¬ x = y → B) := by
  subst hx hy
  rw [nI_eq ha hb]
  exact ⟨f, g⟩
theorem pk_in {x : Int32} (n N : Nat) (h : n < N) (hx : x = nI n := by rfl) (hN : N < 2 ^ 31 := by omega) : vp_in x N := by
  subst hx
  exact vp_in_nI h hN
theorem pk_cl {x : Int32} (n : Nat) (hx : x = nI n := by rfl) (h : n < 2 ^ 31 := by omega) : x.toNatClampNeg = n := by
  subst hx
  exact nI_clamp h
theorem pk_tn {n : Nat} (h : n < 2 ^ 32) : (nI n).toBitVec.toNat = n := Nat.mod_eq_of_lt h
theorem pk_and (x : Int32) {m : Int32} (k : Nat) (hm : m.toBitVec.toNat = 2 ^ k - 1) : x &&& m = nI (x.toBitVec.toNat % 2 ^ k) := by
  apply Int32.toBitVec_inj.mp
  apply BitVec.eq_of_toNat_eq
  rw [Int32.toBitVec_and, BitVec.toNat_and, hm, Nat.and_two_pow_sub_one_eq_mod]
  show _ = (BitVec.ofNat 32 _).toNat
  rw [BitVec.toNat_ofNat]
  exact (Nat.mod_eq_of_lt (Nat.lt_of_le_of_lt (Nat.mod_le _ _) x.toBitVec.isLt)).symm
theorem pk_andN {n : Nat} (h : n < 2 ^ 32) {m : Int32} (k : Nat) (hm : m.toBitVec.toNat = 2 ^ k - 1) : nI n &&& m = nI (n % 2 ^ k) := by
  rw [pk_and _ k hm, pk_tn h]
theorem pk_andE (x : Int32) {m : Int32} (k : Nat) (hm : m.toBitVec.toNat = 2 ^ k - 1) : ∃ j : Nat, j < 2 ^ k ∧ x &&& m = nI j := ⟨_, Nat.mod_lt _ (Nat.two_pow_pos k), pk_and x k hm⟩
theorem pk_andIn (x : Int32) {m : Int32} (k : Nat) (hm : m.toBitVec.toNat = 2 ^ k - 1) (hk : k ≤ 30) : vp_in (x &&& m) (2 ^ k) := by
  obtain ⟨j, hj, e⟩ := pk_andE x k hm
  rw [e]
  exact vp_in_nI hj (Nat.lt_of_le_of_lt (Nat.pow_le_pow_right (by decide) hk) (by decide))
theorem pk_shl (a s : Int32) (k : Nat) (hs : (s.toBitVec.smod 32).toNat = k) : (a <<< s).toBitVec.toNat = a.toBitVec.toNat * 2 ^ k % 2 ^ 32 := by
  show (a.toBitVec <<< (s.toBitVec.smod 32).toNat).toNat = _
  rw [hs, BitVec.toNat_shiftLeft, Nat.shiftLeft_eq]
theorem pk_shlN {n : Nat} (s : Int32) (k : Nat) (hs : (s.toBitVec.smod 32).toNat = k) (h : n * 2 ^ k < 2 ^ 32) : nI n <<< s = nI (n * 2 ^ k) := by
  apply Int32.toBitVec_inj.mp
  apply BitVec.eq_of_toNat_eq
  have hn : n < 2 ^ 32 := Nat.lt_of_le_of_lt (Nat.le_mul_of_pos_right n (Nat.two_pow_pos k)) h
  rw [pk_shl _ _ k hs, pk_tn hn, pk_tn h, Nat.mod_eq_of_lt h]
theorem pk_shr (a s : Int32) (k : Nat) (hs : (s.toBitVec.smod 32).toNat = k) : (a >>> s).toInt = a.toInt >>> k := by
  show (a.toBitVec.sshiftRight (s.toBitVec.smod 32).toNat).toInt = _
  rw [hs, BitVec.toInt_sshiftRight]
  rfl
theorem pk_shrN {n : Nat} (h : n < 2 ^ 31) (s : Int32) (k : Nat) (hs : (s.toBitVec.smod 32).toNat = k) : nI n >>> s = nI (n / 2 ^ k) := by
  apply Int32.toInt_inj.mp
  have h2 : n / 2 ^ k ≤ n := Nat.div_le_self _ _
  rw [pk_shr _ _ k hs, nI_toInt h, nI_toInt (by omega), Int.shiftRight_eq_div_pow]
  rfl
theorem pk_ushr (x s : Int32) (k : Nat) (hs : ((s.toUInt32 &&& Int32.toUInt32 31).toBitVec % 32).toNat = k) : (x.toUInt32 >>> (s.toUInt32 &&& Int32.toUInt32 31)).toInt32.toBitVec.toNat = x.toBitVec.toNat / 2 ^ k := by
  have e : (x.toUInt32 >>> (s.toUInt32 &&& Int32.toUInt32 31)).toInt32.toBitVec = x.toBitVec >>> k := by
    rw [← hs]
    exact UInt32.toBitVec_shiftRight _ _
  rw [e, BitVec.toNat_ushiftRight, Nat.shiftRight_eq_div_pow]
theorem pk_ushrN {n : Nat} (hn : n < 2 ^ 32) (s : Int32) (k : Nat) (hs : ((s.toUInt32 &&& Int32.toUInt32 31).toBitVec % 32).toNat = k) : ((nI n).toUInt32 >>> (s.toUInt32 &&& Int32.toUInt32 31)).toInt32 = nI (n / 2 ^ k) := by
  apply Int32.toBitVec_inj.mp
  apply BitVec.eq_of_toNat_eq
  rw [pk_ushr _ s k hs, pk_tn hn, pk_tn (Nat.lt_of_le_of_lt (Nat.div_le_self _ _) hn)]
theorem pk_loop {σ : Type} (W : Nat → Nat → σ → Prop) (I : Nat → σ → Prop) (e i0 : Nat) (s : σ) (hi : i0 ≤ e) (h0 : I i0 s) (hx : ∀ n s, I e s → W (n + 1) e s)
    (hs : ∀ n i s, i < e → I i s → (∀ s', I (i + 1) s' → W n (i + 1) s') → W (n + 1) i s) : ∃ n, W n i0 s :=
  ⟨e + 1, loop_i W I e hx hs (e + 1) i0 s hi (by omega) h0⟩
theorem pk_loopD {σ : Type} (W : Nat → Nat → σ → Prop) (I : Nat → σ → Prop) (hx : ∀ n s, I 0 s → W (n + 1) 0 s)
    (hs : ∀ n i s, I (i + 1) s → (∀ s', I i s' → W n i s') → W (n + 1) (i + 1) s) : ∀ (e : Nat) (s : σ), I e s → W (e + 1) e s := by
  intro e
  induction e with
  | zero => exact fun s h => hx 0 s h
  | succ e ih => exact fun s h => hs (e + 1) e s h (fun s' h' => ih s' h')
theorem lp1 {A1 : Type} (W : Nat → A1 → Prop) (I : A1 → Prop) (μ : A1 → Nat) (hs : ∀ (n : Nat) (a1 : A1), I a1 → (∀ (b1 : A1), I b1 → μ b1 < μ a1 → W n b1) → W (n + 1) a1) (a1 : A1) (h : I a1) : ∃ n, W n a1 :=
  loop_m (σ := A1) (fun n s => W n s) (fun s => I s) (fun s => μ s) (fun n s hI hk => hs n s hI (fun b1 h9 hm => hk b1 h9 hm)) a1 h
theorem lp2 {A1 A2 : Type} (W : Nat → A1 → A2 → Prop) (I : A1 → A2 → Prop) (μ : A1 → A2 → Nat) (hs : ∀ (n : Nat) (a1 : A1) (a2 : A2), I a1 a2 → (∀ (b1 : A1) (b2 : A2), I b1 b2 → μ b1 b2 < μ a1 a2 → W n b1 b2) → W (n + 1) a1 a2) (a1 : A1) (a2 : A2) (h : I a1 a2) : ∃ n, W n a1 a2 :=
  loop_m (σ := A1 × A2) (fun n s => W n s.1 s.2) (fun s => I s.1 s.2) (fun s => μ s.1 s.2) (fun n s hI hk => hs n s.1 s.2 hI (fun b1 b2 h9 hm => hk (b1, b2) h9 hm)) (a1, a2) h
theorem lp3 {A1 A2 A3 : Type} (W : Nat → A1 → A2 → A3 → Prop) (I : A1 → A2 → A3 → Prop) (μ : A1 → A2 → A3 → Nat) (hs : ∀ (n : Nat) (a1 : A1) (a2 : A2) (a3 : A3), I a1 a2 a3 → (∀ (b1 : A1) (b2 : A2) (b3 : A3), I b1 b2 b3 → μ b1 b2 b3 < μ a1 a2 a3 → W n b1 b2 b3) → W (n + 1) a1 a2 a3) (a1 : A1) (a2 : A2) (a3 : A3) (h : I a1 a2 a3) : ∃ n, W n a1 a2 a3 :=
  loop_m (σ := A1 × A2 × A3) (fun n s => W n s.1 s.2.1 s.2.2) (fun s => I s.1 s.2.1 s.2.2) (fun s => μ s.1 s.2.1 s.2.2) (fun n s hI hk => hs n s.1 s.2.1 s.2.2 hI (fun b1 b2 b3 h9 hm => hk (b1, b2, b3) h9 hm)) (a1, a2, a3) h
end
section
/-! the pure picture: a chart D = (counts, ranked costs, best rule, best split) and what filling it does -/
abbrev pr_D : Type := (Nat → Int32) × (Nat → Int32) × (Nat → Int32) × (Nat → Int32)
def pr_ce (i j a : Nat) : Nat := 18 * i + 3 * j + a
def pr_cN (G : Nat → Nat → Int32) (f k : Nat) : Nat := (G f k).toNatClampNeg
/-- x goes into the k sorted cells behind b, from the end -/
def pr_sh : Nat → (Nat → Int32) → Nat → Int32 → (Nat → Int32)
  | 0, R, b, x => upd R b x
  | k + 1, R, b, x => if R (b + k) ≤ x then upd R (b + k + 1) x else pr_sh k (upd R (b + k + 1) (R (b + k))) b x
def pr_ins (c : Nat) (k m : Int32) (D : pr_D) (x : Int32) : pr_D :=
  (if 8 ≤ D.1 c then D.1 else upd D.1 c (D.1 c + 1),
   if 8 ≤ D.1 c then (if x < D.2.1 (8 * c + 7) then pr_sh 7 D.2.1 (8 * c) x else D.2.1) else pr_sh (D.1 c).toNatClampNeg D.2.1 (8 * c) x,
   if D.1 c = 0 ∨ x < D.2.1 (8 * c) then upd D.2.2.1 c k else D.2.2.1,
   if D.1 c = 0 ∨ x < D.2.1 (8 * c) then upd D.2.2.2 c m else D.2.2.2)
def pr_j2 (c r : Nat) (k m s : Int32) (D : pr_D) (y : Nat) : pr_D := pr_ins c k m D (s + D.2.1 (8 * r + y))
def pr_j1 (c l r : Nat) (p k m : Int32) (D : pr_D) (x : Nat) : pr_D :=
  (List.range' 0 (D.1 r).toNatClampNeg).foldl (pr_j2 c r k m (p + D.2.1 (8 * l + x))) D
def pr_jn (c l r : Nat) (p k m : Int32) (D : pr_D) : pr_D := (List.range' 0 (D.1 l).toNatClampNeg).foldl (pr_j1 c l r p k m) D
def pr_w (G : Nat → Nat → Int32) (i j k : Nat) (D : pr_D) : pr_D :=
  if G 0 k = 2 ∧ j = i + 1 ∧ G 2 k = G 5 i then pr_ins (pr_ce i j (pr_cN G 1 k)) (nI k) (nI i) D (G 4 k) else D
def pr_sm (G : Nat → Nat → Int32) (i j k : Nat) (D : pr_D) (m : Nat) : pr_D :=
  pr_jn (pr_ce i j (pr_cN G 1 k)) (pr_ce i m (pr_cN G 2 k)) (pr_ce m j (pr_cN G 3 k)) (G 4 k) (nI k) (nI m) D
def pr_rl (G : Nat → Nat → Int32) (i j : Nat) (D : pr_D) (k : Nat) : pr_D :=
  if G 0 k = 1 then (List.range' (i + 1) (j - 1 - i)).foldl (pr_sm G i j k) (pr_w G i j k D) else pr_w G i j k D
def pr_sp (G : Nat → Nat → Int32) (D : pr_D) (s : Nat × Nat) : pr_D := (List.range' 0 8).foldl (pr_rl G s.1 s.2) D
/-- the rules are in their ranges -/
def pr_GI (G : Nat → Nat → Int32) : Prop := ∀ k, k < 8 →
  (G 0 k = 0 ∨ G 0 k = 1 ∨ G 0 k = 2) ∧ (∃ s, s < 3 ∧ G 1 k = nI s) ∧ (∃ s, s < 3 ∧ G 2 k = nI s) ∧ (∃ s, s < 3 ∧ G 3 k = nI s) ∧ (∃ s, s ≤ 50 ∧ G 4 k = nI s)
def pr_TI (D : pr_D) : Prop := ∀ c, c < 90 → ∃ t, t ≤ 8 ∧ D.1 c = nI t
/-- unchanged at cell c -/
def pr_same (c : Nat) (D D' : pr_D) : Prop := D'.1 c = D.1 c ∧ (∀ p, p < 8 → D'.2.1 (8 * c + p) = D.2.1 (8 * c + p)) ∧ D'.2.2.1 c = D.2.2.1 c ∧ D'.2.2.2 c = D.2.2.2 c
/-- alike at cell c, as far as a reader may look -/
def pr_ag (c : Nat) (D D' : pr_D) : Prop := ∃ t, t ≤ 8 ∧ D.1 c = nI t ∧ D'.1 c = nI t ∧ (∀ p, p < t → D.2.1 (8 * c + p) = D'.2.1 (8 * c + p)) ∧ (t ≠ 0 → D.2.2.1 c = D'.2.2.1 c ∧ D.2.2.2 c = D'.2.2.2 c)
theorem fo_inv {α β : Type} {P : β → Prop} {f : β → α → β} : ∀ (l : List α) (b : β), P b → (∀ b a, a ∈ l → P b → P (f b a)) → P (l.foldl f b) := by
  intro l
  induction l with
  | nil => intro b h _; exact h
  | cons a l ih =>
    intro b h hs
    exact ih _ (hs b a (by simp) h) (fun b' a' ha' hb' => hs b' a' (by simp [ha']) hb')
theorem fo_rel {α β γ : Type} {P : β → γ → Prop} {f : β → α → β} {g : γ → α → γ} : ∀ (l : List α) (b : β) (c : γ), P b c → (∀ b c a, a ∈ l → P b c → P (f b a) (g c a)) → P (l.foldl f b) (l.foldl g c) := by
  intro l
  induction l with
  | nil => intro b c h _; exact h
  | cons a l ih =>
    intro b c h hs
    exact ih _ _ (hs b c a (by simp) h) (fun b' c' a' ha' hb' => hs b' c' a' (by simp [ha']) hb')
theorem fo_mem {m s d : Nat} (h : m ∈ List.range' s d) : s ≤ m ∧ m < s + d := by
  simpa using h
theorem pr_sh_spec : ∀ (k : Nat) (R : Nat → Int32) (b : Nat) (x : Int32), ∃ m, m ≤ k ∧ (∀ q, q < b + m → pr_sh k R b x q = R q) ∧ pr_sh k R b x (b + m) = x
    ∧ (∀ q, b + m < q → q ≤ b + k → pr_sh k R b x q = R (q - 1)) ∧ (∀ q, b + k < q → pr_sh k R b x q = R q) ∧ (0 < m → R (b + m - 1) ≤ x) ∧ (∀ p, m ≤ p → p < k → ¬ R (b + p) ≤ x) := by
  intro k
  induction k with
  | zero =>
    intro R b x
    refine ⟨0, Nat.le_refl _, ?_, ?_, ?_, ?_, ?_, ?_⟩
    · intro q hq; exact pk_un (by omega)
    · exact pk_us
    · intro q h1 h2; omega
    · intro q hq; exact pk_un (by omega)
    · intro h; omega
    · intro p h1 h2; omega
  | succ k ih =>
    intro R b x
    by_cases h : R (b + k) ≤ x
    · refine ⟨k + 1, Nat.le_refl _, ?_, ?_, ?_, ?_, ?_, ?_⟩
      · intro q hq; simp only [pr_sh, if_pos h]; exact pk_un (by omega)
      · simp only [pr_sh, if_pos h]; exact pk_us
      · intro q h1 h2; omega
      · intro q hq; simp only [pr_sh, if_pos h]; exact pk_un (by omega)
      · intro _; exact h
      · intro p h1 h2; omega
    · obtain ⟨m, hm, h1, h2, h3, h4, h5, h6⟩ := ih (upd R (b + k + 1) (R (b + k))) b x
      refine ⟨m, by omega, ?_, ?_, ?_, ?_, ?_, ?_⟩
      · intro q hq; simp only [pr_sh, if_neg h]; rw [h1 q hq]; exact pk_un (by omega)
      · simp only [pr_sh, if_neg h]; exact h2
      · intro q hq hq2
        simp only [pr_sh, if_neg h]
        by_cases e : q = b + k + 1
        · subst e
          rw [h4 _ (by omega)]
          exact pk_us
        · rw [h3 q hq (by omega)]; exact pk_un (by omega)
      · intro q hq; simp only [pr_sh, if_neg h]; rw [h4 q (by omega)]; exact pk_un (by omega)
      · intro h0
        have := h5 h0
        rw [pk_un (by omega)] at this
        exact this
      · intro p hp hpk
        by_cases e : p = k
        · subst e; exact h
        · have := h6 p hp (by omega)
          rw [pk_un (by omega)] at this
          exact this
theorem pr_sh_out {k : Nat} {R : Nat → Int32} {b : Nat} {x : Int32} {q : Nat} (h : q < b ∨ b + k < q) : pr_sh k R b x q = R q := by
  obtain ⟨m, hm, h1, h2, h3, h4, h5, h6⟩ := pr_sh_spec k R b x
  rcases h with h | h
  · exact h1 q (by omega)
  · exact h4 q h
theorem pr_sh_congr : ∀ (k : Nat) (R R' : Nat → Int32) (b : Nat) (x : Int32), (∀ p, p < k → R (b + p) = R' (b + p)) → ∀ p, p ≤ k → pr_sh k R b x (b + p) = pr_sh k R' b x (b + p) := by
  intro k
  induction k with
  | zero => intro R R' b x _ p hp; obtain rfl : p = 0 := by omega
            exact (pk_us (f := R) (k := b)).trans (pk_us (f := R') (k := b)).symm
  | succ k ih =>
    intro R R' b x hR p hp
    have e := hR k (by omega)
    by_cases h : R (b + k) ≤ x
    · have h' : R' (b + k) ≤ x := by rw [← e]; exact h
      simp only [pr_sh, if_pos h, if_pos h']
      by_cases ep : p = k + 1
      · subst ep; exact (pk_us (f := R) (k := b + k + 1)).trans (pk_us (f := R') (k := b + k + 1)).symm
      · rw [pk_un (by omega), pk_un (by omega)]; exact hR p (by omega)
    · have h' : ¬ R' (b + k) ≤ x := by rw [← e]; exact h
      simp only [pr_sh, if_neg h, if_neg h']
      by_cases ep : p = k + 1
      · subst ep
        rw [pr_sh_out (by omega), pr_sh_out (by omega)]
        exact (pk_us (f := R) (k := b + k + 1)).trans (e.trans (pk_us (f := R') (k := b + k + 1)).symm)
      · refine ih _ _ b x ?_ p (by omega)
        intro q hq
        rw [pk_un (by omega), pk_un (by omega)]; exact hR q (by omega)
theorem pr_same_rf {c : Nat} {D : pr_D} : pr_same c D D := ⟨rfl, fun _ _ => rfl, rfl, rfl⟩
theorem pr_same_tr {c : Nat} {D D' D'' : pr_D} (h : pr_same c D D') (h' : pr_same c D' D'') : pr_same c D D'' :=
  ⟨h'.1.trans h.1, fun p hp => (h'.2.1 p hp).trans (h.2.1 p hp), h'.2.2.1.trans h.2.2.1, h'.2.2.2.trans h.2.2.2⟩
theorem pr_ag_sy {c : Nat} {D D' : pr_D} (h : pr_ag c D D') : pr_ag c D' D := by
  obtain ⟨t, h0, h1, h2, h3, h4⟩ := h
  exact ⟨t, h0, h2, h1, fun p hp => (h3 p hp).symm, fun z => ⟨(h4 z).1.symm, (h4 z).2.symm⟩⟩
theorem pr_ag_tr {c : Nat} {D D' D'' : pr_D} (h : pr_ag c D D') (h' : pr_ag c D' D'') : pr_ag c D D'' := by
  obtain ⟨t, h0, h1, h2, h3, h4⟩ := h
  obtain ⟨t', g0, g1, g2, g3, g4⟩ := h'
  have e : t = t' := (nI_eq (by omega) (by omega)).mp (h2.symm.trans g1)
  subst e
  exact ⟨t, h0, h1, g2, fun p hp => (h3 p hp).trans (g3 p hp), fun z => ⟨(h4 z).1.trans (g4 z).1, (h4 z).2.trans (g4 z).2⟩⟩
theorem pr_ag_same {c : Nat} {D D' : pr_D} (ht : ∃ t, t ≤ 8 ∧ D.1 c = nI t) (h : pr_same c D D') : pr_ag c D D' := by
  obtain ⟨t, h0, h1⟩ := ht
  exact ⟨t, h0, h1, h.1.trans h1, fun p hp => (h.2.1 p (by omega)).symm, fun _ => ⟨h.2.2.1.symm, h.2.2.2.symm⟩⟩
/-- the step of one insertion at a cell with t costs -/
theorem pr_ins8 {c : Nat} {D : pr_D} (k m x : Int32) (h : D.1 c = nI 8) : pr_ins c k m D x = (D.1, if x < D.2.1 (8 * c + 7) then pr_sh 7 D.2.1 (8 * c) x else D.2.1, if x < D.2.1 (8 * c) then upd D.2.2.1 c k else D.2.2.1, if x < D.2.1 (8 * c) then upd D.2.2.2 c m else D.2.2.2) := by
  have h8 : (8 : Int32) ≤ D.1 c := by rw [h]; decide
  have h0 : ¬ D.1 c = 0 := by rw [h]; decide
  simp only [pr_ins, if_pos h8, h0, false_or]
theorem pr_insN {c t : Nat} {D : pr_D} (k m x : Int32) (h : D.1 c = nI t) (ht : t < 8) : pr_ins c k m D x = (upd D.1 c (nI (t + 1)), pr_sh t D.2.1 (8 * c) x, if t = 0 ∨ x < D.2.1 (8 * c) then upd D.2.2.1 c k else D.2.2.1, if t = 0 ∨ x < D.2.1 (8 * c) then upd D.2.2.2 c m else D.2.2.2) := by
  have h8 : ¬ (8 : Int32) ≤ D.1 c := by rw [h]; exact nI_ge (b := 8) ht (by decide)
  have h0 : D.1 c = 0 ↔ t = 0 := by rw [h, ← nI_0]; exact nI_eq (by omega) (by omega)
  have e : (D.1 c).toNatClampNeg = t := by rw [h]; exact nI_clamp (by omega)
  have e1 : D.1 c + 1 = nI (t + 1) := by rw [h]; exact nI_1 t
  simp only [pr_ins, if_neg h8, h0, e, e1]
theorem pr_ins_same {c c' : Nat} {k m x : Int32} {D : pr_D} (hD : ∃ t, t ≤ 8 ∧ D.1 c = nI t) (hc : c' ≠ c) : pr_same c' D (pr_ins c k m D x) := by
  obtain ⟨t, h0, h1⟩ := hD
  by_cases e : t = 8
  · subst e
    rw [pr_ins8 k m x h1]
    refine ⟨rfl, ?_, ?_, ?_⟩
    · intro p hp
      dsimp only
      split
      · exact pr_sh_out (by omega)
      · rfl
    · dsimp only; split
      · exact pk_un hc
      · rfl
    · dsimp only; split
      · exact pk_un hc
      · rfl
  · rw [pr_insN k m x h1 (by omega)]
    refine ⟨?_, ?_, ?_, ?_⟩
    · exact pk_un hc
    · intro p hp
      exact pr_sh_out (by omega)
    · dsimp only; split
      · exact pk_un hc
      · rfl
    · dsimp only; split
      · exact pk_un hc
      · rfl
theorem pr_ins_t {c : Nat} {k m x : Int32} {D : pr_D} (hD : ∃ t, t ≤ 8 ∧ D.1 c = nI t) : ∃ t, t ≤ 8 ∧ (pr_ins c k m D x).1 c = nI t := by
  obtain ⟨t, h0, h1⟩ := hD
  by_cases e : t = 8
  · subst e
    rw [pr_ins8 k m x h1]
    exact ⟨8, by omega, h1⟩
  · rw [pr_insN k m x h1 (by omega)]
    exact ⟨t + 1, by omega, pk_us⟩
theorem pr_ins_TI {c : Nat} {k m x : Int32} {D : pr_D} (hc : c < 90) (hD : pr_TI D) : pr_TI (pr_ins c k m D x) := by
  intro c' hc'
  by_cases e : c' = c
  · subst e; exact pr_ins_t (hD c' hc')
  · rw [(pr_ins_same (hD c hc) e).1]; exact hD c' hc'
theorem pr_ins_ag {c : Nat} {k m x : Int32} {D D' : pr_D} (h : pr_ag c D D') : pr_ag c (pr_ins c k m D x) (pr_ins c k m D' x) := by
  obtain ⟨t, h0, h1, h2, h3, h4⟩ := h
  by_cases e : t = 8
  · subst e
    have e0 := h3 0 (by omega)
    have e7 := h3 7 (by omega)
    simp only [Nat.add_zero] at e0
    rw [pr_ins8 k m x h1, pr_ins8 k m x h2, e0, e7]
    refine ⟨8, by omega, h1, h2, ?_, ?_⟩
    · intro p hp
      dsimp only
      split
      · exact pr_sh_congr 7 _ _ _ _ (fun q hq => h3 q (by omega)) p (by omega)
      · exact h3 p hp
    · intro _
      have := h4 (by omega)
      dsimp only
      split
      · exact ⟨(pk_us (f := D.2.2.1) (k := c)).trans (pk_us (f := D'.2.2.1) (k := c)).symm, (pk_us (f := D.2.2.2) (k := c)).trans (pk_us (f := D'.2.2.2) (k := c)).symm⟩
      · exact this
  · rw [pr_insN k m x h1 (by omega), pr_insN k m x h2 (by omega)]
    refine ⟨t + 1, by omega, pk_us, pk_us, ?_, ?_⟩
    · intro p hp
      exact pr_sh_congr t _ _ _ _ (fun q hq => h3 q (by omega)) p (by omega)
    · intro _
      by_cases e0 : t = 0
      · subst e0
        simp only [true_or, if_true]
        exact ⟨(pk_us (f := D.2.2.1) (k := c)).trans (pk_us (f := D'.2.2.1) (k := c)).symm, (pk_us (f := D.2.2.2) (k := c)).trans (pk_us (f := D'.2.2.2) (k := c)).symm⟩
      · have := h4 e0
        have e1 := h3 0 (by omega)
        simp only [Nat.add_zero] at e1
        rw [e1]
        dsimp only
        split
        · exact ⟨(pk_us (f := D.2.2.1) (k := c)).trans (pk_us (f := D'.2.2.1) (k := c)).symm, (pk_us (f := D.2.2.2) (k := c)).trans (pk_us (f := D'.2.2.2) (k := c)).symm⟩
        · exact this
end
section
/-! frame, range and likeness through join, rule and span -/
theorem pr_j2_inv {c r : Nat} {k m s : Int32} {D : pr_D} {y : Nat} (hc : c < 90) (hD : pr_TI D) : pr_TI (pr_j2 c r k m s D y) := pr_ins_TI hc hD
theorem pr_j2s {c r c' : Nat} {k m s : Int32} {D : pr_D} {y : Nat} (hc : c < 90) (hD : pr_TI D) (h : c' ≠ c) : pr_same c' D (pr_j2 c r k m s D y) := pr_ins_same (hD c hc) h
theorem pr_j1_inv {c l r c0 : Nat} {p k m : Int32} {D D0 : pr_D} {x : Nat} (hc : c < 90) (h : pr_TI D ∧ ∀ c', c' ≠ c → pr_same c' D0 D) : pr_TI (pr_j1 c l r p k m D x) ∧ ∀ c', c' ≠ c → pr_same c' D0 (pr_j1 c l r p k m D x) :=
  fo_inv (P := fun E => pr_TI E ∧ ∀ c', c' ≠ c → pr_same c' D0 E) _ _ h (fun b a _ hb => ⟨pr_j2_inv hc hb.1, fun c' hc' => pr_same_tr (hb.2 c' hc') (pr_j2s hc hb.1 hc')⟩)
theorem pr_jn_inv {c l r : Nat} {p k m : Int32} {D D0 : pr_D} (hc : c < 90) (h : pr_TI D ∧ ∀ c', c' ≠ c → pr_same c' D0 D) : pr_TI (pr_jn c l r p k m D) ∧ ∀ c', c' ≠ c → pr_same c' D0 (pr_jn c l r p k m D) :=
  fo_inv (P := fun E => pr_TI E ∧ ∀ c', c' ≠ c → pr_same c' D0 E) _ _ h (fun b a _ hb => pr_j1_inv (c0 := c) hc hb)
theorem pr_GIs {G : Nat → Nat → Int32} (hG : pr_GI G) {k : Nat} (hk : k < 8) : (G 1 k = nI (pr_cN G 1 k) ∧ pr_cN G 1 k < 3) ∧ (G 2 k = nI (pr_cN G 2 k) ∧ pr_cN G 2 k < 3) ∧ (G 3 k = nI (pr_cN G 3 k) ∧ pr_cN G 3 k < 3) ∧ (G 4 k = nI (pr_cN G 4 k) ∧ pr_cN G 4 k ≤ 50) := by
  obtain ⟨_, ⟨a, ha, ea⟩, ⟨b, hb, eb⟩, ⟨c, hc, ec⟩, ⟨d, hd, ed⟩⟩ := hG k hk
  have fa : pr_cN G 1 k = a := by unfold pr_cN; rw [ea]; exact nI_clamp (by omega)
  have fb : pr_cN G 2 k = b := by unfold pr_cN; rw [eb]; exact nI_clamp (by omega)
  have fc : pr_cN G 3 k = c := by unfold pr_cN; rw [ec]; exact nI_clamp (by omega)
  have fd : pr_cN G 4 k = d := by unfold pr_cN; rw [ed]; exact nI_clamp (by omega)
  rw [fa, fb, fc, fd]
  exact ⟨⟨ea, ha⟩, ⟨eb, hb⟩, ⟨ec, hc⟩, ⟨ed, hd⟩⟩
theorem pr_ce90 {i j a : Nat} (hi : i < 5) (hj : j ≤ 5) (ha : a < 3) : pr_ce i j a < 90 := by unfold pr_ce; omega
/-- c is none of the cells of span i j -/
def pr_off (i j c : Nat) : Prop := ∀ a, a < 3 → c ≠ pr_ce i j a
theorem pr_w_inv {G : Nat → Nat → Int32} {i j k : Nat} {D D0 : pr_D} (hG : pr_GI G) (hi : i < 5) (hj : j ≤ 5) (hk : k < 8) (h : pr_TI D ∧ ∀ c', pr_off i j c' → pr_same c' D0 D) : pr_TI (pr_w G i j k D) ∧ ∀ c', pr_off i j c' → pr_same c' D0 (pr_w G i j k D) := by
  unfold pr_w
  obtain ⟨⟨_, h3⟩, _⟩ := pr_GIs hG hk
  split
  · exact ⟨pr_ins_TI (pr_ce90 hi hj h3) h.1, fun c' hc' => pr_same_tr (h.2 c' hc') (pr_ins_same (h.1 _ (pr_ce90 hi hj h3)) (hc' _ h3))⟩
  · exact h
theorem pr_sm_inv {G : Nat → Nat → Int32} {i j k m : Nat} {D D0 : pr_D} (hG : pr_GI G) (hi : i < 5) (hj : j ≤ 5) (hk : k < 8) (h : pr_TI D ∧ ∀ c', pr_off i j c' → pr_same c' D0 D) : pr_TI (pr_sm G i j k D m) ∧ ∀ c', pr_off i j c' → pr_same c' D0 (pr_sm G i j k D m) := by
  obtain ⟨⟨_, h3⟩, _⟩ := pr_GIs hG hk
  have := pr_jn_inv (l := pr_ce i m (pr_cN G 2 k)) (r := pr_ce m j (pr_cN G 3 k)) (p := G 4 k) (k := nI k) (m := nI m) (D0 := D) (pr_ce90 hi hj h3) ⟨h.1, fun _ _ => pr_same_rf⟩
  exact ⟨this.1, fun c' hc' => pr_same_tr (h.2 c' hc') (this.2 c' (hc' _ h3))⟩
theorem pr_rl_inv {G : Nat → Nat → Int32} {i j k : Nat} {D D0 : pr_D} (hG : pr_GI G) (hi : i < 5) (hj : j ≤ 5) (hk : k < 8) (h : pr_TI D ∧ ∀ c', pr_off i j c' → pr_same c' D0 D) : pr_TI (pr_rl G i j D k) ∧ ∀ c', pr_off i j c' → pr_same c' D0 (pr_rl G i j D k) := by
  unfold pr_rl
  split
  · exact fo_inv (P := fun E => pr_TI E ∧ ∀ c', pr_off i j c' → pr_same c' D0 E) _ _ (pr_w_inv hG hi hj hk h) (fun b a _ hb => pr_sm_inv hG hi hj hk hb)
  · exact pr_w_inv hG hi hj hk h
theorem pr_sp_inv {G : Nat → Nat → Int32} {i j : Nat} {D : pr_D} (hG : pr_GI G) (hi : i < 5) (hj : j ≤ 5) (h : pr_TI D) : pr_TI (pr_sp G D (i, j)) ∧ ∀ c', pr_off i j c' → pr_same c' D (pr_sp G D (i, j)) :=
  fo_inv (P := fun E => pr_TI E ∧ ∀ c', pr_off i j c' → pr_same c' D E) _ _ ⟨h, fun _ _ => pr_same_rf⟩ (fun b a ha hb => pr_rl_inv hG hi hj (by have := fo_mem ha; omega) hb)
/-- likeness on a set of cells, through an insertion at one of them -/
theorem pr_ins_P {P : Nat → Prop} {c : Nat} {k m x : Int32} {D D' : pr_D} (hc : P c) (h : ∀ c, P c → pr_ag c D D') : ∀ c', P c' → pr_ag c' (pr_ins c k m D x) (pr_ins c k m D' x) := by
  intro c' hc'
  by_cases e : c' = c
  · subst e; exact pr_ins_ag (h c' hc')
  · have tD : ∃ t, t ≤ 8 ∧ D.1 c = nI t := by obtain ⟨t, a, b, _⟩ := h c hc; exact ⟨t, a, b⟩
    have tD' : ∃ t, t ≤ 8 ∧ D'.1 c = nI t := by obtain ⟨t, a, _, b, _⟩ := h c hc; exact ⟨t, a, b⟩
    have uD : ∃ t, t ≤ 8 ∧ D.1 c' = nI t := by obtain ⟨t, a, b, _⟩ := h c' hc'; exact ⟨t, a, b⟩
    have uD' : ∃ t, t ≤ 8 ∧ D'.1 c' = nI t := by obtain ⟨t, a, _, b, _⟩ := h c' hc'; exact ⟨t, a, b⟩
    exact pr_ag_tr (pr_ag_sy (pr_ag_same uD (pr_ins_same tD e))) (pr_ag_tr (h c' hc') (pr_ag_same uD' (pr_ins_same tD' e)))
theorem pr_ag_t {c : Nat} {D D' : pr_D} (h : pr_ag c D D') : D.1 c = D'.1 c := by
  obtain ⟨t, _, a, b, _⟩ := h
  exact a.trans b.symm
theorem pr_ag_r {c : Nat} {D D' : pr_D} (h : pr_ag c D D') {p : Nat} (hp : p < (D.1 c).toNatClampNeg) : D.2.1 (8 * c + p) = D'.2.1 (8 * c + p) := by
  obtain ⟨t, ht, a, b, e, _⟩ := h
  rw [a, nI_clamp (by omega)] at hp
  exact e p hp
theorem pr_ag_d {c : Nat} {D D' : pr_D} (h : pr_ag c D D') : ∃ t, t ≤ 8 ∧ D.1 c = nI t := by obtain ⟨t, a, b, _⟩ := h; exact ⟨t, a, b⟩
theorem pr_j1_P {P : Nat → Prop} {c l r : Nat} {p k m : Int32} {D D' : pr_D} {x : Nat} (hc : P c) (hl : P l) (hr : P r) (nr : r ≠ c) (hx : x < (D.1 l).toNatClampNeg) (h : ∀ c, P c → pr_ag c D D') : (pr_j1 c l r p k m D x).1 r = D.1 r ∧ (l ≠ c → (pr_j1 c l r p k m D x).1 l = D.1 l) ∧ ∀ c', P c' → pr_ag c' (pr_j1 c l r p k m D x) (pr_j1 c l r p k m D' x) := by
  unfold pr_j1
  rw [← pr_ag_t (h r hr), ← pr_ag_r (h l hl) hx]
  have K := fo_rel (P := fun E E' => E.1 r = D.1 r ∧ (l ≠ c → E.1 l = D.1 l) ∧ ∀ c', P c' → pr_ag c' E E') (f := pr_j2 c r k m (p + D.2.1 (8 * l + x))) (g := pr_j2 c r k m (p + D.2.1 (8 * l + x))) (List.range' 0 (D.1 r).toNatClampNeg) D D' ⟨rfl, fun _ => rfl, h⟩
  refine K ?_
  intro E E' y hy hE
  have hy' := fo_mem hy
  unfold pr_j2
  rw [← pr_ag_r (hE.2.2 r hr) (p := y) (by rw [hE.1]; omega)]
  exact ⟨(pr_ins_same (pr_ag_d (hE.2.2 c hc)) nr).1.trans hE.1, fun nl => (pr_ins_same (pr_ag_d (hE.2.2 c hc)) nl).1.trans (hE.2.1 nl), pr_ins_P hc hE.2.2⟩
theorem pr_jn_P {P : Nat → Prop} {c l r : Nat} {p k m : Int32} {D D' : pr_D} (hc : P c) (hl : P l) (hr : P r) (nl : l ≠ c) (nr : r ≠ c) (h : ∀ c, P c → pr_ag c D D') : ∀ c', P c' → pr_ag c' (pr_jn c l r p k m D) (pr_jn c l r p k m D') := by
  unfold pr_jn
  rw [← pr_ag_t (h l hl)]
  have K := fo_rel (P := fun E E' => E.1 l = D.1 l ∧ ∀ c', P c' → pr_ag c' E E') (f := pr_j1 c l r p k m) (g := pr_j1 c l r p k m) (List.range' 0 (D.1 l).toNatClampNeg) D D' ⟨rfl, h⟩
  refine (K ?_).2
  intro E E' x hx hE
  have hx' := fo_mem hx
  have := pr_j1_P (p := p) (k := k) (m := m) hc hl hr nr (x := x) (by rw [hE.1]; omega) hE.2
  exact ⟨(this.2.1 nl).trans hE.1, this.2.2⟩
/-- span i j of the two charts is alike -/
def pr_Ag (s : Nat × Nat) (D D' : pr_D) : Prop := ∀ a, a < 3 → pr_ag (pr_ce s.1 s.2 a) D D'
theorem pr_sp_congr {G : Nat → Nat → Int32} {i j : Nat} {D D' : pr_D} (hG : pr_GI G) (hij : i < j) (hj : j ≤ 5) (h : pr_Ag (i, j) D D') (hp : ∀ m, i < m → m < j → pr_Ag (i, m) D D' ∧ pr_Ag (m, j) D D') : pr_Ag (i, j) (pr_sp G D (i, j)) (pr_sp G D' (i, j)) := by
  have K : ∀ c, (∃ a, a < 3 ∧ (c = pr_ce i j a ∨ ∃ m, i < m ∧ m < j ∧ (c = pr_ce i m a ∨ c = pr_ce m j a))) → pr_ag c (pr_sp G D (i, j)) (pr_sp G D' (i, j)) := by
    unfold pr_sp
    refine fo_rel (P := fun E E' => ∀ c, (∃ a, a < 3 ∧ (c = pr_ce i j a ∨ ∃ m, i < m ∧ m < j ∧ (c = pr_ce i m a ∨ c = pr_ce m j a))) → pr_ag c E E') _ _ _ ?_ ?_
    · rintro c ⟨a, ha, rfl | ⟨m, h1, h2, rfl | rfl⟩⟩
      · exact h a ha
      · exact (hp m h1 h2).1 a ha
      · exact (hp m h1 h2).2 a ha
    · intro E E' k hk hE
      have hk8 : k < 8 := by have := fo_mem hk; omega
      obtain ⟨⟨_, h1⟩, ⟨_, h2⟩, ⟨_, h3⟩, _⟩ := pr_GIs hG hk8
      have hw : ∀ c, (∃ a, a < 3 ∧ (c = pr_ce i j a ∨ ∃ m, i < m ∧ m < j ∧ (c = pr_ce i m a ∨ c = pr_ce m j a))) → pr_ag c (pr_w G i j k E) (pr_w G i j k E') := by
        unfold pr_w
        split
        · exact pr_ins_P ⟨_, h1, Or.inl rfl⟩ hE
        · exact hE
      show ∀ c, _ → pr_ag c (pr_rl G i j E k) (pr_rl G i j E' k)
      unfold pr_rl
      split
      · refine fo_rel (P := fun E E' => ∀ c, (∃ a, a < 3 ∧ (c = pr_ce i j a ∨ ∃ m, i < m ∧ m < j ∧ (c = pr_ce i m a ∨ c = pr_ce m j a))) → pr_ag c E E') _ _ _ hw ?_
        intro F F' m hm hF
        have hm' := fo_mem hm
        refine pr_jn_P ⟨_, h1, Or.inl rfl⟩ ⟨_, h2, Or.inr ⟨m, by omega, by omega, Or.inl rfl⟩⟩ ⟨_, h3, Or.inr ⟨m, by omega, by omega, Or.inr rfl⟩⟩ ?_ ?_ hF
        · unfold pr_ce; omega
        · unfold pr_ce; omega
      · exact hw
  intro a ha
  exact K _ ⟨a, ha, Or.inl rfl⟩
theorem pr_sp_frame {G : Nat → Nat → Int32} {i j i' j' : Nat} {D : pr_D} (hG : pr_GI G) (hij : i < j) (hj : j ≤ 5) (hj' : j' ≤ 5) (hij' : i' < j') (ne : (i', j') ≠ (i, j)) (h : pr_TI D) : pr_Ag (i', j') D (pr_sp G D (i, j)) := by
  intro a ha
  refine pr_ag_same (h _ (pr_ce90 (by omega) hj' ha)) ((pr_sp_inv hG (by omega) hj h).2 _ ?_)
  intro b hb e
  unfold pr_ce at e
  simp only [ne_eq, Prod.mk.injEq] at ne
  dsimp only at e
  omega
end
section
/-! two orders of filling spans give charts that are alike -/
def cl_v (n : Nat) (s : Nat × Nat) : Prop := s.1 < s.2 ∧ s.2 ≤ n
def cl_ok (n : Nat) (L : List (Nat × Nat)) : Prop := (∀ s, s ∈ L → cl_v n s) ∧ ∀ i j, i < j → j ≤ n → ∃ p q, L = p ++ (i, j) :: q ∧ (i, j) ∉ p ∧ (i, j) ∉ q ∧ ∀ m, i < m → m < j → (i, m) ∉ q ∧ (m, j) ∉ q
def cl_okB (n : Nat) (L : List (Nat × Nat)) : Bool :=
  L.all (fun s => decide (s.1 < s.2 ∧ s.2 ≤ n)) && (List.range (n + 1)).all (fun i => (List.range (n + 1)).all (fun j =>
    decide (i < j → L = L.take (L.idxOf (i, j)) ++ (i, j) :: L.drop (L.idxOf (i, j) + 1) ∧ (i, j) ∉ L.take (L.idxOf (i, j)) ∧ (i, j) ∉ L.drop (L.idxOf (i, j) + 1)
      ∧ ∀ m, m ∈ List.range j → i < m → (i, m) ∉ L.drop (L.idxOf (i, j) + 1) ∧ (m, j) ∉ L.drop (L.idxOf (i, j) + 1))))
theorem cl_okB_ok {n : Nat} {L : List (Nat × Nat)} (h : cl_okB n L = true) : cl_ok n L := by
  unfold cl_okB at h
  rw [Bool.and_eq_true, List.all_eq_true, List.all_eq_true] at h
  obtain ⟨h1, h2⟩ := h
  refine ⟨fun s hs => by have z := h1 s hs; simp only [decide_eq_true_eq] at z; exact z, fun i j hij hj => ?_⟩
  have h3 := h2 i (List.mem_range.mpr (by omega))
  rw [List.all_eq_true] at h3
  have h4 := of_decide_eq_true (h3 j (List.mem_range.mpr (by omega))) hij
  exact ⟨_, _, h4.1, h4.2.1, h4.2.2.1, fun m h5 h6 => h4.2.2.2 m (List.mem_range.mpr h6) h5⟩
def pr_ds : Nat → List Nat
  | 0 => []
  | d + 1 => d :: pr_ds d
def pr_lX (n : Nat) : List (Nat × Nat) := (List.range' 1 n).flatMap (fun e => (pr_ds e).map (fun s => (s, e)))
def pr_lY (n : Nat) : List (Nat × Nat) := (List.range' 1 n).flatMap (fun w => (List.range' 0 (n + 1 - w)).map (fun i => (i, i + w)))
theorem cl_lX {n : Nat} (h : n ≤ 5) : cl_ok n (pr_lX n) := by
  refine cl_okB_ok ?_
  match n, h with
  | 0, _ => decide +kernel
  | 1, _ => decide +kernel
  | 2, _ => decide +kernel
  | 3, _ => decide +kernel
  | 4, _ => decide +kernel
  | 5, _ => decide +kernel
theorem cl_lY {n : Nat} (h : n ≤ 5) : cl_ok n (pr_lY n) := by
  refine cl_okB_ok ?_
  match n, h with
  | 0, _ => decide +kernel
  | 1, _ => decide +kernel
  | 2, _ => decide +kernel
  | 3, _ => decide +kernel
  | 4, _ => decide +kernel
  | 5, _ => decide +kernel
section
variable {S : Type} {n : Nat} (f : S → Nat × Nat → S) (Ag : Nat × Nat → S → S → Prop) (I : S → Prop)
theorem cl_frame (tr : ∀ s a b c, Ag s a b → Ag s b c → Ag s a c) (rf : ∀ s a, cl_v n s → I a → Ag s a a) (fI : ∀ s a, cl_v n s → I a → I (f a s)) (fr : ∀ s s' a, cl_v n s → cl_v n s' → s' ≠ s → I a → Ag s' a (f a s)) :
    ∀ (l : List (Nat × Nat)) (a : S), (∀ s, s ∈ l → cl_v n s) → I a → I (l.foldl f a) ∧ ∀ s', cl_v n s' → s' ∉ l → Ag s' a (l.foldl f a) := by
  intro l
  induction l with
  | nil => intro a _ ha; exact ⟨ha, fun s' hs _ => rf s' a hs ha⟩
  | cons s l ih =>
    intro a hv ha
    have h1 := hv s (by simp)
    have := ih (f a s) (fun s hs => hv s (by simp [hs])) (fI s a h1 ha)
    refine ⟨this.1, fun s' hs' hn => ?_⟩
    simp only [List.mem_cons, not_or] at hn
    exact tr _ _ _ _ (fr s s' a h1 hs' hn.1 ha) (this.2 s' hs' hn.2)
/-- each span of F is what filling makes of its parts in F -/
def cl_C (n : Nat) (F D0 : S) : Prop := ∀ i j, i < j → j ≤ n → ∃ D', I D' ∧ Ag (i, j) F (f D' (i, j)) ∧ Ag (i, j) D' D0 ∧ ∀ m, i < m → m < j → Ag (i, m) D' F ∧ Ag (m, j) D' F
theorem cl_fold (sy : ∀ s a b, Ag s a b → Ag s b a) (tr : ∀ s a b c, Ag s a b → Ag s b c → Ag s a c) (rf : ∀ s a, cl_v n s → I a → Ag s a a) (fI : ∀ s a, cl_v n s → I a → I (f a s)) (fr : ∀ s s' a, cl_v n s → cl_v n s' → s' ≠ s → I a → Ag s' a (f a s))
    {L : List (Nat × Nat)} (hL : cl_ok n L) (D0 : S) (h0 : I D0) : cl_C f Ag I n (L.foldl f D0) D0 := by
  intro i j hij hj
  obtain ⟨p, q, e, np, nq, hm⟩ := hL.2 i j hij hj
  have hvp : ∀ s, s ∈ p → cl_v n s := fun s hs => hL.1 s (by rw [e]; simp [hs])
  have hvq : ∀ s, s ∈ q → cl_v n s := fun s hs => hL.1 s (by rw [e]; simp [hs])
  have hv : cl_v n (i, j) := ⟨hij, hj⟩
  have A := cl_frame f Ag I tr rf fI fr p D0 hvp h0
  have B := cl_frame f Ag I tr rf fI fr q (f (p.foldl f D0) (i, j)) hvq (fI _ _ hv A.1)
  have eF : L.foldl f D0 = q.foldl f (f (p.foldl f D0) (i, j)) := by rw [e, List.foldl_append]; rfl
  rw [eF]
  refine ⟨p.foldl f D0, A.1, sy _ _ _ (B.2 _ hv nq), sy _ _ _ (A.2 _ hv np), fun m h1 h2 => ⟨?_, ?_⟩⟩
  · have v : cl_v n (i, m) := ⟨h1, by omega⟩
    exact tr _ _ _ _ (fr (i, j) (i, m) _ hv v (by simp only [ne_eq, Prod.mk.injEq]; omega) A.1) (B.2 _ v (hm m h1 h2).1)
  · have v : cl_v n (m, j) := ⟨h2, by omega⟩
    exact tr _ _ _ _ (fr (i, j) (m, j) _ hv v (by simp only [ne_eq, Prod.mk.injEq]; omega) A.1) (B.2 _ v (hm m h1 h2).2)
theorem cl_uniq (sy : ∀ s a b, Ag s a b → Ag s b a) (tr : ∀ s a b c, Ag s a b → Ag s b c → Ag s a c) (cg : ∀ i j a b, i < j → j ≤ n → I a → I b → Ag (i, j) a b → (∀ m, i < m → m < j → Ag (i, m) a b ∧ Ag (m, j) a b) → Ag (i, j) (f a (i, j)) (f b (i, j)))
    {F D0 F' D0' : S} (h : cl_C f Ag I n F D0) (h' : cl_C f Ag I n F' D0') (h0 : ∀ i j, i < j → j ≤ n → Ag (i, j) D0 D0') : ∀ w i j, i < j → j ≤ n → j - i < w → Ag (i, j) F F' := by
  intro w
  induction w with
  | zero => intro i j _ _ hw; omega
  | succ w ih =>
    intro i j hij hj hw
    obtain ⟨E, e1, e2, e3, e4⟩ := h i j hij hj
    obtain ⟨E', f1, f2, f3, f4⟩ := h' i j hij hj
    refine tr _ _ _ _ e2 (tr _ _ _ _ (cg i j E E' hij hj e1 f1 ?_ ?_) (sy _ _ _ f2))
    · exact tr _ _ _ _ e3 (tr _ _ _ _ (h0 i j hij hj) (sy _ _ _ f3))
    · intro m h1 h2
      exact ⟨tr _ _ _ _ (e4 m h1 h2).1 (tr _ _ _ _ (ih i m h1 (by omega) (by omega)) (sy _ _ _ (f4 m h1 h2).1)),
        tr _ _ _ _ (e4 m h1 h2).2 (tr _ _ _ _ (ih m j h2 (by omega) (by omega)) (sy _ _ _ (f4 m h1 h2).2))⟩
end
/-! the chart's own -/
theorem pr_Ag_sy (s : Nat × Nat) (a b : pr_D) (h : pr_Ag s a b) : pr_Ag s b a := fun x hx => pr_ag_sy (h x hx)
theorem pr_Ag_tr (s : Nat × Nat) (a b c : pr_D) (h : pr_Ag s a b) (h' : pr_Ag s b c) : pr_Ag s a c := fun x hx => pr_ag_tr (h x hx) (h' x hx)
theorem pr_Ag_rf {n : Nat} (hn : n ≤ 5) (s : Nat × Nat) (a : pr_D) (v : cl_v n s) (h : pr_TI a) : pr_Ag s a a := by
  intro x hx
  have v1 := v.1
  have v2 := v.2
  exact pr_ag_same (h _ (pr_ce90 (by omega) (by omega) hx)) pr_same_rf
/-- the chart closed under filling -/
def pr_C (G : Nat → Nat → Int32) (n : Nat) (F D0 : pr_D) : Prop := cl_C (pr_sp G) pr_Ag pr_TI n F D0
theorem pr_C_fold {G : Nat → Nat → Int32} {n : Nat} (hG : pr_GI G) (hn : n ≤ 5) {L : List (Nat × Nat)} (hL : cl_ok n L) (D0 : pr_D) (h0 : pr_TI D0) : pr_C G n (L.foldl (pr_sp G) D0) D0 := by
  refine cl_fold (n := n) (pr_sp G) pr_Ag pr_TI pr_Ag_sy pr_Ag_tr (pr_Ag_rf hn) ?_ ?_ hL D0 h0
  · intro s a v h
    have v1 := v.1
    have v2 := v.2
    exact (pr_sp_inv hG (by omega) (by omega) h).1
  · intro s s' a v v' ne h
    have v1 := v.1
    have v2 := v.2
    have v3 := v'.1
    have v4 := v'.2
    exact pr_sp_frame hG v1 (by omega) (by omega) v3 ne h
theorem pr_C_uniq {G : Nat → Nat → Int32} {n : Nat} (hG : pr_GI G) (hn : n ≤ 5) {F D0 F' D0' : pr_D} (h : pr_C G n F D0) (h' : pr_C G n F' D0') (h0 : ∀ i j, i < j → j ≤ n → pr_Ag (i, j) D0 D0') : ∀ i j, i < j → j ≤ n → pr_Ag (i, j) F F' := by
  intro i j hij hj
  exact cl_uniq (n := n) (pr_sp G) pr_Ag pr_TI pr_Ag_sy pr_Ag_tr (fun i j a b hij hj _ _ h hp => pr_sp_congr hG hij (by omega) h hp) h h' h0 (j - i + 1) i j hij hj (by omega)
end
section
/-! X: addTree is the pure insertion -/
abbrev st_X (n : Nat) (G : Nat → Nat → Int32) (D : pr_D) (W BL WC : Nat → Int32) : SX := (nI n, G 0, G 1, G 2, G 3, G 4, G 5, D.1, D.2.1, D.2.2.1, D.2.2.2, W, BL, WC)
abbrev st_Y (n : Nat) (ls : Int32) (G : Nat → Nat → Int32) (D : pr_D) (U LI OP : Nat → Int32) : SY := (nI n, ls, G 0, G 1, G 2, G 3, G 4, G 5, D.2.1, D.1, U, LI, OP)
section
variable (n : Nat) (G : Nat → Nat → Int32) (T BR BS W BL WC : Nat → Int32)
theorem xa_98 (post : SX → Prop) (x : Int32) (c : Nat) (hc : c < 90) : ∀ (p : Nat) (R : Nat → Int32) (nf : Nat), p ≤ 7 → p < nf → post (nI n, G 0, G 1, G 2, G 3, G 4, G 5, T, pr_sh p R (8 * c) x, BR, BS, W, BL, WC) → wX_addTree_98 post x (nI (8 * c)) (nI n) nf (nI p) (G 0) (G 1) (G 2) (G 3) (G 4) (G 5) T R BR BS W BL WC := by
  intro p
  induction p with
  | zero =>
    intro R nf _ hnf hp
    obtain ⟨m, rfl⟩ : ∃ m, nf = m + 1 := ⟨nf - 1, by omega⟩
    rw [wX_addTree_98]
    refine br_t (by decide : nI 0 ≤ 0) ?_
    unfold wX_addTree_147
    rw [show nI (8 * c) + nI 0 = nI (8 * c) from nI_add (8 * c) 0]
    exact ⟨vp_in_nI (by omega) (by omega), nm_r (by rw [nI_clamp (by omega)]; rfl) hp⟩
  | succ p ih =>
    intro R nf h7 hnf hp
    obtain ⟨m, rfl⟩ : ∃ m, nf = m + 1 := ⟨nf - 1, by omega⟩
    have e1 : nI (8 * c) + nI (p + 1) - 1 = nI (8 * c + p) := by rw [nI_add]; exact nI_pred (8 * c + p)
    have e2 : nI (8 * c) + nI (p + 1) = nI (8 * c + p + 1) := nI_add (8 * c) (p + 1)
    have c1 : (nI (8 * c + p)).toNatClampNeg = 8 * c + p := nI_clamp (by omega)
    have c2 : (nI (8 * c + p + 1)).toNatClampNeg = 8 * c + p + 1 := nI_clamp (by omega)
    rw [wX_addTree_98]
    dsimp only
    rw [e1, e2, c1, c2]
    refine br_f (nI_nle (by omega) (by omega)) ⟨vp_in_nI (by omega) (by omega), ?_⟩
    by_cases h : R (8 * c + p) ≤ x
    · refine br_t h ?_
      unfold wX_addTree_147
      rw [e2, c2]
      simp only [pr_sh, if_pos h] at hp
      exact ⟨vp_in_nI (by omega) (by omega), nm_e hp⟩
    · simp only [pr_sh, if_neg h] at hp
      refine br_f h ⟨vp_in_nI (by omega) (by omega), vp_in_nI (by omega) (by omega), nm_e (nm_r (pk_m1 p) ?_)⟩
      exact ih _ m (by omega) (by omega) hp
theorem xa_45_8 (R : Nat → Int32) (post : SX → Prop) (x : Int32) (c : Nat) (hc : c < 90) (hp : post (nI n, G 0, G 1, G 2, G 3, G 4, G 5, T, (if x < R (8 * c + 7) then pr_sh 7 R (8 * c) x else R), BR, BS, W, BL, WC)) : wX_addTree_45 post (nI c) x (nI (8 * c)) (nI 8) (nI n) (G 0) (G 1) (G 2) (G 3) (G 4) (G 5) T R BR BS W BL WC := by
  have e1 : nI (8 * c) + 8 - 1 = nI (8 * c + 7) := by rw [show (8 : Int32) = nI 8 from rfl, nI_add]; exact nI_pred (8 * c + 7)
  have c1 : (nI (8 * c + 7)).toNatClampNeg = 8 * c + 7 := nI_clamp (by omega)
  unfold wX_addTree_45
  rw [e1, c1]
  refine br_t (by decide : (8 : Int32) ≤ nI 8) ⟨vp_in_nI (by omega) (by omega), ?_⟩
  by_cases h : x < R (8 * c + 7)
  · rw [if_pos h] at hp
    exact br_t h (br_t (by decide : (8 : Int32) ≤ nI 8) ⟨8, xa_98 n G T BR BS W BL WC post x c hc 7 R 8 (by omega) (by omega) hp⟩)
  · rw [if_neg h] at hp
    exact br_f h hp
theorem xa_45_N (R : Nat → Int32) (post : SX → Prop) (x : Int32) (c : Nat) (hc : c < 90) (t : Nat) (ht : t < 8) (hp : post (nI n, G 0, G 1, G 2, G 3, G 4, G 5, upd T c (nI (t + 1)), pr_sh t R (8 * c) x, BR, BS, W, BL, WC)) : wX_addTree_45 post (nI c) x (nI (8 * c)) (nI t) (nI n) (G 0) (G 1) (G 2) (G 3) (G 4) (G 5) T R BR BS W BL WC := by
  have c1 : (nI c).toNatClampNeg = c := nI_clamp (by omega)
  have h8 : ¬ (8 : Int32) ≤ nI t := nI_ge (b := 8) ht (by decide)
  unfold wX_addTree_45
  rw [c1, nI_1]
  refine br_f h8 ⟨vp_in_nI (by omega) (by omega), nm_e ?_⟩
  exact br_f h8 ⟨8, xa_98 n G (upd T c (nI (t + 1))) BR BS W BL WC post x c hc t R 8 (by omega) (by omega) hp⟩
theorem xa_add (D : pr_D) (post : SX → Prop) (x k m : Int32) (c : Nat) (hc : c < 90) (hT : ∃ t, t ≤ 8 ∧ D.1 c = nI t) (hp : post (st_X n G (pr_ins c k m D x) W BL WC)) : wpX_addTree post (st_X n G D W BL WC) (nI c) x k m := by
  obtain ⟨t, ht, hD⟩ := hT
  obtain ⟨T, R, BR, BS⟩ := D
  dsimp only at hD
  have c1 : (nI c).toNatClampNeg = c := nI_clamp (by omega)
  have c2 : (nI (8 * c)).toNatClampNeg = 8 * c := nI_clamp (by omega)
  have e1 : nI c * 8 = nI (8 * c) := by rw [show (8 : Int32) = nI 8 from rfl, pk_mul, Nat.mul_comm]
  unfold wpX_addTree
  dsimp only
  refine nm_r e1 ⟨vp_in_nI hc (by omega), ?_⟩
  rw [c1, hD, c2]
  refine nm_e ?_
  have K : ∀ (BR' BS' : Nat → Int32), post (nI n, G 0, G 1, G 2, G 3, G 4, G 5, (pr_ins c k m (T, R, BR, BS) x).1, (pr_ins c k m (T, R, BR, BS) x).2.1, BR', BS', W, BL, WC) → wX_addTree_45 post (nI c) x (nI (8 * c)) (nI t) (nI n) (G 0) (G 1) (G 2) (G 3) (G 4) (G 5) T R BR' BS' W BL WC := by
    intro BR' BS' h
    by_cases e : t = 8
    · subst e
      rw [pr_ins8 (D := (T, R, BR, BS)) k m x hD] at h
      exact xa_45_8 n G T BR' BS' W BL WC R post x c hc h
    · rw [pr_insN (D := (T, R, BR, BS)) k m x hD (by omega)] at h
      exact xa_45_N n G T BR' BS' W BL WC R post x c hc t (by omega) h
  have K2 : ∀ (h : T c = 0 ∨ x < R (8 * c)), wX_addTree_30 post (nI c) x k m (nI (8 * c)) (nI t) (nI n) (G 0) (G 1) (G 2) (G 3) (G 4) (G 5) T R BR BS W BL WC := by
    intro h
    unfold wX_addTree_30
    rw [c1]
    refine ⟨vp_in_nI hc (by omega), nm_e ⟨vp_in_nI hc (by omega), nm_e (K _ _ ?_)⟩⟩
    simp only [pr_ins, if_pos h] at hp ⊢
    exact hp
  by_cases h0 : nI t = 0
  · exact br_t h0 (K2 (Or.inl (hD.trans h0)))
  · refine br_f h0 ⟨vp_in_nI (by omega) (by omega), ?_⟩
    by_cases h : R (8 * c) ≤ x
    · refine br_t h (K _ _ ?_)
      have hn : ¬ (T c = 0 ∨ x < R (8 * c)) := by
        rintro (z | z)
        · exact h0 (hD.symm.trans z)
        · exact absurd h (Int32.not_le.mpr z)
      simp only [pr_ins, if_neg hn] at hp ⊢
      exact hp
    · exact br_f h (K2 (Or.inr (Int32.not_le.mp h)))
end
end
section
/-! X: fillChart is the pure filling -/
theorem ce_X (i j a : Nat) : (nI i * 6 + nI j) * 3 + nI a = nI (pr_ce i j a) := by
  rw [show (6 : Int32) = nI 6 from rfl, show (3 : Int32) = nI 3 from rfl, pk_mul, nI_add, pk_mul, nI_add]
  exact congrArg nI (by unfold pr_ce; omega)
theorem ce_R (r y : Nat) : nI r * 8 + nI y = nI (8 * r + y) := by
  rw [show (8 : Int32) = nI 8 from rfl, pk_mul, nI_add]
  exact congrArg nI (by omega)
section
variable (n : Nat) (G : Nat → Nat → Int32) (W BL WC : Nat → Int32)
theorem xs_53 (post : SX → Prop) (J21 : Int32 → Int32 → (Nat → Int32) → (Nat → Int32) → (Nat → Int32) → (Nat → Int32) → (Nat → Int32) → (Nat → Int32) → (Nat → Int32) → (Nat → Int32) → (Nat → Int32) → (Nat → Int32) → (Nat → Int32) → (Nat → Int32) → (Nat → Int32) → Prop) (c r tr x : Nat) (k m x4 x6 s : Int32) (hc : c < 90) (hr : r < 90) (htr : tr ≤ 8) :
    ∀ (d y : Nat) (D : pr_D) (nf : Nat), y + d = tr → d < nf → pr_TI D → J21 (nI (x + 1)) (nI n) (G 0) (G 1) (G 2) (G 3) (G 4) (G 5) ((List.range' y d).foldl (pr_j2 c r k m s) D).1 ((List.range' y d).foldl (pr_j2 c r k m s) D).2.1 ((List.range' y d).foldl (pr_j2 c r k m s) D).2.2.1 ((List.range' y d).foldl (pr_j2 c r k m s) D).2.2.2 W BL WC → wX_addTreesOfSplit_53 post J21 (nI c) k m x4 (nI r) x6 (nI tr) (nI x) s nf (nI y) (nI n) (G 0) (G 1) (G 2) (G 3) (G 4) (G 5) D.1 D.2.1 D.2.2.1 D.2.2.2 W BL WC := by
  intro d
  induction d with
  | zero =>
    intro y D nf hy hnf hT hp
    obtain ⟨f, rfl⟩ : ∃ f, nf = f + 1 := ⟨nf - 1, by omega⟩
    rw [wX_addTreesOfSplit_53]
    exact br_t (nI_le (by omega) (by omega)) (nm_r (nI_1 x) hp)
  | succ d ih =>
    intro y D nf hy hnf hT hp
    obtain ⟨f, rfl⟩ : ∃ f, nf = f + 1 := ⟨nf - 1, by omega⟩
    rw [wX_addTreesOfSplit_53]
    dsimp only
    rw [ce_R, nI_clamp (n := 8 * r + y) (by omega)]
    refine br_f (nI_ge (by omega) (by omega)) ⟨vp_in_nI (by omega) (by omega), ?_⟩
    refine xa_add n G W BL WC D _ _ k m c hc (hT c hc) ?_
    exact nm_r (nI_1 y) (ih (y + 1) _ f (by omega) (by omega) (pr_ins_TI hc hT) hp)
theorem xs_21 (post : SX → Prop) (c l r tl tr k : Nat) (m : Int32) (hc : c < 90) (hl : l < 90) (hr : r < 90) (nr : r ≠ c) (htl : tl ≤ 8) (htr : tr ≤ 8) (hk : k < 8) :
    ∀ (d x : Nat) (D : pr_D) (nf : Nat), x + d = tl → d < nf → pr_TI D → D.1 r = nI tr → post (st_X n G ((List.range' x d).foldl (pr_j1 c l r (G 4 k) (nI k) m) D) W BL WC) → wX_addTreesOfSplit_21 post (nI c) (nI k) m (nI l) (nI r) (nI tl) (nI tr) nf (nI x) (nI n) (G 0) (G 1) (G 2) (G 3) (G 4) (G 5) D.1 D.2.1 D.2.2.1 D.2.2.2 W BL WC := by
  intro d
  induction d with
  | zero =>
    intro x D nf hy hnf hT hr hp
    obtain ⟨f, rfl⟩ : ∃ f, nf = f + 1 := ⟨nf - 1, by omega⟩
    rw [wX_addTreesOfSplit_21]
    exact br_t (nI_le (by omega) (by omega)) hp
  | succ d ih =>
    intro x D nf hy hnf hT hrr hp
    obtain ⟨f, rfl⟩ : ∃ f, nf = f + 1 := ⟨nf - 1, by omega⟩
    rw [wX_addTreesOfSplit_21]
    dsimp only
    rw [ce_R, nI_clamp (n := 8 * l + x) (by omega), nI_clamp (n := k) (by omega)]
    refine br_f (nI_ge (by omega) (by omega)) ⟨vp_in_nI hk (by omega), vp_in_nI (by omega) (by omega), nm_e ⟨9, ?_⟩⟩
    have hI := pr_j1_inv (l := l) (r := r) (c0 := c) (p := G 4 k) (k := nI k) (m := m) (D := D) (D0 := D) (x := x) hc ⟨hT, fun _ _ => pr_same_rf⟩
    have e : (D.1 r).toNatClampNeg = tr := by rw [hrr]; exact nI_clamp (by omega)
    refine xs_53 n G W BL WC post _ c r tr x (nI k) m (nI l) (nI tl) _ hc hr htr tr 0 D 9 (by omega) (by omega) hT ?_
    have hp' := ih (x + 1) (pr_j1 c l r (G 4 k) (nI k) m D x) f (by omega) (by omega) hI.1 ((hI.2 r nr).1.trans hrr) hp
    unfold pr_j1 at hp'
    rw [e] at hp'
    exact hp'
theorem xs_split (post : SX → Prop) (D : pr_D) (c l r k : Nat) (m : Int32) (hc : c < 90) (hl : l < 90) (hr : r < 90) (nr : r ≠ c) (hk : k < 8) (hT : pr_TI D) (hp : post (st_X n G (pr_jn c l r (G 4 k) (nI k) m D) W BL WC)) : wpX_addTreesOfSplit post (st_X n G D W BL WC) (nI c) (nI k) m (nI l) (nI r) := by
  obtain ⟨tl, h1, e1⟩ := hT l hl
  obtain ⟨tr, h2, e2⟩ := hT r hr
  unfold wpX_addTreesOfSplit
  dsimp only
  rw [nI_clamp (n := l) (by omega), nI_clamp (n := r) (by omega), e1, e2]
  refine ⟨vp_in_nI hl (by omega), nm_e ⟨vp_in_nI hr (by omega), nm_e ⟨9, ?_⟩⟩⟩
  refine xs_21 n G W BL WC post c l r tl tr k m hc hl hr nr h1 h2 hk tl 0 D 9 (by omega) (by omega) hT e2 ?_
  unfold pr_jn at hp
  rw [e1, nI_clamp (by omega)] at hp
  exact hp
theorem xr_52 (post : SX → Prop) (i j k : Nat) (hG : pr_GI G) (hij : i < j) (hj : j ≤ 5) (hk : k < 8) :
    ∀ (d m : Nat) (D : pr_D) (nf : Nat), m + d = j → i < m → d < nf → pr_TI D → post (st_X n G ((List.range' m d).foldl (pr_sm G i j k) D) W BL WC) → wX_addTreesOfRule_52 post (nI k) (nI i) (nI j) (nI (pr_ce i j (pr_cN G 1 k))) nf (nI m) (nI n) (G 0) (G 1) (G 2) (G 3) (G 4) (G 5) D.1 D.2.1 D.2.2.1 D.2.2.2 W BL WC := by
  obtain ⟨⟨g1, h1⟩, ⟨g2, h2⟩, ⟨g3, h3⟩, _⟩ := pr_GIs hG hk
  intro d
  induction d with
  | zero =>
    intro m D nf hm him hnf hT hp
    obtain ⟨f, rfl⟩ : ∃ f, nf = f + 1 := ⟨nf - 1, by omega⟩
    rw [wX_addTreesOfRule_52]
    exact br_t (nI_le (by omega) (by omega)) hp
  | succ d ih =>
    intro m D nf hm him hnf hT hp
    obtain ⟨f, rfl⟩ : ∃ f, nf = f + 1 := ⟨nf - 1, by omega⟩
    rw [wX_addTreesOfRule_52]
    dsimp only
    unfold wpX_cellOf
    rw [nI_clamp (n := k) (by omega), g2, g3, ce_X, ce_X]
    have hI := pr_sm_inv (m := m) (D0 := D) hG (i := i) (j := j) (by omega) hj hk ⟨hT, fun _ _ => pr_same_rf⟩
    refine br_f (nI_ge (by omega) (by omega)) ⟨vp_in_nI hk (by omega), vp_in_nI hk (by omega), ?_⟩
    refine xs_split n G W BL WC _ D _ _ _ k (nI m) (pr_ce90 (by omega) hj h1) (pr_ce90 (by omega) (by omega) h2) (pr_ce90 (by omega) hj h3) (by unfold pr_ce; omega) hk hT ?_
    exact nm_r (nI_1 m) (ih (m + 1) _ f (by omega) (by omega) (by omega) hI.1 hp)
theorem xr_37 (post : SX → Prop) (i j k : Nat) (D : pr_D) (hG : pr_GI G) (hij : i < j) (hj : j ≤ 5) (hk : k < 8) (hT : pr_TI D) (hp : post (st_X n G (if G 0 k = 1 then (List.range' (i + 1) (j - 1 - i)).foldl (pr_sm G i j k) D else D) W BL WC)) : wX_addTreesOfRule_37 post (nI k) (nI i) (nI j) (nI (pr_ce i j (pr_cN G 1 k))) (nI n) (G 0) (G 1) (G 2) (G 3) (G 4) (G 5) D.1 D.2.1 D.2.2.1 D.2.2.2 W BL WC := by
  unfold wX_addTreesOfRule_37
  rw [nI_clamp (n := k) (by omega)]
  refine ⟨vp_in_nI hk (by omega), ?_⟩
  by_cases h : G 0 k = 1
  · rw [if_pos h] at hp
    exact br_t h (nm_r (nI_1 i) ⟨6, xr_52 n G W BL WC post i j k hG hij hj hk (j - 1 - i) (i + 1) D 6 (by omega) (by omega) (by omega) hT hp⟩)
  · rw [if_neg h] at hp
    exact br_f h hp
theorem xr_fits (post : Int32 → Prop) (i j k : Nat) (D : pr_D) (hij : i < j) (hj : j ≤ 5) (hk : k < 8) (h1 : (G 0 k = 2 ∧ j = i + 1 ∧ G 2 k = G 5 i) → post 1) (h0 : ¬ (G 0 k = 2 ∧ j = i + 1 ∧ G 2 k = G 5 i) → post 0) : wpX_wordRuleFits post (st_X n G D W BL WC) (nI k) (nI i) (nI j) := by
  unfold wpX_wordRuleFits
  dsimp only
  rw [nI_clamp (n := k) (by omega), nI_clamp (n := i) (by omega)]
  refine ⟨vp_in_nI hk (by omega), br_c (fun a => ?_) (fun a => h0 (fun z => a z.1))⟩
  rw [nI_1]
  refine pk_eq j (i + 1) (fun b => ⟨vp_in_nI hk (by omega), vp_in_nI (by omega) (by omega), br_c (fun e => h1 ⟨a, b, e⟩) (fun e => h0 (fun z => e z.2.2))⟩) (fun b => h0 (fun z => b z.2.1))
theorem xr_rule (post : SX → Prop) (i j k : Nat) (D : pr_D) (hG : pr_GI G) (hij : i < j) (hj : j ≤ 5) (hk : k < 8) (hT : pr_TI D) (hp : post (st_X n G (pr_rl G i j D k) W BL WC)) : wpX_addTreesOfRule post (st_X n G D W BL WC) (nI k) (nI i) (nI j) := by
  obtain ⟨⟨g1, h1⟩, _⟩ := pr_GIs hG hk
  have hI := pr_w_inv (D0 := D) hG (i := i) (j := j) (by omega) hj hk ⟨hT, fun _ _ => pr_same_rf⟩
  unfold wpX_addTreesOfRule
  dsimp only
  unfold wpX_cellOf
  rw [nI_clamp (n := k) (by omega), g1, ce_X]
  refine ⟨vp_in_nI hk (by omega), ?_⟩
  refine xr_fits n G W BL WC _ i j k D hij hj hk (fun h => ?_) (fun h => ?_)
  · refine br_f (by decide) ⟨vp_in_nI hk (by omega), ?_⟩
    refine xa_add n G W BL WC D _ _ _ _ _ (pr_ce90 (by omega) hj h1) (hT _ (pr_ce90 (by omega) hj h1)) ?_
    unfold pr_rl pr_w at hp
    unfold pr_w at hI
    rw [if_pos h] at hp hI
    exact xr_37 n G W BL WC post i j k _ hG hij hj hk hI.1 hp
  · refine br_t rfl ?_
    unfold pr_rl pr_w at hp
    rw [if_neg h] at hp
    exact xr_37 n G W BL WC post i j k _ hG hij hj hk hT hp
theorem xf_41 (post : SX → Prop) (J23 J35 : Int32 → Int32 → (Nat → Int32) → (Nat → Int32) → (Nat → Int32) → (Nat → Int32) → (Nat → Int32) → (Nat → Int32) → (Nat → Int32) → (Nat → Int32) → (Nat → Int32) → (Nat → Int32) → (Nat → Int32) → (Nat → Int32) → (Nat → Int32) → Prop) (i j : Nat) (hG : pr_GI G) (hij : i < j) (hj : j ≤ 5) :
    ∀ (d k : Nat) (D : pr_D) (nf : Nat), k + d = 8 → d < nf → pr_TI D → J35 (nI i + (-1)) (nI n) (G 0) (G 1) (G 2) (G 3) (G 4) (G 5) ((List.range' k d).foldl (pr_rl G i j) D).1 ((List.range' k d).foldl (pr_rl G i j) D).2.1 ((List.range' k d).foldl (pr_rl G i j) D).2.2.1 ((List.range' k d).foldl (pr_rl G i j) D).2.2.2 W BL WC → wX_fillChart_41 post J23 J35 (nI j) (nI i) nf (nI k) (nI n) (G 0) (G 1) (G 2) (G 3) (G 4) (G 5) D.1 D.2.1 D.2.2.1 D.2.2.2 W BL WC := by
  intro d
  induction d with
  | zero =>
    intro k D nf hk hnf hT hp
    obtain ⟨f, rfl⟩ : ∃ f, nf = f + 1 := ⟨nf - 1, by omega⟩
    rw [wX_fillChart_41]
    exact br_t (nI_le (a := 8) (by omega) (by omega)) (nm_e hp)
  | succ d ih =>
    intro k D nf hk hnf hT hp
    obtain ⟨f, rfl⟩ : ∃ f, nf = f + 1 := ⟨nf - 1, by omega⟩
    have hI := pr_rl_inv (D0 := D) (k := k) hG (i := i) (j := j) (by omega) hj (by omega) ⟨hT, fun _ _ => pr_same_rf⟩
    rw [wX_fillChart_41]
    refine br_f (nI_ge (b := 8) (by omega) (by decide)) ?_
    refine xr_rule n G W BL WC _ i j k D hG hij hj (by omega) hT ?_
    exact nm_r (nI_1 k) (ih (k + 1) _ f (by omega) (by omega) hI.1 hp)
theorem xf_35 (post : SX → Prop) (J23 : Int32 → Int32 → (Nat → Int32) → (Nat → Int32) → (Nat → Int32) → (Nat → Int32) → (Nat → Int32) → (Nat → Int32) → (Nat → Int32) → (Nat → Int32) → (Nat → Int32) → (Nat → Int32) → (Nat → Int32) → (Nat → Int32) → (Nat → Int32) → Prop) (e : Nat) (hG : pr_GI G) (he : e ≤ 5) :
    ∀ (d : Nat) (D : pr_D) (nf : Nat), d ≤ e → d < nf → pr_TI D → J23 (nI (e + 1)) (nI n) (G 0) (G 1) (G 2) (G 3) (G 4) (G 5) (((pr_ds d).map (fun s => (s, e))).foldl (pr_sp G) D).1 (((pr_ds d).map (fun s => (s, e))).foldl (pr_sp G) D).2.1 (((pr_ds d).map (fun s => (s, e))).foldl (pr_sp G) D).2.2.1 (((pr_ds d).map (fun s => (s, e))).foldl (pr_sp G) D).2.2.2 W BL WC → wX_fillChart_35 post J23 (nI e) nf (nI d + (-1)) (nI n) (G 0) (G 1) (G 2) (G 3) (G 4) (G 5) D.1 D.2.1 D.2.2.1 D.2.2.2 W BL WC := by
  intro d
  induction d with
  | zero =>
    intro D nf hd hnf hT hp
    obtain ⟨f, rfl⟩ : ∃ f, nf = f + 1 := ⟨nf - 1, by omega⟩
    rw [wX_fillChart_35]
    exact br_t (by decide) (nm_r (nI_1 e) hp)
  | succ d ih =>
    intro D nf hd hnf hT hp
    obtain ⟨f, rfl⟩ : ∃ f, nf = f + 1 := ⟨nf - 1, by omega⟩
    rw [wX_fillChart_35, pk_m1]
    refine br_f (nI_pos (by omega)) ⟨9, ?_⟩
    have hI := pr_sp_inv hG (i := d) (j := e) (by omega) he hT
    refine xf_41 n G W BL WC post J23 _ d e hG (by omega) he 8 0 D 9 (by omega) (by omega) hT ?_
    exact ih (pr_sp G D (d, e)) f (by omega) (by omega) hI.1 hp
theorem pr_TI_fold (hG : pr_GI G) (l : List (Nat × Nat)) (hl : ∀ s, s ∈ l → s.1 < 5 ∧ s.2 ≤ 5) (D : pr_D) (h : pr_TI D) : pr_TI (l.foldl (pr_sp G) D) :=
  fo_inv (P := pr_TI) l D h (fun b a ha hb => (pr_sp_inv hG (hl a ha).1 (hl a ha).2 hb).1)
theorem pr_ds_mem {s d : Nat} : s ∈ pr_ds d → s < d := by
  induction d with
  | zero => intro h; exact absurd h (by simp [pr_ds])
  | succ d ih =>
    intro h
    simp only [pr_ds, List.mem_cons] at h
    rcases h with h | h
    · omega
    · have := ih h; omega
theorem xf_23 (post : SX → Prop) (hG : pr_GI G) (hn : n ≤ 5) :
    ∀ (d e : Nat) (D : pr_D) (nf : Nat), e + d = n + 1 → 1 ≤ e → d < nf → pr_TI D → post (st_X n G (((List.range' e d).flatMap (fun e => (pr_ds e).map (fun s => (s, e)))).foldl (pr_sp G) D) W BL WC) → wX_fillChart_23 post nf (nI e) (nI n) (G 0) (G 1) (G 2) (G 3) (G 4) (G 5) D.1 D.2.1 D.2.2.1 D.2.2.2 W BL WC := by
  intro d
  induction d with
  | zero =>
    intro e D nf he h1 hnf hT hp
    obtain ⟨f, rfl⟩ : ∃ f, nf = f + 1 := ⟨nf - 1, by omega⟩
    rw [wX_fillChart_23]
    exact br_t (nI_lt (by omega) (by omega)) hp
  | succ d ih =>
    intro e D nf he h1 hnf hT hp
    obtain ⟨f, rfl⟩ : ∃ f, nf = f + 1 := ⟨nf - 1, by omega⟩
    rw [wX_fillChart_23]
    refine br_f (nI_nlt (by omega) (by omega)) (nm_r (e' := nI e + (-1)) (Int32.sub_eq_add_neg _ _) ⟨6, ?_⟩)
    rw [List.range'_succ, List.flatMap_cons, List.foldl_append] at hp
    refine xf_35 n G W BL WC post _ e hG (by omega) e D 6 (by omega) (by omega) hT ?_
    refine ih (e + 1) _ f (by omega) (by omega) (by omega) ?_ hp
    refine pr_TI_fold G hG _ ?_ D hT
    intro s hs
    simp only [List.mem_map] at hs
    obtain ⟨a, ha, rfl⟩ := hs
    have := pr_ds_mem ha
    exact ⟨by omega, by omega⟩
/-- the counts of the first N cells are set back -/
def pr_z (N q : Nat) (D : pr_D) : pr_D := (fun c => if c < q ∧ c < N then 0 else D.1 c, D.2)
theorem pr_z_up (N q : Nat) (D : pr_D) (hq : q < N) : upd (pr_z N q D).1 q 0 = (pr_z N (q + 1) D).1 := by
  funext c
  unfold upd pr_z
  dsimp only
  by_cases e : c = q
  · rw [if_pos e, if_pos (by omega)]
  · rw [if_neg e]
    by_cases h : c < q ∧ c < N
    · rw [if_pos h, if_pos (by omega)]
    · rw [if_neg h, if_neg (by omega)]
theorem pr_z_TI (N q : Nat) (D : pr_D) (h : 90 ≤ q) (hN : 90 ≤ N) : pr_TI (pr_z N q D) := by
  intro c hc
  refine ⟨0, by omega, ?_⟩
  unfold pr_z
  dsimp only
  rw [if_pos (by omega)]
  rfl
theorem xf_2 (post : SX → Prop) (hG : pr_GI G) (hn : n ≤ 5) (D : pr_D) (hp : post (st_X n G ((pr_lX n).foldl (pr_sp G) (pr_z 90 90 D)) W BL WC)) :
    ∀ (d q : Nat) (nf : Nat), q + d = 90 → d < nf → wX_fillChart_2 post (nI n) nf (nI q) (G 0) (G 1) (G 2) (G 3) (G 4) (G 5) (pr_z 90 q D).1 (pr_z 90 q D).2.1 (pr_z 90 q D).2.2.1 (pr_z 90 q D).2.2.2 W BL WC := by
  intro d
  induction d with
  | zero =>
    intro q nf hq hnf
    obtain ⟨f, rfl⟩ : ∃ f, nf = f + 1 := ⟨nf - 1, by omega⟩
    obtain rfl : q = 90 := by omega
    rw [wX_fillChart_2]
    refine br_t (by decide) ⟨n + 1, ?_⟩
    exact xf_23 n G W BL WC post hG hn n 1 _ (n + 1) (by omega) (by omega) (by omega) (pr_z_TI 90 90 D (by omega) (by omega)) hp
  | succ d ih =>
    intro q nf hq hnf
    obtain ⟨f, rfl⟩ : ∃ f, nf = f + 1 := ⟨nf - 1, by omega⟩
    rw [wX_fillChart_2]
    dsimp only
    rw [nI_clamp (n := q) (by omega), pr_z_up 90 q D (by omega)]
    refine br_f (nI_ge (b := 90) (by omega) (by decide)) ⟨vp_in_nI (by omega) (by omega), nm_e (nm_r (nI_1 q) ?_)⟩
    exact ih (q + 1) f (by omega) (by omega)
theorem xf_fill (post : SX → Prop) (hG : pr_GI G) (hn : n ≤ 5) (D : pr_D) (hp : post (st_X n G ((pr_lX n).foldl (pr_sp G) (pr_z 90 90 D)) W BL WC)) : wpX_fillChart post (st_X n G D W BL WC) := by
  have e : pr_z 90 0 D = D := by
    unfold pr_z
    refine Prod.ext ?_ rfl
    funext c
    dsimp only
    rw [if_neg (by omega)]
  have := xf_2 n G W BL WC post hG hn D hp 90 0 91 (by omega) (by omega)
  rw [e] at this
  exact ⟨91, this⟩
end
end
section
/-! Y: work is the pure filling, in its own order -/
theorem ce_Y (i j a : Nat) : 18 * nI i + 3 * nI j + nI a = nI (pr_ce i j a) := by
  rw [show (18 : Int32) = nI 18 from rfl, show (3 : Int32) = nI 3 from rfl, pk_mul, pk_mul, nI_add, nI_add]
  exact congrArg nI (by unfold pr_ce; omega)
theorem ce_S (r y : Nat) : 8 * nI r + nI y = nI (8 * r + y) := by
  rw [show (8 : Int32) = nI 8 from rfl, pk_mul, nI_add]
abbrev jt_Y : Type := Int32 → Int32 → Int32 → (Nat → Int32) → (Nat → Int32) → (Nat → Int32) → (Nat → Int32) → (Nat → Int32) → (Nat → Int32) → (Nat → Int32) → (Nat → Int32) → (Nat → Int32) → (Nat → Int32) → (Nat → Int32) → Prop
section
variable (n : Nat) (ls : Int32) (G : Nat → Nat → Int32) (U LI OP : Nat → Int32)
theorem ya_23 (post : SY → Prop) (T : Nat → Int32) (x : Int32) (c : Nat) (hc : c < 90) : ∀ (p : Nat) (R : Nat → Int32) (nf : Nat), p ≤ 7 → p < nf → wY_insert_98 post (nI c) (nI n) ls (G 0) (G 1) (G 2) (G 3) (G 4) (G 5) (pr_sh p R (8 * c) x) T U LI OP → wY_insert_23 post (nI c) x (nI n) ls nf (nI p) (G 0) (G 1) (G 2) (G 3) (G 4) (G 5) R T U LI OP := by
  intro p
  induction p with
  | zero =>
    intro R nf _ hnf hp
    obtain ⟨m, rfl⟩ : ∃ m, nf = m + 1 := ⟨nf - 1, by omega⟩
    rw [wY_insert_23]
    refine br_t (by decide : nI 0 ≤ 0) ?_
    unfold wY_insert_80
    rw [ce_S, nI_clamp (n := 8 * c + 0) (by omega)]
    exact br_f (by decide) ⟨vp_in_nI (by omega) (by omega), nm_e hp⟩
  | succ p ih =>
    intro R nf h7 hnf hp
    obtain ⟨m, rfl⟩ : ∃ m, nf = m + 1 := ⟨nf - 1, by omega⟩
    have e1 : nI (8 * c + (p + 1)) - 1 = nI (8 * c + p) := nI_pred (8 * c + p)
    have c1 : (nI (8 * c + p)).toNatClampNeg = 8 * c + p := nI_clamp (by omega)
    have c2 : (nI (8 * c + (p + 1))).toNatClampNeg = 8 * c + p + 1 := nI_clamp (by omega)
    have h8 : ¬ (8 : Int32) ≤ nI (p + 1) := nI_ge (b := 8) (by omega) (by decide)
    rw [wY_insert_23]
    dsimp only
    rw [ce_S, e1, c1, c2]
    refine br_f (nI_nle (by omega) (by omega)) ⟨vp_in_nI (by omega) (by omega), ?_⟩
    by_cases h : R (8 * c + p) ≤ x
    · refine br_t h ?_
      unfold wY_insert_80
      rw [ce_S, c2]
      simp only [pr_sh, if_pos h] at hp
      exact br_f h8 ⟨vp_in_nI (by omega) (by omega), nm_e hp⟩
    · simp only [pr_sh, if_neg h] at hp
      refine br_f h (br_f h8 ⟨vp_in_nI (by omega) (by omega), vp_in_nI (by omega) (by omega), nm_e (nm_r (pk_m1 p) ?_)⟩)
      exact ih _ m (by omega) (by omega) hp
theorem ya_ins (D : pr_D) (post : SY → Prop) (x k m : Int32) (c : Nat) (hc : c < 90) (hT : ∃ t, t ≤ 8 ∧ D.1 c = nI t) (hp : post (st_Y n ls G (pr_ins c k m D x) U LI OP)) : wpY_insert post (st_Y n ls G D U LI OP) (nI c) x := by
  obtain ⟨t, ht, hD⟩ := hT
  obtain ⟨T, R, BR, BS⟩ := D
  dsimp only at hD
  have c1 : (nI c).toNatClampNeg = c := nI_clamp (by omega)
  unfold wpY_insert
  dsimp only
  rw [c1, hD]
  refine ⟨vp_in_nI (by omega) (by omega), ?_⟩
  by_cases e : t = 8
  · subst e
    rw [pr_ins8 (D := (T, R, BR, BS)) k m x hD] at hp
    have K : ∀ R', post (nI n, ls, G 0, G 1, G 2, G 3, G 4, G 5, R', T, U, LI, OP) → wY_insert_98 post (nI c) (nI n) ls (G 0) (G 1) (G 2) (G 3) (G 4) (G 5) R' T U LI OP := by
      intro R' h
      unfold wY_insert_98
      rw [c1, hD]
      have eT : upd T c 8 = T := by
        funext q
        unfold upd
        by_cases z : q = c
        · rw [if_pos z, z, hD]; rfl
        · rw [if_neg z]
      exact ⟨vp_in_nI (by omega) (by omega), br_t (by decide) ⟨vp_in_nI (by omega) (by omega), nm_r eT h⟩⟩
    refine br_t (by decide : (8 : Int32) ≤ nI 8) ⟨9, ?_⟩
    have e1 : nI (8 * c + 8) - 1 = nI (8 * c + 7) := nI_pred (8 * c + 7)
    have c2 : (nI (8 * c + 7)).toNatClampNeg = 8 * c + 7 := nI_clamp (by omega)
    rw [wY_insert_23]
    dsimp only
    rw [show 8 * nI c + 8 = nI (8 * c + 8) from ce_S c 8, e1, c2]
    refine br_f (by decide) ⟨vp_in_nI (by omega) (by omega), ?_⟩
    by_cases h : x < R (8 * c + 7)
    · dsimp only at hp
      rw [if_pos h] at hp
      refine br_f (Int32.not_le.mpr h) (br_t (by decide) (nm_r (pk_m1 7) ?_))
      exact ya_23 n ls G U LI OP post T x c hc 7 R 8 (by omega) (by omega) (K _ hp)
    · dsimp only at hp
      rw [if_neg h] at hp
      refine br_t (Int32.not_lt.mp h) ?_
      unfold wY_insert_80
      exact br_t (by decide) (K _ hp)
  · have h8 : ¬ (8 : Int32) ≤ nI t := nI_ge (b := 8) (by omega) (by decide)
    rw [pr_insN (D := (T, R, BR, BS)) k m x hD (by omega)] at hp
    refine br_f h8 ⟨vp_in_nI (by omega) (by omega), nm_e ⟨8, ?_⟩⟩
    refine ya_23 n ls G U LI OP post T x c hc t R 8 (by omega) (by omega) ?_
    unfold wY_insert_98
    rw [c1, hD, nI_1]
    exact ⟨vp_in_nI (by omega) (by omega), br_f h8 ⟨vp_in_nI (by omega) (by omega), vp_in_nI (by omega) (by omega), nm_e hp⟩⟩
theorem yj_17 (post : SY → Prop) (J3 : jt_Y) (c l r tr x : Nat) (p k m s : Int32) (hc : c < 90) (hl : l < 90) (hr : r < 90) (nl : l ≠ c) (nr : r ≠ c) (htr : tr ≤ 8) (hx : x < 8) :
    ∀ (d y : Nat) (D : pr_D) (nf : Nat), y + d = tr → d < nf → pr_TI D → D.1 r = nI tr → p + D.2.1 (8 * l + x) = s → J3 (nI (x + 1)) (nI n) ls (G 0) (G 1) (G 2) (G 3) (G 4) (G 5) ((List.range' y d).foldl (pr_j2 c r k m s) D).2.1 ((List.range' y d).foldl (pr_j2 c r k m s) D).1 U LI OP → wY_join_17 post J3 (nI c) (nI l) (nI r) p (nI x) nf (nI y) (nI n) ls (G 0) (G 1) (G 2) (G 3) (G 4) (G 5) D.2.1 D.1 U LI OP := by
  intro d
  induction d with
  | zero =>
    intro y D nf hy hnf hT hDr hs hp
    obtain ⟨f, rfl⟩ : ∃ f, nf = f + 1 := ⟨nf - 1, by omega⟩
    rw [wY_join_17]
    dsimp only
    rw [nI_clamp (n := r) (by omega), hDr]
    exact ⟨vp_in_nI (by omega) (by omega), br_t (nI_le (by omega) (by omega)) (nm_r (nI_1 x) hp)⟩
  | succ d ih =>
    intro y D nf hy hnf hT hDr hs hp
    obtain ⟨f, rfl⟩ : ∃ f, nf = f + 1 := ⟨nf - 1, by omega⟩
    rw [wY_join_17]
    dsimp only
    rw [ce_S, ce_S, nI_clamp (n := 8 * r + y) (by omega), nI_clamp (n := 8 * l + x) (by omega), nI_clamp (n := r) (by omega), hDr, hs]
    refine ⟨vp_in_nI (by omega) (by omega), br_f (nI_ge (by omega) (by omega)) ⟨vp_in_nI (by omega) (by omega), vp_in_nI (by omega) (by omega), ?_⟩⟩
    refine ya_ins n ls G U LI OP D _ _ k m c hc (hT c hc) ?_
    have F := fun c' (h : c' ≠ c) => pr_ins_same (k := k) (m := m) (x := s + D.2.1 (8 * r + y)) (hT c hc) h
    exact nm_r (nI_1 y) (ih (y + 1) _ f (by omega) (by omega) (pr_ins_TI hc hT) ((F r nr).1.trans hDr) (by rw [(F l nl).2.1 x hx]; exact hs) hp)
theorem yj_3 (post : SY → Prop) (c l r tl tr : Nat) (p k m : Int32) (hc : c < 90) (hl : l < 90) (hr : r < 90) (nl : l ≠ c) (nr : r ≠ c) (htl : tl ≤ 8) (htr : tr ≤ 8) :
    ∀ (d x : Nat) (D : pr_D) (nf : Nat), x + d = tl → d < nf → pr_TI D → D.1 l = nI tl → D.1 r = nI tr → post (st_Y n ls G ((List.range' x d).foldl (pr_j1 c l r p k m) D) U LI OP) → wY_join_3 post (nI c) (nI l) (nI r) p nf (nI x) (nI n) ls (G 0) (G 1) (G 2) (G 3) (G 4) (G 5) D.2.1 D.1 U LI OP := by
  intro d
  induction d with
  | zero =>
    intro x D nf hx hnf hT hDl hDr hp
    obtain ⟨f, rfl⟩ : ∃ f, nf = f + 1 := ⟨nf - 1, by omega⟩
    rw [wY_join_3]
    dsimp only
    rw [nI_clamp (n := l) (by omega), hDl]
    exact ⟨vp_in_nI (by omega) (by omega), br_t (nI_le (by omega) (by omega)) hp⟩
  | succ d ih =>
    intro x D nf hx hnf hT hDl hDr hp
    obtain ⟨f, rfl⟩ : ∃ f, nf = f + 1 := ⟨nf - 1, by omega⟩
    rw [wY_join_3]
    dsimp only
    rw [nI_clamp (n := l) (by omega), hDl]
    refine ⟨vp_in_nI (by omega) (by omega), br_f (nI_ge (by omega) (by omega)) ⟨9, ?_⟩⟩
    have hI := pr_j1_inv (l := l) (r := r) (c0 := c) (p := p) (k := k) (m := m) (D := D) (D0 := D) (x := x) hc ⟨hT, fun _ _ => pr_same_rf⟩
    have e : (D.1 r).toNatClampNeg = tr := by rw [hDr]; exact nI_clamp (by omega)
    refine yj_17 n ls G U LI OP post _ c l r tr x p k m _ hc hl hr nl nr htr (by omega) tr 0 D 9 (by omega) (by omega) hT hDr rfl ?_
    have hp' := ih (x + 1) (pr_j1 c l r p k m D x) f (by omega) (by omega) hI.1 ((hI.2 l nl).1.trans hDl) ((hI.2 r nr).1.trans hDr) hp
    unfold pr_j1 at hp'
    rw [e] at hp'
    exact hp'
theorem yj_join (post : SY → Prop) (D : pr_D) (c l r : Nat) (p k m : Int32) (hc : c < 90) (hl : l < 90) (hr : r < 90) (nl : l ≠ c) (nr : r ≠ c) (hT : pr_TI D) (hp : post (st_Y n ls G (pr_jn c l r p k m D) U LI OP)) : wpY_join post (st_Y n ls G D U LI OP) (nI c) (nI l) (nI r) p := by
  obtain ⟨tl, h1, e1⟩ := hT l hl
  obtain ⟨tr, h2, e2⟩ := hT r hr
  unfold wpY_join
  dsimp only
  refine ⟨9, yj_3 n ls G U LI OP post c l r tl tr p k m hc hl hr nl nr h1 h2 tl 0 D 9 (by omega) (by omega) hT e1 e2 ?_⟩
  unfold pr_jn at hp
  rw [e1, nI_clamp (by omega)] at hp
  exact hp
theorem yr_67 (post : SY → Prop) (J2 : jt_Y) (i j k : Nat) (hG : pr_GI G) (hij : i < j) (hj : j ≤ 5) (hk : k < 8) (h1k : G 0 k = 1) :
    ∀ (d m : Nat) (D : pr_D) (nf : Nat), m + d = j → i < m → d < nf → pr_TI D → J2 (nI (k + 1)) (nI n) ls (G 0) (G 1) (G 2) (G 3) (G 4) (G 5) ((List.range' m d).foldl (pr_sm G i j k) D).2.1 ((List.range' m d).foldl (pr_sm G i j k) D).1 U LI OP → wY_fill_67 post J2 (nI i) (nI j) (nI k) nf (nI m) (nI n) ls (G 0) (G 1) (G 2) (G 3) (G 4) (G 5) D.2.1 D.1 U LI OP := by
  obtain ⟨⟨g1, h1⟩, ⟨g2, h2⟩, ⟨g3, h3⟩, _⟩ := pr_GIs hG hk
  intro d
  induction d with
  | zero =>
    intro m D nf hm him hnf hT hp
    obtain ⟨f, rfl⟩ : ∃ f, nf = f + 1 := ⟨nf - 1, by omega⟩
    rw [wY_fill_67]
    exact br_t (nI_le (by omega) (by omega)) (nm_r (nI_1 k) hp)
  | succ d ih =>
    intro m D nf hm him hnf hT hp
    obtain ⟨f, rfl⟩ : ∃ f, nf = f + 1 := ⟨nf - 1, by omega⟩
    rw [wY_fill_67]
    dsimp only
    unfold wpY_cell
    dsimp only
    rw [nI_clamp (n := k) (by omega), g1, g2, g3, ce_Y, ce_Y, ce_Y]
    have hI := pr_sm_inv (m := m) (D0 := D) hG (i := i) (j := j) (by omega) hj hk ⟨hT, fun _ _ => pr_same_rf⟩
    have v := vp_in_nI hk (by omega)
    refine br_f (nI_ge (by omega) (by omega)) ⟨v, br_t h1k ⟨v, v, v, v, ?_⟩⟩
    refine yj_join n ls G U LI OP _ D _ _ _ _ (nI k) (nI m) (pr_ce90 (by omega) hj h1) (pr_ce90 (by omega) (by omega) h2) (pr_ce90 (by omega) hj h3) (by unfold pr_ce; omega) (by unfold pr_ce; omega) hT ?_
    exact nm_r (nI_1 m) (ih (m + 1) _ f (by omega) (by omega) (by omega) hI.1 hp)
theorem yr_67e (post : SY → Prop) (J2 : jt_Y) (i j k : Nat) (D : pr_D) (hG : pr_GI G) (hij : i < j) (hj : j ≤ 5) (hk : k < 8) (hT : pr_TI D) (hp : J2 (nI (k + 1)) (nI n) ls (G 0) (G 1) (G 2) (G 3) (G 4) (G 5) (if G 0 k = 1 then (List.range' (i + 1) (j - 1 - i)).foldl (pr_sm G i j k) D else D).2.1 (if G 0 k = 1 then (List.range' (i + 1) (j - 1 - i)).foldl (pr_sm G i j k) D else D).1 U LI OP) : ∃ n67 : Nat, wY_fill_67 post J2 (nI i) (nI j) (nI k) n67 (nI (i + 1)) (nI n) ls (G 0) (G 1) (G 2) (G 3) (G 4) (G 5) D.2.1 D.1 U LI OP := by
  by_cases h : G 0 k = 1
  · rw [if_pos h] at hp
    exact ⟨6, yr_67 n ls G U LI OP post J2 i j k hG hij hj hk h (j - 1 - i) (i + 1) D 6 (by omega) (by omega) (by omega) hT hp⟩
  · rw [if_neg h] at hp
    refine ⟨1, ?_⟩
    rw [wY_fill_67]
    dsimp only
    rw [nI_clamp (n := k) (by omega)]
    exact br_c (fun _ => nm_r (nI_1 k) hp) (fun _ => ⟨vp_in_nI hk (by omega), br_f h (nm_r (nI_1 k) hp)⟩)
theorem yf_2 (post : SY → Prop) (i j : Nat) (hG : pr_GI G) (hij : i < j) (hj : j ≤ 5) :
    ∀ (d k : Nat) (D : pr_D) (nf : Nat), k + d = 8 → d < nf → pr_TI D → post (st_Y n ls G ((List.range' k d).foldl (pr_rl G i j) D) U LI OP) → wY_fill_2 post (nI i) (nI j) nf (nI k) (nI n) ls (G 0) (G 1) (G 2) (G 3) (G 4) (G 5) D.2.1 D.1 U LI OP := by
  intro d
  induction d with
  | zero =>
    intro k D nf hk hnf hT hp
    obtain ⟨f, rfl⟩ : ∃ f, nf = f + 1 := ⟨nf - 1, by omega⟩
    rw [wY_fill_2]
    exact br_t (nI_le (a := 8) (by omega) (by omega)) hp
  | succ d ih =>
    intro k D nf hk hnf hT hp
    obtain ⟨f, rfl⟩ : ∃ f, nf = f + 1 := ⟨nf - 1, by omega⟩
    have hk8 : k < 8 := by omega
    have hI := pr_rl_inv (D0 := D) (k := k) hG (i := i) (j := j) (by omega) hj (by omega) ⟨hT, fun _ _ => pr_same_rf⟩
    have hw := pr_w_inv (D0 := D) (k := k) hG (i := i) (j := j) (by omega) hj (by omega) ⟨hT, fun _ _ => pr_same_rf⟩
    have hp' := ih (k + 1) (pr_rl G i j D k) f (by omega) (by omega) hI.1 hp
    obtain ⟨⟨g1, h1⟩, _⟩ := pr_GIs hG hk8
    have v := vp_in_nI hk8 (by omega)
    rw [wY_fill_2]
    dsimp only
    unfold wpY_cell
    dsimp only
    rw [nI_clamp (n := k) (by omega), nI_clamp (n := i) (by omega), g1, ce_Y, nI_1]
    unfold pr_rl at hp'
    by_cases c : G 0 k = 2 ∧ j = i + 1 ∧ G 2 k = G 5 i
    · unfold pr_w at hp' hw
      rw [if_pos c] at hp' hw
      refine br_f (nI_ge (b := 8) (by omega) (by decide)) ⟨v, br_t c.1 (br_t (by rw [c.2.1]) ⟨vp_in_nI (by omega) (by omega), v, br_t c.2.2.symm ⟨v, v, ?_⟩⟩)⟩
      refine ya_ins n ls G U LI OP D _ _ (nI k) (nI i) _ (pr_ce90 (by omega) hj h1) (hT _ (pr_ce90 (by omega) hj h1)) ?_
      exact nm_e (yr_67e n ls G U LI OP post _ i j k _ hG hij hj hk8 hw.1 hp')
    · unfold pr_w at hp'
      rw [if_neg c] at hp'
      have Z := yr_67e n ls G U LI OP post _ i j k _ hG hij hj hk8 hT hp'
      refine br_f (nI_ge (b := 8) (by omega) (by decide)) ⟨v, br_c (fun a => ?_) (fun _ => nm_e Z)⟩
      refine pk_eq j (i + 1) (fun b => ⟨vp_in_nI (by omega) (by omega), v, br_f (fun e => c ⟨a, b, e.symm⟩) (nm_e Z)⟩) (fun _ => nm_e Z)
theorem yf_33 (post : SY → Prop) (J23 : jt_Y) (w : Nat) (hG : pr_GI G) (hn : n ≤ 5) (hw : 1 ≤ w) :
    ∀ (d i : Nat) (D : pr_D) (nf : Nat), i + d + w = n + 1 → d < nf → pr_TI D → J23 (nI (w + 1)) (nI n) ls (G 0) (G 1) (G 2) (G 3) (G 4) (G 5) (((List.range' i d).map (fun i => (i, i + w))).foldl (pr_sp G) D).2.1 (((List.range' i d).map (fun i => (i, i + w))).foldl (pr_sp G) D).1 U LI OP → wY_work_33 post J23 (nI w) nf (nI i) (nI n) ls (G 0) (G 1) (G 2) (G 3) (G 4) (G 5) D.2.1 D.1 U LI OP := by
  intro d
  induction d with
  | zero =>
    intro i D nf hi hnf hT hp
    obtain ⟨f, rfl⟩ : ∃ f, nf = f + 1 := ⟨nf - 1, by omega⟩
    rw [wY_work_33]
    dsimp only
    rw [nI_add]
    exact br_t (nI_lt (by omega) (by omega)) (nm_r (nI_1 w) hp)
  | succ d ih =>
    intro i D nf hi hnf hT hp
    obtain ⟨f, rfl⟩ : ∃ f, nf = f + 1 := ⟨nf - 1, by omega⟩
    have hI := pr_sp_inv hG (i := i) (j := i + w) (by omega) (by omega) hT
    rw [wY_work_33]
    dsimp only
    rw [nI_add]
    refine br_f (nI_nlt (by omega) (by omega)) ⟨9, ?_⟩
    refine yf_2 n ls G U LI OP _ i (i + w) hG (by omega) (by omega) 8 0 D 9 (by omega) (by omega) hT ?_
    exact nm_r (nI_1 i) (ih (i + 1) _ f (by omega) (by omega) hI.1 hp)
theorem yf_23 (post : SY → Prop) (hG : pr_GI G) (hn : n ≤ 5) :
    ∀ (d w : Nat) (D : pr_D) (nf : Nat), w + d = n + 1 → 1 ≤ w → d < nf → pr_TI D → post (st_Y n ls G (((List.range' w d).flatMap (fun w => (List.range' 0 (n + 1 - w)).map (fun i => (i, i + w)))).foldl (pr_sp G) D) U LI OP) → wY_work_23 post nf (nI w) (nI n) ls (G 0) (G 1) (G 2) (G 3) (G 4) (G 5) D.2.1 D.1 U LI OP := by
  intro d
  induction d with
  | zero =>
    intro w D nf he h1 hnf hT hp
    obtain ⟨f, rfl⟩ : ∃ f, nf = f + 1 := ⟨nf - 1, by omega⟩
    rw [wY_work_23]
    exact br_t (nI_lt (by omega) (by omega)) hp
  | succ d ih =>
    intro w D nf he h1 hnf hT hp
    obtain ⟨f, rfl⟩ : ∃ f, nf = f + 1 := ⟨nf - 1, by omega⟩
    rw [wY_work_23]
    refine br_f (nI_nlt (by omega) (by omega)) ⟨7, ?_⟩
    rw [List.range'_succ, List.flatMap_cons, List.foldl_append] at hp
    refine yf_33 n ls G U LI OP post _ w hG hn h1 (n + 1 - w) 0 D 7 (by omega) (by omega) hT ?_
    refine ih (w + 1) _ f (by omega) (by omega) (by omega) ?_ hp
    refine pr_TI_fold G hG _ ?_ D hT
    intro s hs
    simp only [List.mem_map] at hs
    obtain ⟨a, ha, rfl⟩ := hs
    have := fo_mem ha
    exact ⟨by dsimp only; omega, by dsimp only; omega⟩
theorem yf_z (post : SY → Prop) (hG : pr_GI G) (hn : n ≤ 5) (D : pr_D) (hp : post (st_Y n ls G ((pr_lY n).foldl (pr_sp G) (pr_z 108 108 D)) U LI OP)) :
    ∀ (d q : Nat) (nf : Nat), q + d = 108 → d < nf → wY_work_2 post (nI n) ls nf (nI q) (G 0) (G 1) (G 2) (G 3) (G 4) (G 5) (pr_z 108 q D).2.1 (pr_z 108 q D).1 U LI OP := by
  intro d
  induction d with
  | zero =>
    intro q nf hq hnf
    obtain ⟨f, rfl⟩ : ∃ f, nf = f + 1 := ⟨nf - 1, by omega⟩
    obtain rfl : q = 108 := by omega
    rw [wY_work_2]
    refine br_t (by decide) ⟨n + 1, ?_⟩
    exact yf_23 n ls G U LI OP post hG hn n 1 _ (n + 1) (by omega) (by omega) (by omega) (pr_z_TI 108 108 D (by omega) (by omega)) hp
  | succ d ih =>
    intro q nf hq hnf
    obtain ⟨f, rfl⟩ : ∃ f, nf = f + 1 := ⟨nf - 1, by omega⟩
    rw [wY_work_2]
    dsimp only
    rw [nI_clamp (n := q) (by omega), pr_z_up 108 q D (by omega)]
    refine br_f (nI_ge (b := 108) (by omega) (by decide)) ⟨vp_in_nI (by omega) (by omega), nm_e (nm_r (nI_1 q) ?_)⟩
    exact ih (q + 1) f (by omega) (by omega)
theorem yf_work (post : SY → Prop) (hG : pr_GI G) (hn : n ≤ 5) (D : pr_D) (hp : post (st_Y n ls G ((pr_lY n).foldl (pr_sp G) (pr_z 108 108 D)) U LI OP)) : wpY_work post (st_Y n ls G D U LI OP) := by
  have e : pr_z 108 0 D = D := by
    unfold pr_z
    refine Prod.ext ?_ rfl
    funext c
    dsimp only
    rw [if_neg (by omega)]
  have := yf_z n ls G U LI OP post hG hn D hp 108 0 109 (by omega) (by omega)
  rw [e] at this
  exact ⟨109, this⟩
end
end
section
/-! the relation, and the methods that fill no chart -/
def i_Rel (_ : Nat) (u : SX) (v : SY) : Prop := ∃ (n : Nat) (G : Nat → Nat → Int32) (D : pr_D) (W BL WC : Nat → Int32) (ls : Int32) (D' : pr_D) (U LI OP : Nat → Int32), n ≤ 5 ∧ pr_GI G ∧ u = st_X n G D W BL WC ∧ v = st_Y n ls G D' U LI OP
theorem i_up {k : Nat} {u : SX} {v : SY} (h : i_Rel k u v) : i_Rel (k + 5) u v := h
theorem i_vc0 : wpX_init (fun u => wpY_init (fun v => i_Rel 0 u v)) := by
  refine ⟨0, fun _ _ => 0, (fun _ => 0, fun _ => 0, fun _ => 0, fun _ => 0), fun _ => 0, fun _ => 0, fun _ => 0, 0, (fun _ => 0, fun _ => 0, fun _ => 0, fun _ => 0), fun _ => 0, fun _ => 0, fun _ => 0, by omega, ?_, rfl, rfl⟩
  intro k _
  exact ⟨Or.inl rfl, ⟨0, by omega, rfl⟩, ⟨0, by omega, rfl⟩, ⟨0, by omega, rfl⟩, ⟨0, by omega, rfl⟩⟩
theorem rd_mk {k n : Nat} {G : Nat → Nat → Int32} {D : pr_D} {W BL WC : Nat → Int32} {ls : Int32} {D' : pr_D} {U LI OP : Nat → Int32} (hn : n ≤ 5) (hG : pr_GI G) : i_Rel k (st_X n G D W BL WC) (st_Y n ls G D' U LI OP) :=
  ⟨n, G, D, W, BL, WC, ls, D', U, LI, OP, hn, hG, rfl, rfl⟩
def rd_vS (p : Int32) : Prop := ∃ a, a < 3 ∧ p = nI a
def rd_vC (p : Int32) : Prop := ∃ a, a ≤ 50 ∧ p = nI a
def rd_vR (G : Nat → Nat → Int32) (p : Int32) : Prop := ∃ k, k < 8 ∧ p = nI k ∧ ¬ G 0 k = 0
theorem rd_S3 {p : Int32} (h0 : ¬ p < 0) (h : ¬ 3 ≤ p) : rd_vS p := by
  rcases pk_ix p (n := 3) (by omega) with h1 | h1 | ⟨j, hj, e⟩
  · exact absurd h1 h0
  · exact absurd h1 h
  · exact ⟨j, hj, e⟩
theorem rd_S0 {p : Int32} (h : rd_vS p) : ¬ p < 0 ∧ ¬ 3 ≤ p ∧ ¬ 2 < p := by
  obtain ⟨a, ha, rfl⟩ := h
  exact ⟨nI_pos (by omega), nI_ge (b := 3) ha (by decide), nI_nlt (a := 2) (by omega) (by decide)⟩
theorem rd_sym {post : Int32 → Prop} {p : Int32} (h1 : rd_vS p → post 1) (h0 : ¬ rd_vS p → post 0) : wpX_isSymbol post p :=
  br_c (fun a => h0 (fun z => (rd_S0 z).1 a)) (fun a => br_c (fun b => h0 (fun z => (rd_S0 z).2.1 b)) (fun b => h1 (rd_S3 a b)))
theorem rd_wrd {post : Int32 → Prop} {p : Int32} (h1 : rd_vS p → post 1) (h0 : ¬ rd_vS p → post 0) : wpX_isWord post p :=
  br_c (fun a => h0 (fun z => (rd_S0 z).1 a)) (fun a => br_c (fun b => h0 (fun z => (rd_S0 z).2.1 b)) (fun b => h1 (rd_S3 a b)))
theorem rd_23 {p : Int32} (h : ¬ 2 < p) : ¬ 3 ≤ p := fun z => h (Int32.lt_of_lt_of_le (by decide) z)
theorem rd_ySym {A B : Prop} {p : Int32} (h1 : rd_vS p → B) (h0 : ¬ rd_vS p → A) : (p < 0 → A) ∧ (¬ p < 0 → ((2 < p → A) ∧ (¬ 2 < p → B))) :=
  br_c (fun a => h0 (fun z => (rd_S0 z).1 a)) (fun a => br_c (fun b => h0 (fun z => (rd_S0 z).2.2 b)) (fun b => h1 (rd_S3 a (rd_23 b))))
theorem rd_C3 {p : Int32} (h0 : ¬ p < 0) (h : p ≤ 50) : rd_vC p := nI_of2 (M := 50) (n := 50) (by decide) h0 h
theorem rd_C0 {p : Int32} (h : rd_vC p) : ¬ p < 0 ∧ p ≤ 50 := by
  obtain ⟨a, ha, rfl⟩ := h
  exact ⟨nI_pos (by omega), nI_le (b := 50) ha (by decide)⟩
theorem rd_cst {post : Int32 → Prop} {p : Int32} (h1 : rd_vC p → post 1) (h0 : ¬ rd_vC p → post 0) : wpX_isCost post p :=
  br_c (fun a => h0 (fun z => (rd_C0 z).1 a)) (fun a => br_c (fun b => h0 (fun z => absurd (rd_C0 z).2 (Int32.not_le.mpr b))) (fun b => h1 (rd_C3 a (Int32.not_lt.mp b))))
theorem rd_yCst {A B : Prop} {p : Int32} (h1 : rd_vC p → B) (h0 : ¬ rd_vC p → A) : (p < 0 → A) ∧ (¬ p < 0 → ((p ≤ 50 → B) ∧ (¬ p ≤ 50 → A))) :=
  br_c (fun a => h0 (fun z => (rd_C0 z).1 a)) (fun a => br_c (fun b => h1 (rd_C3 a b)) (fun b => h0 (fun z => b (rd_C0 z).2)))
theorem rd_isX {n : Nat} {G : Nat → Nat → Int32} {D : pr_D} {W BL WC : Nat → Int32} {post : Int32 → Prop} {p : Int32} (h1 : rd_vR G p → post 1) (h0 : ¬ rd_vR G p → post 0) : wpX_isRule post (st_X n G D W BL WC) p := by
  unfold wpX_isRule
  rcases pk_ix p (n := 8) (by omega) with h | h | ⟨j, hj, rfl⟩
  · refine br_t h (h0 ?_)
    rintro ⟨k, hk, rfl, _⟩
    exact nI_pos (by omega) h
  · refine br_f (fun z => absurd (Int32.lt_of_le_of_lt h z) (by decide)) (br_t h (h0 ?_))
    rintro ⟨k, hk, rfl, _⟩
    exact nI_ge hk (by decide) h
  · dsimp only
    rw [nI_clamp (by omega)]
    refine br_f (nI_pos (by omega)) (br_f (nI_ge (b := 8) hj (by decide)) ⟨vp_in_nI hj (by omega), br_c (fun e => h0 ?_) (fun e => h1 ⟨j, hj, rfl, e⟩)⟩)
    rintro ⟨k, hk, e', ne⟩
    rw [nI_eq (by omega) (by omega)] at e'
    subst e'
    exact ne e
theorem rd_f0 {G : Nat → Nat → Int32} (hG : pr_GI G) {k : Nat} (hk : k < 8) : G 0 k ≤ 0 ↔ G 0 k = 0 := by
  rcases (hG k hk).1 with e | e | e <;> rw [e] <;> decide
theorem rd_isY {n : Nat} {G : Nat → Nat → Int32} {ls : Int32} {D : pr_D} {U LI OP : Nat → Int32} {post : Int32 → Prop} {p : Int32} (hG : pr_GI G) (h1 : rd_vR G p → post 1) (h0 : ¬ rd_vR G p → post 0) : wpY_is post (st_Y n ls G D U LI OP) p := by
  unfold wpY_is
  rcases pk_ix p (n := 8) (by omega) with h | h | ⟨j, hj, rfl⟩
  · refine br_t h (h0 ?_)
    rintro ⟨k, hk, rfl, _⟩
    exact nI_pos (by omega) h
  · refine br_f (fun z => absurd (Int32.lt_of_le_of_lt h z) (by decide)) (br_t h (h0 ?_))
    rintro ⟨k, hk, rfl, _⟩
    exact nI_ge hk (by decide) h
  · dsimp only
    rw [nI_clamp (by omega), rd_f0 hG hj]
    refine br_f (nI_pos (by omega)) (br_f (nI_ge (b := 8) hj (by decide)) ⟨vp_in_nI hj (by omega), br_c (fun e => h0 ?_) (fun e => h1 ⟨j, hj, rfl, e⟩)⟩)
    rintro ⟨k, hk, e', ne⟩
    rw [nI_eq (by omega) (by omega)] at e'
    subst e'
    exact ne e
/-- the grammar with rule k new -/
def rd_put (G : Nat → Nat → Int32) (k : Nat) (x1 x2 x3 x4 x5 : Int32) : Nat → Nat → Int32
  | 0 => upd (G 0) k x1
  | 1 => upd (G 1) k x2
  | 2 => upd (G 2) k x3
  | 3 => upd (G 3) k x4
  | 4 => upd (G 4) k x5
  | f => G f
theorem rd_put_GI {G : Nat → Nat → Int32} (hG : pr_GI G) (k : Nat) {x1 x2 x3 x4 x5 : Int32} (h1 : x1 = 0 ∨ x1 = 1 ∨ x1 = 2) (h2 : rd_vS x2) (h3 : rd_vS x3) (h4 : rd_vS x4) (h5 : rd_vC x5) : pr_GI (rd_put G k x1 x2 x3 x4 x5) := by
  intro q hq
  show (upd (G 0) k x1 q = 0 ∨ upd (G 0) k x1 q = 1 ∨ upd (G 0) k x1 q = 2) ∧ (∃ s, s < 3 ∧ upd (G 1) k x2 q = nI s) ∧ (∃ s, s < 3 ∧ upd (G 2) k x3 q = nI s) ∧ (∃ s, s < 3 ∧ upd (G 3) k x4 q = nI s) ∧ (∃ s, s ≤ 50 ∧ upd (G 4) k x5 q = nI s)
  by_cases e : q = k
  · subst e
    rw [pk_us, pk_us, pk_us, pk_us, pk_us]
    exact ⟨h1, h2, h3, h4, h5⟩
  · rw [pk_un e, pk_un e, pk_un e, pk_un e, pk_un e]
    exact hG q hq
theorem rd_add (n : Nat) (G : Nat → Nat → Int32) (D : pr_D) (W BL WC : Nat → Int32) (ls : Int32) (D' : pr_D) (U LI OP : Nat → Int32) (hG : pr_GI G) (x1 x2 x3 x4 x5 : Int32) (h1 : x1 = 0 ∨ x1 = 1 ∨ x1 = 2) (h2 : rd_vS x2) (h3 : rd_vS x3) (h4 : rd_vS x4) (h5 : rd_vC x5) :
    ∀ d k, k + d = 8 → ∃ r G', pr_GI G' ∧ (∀ post : Int32 → SX → Prop, post r (st_X n G' D W BL WC) → wX_addRule_3 post x1 x2 x3 x4 x5 (nI n) (G 0) (G 1) (G 2) (G 3) (G 4) (G 5) D.1 D.2.1 D.2.2.1 D.2.2.2 W BL WC (d + 1) (nI k)) ∧ (∀ post : Int32 → SY → Prop, post r (st_Y n ls G' D' U LI OP) → wY_add_3 post x1 x2 x3 x4 x5 (nI n) ls (G 0) (G 1) (G 2) (G 3) (G 4) (G 5) D'.2.1 D'.1 U LI OP (d + 1) (nI k)) := by
  intro d
  induction d with
  | zero =>
    intro k hk
    have h : (8 : Int32) ≤ nI k := nI_le (a := 8) (by omega) (by omega)
    exact ⟨-2, G, hG, fun _ hp => br_t h hp, fun _ hp => br_t h hp⟩
  | succ d ih =>
    intro k hk
    have h : ¬ (8 : Int32) ≤ nI k := nI_ge (b := 8) (by omega) (by decide)
    have v : vp_in (nI k) 8 := vp_in_nI (by omega) (by omega)
    have c : (nI k).toNatClampNeg = k := nI_clamp (by omega)
    by_cases z : G 0 k = 0
    · refine ⟨nI k, rd_put G k x1 x2 x3 x4 x5, rd_put_GI hG k h1 h2 h3 h4 h5, fun post hp => ?_, fun post hp => ?_⟩
      · rw [wX_addRule_3]
        dsimp only
        rw [c]
        exact br_f h ⟨v, br_t z ⟨v, nm_e ⟨v, nm_e ⟨v, nm_e ⟨v, nm_e ⟨v, nm_e hp⟩⟩⟩⟩⟩⟩
      · rw [wY_add_3]
        dsimp only
        rw [c]
        exact br_f h ⟨v, br_t z ⟨v, nm_e ⟨v, nm_e ⟨v, nm_e ⟨v, nm_e ⟨v, nm_e hp⟩⟩⟩⟩⟩⟩
    · obtain ⟨r, G', g, hX, hY⟩ := ih (k + 1) (by omega)
      refine ⟨r, G', g, fun post hp => ?_, fun post hp => ?_⟩
      · rw [wX_addRule_3]
        dsimp only
        rw [c]
        exact br_f h ⟨v, br_f z (nm_r (nI_1 k) (hX post hp))⟩
      · rw [wY_add_3]
        dsimp only
        rw [c]
        exact br_f h ⟨v, br_f z (nm_r (nI_1 k) (hY post hp))⟩
theorem i_vc_word {k : Nat} {u : SX} {v : SY} (I : i_Rel k u v) (hk : k + 5 ≤ 2560) (v1 : Int32) (v2 : Int32) (v3 : Int32) : wpX_word (fun r u' => wpY_word (fun r' v' => r' = r ∧ i_Rel (k + 5) u' v') v v1 v2 v3) u v1 v2 v3 := by
  obtain ⟨n, G, D, W, BL, WC, ls, D', U, LI, OP, hn, hG, rfl, rfl⟩ := I
  unfold wpX_word wpY_word
  dsimp only
  refine rd_sym (fun s1 => br_f (by decide) (rd_wrd (fun s2 => br_f (by decide) (rd_cst (fun s3 => br_f (by decide) ?_) (fun s3 => br_t rfl ?_))) (fun s2 => br_t rfl ?_))) (fun s1 => br_t rfl ?_)
  · obtain ⟨r, G', g, hX, hY⟩ := rd_add n G D W BL WC ls D' U LI OP hG 2 v1 v2 0 v3 (Or.inr (Or.inr rfl)) s1 s2 ⟨0, by omega, rfl⟩ s3 8 0 (by omega)
    refine ⟨9, hX _ ?_⟩
    refine rd_ySym (fun _ => rd_ySym (fun _ => rd_yCst (fun _ => ⟨9, hY _ ⟨rfl, rd_mk hn g⟩⟩) (fun z => absurd s3 z)) (fun z => absurd s2 z)) (fun z => absurd s1 z)
  · exact rd_ySym (fun _ => rd_ySym (fun _ => rd_yCst (fun z => absurd z s3) (fun z => ⟨rfl, rd_mk hn hG⟩)) (fun z => absurd s2 z)) (fun z => absurd s1 z)
  · exact rd_ySym (fun _ => rd_ySym (fun z => absurd z s2) (fun z => ⟨rfl, rd_mk hn hG⟩)) (fun z => absurd s1 z)
  · exact rd_ySym (fun z => absurd z s1) (fun z => ⟨rfl, rd_mk hn hG⟩)
theorem rd_a3 {A B : Prop} {x : Int32} (h1 : rd_vS (x &&& 3) → B) (h0 : ¬ rd_vS (x &&& 3) → A) : (2 < x &&& 3 → A) ∧ (¬ 2 < x &&& 3 → B) := by
  obtain ⟨j, hj, e⟩ := pk_andE x (m := 3) 2 (by decide)
  rw [e] at h1 h0 ⊢
  exact br_c (fun a => h0 (fun z => (rd_S0 z).2.2 a)) (fun a => h1 (rd_S3 (nI_pos (by omega)) (rd_23 a)))
theorem i_vc_pair {k : Nat} {u : SX} {v : SY} (I : i_Rel k u v) (hk : k + 5 ≤ 2560) (v1 : Int32) (v2 : Int32) : wpX_pair (fun r u' => wpY_pair (fun r' v' => r' = r ∧ i_Rel (k + 5) u' v') v v1 v2) u v1 v2 := by
  obtain ⟨n, G, D, W, BL, WC, ls, D', U, LI, OP, hn, hG, rfl, rfl⟩ := I
  unfold wpX_pair wpY_pair
  dsimp only
  generalize v1 >>> ((4 : Int32) &&& 31) = c
  generalize v1 >>> ((2 : Int32) &&& 31) = b
  refine nm_e (nm_e (nm_e ?_))
  refine rd_sym (fun s1 => br_f (by decide) (rd_sym (fun s2 => br_f (by decide) (rd_sym (fun s3 => br_f (by decide) (rd_cst (fun s4 => br_f (by decide) ?_) (fun s4 => br_t rfl ?_))) (fun s3 => br_t rfl ?_))) (fun s2 => br_t rfl ?_))) (fun s1 => br_t rfl ?_)
  · obtain ⟨r, G', g, hX, hY⟩ := rd_add n G D W BL WC ls D' U LI OP hG 1 (v1 &&& 3) (b &&& 3) c v2 (Or.inr (Or.inl rfl)) s1 s2 s3 s4 8 0 (by omega)
    refine ⟨9, hX _ ?_⟩
    refine nm_e (nm_e (nm_e ?_))
    exact rd_a3 (fun _ => rd_a3 (fun _ => rd_ySym (fun _ => rd_yCst (fun _ => ⟨9, hY _ ⟨rfl, rd_mk hn g⟩⟩) (fun z => absurd s4 z)) (fun z => absurd s3 z)) (fun z => absurd s2 z)) (fun z => absurd s1 z)
  · refine nm_e (nm_e (nm_e ?_))
    exact rd_a3 (fun _ => rd_a3 (fun _ => rd_ySym (fun _ => rd_yCst (fun z => absurd z s4) (fun z => ⟨rfl, rd_mk hn hG⟩)) (fun z => absurd s3 z)) (fun z => absurd s2 z)) (fun z => absurd s1 z)
  · refine nm_e (nm_e (nm_e ?_))
    exact rd_a3 (fun _ => rd_a3 (fun _ => rd_ySym (fun z => absurd z s3) (fun z => ⟨rfl, rd_mk hn hG⟩)) (fun z => absurd s2 z)) (fun z => absurd s1 z)
  · refine nm_e (nm_e (nm_e ?_))
    exact rd_a3 (fun _ => rd_a3 (fun z => absurd z s2) (fun z => ⟨rfl, rd_mk hn hG⟩)) (fun z => absurd s1 z)
  · refine nm_e (nm_e (nm_e ?_))
    exact rd_a3 (fun z => absurd z s1) (fun z => ⟨rfl, rd_mk hn hG⟩)
/-- the grammar with one field new -/
def rd_set (G : Nat → Nat → Int32) (f0 : Nat) (g : Nat → Int32) : Nat → Nat → Int32 := fun f => if f = f0 then g else G f
theorem i_vc_drop {k : Nat} {u : SX} {v : SY} (I : i_Rel k u v) (hk : k + 5 ≤ 2560) (v1 : Int32) : wpX_drop (fun r u' => wpY_drop (fun r' v' => r' = r ∧ i_Rel (k + 5) u' v') v v1) u v1 := by
  obtain ⟨n, G, D, W, BL, WC, ls, D', U, LI, OP, hn, hG, rfl, rfl⟩ := I
  unfold wpX_drop wpY_drop
  dsimp only
  refine rd_isX (fun s => br_f (by decide) ?_) (fun s => br_t rfl ?_)
  · have s' := s
    obtain ⟨j, hj, rfl, _⟩ := s'
    refine ⟨vp_in_nI hj (by omega), nm_e ?_⟩
    refine rd_isY hG (fun _ => br_f (by decide) ⟨vp_in_nI hj (by omega), nm_e ⟨rfl, ?_⟩⟩) (fun z => absurd s z)
    have g : pr_GI (rd_set G 0 (upd (G 0) (nI j).toNatClampNeg 0)) := by
      intro q hq
      show (upd (G 0) (nI j).toNatClampNeg 0 q = 0 ∨ upd (G 0) (nI j).toNatClampNeg 0 q = 1 ∨ upd (G 0) (nI j).toNatClampNeg 0 q = 2) ∧ _
      refine ⟨?_, (hG q hq).2⟩
      by_cases e : q = (nI j).toNatClampNeg
      · rw [e, pk_us]; exact Or.inl rfl
      · rw [pk_un e]; exact (hG q hq).1
    exact ⟨n, rd_set G 0 (upd (G 0) (nI j).toNatClampNeg 0), D, W, BL, WC, ls, D', U, LI, OP, hn, g, rfl, rfl⟩
  · exact rd_isY hG (fun z => absurd z s) (fun _ => br_t rfl ⟨rfl, rd_mk hn hG⟩)
theorem i_vc_price {k : Nat} {u : SX} {v : SY} (I : i_Rel k u v) (hk : k + 5 ≤ 2560) (v1 : Int32) (v2 : Int32) : wpX_price (fun r u' => wpY_price (fun r' v' => r' = r ∧ i_Rel (k + 5) u' v') v v1 v2) u v1 v2 := by
  obtain ⟨n, G, D, W, BL, WC, ls, D', U, LI, OP, hn, hG, rfl, rfl⟩ := I
  unfold wpX_price wpY_price
  dsimp only
  refine rd_isX (fun s => br_f (by decide) (rd_cst (fun t => br_f (by decide) ?_) (fun t => br_t rfl ?_))) (fun s => br_t rfl ?_)
  · have s' := s
    obtain ⟨j, hj, rfl, _⟩ := s'
    refine ⟨vp_in_nI hj (by omega), nm_e ?_⟩
    refine rd_isY hG (fun _ => br_f (by decide) (rd_yCst (fun _ => ⟨vp_in_nI hj (by omega), nm_e ⟨rfl, ?_⟩⟩) (fun z => absurd t z))) (fun z => absurd s z)
    have g : pr_GI (rd_set G 4 (upd (G 4) (nI j).toNatClampNeg v2)) := by
      intro q hq
      refine ⟨(hG q hq).1, (hG q hq).2.1, (hG q hq).2.2.1, (hG q hq).2.2.2.1, ?_⟩
      show ∃ s, s ≤ 50 ∧ upd (G 4) (nI j).toNatClampNeg v2 q = nI s
      by_cases e : q = (nI j).toNatClampNeg
      · rw [e, pk_us]; exact t
      · rw [pk_un e]; exact (hG q hq).2.2.2.2
    exact ⟨n, rd_set G 4 (upd (G 4) (nI j).toNatClampNeg v2), D, W, BL, WC, ls, D', U, LI, OP, hn, g, rfl, rfl⟩
  · exact rd_isY hG (fun _ => br_f (by decide) (rd_yCst (fun z => absurd z t) (fun _ => ⟨rfl, rd_mk hn hG⟩))) (fun z => absurd s z)
  · exact rd_isY hG (fun z => absurd z s) (fun _ => br_t rfl ⟨rfl, rd_mk hn hG⟩)
end
section
/-! rules, say, unsay, length; then the questions that read the chart alone -/
theorem rd_rules (n : Nat) (G : Nat → Nat → Int32) (D : pr_D) (W BL WC : Nat → Int32) (ls : Int32) (D' : pr_D) (U LI OP : Nat → Int32) (hG : pr_GI G) :
    ∀ d k, k + d = 8 → ∀ x : Int32, ∃ r, (∀ post : Int32 → Prop, post r → wX_rules_4 post (nI n) (G 0) (G 1) (G 2) (G 3) (G 4) (G 5) D.1 D.2.1 D.2.2.1 D.2.2.2 W BL WC (d + 1) x (nI k)) ∧ (∀ post : Int32 → Prop, post r → wY_rules_4 post (nI n) ls (G 0) (G 1) (G 2) (G 3) (G 4) (G 5) D'.2.1 D'.1 U LI OP (d + 1) x (nI k)) := by
  intro d
  induction d with
  | zero =>
    intro k hk x
    have h : (8 : Int32) ≤ nI k := nI_le (a := 8) (by omega) (by omega)
    exact ⟨x, fun _ hp => br_t h hp, fun _ hp => br_t h hp⟩
  | succ d ih =>
    intro k hk x
    have h : ¬ (8 : Int32) ≤ nI k := nI_ge (b := 8) (by omega) (by decide)
    have v : vp_in (nI k) 8 := vp_in_nI (by omega) (by omega)
    have c : (nI k).toNatClampNeg = k := nI_clamp (by omega)
    by_cases z : G 0 k = 0
    · obtain ⟨r, hX, hY⟩ := ih (k + 1) (by omega) x
      refine ⟨r, fun post hp => ?_, fun post hp => ?_⟩
      · rw [wX_rules_4]
        dsimp only
        rw [c]
        exact br_f h ⟨v, br_t z (nm_r (nI_1 k) (hX post hp))⟩
      · rw [wY_rules_4]
        refine br_f h (rd_isY hG (fun w => ?_) (fun _ => br_t rfl (nm_r (Int32.or_zero) (nm_r (nI_1 k) (hY post hp)))))
        obtain ⟨q, hq, e, ne⟩ := w
        rw [nI_eq (by omega) (by omega)] at e
        subst e
        exact absurd z ne
    · obtain ⟨r, hX, hY⟩ := ih (k + 1) (by omega) (x ||| ((1 : Int32) <<< (nI k &&& 31)))
      refine ⟨r, fun post hp => ?_, fun post hp => ?_⟩
      · rw [wX_rules_4]
        dsimp only
        rw [c]
        exact br_f h ⟨v, br_f z (nm_e (nm_r (nI_1 k) (hX post hp)))⟩
      · rw [wY_rules_4]
        exact br_f h (rd_isY hG (fun _ => br_f (by decide) (nm_e (nm_r (nI_1 k) (hY post hp)))) (fun w => absurd ⟨k, by omega, rfl, z⟩ w))
theorem i_vc_rules {k : Nat} {u : SX} {v : SY} (I : i_Rel k u v) (hk : k + 5 ≤ 2560) : wpX_rules (fun r => wpY_rules (fun r' => r' = r ∧ i_Rel (k + 5) u v) v) u := by
  have I' := I
  obtain ⟨n, G, D, W, BL, WC, ls, D', U, LI, OP, hn, hG, rfl, rfl⟩ := I'
  obtain ⟨r, hX, hY⟩ := rd_rules n G D W BL WC ls D' U LI OP hG 8 0 (by omega) 0
  exact ⟨9, hX _ ⟨9, hY _ ⟨rfl, I⟩⟩⟩
theorem i_vc_length {k : Nat} {u : SX} {v : SY} (I : i_Rel k u v) (hk : k + 5 ≤ 2560) : wpX_length (fun r => wpY_length (fun r' => r' = r ∧ i_Rel (k + 5) u v) v) u := by
  have I' := I
  obtain ⟨n, G, D, W, BL, WC, ls, D', U, LI, OP, hn, hG, rfl, rfl⟩ := I'
  exact ⟨rfl, I⟩
theorem i_vc_say {k : Nat} {u : SX} {v : SY} (I : i_Rel k u v) (hk : k + 5 ≤ 2560) (v1 : Int32) : wpX_say (fun r u' => wpY_say (fun r' v' => r' = r ∧ i_Rel (k + 5) u' v') v v1) u v1 := by
  obtain ⟨n, G, D, W, BL, WC, ls, D', U, LI, OP, hn, hG, rfl, rfl⟩ := I
  unfold wpX_say wpY_say
  dsimp only
  refine rd_wrd (fun s => br_f (by decide) ?_) (fun s => br_t rfl ?_)
  · by_cases h : n < 5
    · have h5 : nI n < 5 := nI_lt (b := 5) h (by decide)
      refine br_t h5 ⟨vp_in_nI h (by omega), nm_e (nm_r (nI_1 n) ?_)⟩
      refine rd_ySym (fun _ => br_t h5 ⟨vp_in_nI h (by omega), nm_e (nm_r (nI_1 n) ⟨rfl, ?_⟩)⟩) (fun z => absurd s z)
      have g : pr_GI (rd_set G 5 (upd (G 5) (nI n).toNatClampNeg v1)) := hG
      exact ⟨n + 1, rd_set G 5 (upd (G 5) (nI n).toNatClampNeg v1), D, W, BL, WC, ls, D', U, LI, OP, by omega, g, rfl, rfl⟩
    · have h5 : ¬ nI n < 5 := nI_nlt (b := 5) (by omega) (by omega)
      exact br_f h5 (rd_ySym (fun _ => br_f h5 ⟨rfl, rd_mk hn hG⟩) (fun z => absurd s z))
  · exact rd_ySym (fun z => absurd z s) (fun _ => ⟨rfl, rd_mk hn hG⟩)
theorem i_vc_unsay {k : Nat} {u : SX} {v : SY} (I : i_Rel k u v) (hk : k + 5 ≤ 2560) : wpX_unsay (fun r u' => wpY_unsay (fun r' v' => r' = r ∧ i_Rel (k + 5) u' v') v) u := by
  obtain ⟨n, G, D, W, BL, WC, ls, D', U, LI, OP, hn, hG, rfl, rfl⟩ := I
  unfold wpX_unsay wpY_unsay
  dsimp only
  cases n with
  | zero => exact br_f (by decide) (br_t rfl ⟨rfl, rd_mk hn hG⟩)
  | succ n =>
    refine br_t (nI_lt (a := 0) (by omega) (by omega)) (nm_r (nI_pred n) ⟨vp_in_nI (by omega) (by omega), ?_⟩)
    exact br_f (nI_ne0 (by omega) (by omega)) (nm_r (nI_pred n) ⟨vp_in_nI (by omega) (by omega), rfl, rd_mk (by omega) hG⟩)
/-! the two full charts -/
def pr_FX (n : Nat) (G : Nat → Nat → Int32) (D : pr_D) : pr_D := (pr_lX n).foldl (pr_sp G) (pr_z 90 90 D)
def pr_FY (n : Nat) (G : Nat → Nat → Int32) (D : pr_D) : pr_D := (pr_lY n).foldl (pr_sp G) (pr_z 108 108 D)
theorem xf_F (n : Nat) (G : Nat → Nat → Int32) (W BL WC : Nat → Int32) (post : SX → Prop) (hG : pr_GI G) (hn : n ≤ 5) (D : pr_D) (hp : post (st_X n G (pr_FX n G D) W BL WC)) : wpX_fillChart post (st_X n G D W BL WC) := xf_fill n G W BL WC post hG hn D hp
theorem yf_F (n : Nat) (ls : Int32) (G : Nat → Nat → Int32) (U LI OP : Nat → Int32) (post : SY → Prop) (hG : pr_GI G) (hn : n ≤ 5) (D : pr_D) (hp : post (st_Y n ls G (pr_FY n G D) U LI OP)) : wpY_work post (st_Y n ls G D U LI OP) := yf_work n ls G U LI OP post hG hn D hp
theorem pr_FX_C {n : Nat} {G : Nat → Nat → Int32} (D : pr_D) (hn : n ≤ 5) (hG : pr_GI G) : pr_C G n (pr_FX n G D) (pr_z 90 90 D) := pr_C_fold hG hn (cl_lX hn) _ (pr_z_TI 90 90 D (by omega) (by omega))
theorem pr_FY_C {n : Nat} {G : Nat → Nat → Int32} (D : pr_D) (hn : n ≤ 5) (hG : pr_GI G) : pr_C G n (pr_FY n G D) (pr_z 108 108 D) := pr_C_fold hG hn (cl_lY hn) _ (pr_z_TI 108 108 D (by omega) (by omega))
theorem pr_z0 {N c : Nat} {D : pr_D} (hc : c < 90) (hN : 90 ≤ N) : (pr_z N N D).1 c = nI 0 := by
  unfold pr_z
  dsimp only
  rw [if_pos (by omega)]
  rfl
theorem pr_FXY {n : Nat} {G : Nat → Nat → Int32} (D D' : pr_D) (hn : n ≤ 5) (hG : pr_GI G) : ∀ i j, i < j → j ≤ n → pr_Ag (i, j) (pr_FX n G D) (pr_FY n G D') := by
  refine pr_C_uniq hG hn (pr_FX_C D hn hG) (pr_FY_C D' hn hG) ?_
  intro i j hij hj a ha
  exact ⟨0, by omega, pr_z0 (pr_ce90 (by dsimp only; omega) (by dsimp only; omega) ha) (by omega), pr_z0 (pr_ce90 (by dsimp only; omega) (by dsimp only; omega) ha) (by omega), fun p hp => absurd hp (by omega), fun z => absurd rfl z⟩
def rd_vP (n : Nat) (p q : Int32) : Prop := ∃ i j, i < j ∧ j ≤ n ∧ p = nI i ∧ q = nI j
theorem rd_P3 {n : Nat} {p q : Int32} (hn : n ≤ 5) (h1 : ¬ p < 0) (h2 : ¬ q ≤ p) (h3 : ¬ nI n < q) : rd_vP n p q := by
  obtain ⟨i, hi, rfl⟩ := nI_of h1
  have hq : ¬ q < 0 := fun z => h2 (Int32.le_trans (Int32.le_of_lt z) (nI_pos' hi))
  obtain ⟨j, hj, rfl⟩ := nI_of hq
  rw [nI_leI hj hi] at h2
  rw [nI_ltI (by omega) hj] at h3
  exact ⟨i, j, by omega, by omega, rfl, rfl⟩
theorem rd_P0 {n : Nat} {p q : Int32} (hn : n ≤ 5) (h : rd_vP n p q) : ¬ p < 0 ∧ ¬ q ≤ p ∧ ¬ nI n < q := by
  obtain ⟨i, j, hij, hj, rfl, rfl⟩ := h
  exact ⟨nI_pos (by omega), nI_ge hij (by omega), nI_nlt hj (by omega)⟩
theorem rd_span {n : Nat} {G : Nat → Nat → Int32} {D : pr_D} {W BL WC : Nat → Int32} {post : Int32 → Prop} {p q : Int32} (hn : n ≤ 5) (h1 : rd_vP n p q → post 1) (h0 : ¬ rd_vP n p q → post 0) : wpX_isSpan post (st_X n G D W BL WC) p q :=
  br_c (fun a => h0 (fun z => (rd_P0 hn z).1 a)) (fun a => br_c (fun b => h0 (fun z => (rd_P0 hn z).2.1 b)) (fun b => br_c (fun c => h0 (fun z => (rd_P0 hn z).2.2 c)) (fun c => h1 (rd_P3 hn a b c))))
theorem rd_ySpan {n : Nat} {A B : Prop} {p q : Int32} (hn : n ≤ 5) (h1 : rd_vP n p q → B) (h0 : ¬ rd_vP n p q → A) : (p < 0 → A) ∧ (¬ p < 0 → ((q ≤ p → A) ∧ (¬ q ≤ p → ((nI n < q → A) ∧ (¬ nI n < q → B))))) :=
  br_c (fun a => h0 (fun z => (rd_P0 hn z).1 a)) (fun a => br_c (fun b => h0 (fun z => (rd_P0 hn z).2.1 b)) (fun b => br_c (fun c => h0 (fun z => (rd_P0 hn z).2.2 c)) (fun c => h1 (rd_P3 hn a b c))))
theorem rd_ySpan' {n : Nat} {A B : Prop} {p q : Int32} (hn : n ≤ 5) (h1 : rd_vP n p q → B) (h0 : ¬ rd_vP n p q → A) : (p < 0 → A) ∧ (¬ p < 0 → ((q ≤ p → A) ∧ (¬ q ≤ p → ((q ≤ nI n → B) ∧ (¬ q ≤ nI n → A))))) :=
  br_c (fun a => h0 (fun z => (rd_P0 hn z).1 a)) (fun a => br_c (fun b => h0 (fun z => (rd_P0 hn z).2.1 b)) (fun b => br_c (fun c => h1 (rd_P3 hn a b (Int32.not_lt.mpr c))) (fun c => h0 (fun z => c (Int32.not_lt.mp (rd_P0 hn z).2.2)))))
def rd_v8 (p : Int32) : Prop := ∃ a, a < 8 ∧ p = nI a
theorem rd_83 {p : Int32} (h0 : ¬ p < 0) (h : p < 8) : rd_v8 p := by
  rcases pk_ix p (n := 8) (by omega) with h1 | h1 | ⟨j, hj, e⟩
  · exact absurd h1 h0
  · exact absurd h (Int32.not_lt.mpr h1)
  · exact ⟨j, hj, e⟩
theorem rd_80 {p : Int32} (h : rd_v8 p) : ¬ p < 0 ∧ p < 8 ∧ p ≤ 7 := by
  obtain ⟨a, ha, rfl⟩ := h
  exact ⟨nI_pos (by omega), nI_lt (b := 8) ha (by decide), nI_le (b := 7) (by omega) (by decide)⟩
theorem rd_x8 {A B : Prop} {p : Int32} (h1 : rd_v8 p → B) (h0 : ¬ rd_v8 p → A) : (p < 0 → A) ∧ (¬ p < 0 → ((p < 8 → B) ∧ (¬ p < 8 → A))) :=
  br_c (fun a => h0 (fun z => (rd_80 z).1 a)) (fun a => br_c (fun b => h1 (rd_83 a b)) (fun b => h0 (fun z => b (rd_80 z).2.1)))
theorem rd_y8 {A B : Prop} {p : Int32} (h1 : rd_v8 p → B) (h0 : ¬ rd_v8 p → A) : (p < 0 → A) ∧ (¬ p < 0 → ((p ≤ 7 → B) ∧ (¬ p ≤ 7 → A))) :=
  br_c (fun a => h0 (fun z => (rd_80 z).1 a)) (fun a => br_c (fun b => h1 (rd_83 a (Int32.lt_of_le_of_lt b (by decide)))) (fun b => h0 (fun z => b (rd_80 z).2.2)))
theorem rd_ySpanCost (n : Nat) (ls : Int32) (G : Nat → Nat → Int32) (D' : pr_D) (U LI OP : Nat → Int32) (hn : n ≤ 5) (hG : pr_GI G) (v1 v2 v3 v4 : Int32) (post : Int32 → SY → Prop)
    (h0 : ¬ (rd_vP n v1 v2 ∧ rd_vS v3 ∧ rd_v8 v4) → post (-1) (st_Y n ls G D' U LI OP)) (h1 : ∀ i j a r, i < j → j ≤ n → a < 3 → r < 8 → v1 = nI i → v2 = nI j → v3 = nI a → v4 = nI r → post (if (pr_FY n G D').1 (pr_ce i j a) ≤ nI r then -1 else (pr_FY n G D').2.1 (8 * pr_ce i j a + r)) (st_Y n ls G (pr_FY n G D') U LI OP)) : wpY_spanCost post (st_Y n ls G D' U LI OP) v1 v2 v3 v4 := by
  unfold wpY_spanCost
  dsimp only
  refine rd_ySpan hn (fun s1 => rd_ySym (fun s2 => rd_y8 (fun s3 => ?_) (fun z => h0 (fun y => z y.2.2))) (fun z => h0 (fun y => z y.2.1))) (fun z => h0 (fun y => z y.1))
  obtain ⟨i, j, hij, hj, rfl, rfl⟩ := s1
  obtain ⟨a, ha, rfl⟩ := s2
  obtain ⟨r, hr, rfl⟩ := s3
  refine yf_F n ls G U LI OP _ hG hn D' ?_
  unfold wpY_cell
  dsimp only
  have hc := pr_ce90 (i := i) (j := j) (a := a) (by omega) (by omega) ha
  have h1' := h1 i j a r hij hj ha hr rfl rfl rfl rfl
  rw [ce_Y, ce_S, nI_clamp (n := pr_ce i j a) (by omega), nI_clamp (n := 8 * pr_ce i j a + r) (by omega)]
  refine ⟨vp_in_nI (by omega) (by omega), br_c (fun z => ?_) (fun z => ⟨vp_in_nI (by omega) (by omega), ?_⟩)⟩
  · rw [if_pos z] at h1'; exact h1'
  · rw [if_neg z] at h1'; exact h1'
theorem rd_xSpanCost (n : Nat) (G : Nat → Nat → Int32) (D : pr_D) (W BL WC : Nat → Int32) (hn : n ≤ 5) (hG : pr_GI G) (v1 v2 v3 v4 : Int32) (post : Int32 → SX → Prop)
    (h0 : ¬ (rd_vP n v1 v2 ∧ rd_vS v3 ∧ rd_v8 v4) → post (-1) (st_X n G D W BL WC)) (h1 : ∀ i j a r, i < j → j ≤ n → a < 3 → r < 8 → v1 = nI i → v2 = nI j → v3 = nI a → v4 = nI r → post (if (pr_FX n G D).1 (pr_ce i j a) ≤ nI r then -1 else (pr_FX n G D).2.1 (8 * pr_ce i j a + r)) (st_X n G (pr_FX n G D) W BL WC)) : wpX_spanCost post (st_X n G D W BL WC) v1 v2 v3 v4 := by
  unfold wpX_spanCost
  dsimp only
  refine rd_span hn (fun s1 => br_f (by decide) (rd_sym (fun s2 => br_f (by decide) (rd_x8 (fun s3 => ?_) (fun z => h0 (fun y => z y.2.2)))) (fun z => br_t rfl (h0 (fun y => z y.2.1))))) (fun z => br_t rfl (h0 (fun y => z y.1)))
  obtain ⟨i, j, hij, hj, rfl, rfl⟩ := s1
  obtain ⟨a, ha, rfl⟩ := s2
  obtain ⟨r, hr, rfl⟩ := s3
  refine xf_F n G W BL WC _ hG hn D ?_
  unfold wpX_cellOf
  dsimp only
  have hc := pr_ce90 (i := i) (j := j) (a := a) (by omega) (by omega) ha
  have h1' := h1 i j a r hij hj ha hr rfl rfl rfl rfl
  rw [ce_X, ce_R, nI_clamp (n := pr_ce i j a) (by omega), nI_clamp (n := 8 * pr_ce i j a + r) (by omega)]
  refine ⟨vp_in_nI (by omega) (by omega), br_c (fun z => ?_) (fun z => ⟨vp_in_nI (by omega) (by omega), ?_⟩)⟩
  · rw [if_pos z] at h1'; exact h1'
  · rw [if_neg z] at h1'; exact h1'
theorem rd_same {c r : Nat} {E E' : pr_D} (h : pr_ag c E E') (hr : r < 8) : (if E.1 c ≤ nI r then -1 else E.2.1 (8 * c + r)) = (if E'.1 c ≤ nI r then -1 else E'.2.1 (8 * c + r)) := by
  obtain ⟨t, ht, e1, e2, e3, _⟩ := h
  rw [e1, e2]
  by_cases z : nI t ≤ nI r
  · rw [if_pos z, if_pos z]
  · rw [if_neg z, if_neg z]
    rw [nI_leI (by omega) (by omega)] at z
    exact e3 r (by omega)
theorem rd_spanCost {k n : Nat} {G : Nat → Nat → Int32} {D : pr_D} {W BL WC : Nat → Int32} {ls : Int32} {D' : pr_D} {U LI OP : Nat → Int32} (hn : n ≤ 5) (hG : pr_GI G) (v1 v2 v3 v4 : Int32) : wpX_spanCost (fun r u' => wpY_spanCost (fun r' v' => r' = r ∧ i_Rel k u' v') (st_Y n ls G D' U LI OP) v1 v2 v3 v4) (st_X n G D W BL WC) v1 v2 v3 v4 := by
  refine rd_xSpanCost n G D W BL WC hn hG v1 v2 v3 v4 _ (fun z => ?_) (fun i j a r hij hj ha hr e1 e2 e3 e4 => ?_)
  · refine rd_ySpanCost n ls G D' U LI OP hn hG v1 v2 v3 v4 _ (fun _ => ⟨rfl, rd_mk hn hG⟩) (fun i j a r hij hj ha hr e1 e2 e3 e4 => ?_)
    exact absurd ⟨⟨i, j, hij, hj, e1, e2⟩, ⟨a, ha, e3⟩, ⟨r, hr, e4⟩⟩ z
  · refine rd_ySpanCost n ls G D' U LI OP hn hG v1 v2 v3 v4 _ (fun z => absurd ⟨⟨i, j, hij, hj, e1, e2⟩, ⟨a, ha, e3⟩, ⟨r, hr, e4⟩⟩ z) (fun i' j' a' r' hij' hj' ha' hr' f1 f2 f3 f4 => ?_)
    rw [e1, nI_eq (by omega) (by omega)] at f1
    rw [e2, nI_eq (by omega) (by omega)] at f2
    rw [e3, nI_eq (by omega) (by omega)] at f3
    rw [e4, nI_eq (by omega) (by omega)] at f4
    subst f1 f2 f3 f4
    exact ⟨(rd_same (pr_FXY D D' hn hG i j hij hj a ha) hr).symm, rd_mk hn hG⟩
theorem i_vc_spanCost {k : Nat} {u : SX} {v : SY} (I : i_Rel k u v) (hk : k + 5 ≤ 2560) (v1 : Int32) (v2 : Int32) (v3 : Int32) (v4 : Int32) : wpX_spanCost (fun r u' => wpY_spanCost (fun r' v' => r' = r ∧ i_Rel (k + 5) u' v') v v1 v2 v3 v4) u v1 v2 v3 v4 := by
  obtain ⟨n, G, D, W, BL, WC, ls, D', U, LI, OP, hn, hG, rfl, rfl⟩ := I
  exact rd_spanCost hn hG v1 v2 v3 v4
theorem i_vc_cost {k : Nat} {u : SX} {v : SY} (I : i_Rel k u v) (hk : k + 5 ≤ 2560) (v1 : Int32) (v2 : Int32) : wpX_cost (fun r u' => wpY_cost (fun r' v' => r' = r ∧ i_Rel (k + 5) u' v') v v1 v2) u v1 v2 := by
  obtain ⟨n, G, D, W, BL, WC, ls, D', U, LI, OP, hn, hG, rfl, rfl⟩ := I
  unfold wpX_cost wpY_cost
  exact rd_spanCost hn hG 0 (nI n) v1 v2
theorem rd_yTrees (n : Nat) (ls : Int32) (G : Nat → Nat → Int32) (D' : pr_D) (U LI OP : Nat → Int32) (hn : n ≤ 5) (hG : pr_GI G) (v1 : Int32) (post : Int32 → SY → Prop)
    (h0 : ¬ (rd_vS v1 ∧ 0 < n) → post 0 (st_Y n ls G (pr_FY n G D') U LI OP)) (h1 : ∀ a, a < 3 → 0 < n → v1 = nI a → post ((pr_FY n G D').1 (pr_ce 0 n a)) (st_Y n ls G (pr_FY n G D') U LI OP)) : wpY_trees post (st_Y n ls G D' U LI OP) v1 := by
  unfold wpY_trees
  refine yf_F n ls G U LI OP _ hG hn D' ?_
  unfold wpY_whole wpY_cell
  dsimp only
  refine rd_ySym (fun s => ?_) (fun s => br_t rfl (h0 (fun z => s z.1)))
  by_cases hz : n = 0
  · subst hz
    exact br_t (by decide) (br_t rfl (h0 (fun z => absurd z.2 (by omega))))
  · obtain ⟨a, ha, rfl⟩ := s
    have hc := pr_ce90 (i := 0) (j := n) (a := a) (by omega) (by omega) ha
    have e : 18 * (0 : Int32) + 3 * nI n + nI a = nI (pr_ce 0 n a) := ce_Y 0 n a
    rw [e, nI_clamp (n := pr_ce 0 n a) (by omega)]
    exact br_f (nI_nle (by omega) (by omega)) (br_f (by decide) ⟨vp_in_nI (by omega) (by omega), h1 a ha (by omega) rfl⟩)
theorem i_vc_trees {k : Nat} {u : SX} {v : SY} (I : i_Rel k u v) (hk : k + 5 ≤ 2560) (v1 : Int32) : wpX_trees (fun r u' => wpY_trees (fun r' v' => r' = r ∧ i_Rel (k + 5) u' v') v v1) u v1 := by
  obtain ⟨n, G, D, W, BL, WC, ls, D', U, LI, OP, hn, hG, rfl, rfl⟩ := I
  unfold wpX_trees
  dsimp only
  refine rd_sym (fun s => br_f (by decide) ?_) (fun s => br_t rfl ?_)
  · by_cases hz : n = 0
    · subst hz
      refine br_t (by decide) (rd_yTrees 0 ls G D' U LI OP hn hG v1 _ (fun _ => ⟨rfl, rd_mk hn hG⟩) (fun a ha h _ => absurd h (by omega)))
    · refine br_f (nI_ne0 (by omega) (by omega)) ?_
      obtain ⟨a, ha, rfl⟩ := s
      refine xf_F n G W BL WC _ hG hn D ?_
      unfold wpX_cellOf
      dsimp only
      have hc := pr_ce90 (i := 0) (j := n) (a := a) (by omega) (by omega) ha
      have e : ((0 : Int32) * 6 + nI n) * 3 + nI a = nI (pr_ce 0 n a) := ce_X 0 n a
      rw [e, nI_clamp (n := pr_ce 0 n a) (by omega)]
      refine ⟨vp_in_nI (by omega) (by omega), rd_yTrees n ls G D' U LI OP hn hG (nI a) _ (fun z => absurd ⟨⟨a, ha, rfl⟩, by omega⟩ z) (fun a' ha' _ e' => ?_)⟩
      rw [nI_eq (by omega) (by omega)] at e'
      subst e'
      exact ⟨(pr_ag_t (pr_FXY D D' hn hG 0 n (by omega) (by omega) a ha)).symm, rd_mk hn hG⟩
  · exact rd_yTrees n ls G D' U LI OP hn hG v1 _ (fun _ => ⟨rfl, rd_mk hn hG⟩) (fun a ha h e => absurd ⟨a, ha, e⟩ s)
theorem rd_syms (n : Nat) (G : Nat → Nat → Int32) (E : pr_D) (W BL WC : Nat → Int32) (ls : Int32) (E' : pr_D) (U LI OP : Nat → Int32) (i j : Nat) (hi : i < 5) (hj : j ≤ 5) (hA : pr_Ag (i, j) E E') :
    ∀ d a, a + d = 3 → ∀ x : Int32, ∃ r, (∀ post : Int32 → SX → Prop, post r (st_X n G E W BL WC) → wX_symbols_20 post (nI i) (nI j) (nI n) (G 0) (G 1) (G 2) (G 3) (G 4) (G 5) E.1 E.2.1 E.2.2.1 E.2.2.2 W BL WC (d + 1) x (nI a)) ∧ (∀ post : Int32 → SY → Prop, post r (st_Y n ls G E' U LI OP) → wY_symbols_28 post (nI i) (nI j) (nI n) ls (G 0) (G 1) (G 2) (G 3) (G 4) (G 5) E'.2.1 E'.1 U LI OP (d + 1) x (nI a)) := by
  intro d
  induction d with
  | zero =>
    intro a ha x
    have h : (3 : Int32) ≤ nI a := nI_le (a := 3) (by omega) (by omega)
    exact ⟨x, fun _ hp => br_t h hp, fun _ hp => br_t h hp⟩
  | succ d ih =>
    intro a ha x
    have h : ¬ (3 : Int32) ≤ nI a := nI_ge (b := 3) (by omega) (by decide)
    have hc := pr_ce90 (i := i) (j := j) (a := a) hi hj (by omega)
    have c : (nI (pr_ce i j a)).toNatClampNeg = pr_ce i j a := nI_clamp (by omega)
    have eA : E.1 (pr_ce i j a) = E'.1 (pr_ce i j a) := pr_ag_t (hA a (by omega))
    by_cases z : E.1 (pr_ce i j a) ≤ 0
    · obtain ⟨r, hX, hY⟩ := ih (a + 1) (by omega) x
      refine ⟨r, fun post hp => ?_, fun post hp => ?_⟩
      · rw [wX_symbols_20]
        unfold wpX_cellOf
        dsimp only
        rw [ce_X, c]
        exact br_f h ⟨vp_in_nI (by omega) (by omega), br_t z (nm_r (nI_1 a) (hX post hp))⟩
      · rw [wY_symbols_28]
        unfold wpY_cell
        dsimp only
        rw [ce_Y, c, ← eA]
        exact br_f h ⟨vp_in_nI (by omega) (by omega), br_t z (nm_r Int32.or_zero (nm_r (nI_1 a) (hY post hp)))⟩
    · obtain ⟨r, hX, hY⟩ := ih (a + 1) (by omega) (x ||| ((1 : Int32) <<< (nI a &&& 31)))
      refine ⟨r, fun post hp => ?_, fun post hp => ?_⟩
      · rw [wX_symbols_20]
        unfold wpX_cellOf
        dsimp only
        rw [ce_X, c]
        exact br_f h ⟨vp_in_nI (by omega) (by omega), br_f z (nm_e (nm_r (nI_1 a) (hX post hp)))⟩
      · rw [wY_symbols_28]
        unfold wpY_cell
        dsimp only
        rw [ce_Y, c, ← eA]
        exact br_f h ⟨vp_in_nI (by omega) (by omega), br_f z (nm_e (nm_r (nI_1 a) (hY post hp)))⟩
theorem i_vc_symbols {k : Nat} {u : SX} {v : SY} (I : i_Rel k u v) (hk : k + 5 ≤ 2560) (v1 : Int32) (v2 : Int32) : wpX_symbols (fun r u' => wpY_symbols (fun r' v' => r' = r ∧ i_Rel (k + 5) u' v') v v1 v2) u v1 v2 := by
  obtain ⟨n, G, D, W, BL, WC, ls, D', U, LI, OP, hn, hG, rfl, rfl⟩ := I
  unfold wpX_symbols wpY_symbols
  dsimp only
  refine rd_span hn (fun s => br_f (by decide) ?_) (fun s => br_t rfl ?_)
  · refine xf_F n G W BL WC _ hG hn D ?_
    have s' := s
    obtain ⟨i, j, hij, hj, rfl, rfl⟩ := s'
    obtain ⟨r, hX, hY⟩ := rd_syms n G (pr_FX n G D) W BL WC ls (pr_FY n G D') U LI OP i j (by omega) (by omega) (pr_FXY D D' hn hG i j hij hj) 3 0 (by omega) 0
    refine ⟨4, hX _ ?_⟩
    refine rd_ySpan' hn (fun _ => ?_) (fun z => absurd s z)
    exact yf_F n ls G U LI OP _ hG hn D' ⟨4, hY _ ⟨rfl, rd_mk hn hG⟩⟩
  · exact rd_ySpan' hn (fun z => absurd z s) (fun _ => ⟨rfl, rd_mk hn hG⟩)
end
section
/-! what a filled chart holds: costs in their bounds, the least one first, the best rule and split the first that reach it -/
def pr_Q (w : Nat) (y : Int32) : Prop := 0 ≤ y.toInt ∧ y.toInt + 50 ≤ 100 * (w : Int)
def pr_Gd (w c : Nat) (D : pr_D) : Prop := ∃ t, t ≤ 8 ∧ D.1 c = nI t ∧ ∀ p, p < t → pr_Q w (D.2.1 (8 * c + p)) ∧ D.2.1 (8 * c) ≤ D.2.1 (8 * c + p)
theorem pr_sh_good (Q : Int32 → Prop) (k : Nat) (R : Nat → Int32) (b : Nat) (x : Int32) (hR : ∀ p, p < k → Q (R (b + p)) ∧ R b ≤ R (b + p)) (hx : Q x) :
    (∀ p, p < k + 1 → Q (pr_sh k R b x (b + p)) ∧ pr_sh k R b x b ≤ pr_sh k R b x (b + p)) ∧ (k = 0 ∨ x < R b → pr_sh k R b x b = x) ∧ (¬ (k = 0 ∨ x < R b) → pr_sh k R b x b = R b) := by
  obtain ⟨m, hm, h1, h2, h3, h4, h5, h6⟩ := pr_sh_spec k R b x
  by_cases z : m = 0
  · subst z
    simp only [Nat.add_zero] at h2
    have hd : k = 0 ∨ x < R b := by
      by_cases k0 : k = 0
      · exact Or.inl k0
      · exact Or.inr (Int32.not_le.mp (h6 0 (by omega) (by omega)))
    refine ⟨fun p hp => ?_, fun _ => h2, fun n => absurd hd n⟩
    by_cases p0 : p = 0
    · subst p0
      rw [Nat.add_zero, h2]
      exact ⟨hx, Int32.le_refl x⟩
    · rw [h3 (b + p) (by omega) (by omega), h2, show b + p - 1 = b + (p - 1) by omega]
      exact ⟨(hR (p - 1) (by omega)).1, Int32.le_of_lt (Int32.not_le.mp (h6 (p - 1) (by omega) (by omega)))⟩
  · have e0 : pr_sh k R b x b = R b := h1 b (by omega)
    have hle : R b ≤ x := by
      have a := h5 (by omega)
      have c := (hR (m - 1) (by omega)).2
      rw [show b + (m - 1) = b + m - 1 by omega] at c
      exact Int32.le_trans c a
    have hd : ¬ (k = 0 ∨ x < R b) := by
      rintro (a | a)
      · omega
      · exact absurd hle (Int32.not_le.mpr a)
    refine ⟨fun p hp => ?_, fun n => absurd n hd, fun _ => e0⟩
    rw [e0]
    by_cases p1 : p < m
    · rw [h1 (b + p) (by omega)]; exact hR p (by omega)
    · by_cases p2 : p = m
      · subst p2; rw [h2]; exact ⟨hx, hle⟩
      · rw [h3 (b + p) (by omega) (by omega), show b + p - 1 = b + (p - 1) by omega]
        exact hR (p - 1) (by omega)
/-- what an insertion of v (or of a join whose least is v) does to cell c -/
def pr_Hd (c : Nat) (k m : Int32) (D : pr_D) (v : Int32) (D' : pr_D) : Prop := ¬ D'.1 c = 0 ∧ (D.1 c = 0 ∨ v < D.2.1 (8 * c) → D'.2.1 (8 * c) = v ∧ D'.2.2.1 c = k ∧ D'.2.2.2 c = m) ∧ (¬ (D.1 c = 0 ∨ v < D.2.1 (8 * c)) → D'.2.1 (8 * c) = D.2.1 (8 * c) ∧ D'.2.2.1 c = D.2.2.1 c ∧ D'.2.2.2 c = D.2.2.2 c)
theorem pr_ins_head {w c : Nat} {k m x : Int32} {D : pr_D} (h : pr_Gd w c D) (hx : pr_Q w x) : pr_Gd w c (pr_ins c k m D x) ∧ pr_Hd c k m D x (pr_ins c k m D x) := by
  obtain ⟨t, ht, hD, hR⟩ := h
  by_cases e : t = 8
  · subst e
    have n0 : ¬ D.1 c = 0 := by rw [hD]; decide
    rw [pr_ins8 k m x hD]
    by_cases l7 : x < D.2.1 (8 * c + 7)
    · obtain ⟨g1, g2, g3⟩ := pr_sh_good (pr_Q w) 7 D.2.1 (8 * c) x (fun p hp => hR p (by omega)) hx
      rw [if_pos l7]
      refine ⟨⟨8, by omega, hD, fun p hp => g1 p hp⟩, n0, ?_, ?_⟩
      · intro o
        have o' : x < D.2.1 (8 * c) := o.resolve_left n0
        rw [if_pos o', if_pos o']
        exact ⟨g2 (Or.inr o'), pk_us, pk_us⟩
      · intro o
        have o' : ¬ x < D.2.1 (8 * c) := fun z => o (Or.inr z)
        rw [if_neg o', if_neg o']
        exact ⟨g3 (fun z => z.elim (by omega) o'), rfl, rfl⟩
    · have l0 : ¬ x < D.2.1 (8 * c) := fun z => l7 (Int32.lt_of_lt_of_le z (hR 7 (by omega)).2)
      rw [if_neg l7, if_neg l0, if_neg l0]
      exact ⟨⟨8, by omega, hD, hR⟩, n0, fun o => absurd (o.resolve_left n0) l0, fun _ => ⟨rfl, rfl, rfl⟩⟩
  · have i0 : D.1 c = 0 ↔ t = 0 := by rw [hD, ← nI_0]; exact nI_eq (by omega) (by omega)
    obtain ⟨g1, g2, g3⟩ := pr_sh_good (pr_Q w) t D.2.1 (8 * c) x hR hx
    rw [pr_insN k m x hD (by omega)]
    refine ⟨⟨t + 1, by omega, pk_us, fun p hp => g1 p hp⟩, ?_, ?_, ?_⟩
    · dsimp only
      rw [pk_us]
      exact nI_ne0 (by omega) (by omega)
    · intro o
      rw [i0] at o
      rw [if_pos o, if_pos o]
      exact ⟨g2 o, pk_us, pk_us⟩
    · intro o
      rw [i0] at o
      rw [if_neg o, if_neg o]
      exact ⟨g3 o, rfl, rfl⟩
theorem pr_Hd_next {w c : Nat} {k m v x : Int32} {D E : pr_D} (g : pr_Gd w c E) (h : pr_Hd c k m D v E) (hx : pr_Q w x) (hv : v ≤ x) : pr_Gd w c (pr_ins c k m E x) ∧ pr_Hd c k m D v (pr_ins c k m E x) := by
  obtain ⟨a, b⟩ := pr_ins_head (k := k) (m := m) g hx
  have le : E.2.1 (8 * c) ≤ x := by
    by_cases o : D.1 c = 0 ∨ v < D.2.1 (8 * c)
    · rw [(h.2.1 o).1]; exact hv
    · rw [(h.2.2 o).1]
      exact Int32.le_trans (Int32.not_lt.mp (fun z => o (Or.inr z))) hv
  have no : ¬ (E.1 c = 0 ∨ x < E.2.1 (8 * c)) := by
    rintro (z | z)
    · exact h.1 z
    · exact absurd le (Int32.not_le.mpr z)
  have q := b.2.2 no
  refine ⟨a, b.1, fun o => ?_, fun o => ?_⟩
  · have := h.2.1 o
    exact ⟨q.1.trans this.1, q.2.1.trans this.2.1, q.2.2.trans this.2.2⟩
  · have := h.2.2 o
    exact ⟨q.1.trans this.1, q.2.1.trans this.2.1, q.2.2.trans this.2.2⟩
theorem io_add {a b : Int32} (h1 : 0 ≤ a.toInt) (h2 : a.toInt ≤ 1000000) (h3 : 0 ≤ b.toInt) (h4 : b.toInt ≤ 1000000) : (a + b).toInt = a.toInt + b.toInt := by
  rw [Int32.toInt_add]
  exact Int.bmod_eq_of_le (by omega) (by omega)
theorem io_Q3 {wl wr w : Nat} {p a b : Int32} (hp : 0 ≤ p.toInt ∧ p.toInt ≤ 50) (ha : pr_Q wl a) (hb : pr_Q wr b) (hw : wl + wr = w) (h5 : w ≤ 5) : (p + a + b).toInt = p.toInt + a.toInt + b.toInt ∧ pr_Q w (p + a + b) := by
  obtain ⟨a1, a2⟩ := ha
  obtain ⟨b1, b2⟩ := hb
  have e1 : (p + a).toInt = p.toInt + a.toInt := io_add (by omega) (by omega) (by omega) (by omega)
  have e2 : (p + a + b).toInt = p.toInt + a.toInt + b.toInt := by
    rw [io_add (by omega) (by omega) (by omega) (by omega), e1]
  refine ⟨e2, ?_, ?_⟩
  · rw [e2]; omega
  · rw [e2]; omega
theorem pr_Gd_same {w c : Nat} {D E : pr_D} (h : pr_Gd w c D) (s : pr_same c D E) : pr_Gd w c E := by
  obtain ⟨t, ht, hD, hR⟩ := h
  refine ⟨t, ht, s.1.trans hD, fun p hp => ?_⟩
  have e0 := s.2.1 0 (by omega)
  simp only [Nat.add_zero] at e0
  rw [s.2.1 p (by omega), e0]
  exact hR p hp
theorem pr_Gd_ag {w c : Nat} {D E : pr_D} (h : pr_Gd w c D) (s : pr_ag c D E) : pr_Gd w c E := by
  obtain ⟨t, ht, hD, hR⟩ := h
  obtain ⟨t', ht', e1, e2, e3, e4⟩ := s
  have et : t = t' := (nI_eq (by omega) (by omega)).mp (hD.symm.trans e1)
  subst et
  refine ⟨t, ht, e2, fun p hp => ?_⟩
  have e0 := e3 0 (by omega)
  simp only [Nat.add_zero] at e0
  rw [← e3 p hp, ← e0]
  exact hR p hp
theorem pr_jn_head {w wl wr c l r : Nat} {p k m : Int32} {D : pr_D} (hc : c < 90) (nl : l ≠ c) (nr : r ≠ c) (hT : pr_TI D) (gl : pr_Gd wl l D) (gr : pr_Gd wr r D) (gc : pr_Gd w c D) (hw : wl + wr = w) (h5 : w ≤ 5) (hp : 0 ≤ p.toInt ∧ p.toInt ≤ 50) :
    (D.1 l = 0 ∨ D.1 r = 0 → pr_jn c l r p k m D = D) ∧ (¬ (D.1 l = 0 ∨ D.1 r = 0) → pr_Gd w c (pr_jn c l r p k m D) ∧ pr_Hd c k m D (p + D.2.1 (8 * l) + D.2.1 (8 * r)) (pr_jn c l r p k m D)) := by
  obtain ⟨tl, htl, el, hl⟩ := gl
  obtain ⟨tr, htr, er, hr⟩ := gr
  have cl : (D.1 l).toNatClampNeg = tl := by rw [el]; exact nI_clamp (by omega)
  have cr : (D.1 r).toNatClampNeg = tr := by rw [er]; exact nI_clamp (by omega)
  have zl : D.1 l = 0 ↔ tl = 0 := by rw [el, ← nI_0]; exact nI_eq (by omega) (by omega)
  have zr : D.1 r = 0 ↔ tr = 0 := by rw [er, ← nI_0]; exact nI_eq (by omega) (by omega)
  rw [zl, zr]
  constructor
  · rintro (z | z)
    · unfold pr_jn
      rw [cl, z]
      rfl
    · unfold pr_jn
      refine fo_inv (P := fun E => E = D) _ _ rfl (fun b a _ hb => ?_)
      rw [hb]
      unfold pr_j1
      rw [cr, z]
      rfl
  · intro hz
    obtain ⟨sl, rfl⟩ : ∃ s, tl = s + 1 := ⟨tl - 1, by omega⟩
    obtain ⟨sr, rfl⟩ : ∃ s, tr = s + 1 := ⟨tr - 1, by omega⟩
    have l0 := hl 0 (by omega)
    have r0 := hr 0 (by omega)
    simp only [Nat.add_zero] at l0 r0
    have hv := io_Q3 (p := p) hp l0.1 r0.1 hw h5
    have hval : ∀ x y, x < sl + 1 → y < sr + 1 → pr_Q w (p + D.2.1 (8 * l + x) + D.2.1 (8 * r + y)) ∧ p + D.2.1 (8 * l) + D.2.1 (8 * r) ≤ p + D.2.1 (8 * l + x) + D.2.1 (8 * r + y) := by
      intro x y hx hy
      have a := hl x hx
      have b := hr y hy
      have q := io_Q3 (p := p) hp a.1 b.1 hw h5
      refine ⟨q.2, ?_⟩
      have a2 := Int32.le_iff_toInt_le.mp a.2
      have b2 := Int32.le_iff_toInt_le.mp b.2
      rw [Int32.le_iff_toInt_le, q.1, hv.1]
      omega
    have step : ∀ (E : pr_D) (x y : Nat), x < sl + 1 → y < sr + 1 → (pr_TI E ∧ (∀ c', c' ≠ c → pr_same c' D E) ∧ pr_Gd w c E ∧ pr_Hd c k m D (p + D.2.1 (8 * l) + D.2.1 (8 * r)) E) →
        (pr_TI (pr_j2 c r k m (p + D.2.1 (8 * l + x)) E y) ∧ (∀ c', c' ≠ c → pr_same c' D (pr_j2 c r k m (p + D.2.1 (8 * l + x)) E y)) ∧ pr_Gd w c (pr_j2 c r k m (p + D.2.1 (8 * l + x)) E y) ∧ pr_Hd c k m D (p + D.2.1 (8 * l) + D.2.1 (8 * r)) (pr_j2 c r k m (p + D.2.1 (8 * l + x)) E y)) := by
      intro E x y hx hy hE
      have val := hval x y hx hy
      have eR : E.2.1 (8 * r + y) = D.2.1 (8 * r + y) := (hE.2.1 r nr).2.1 y (by omega)
      unfold pr_j2
      rw [eR]
      have nx := pr_Hd_next hE.2.2.1 hE.2.2.2 val.1 val.2
      exact ⟨pr_ins_TI hc hE.1, fun c' hc' => pr_same_tr (hE.2.1 c' hc') (pr_ins_same (hE.1 c hc) hc'), nx.1, nx.2⟩
    have first : (pr_TI (pr_j2 c r k m (p + D.2.1 (8 * l + 0)) D 0) ∧ (∀ c', c' ≠ c → pr_same c' D (pr_j2 c r k m (p + D.2.1 (8 * l + 0)) D 0)) ∧ pr_Gd w c (pr_j2 c r k m (p + D.2.1 (8 * l + 0)) D 0) ∧ pr_Hd c k m D (p + D.2.1 (8 * l) + D.2.1 (8 * r)) (pr_j2 c r k m (p + D.2.1 (8 * l + 0)) D 0)) := by
      have nx := pr_ins_head (k := k) (m := m) gc hv.2
      exact ⟨pr_ins_TI hc hT, fun c' hc' => pr_ins_same (hT c hc) hc', nx.1, nx.2⟩
    have row0 : (pr_TI (pr_j1 c l r p k m D 0) ∧ (∀ c', c' ≠ c → pr_same c' D (pr_j1 c l r p k m D 0)) ∧ pr_Gd w c (pr_j1 c l r p k m D 0) ∧ pr_Hd c k m D (p + D.2.1 (8 * l) + D.2.1 (8 * r)) (pr_j1 c l r p k m D 0)) := by
      unfold pr_j1
      rw [cr, List.range'_succ, List.foldl_cons]
      have K := fo_inv (P := fun E => pr_TI E ∧ (∀ c', c' ≠ c → pr_same c' D E) ∧ pr_Gd w c E ∧ pr_Hd c k m D (p + D.2.1 (8 * l) + D.2.1 (8 * r)) E) (f := pr_j2 c r k m (p + D.2.1 (8 * l + 0))) (List.range' (0 + 1) sr) _ first
      refine K ?_
      intro E y hy hE
      have := fo_mem hy
      exact step E 0 y (by omega) (by omega) hE
    unfold pr_jn
    rw [cl, List.range'_succ, List.foldl_cons]
    have K := fo_inv (P := fun E => pr_TI E ∧ (∀ c', c' ≠ c → pr_same c' D E) ∧ pr_Gd w c E ∧ pr_Hd c k m D (p + D.2.1 (8 * l) + D.2.1 (8 * r)) E) (f := pr_j1 c l r p k m) (List.range' (0 + 1) sl) _ row0
    refine (K ?_).2.2
    intro E x hx hE
    have hx' := fo_mem hx
    have er' : (E.1 r).toNatClampNeg = sr + 1 := by rw [(hE.2.1 r nr).1]; exact cr
    have eR : E.2.1 (8 * l + x) = D.2.1 (8 * l + x) := (hE.2.1 l nl).2.1 x (by omega)
    unfold pr_j1
    rw [er', eR]
    have K2 := fo_inv (P := fun E => pr_TI E ∧ (∀ c', c' ≠ c → pr_same c' D E) ∧ pr_Gd w c E ∧ pr_Hd c k m D (p + D.2.1 (8 * l) + D.2.1 (8 * r)) E) (f := pr_j2 c r k m (p + D.2.1 (8 * l + x))) (List.range' 0 (sr + 1)) _ hE
    refine K2 ?_
    intro E' y hy hE'
    have := fo_mem hy
    exact step E' x y (by omega) (by omega) hE'
end
section
/-! the first rule and split that reach the least cost -/
def pr_lx (k' m' k m : Nat) : Prop := k' < k ∨ (k' = k ∧ m' < m)
/-- rule k at split m gives a tree of symbol a over i j, the least such costs v -/
def pr_cd (G : Nat → Nat → Int32) (D : pr_D) (i j a k m : Nat) (v : Int32) : Prop := k < 8 ∧ pr_cN G 1 k = a ∧ ((G 0 k = 2 ∧ j = i + 1 ∧ G 2 k = G 5 i ∧ m = i ∧ v = G 4 k)
  ∨ (G 0 k = 1 ∧ i < m ∧ m < j ∧ ¬ D.1 (pr_ce i m (pr_cN G 2 k)) = 0 ∧ ¬ D.1 (pr_ce m j (pr_cN G 3 k)) = 0 ∧ v = G 4 k + D.2.1 (8 * pr_ce i m (pr_cN G 2 k)) + D.2.1 (8 * pr_ce m j (pr_cN G 3 k))))
theorem pr_cd_u {G : Nat → Nat → Int32} {D : pr_D} {i j a a' k m : Nat} {v v' : Int32} (h : pr_cd G D i j a k m v) (h' : pr_cd G D i j a' k m v') : v = v' ∧ a = a' := by
  obtain ⟨_, e, o⟩ := h
  obtain ⟨_, e', o'⟩ := h'
  refine ⟨?_, e.symm.trans e'⟩
  rcases o with ⟨o1, _, _, _, o2⟩ | ⟨o1, _, _, _, _, o2⟩ <;> rcases o' with ⟨q1, _, _, _, q2⟩ | ⟨q1, _, _, _, _, q2⟩
  · rw [o2, q2]
  · rw [o1] at q1; exact absurd q1 (by decide)
  · rw [o1] at q1; exact absurd q1 (by decide)
  · rw [o2, q2]
theorem pr_cd_m {G : Nat → Nat → Int32} {D : pr_D} {i j a k m : Nat} {v : Int32} (hij : i < j) (h : pr_cd G D i j a k m v) : i ≤ m ∧ m < j ∧ k < 8 := by
  obtain ⟨h8, e, o⟩ := h
  rcases o with ⟨_, _, _, o1, _⟩ | ⟨_, o1, o2, _⟩ <;> omega
/-- all candidates ahead of (k, m) are in -/
def pr_Bi (G : Nat → Nat → Int32) (D0 : pr_D) (i j k m : Nat) (D : pr_D) : Prop := pr_TI D ∧ (∀ c', pr_off i j c' → pr_same c' D0 D) ∧ ∀ a, a < 3 →
  pr_Gd (j - i) (pr_ce i j a) D ∧ (D.1 (pr_ce i j a) = 0 → ∀ k' m' v, pr_lx k' m' k m → ¬ pr_cd G D0 i j a k' m' v) ∧
  (¬ D.1 (pr_ce i j a) = 0 → ∃ k0 m0, pr_lx k0 m0 k m ∧ D.2.2.1 (pr_ce i j a) = nI k0 ∧ D.2.2.2 (pr_ce i j a) = nI m0 ∧ pr_cd G D0 i j a k0 m0 (D.2.1 (8 * pr_ce i j a))
    ∧ (∀ k' m' v, pr_lx k' m' k m → pr_cd G D0 i j a k' m' v → D.2.1 (8 * pr_ce i j a) ≤ v) ∧ (∀ k' m' v, pr_lx k' m' k0 m0 → pr_cd G D0 i j a k' m' v → D.2.1 (8 * pr_ce i j a) < v))
theorem pr_Bi_mono {G : Nat → Nat → Int32} {D0 D : pr_D} {i j k m k2 m2 : Nat} (h : pr_Bi G D0 i j k m D) (h1 : ∀ k' m', pr_lx k' m' k m → pr_lx k' m' k2 m2) (h2 : ∀ k' m' a v, pr_lx k' m' k2 m2 → pr_cd G D0 i j a k' m' v → pr_lx k' m' k m) : pr_Bi G D0 i j k2 m2 D := by
  refine ⟨h.1, h.2.1, fun a ha => ?_⟩
  obtain ⟨g, z, nz⟩ := h.2.2 a ha
  refine ⟨g, fun e k' m' v l c => z e k' m' v (h2 k' m' a v l c) c, fun e => ?_⟩
  obtain ⟨k0, m0, l0, b1, b2, c0, f1, f2⟩ := nz e
  exact ⟨k0, m0, h1 _ _ l0, b1, b2, c0, fun k' m' v l c => f1 k' m' v (h2 k' m' a v l c) c, f2⟩
theorem pr_Bi_step {G : Nat → Nat → Int32} {D0 D D' : pr_D} {i j k m a0 : Nat} {v0 : Int32} (h : pr_Bi G D0 i j k m D) (ha0 : a0 < 3) (hc : pr_cd G D0 i j a0 k m v0) (hT : pr_TI D') (hs : ∀ c', c' ≠ pr_ce i j a0 → pr_same c' D D') (g : pr_Gd (j - i) (pr_ce i j a0) D') (hd : pr_Hd (pr_ce i j a0) (nI k) (nI m) D v0 D') : pr_Bi G D0 i j k (m + 1) D' := by
  have lx1 : ∀ k' m', pr_lx k' m' k (m + 1) ↔ pr_lx k' m' k m ∨ (k' = k ∧ m' = m) := by
    intro k' m'
    unfold pr_lx
    omega
  refine ⟨hT, fun c' hc' => pr_same_tr (h.2.1 c' hc') (hs c' (hc' a0 ha0)), fun a ha => ?_⟩
  by_cases e : a = a0
  · subst e
    obtain ⟨_, z, nz⟩ := h.2.2 a ha
    refine ⟨g, fun e => absurd e hd.1, fun _ => ?_⟩
    by_cases o : D.1 (pr_ce i j a) = 0 ∨ v0 < D.2.1 (8 * pr_ce i j a)
    · obtain ⟨r1, r2, r3⟩ := hd.2.1 o
      rw [r1]
      have lt : ∀ k' m' v, pr_lx k' m' k m → pr_cd G D0 i j a k' m' v → v0 < v := by
        intro k' m' v l c
        by_cases t0 : D.1 (pr_ce i j a) = 0
        · exact absurd c (z t0 k' m' v l)
        · obtain ⟨k0, m0, l0, b1, b2, c0, f1, f2⟩ := nz t0
          exact Int32.lt_of_lt_of_le (o.resolve_left t0) (f1 k' m' v l c)
      refine ⟨k, m, (lx1 k m).mpr (Or.inr ⟨rfl, rfl⟩), r2, r3, hc, fun k' m' v l c => ?_, lt⟩
      rcases (lx1 k' m').mp l with l | ⟨rfl, rfl⟩
      · exact Int32.le_of_lt (lt k' m' v l c)
      · rw [(pr_cd_u hc c).1]; exact Int32.le_refl v
    · obtain ⟨r1, r2, r3⟩ := hd.2.2 o
      have t0 : ¬ D.1 (pr_ce i j a) = 0 := fun y => o (Or.inl y)
      have le : D.2.1 (8 * pr_ce i j a) ≤ v0 := Int32.not_lt.mp (fun y => o (Or.inr y))
      obtain ⟨k0, m0, l0, b1, b2, c0, f1, f2⟩ := nz t0
      rw [r1, r2, r3]
      refine ⟨k0, m0, (lx1 k0 m0).mpr (Or.inl l0), b1, b2, c0, fun k' m' v l c => ?_, f2⟩
      rcases (lx1 k' m').mp l with l | ⟨rfl, rfl⟩
      · exact f1 k' m' v l c
      · rw [← (pr_cd_u hc c).1]; exact le
  · have s := hs (pr_ce i j a) (by unfold pr_ce; omega)
    have s0 := s.2.1 0 (by omega)
    simp only [Nat.add_zero] at s0
    obtain ⟨g', z, nz⟩ := h.2.2 a ha
    rw [s.1, s.2.2.1, s.2.2.2, s0]
    refine ⟨pr_Gd_same g' s, fun e1 k' m' v l c => ?_, fun e1 => ?_⟩
    · rcases (lx1 k' m').mp l with l | ⟨rfl, rfl⟩
      · exact z e1 k' m' v l c
      · exact e (pr_cd_u hc c).2.symm
    · obtain ⟨k0, m0, l0, b1, b2, c0, f1, f2⟩ := nz e1
      refine ⟨k0, m0, (lx1 k0 m0).mpr (Or.inl l0), b1, b2, c0, fun k' m' v l c => ?_, f2⟩
      rcases (lx1 k' m').mp l with l | ⟨rfl, rfl⟩
      · exact f1 k' m' v l c
      · exact absurd (pr_cd_u hc c).2.symm e
theorem pr_Bi_skip {G : Nat → Nat → Int32} {D0 D : pr_D} {i j k m : Nat} (h : pr_Bi G D0 i j k m D) (hn : ∀ a v, ¬ pr_cd G D0 i j a k m v) : pr_Bi G D0 i j k (m + 1) D := by
  refine pr_Bi_mono h (fun k' m' l => ?_) (fun k' m' a v l c => ?_)
  · unfold pr_lx at *; omega
  · by_cases e : k' = k ∧ m' = m
    · obtain ⟨rfl, rfl⟩ := e
      exact absurd c (hn a v)
    · unfold pr_lx at *; omega
theorem pr_G4 {G : Nat → Nat → Int32} (hG : pr_GI G) {k : Nat} (hk : k < 8) : 0 ≤ (G 4 k).toInt ∧ (G 4 k).toInt ≤ 50 := by
  obtain ⟨_, _, _, ⟨e, h⟩⟩ := pr_GIs hG hk
  rw [e, nI_toInt (by omega)]
  omega
theorem pr_Bi_w {G : Nat → Nat → Int32} {D0 D : pr_D} {i j k : Nat} (hG : pr_GI G) (hij : i < j) (hj : j ≤ 5) (hk : k < 8) (h : pr_Bi G D0 i j k i D) : pr_Bi G D0 i j k (i + 1) (pr_w G i j k D) := by
  obtain ⟨⟨_, h3⟩, _⟩ := pr_GIs hG hk
  have c90 := pr_ce90 (i := i) (by omega) hj h3
  unfold pr_w
  by_cases c : G 0 k = 2 ∧ j = i + 1 ∧ G 2 k = G 5 i
  · rw [if_pos c]
    have q : pr_Q (j - i) (G 4 k) := by
      have := pr_G4 hG hk
      unfold pr_Q
      omega
    have hd := pr_ins_head (k := nI k) (m := nI i) (h.2.2 _ h3).1 q
    exact pr_Bi_step h h3 ⟨hk, rfl, Or.inl ⟨c.1, c.2.1, c.2.2, rfl, rfl⟩⟩ (pr_ins_TI c90 h.1) (fun c' hc' => pr_ins_same (h.1 _ c90) hc') hd.1 hd.2
  · rw [if_neg c]
    refine pr_Bi_skip h ?_
    rintro a v ⟨_, _, o | o⟩
    · exact c ⟨o.1, o.2.1, o.2.2.1⟩
    · omega
theorem pr_Bi_s {G : Nat → Nat → Int32} {D0 D : pr_D} {i j k m : Nat} (hG : pr_GI G) (him : i < m) (hmj : m < j) (hj : j ≤ 5) (hk : k < 8) (h1 : G 0 k = 1) (hp : ∀ a, a < 3 → pr_Gd (m - i) (pr_ce i m a) D0 ∧ pr_Gd (j - m) (pr_ce m j a) D0) (h : pr_Bi G D0 i j k m D) : pr_Bi G D0 i j k (m + 1) (pr_sm G i j k D m) := by
  obtain ⟨⟨_, a3⟩, ⟨_, b3⟩, ⟨_, c3⟩, _⟩ := pr_GIs hG hk
  have c90 := pr_ce90 (i := i) (by omega) hj a3
  have offl : pr_off i j (pr_ce i m (pr_cN G 2 k)) := by intro a ha; unfold pr_ce; omega
  have offr : pr_off i j (pr_ce m j (pr_cN G 3 k)) := by intro a ha; unfold pr_ce; omega
  have sl := h.2.1 _ offl
  have sr := h.2.1 _ offr
  have sl0 := sl.2.1 0 (by omega)
  have sr0 := sr.2.1 0 (by omega)
  simp only [Nat.add_zero] at sl0 sr0
  have gl := pr_Gd_same (hp _ b3).1 sl
  have gr := pr_Gd_same (hp _ c3).2 sr
  have J := pr_jn_head (k := nI k) (m := nI m) c90 (offl _ a3) (offr _ a3) h.1 gl gr (h.2.2 _ a3).1 (by omega) (by omega) (pr_G4 hG hk)
  have F := pr_sm_inv (m := m) (D0 := D) hG (i := i) (j := j) (by omega) hj hk ⟨h.1, fun _ _ => pr_same_rf⟩
  have F2 := pr_jn_inv (l := pr_ce i m (pr_cN G 2 k)) (r := pr_ce m j (pr_cN G 3 k)) (p := G 4 k) (k := nI k) (m := nI m) (D0 := D) c90 ⟨h.1, fun _ _ => pr_same_rf⟩
  rw [sl0, sr0, sl.1, sr.1] at J
  unfold pr_sm
  by_cases z : D0.1 (pr_ce i m (pr_cN G 2 k)) = 0 ∨ D0.1 (pr_ce m j (pr_cN G 3 k)) = 0
  · rw [J.1 z]
    refine pr_Bi_skip h ?_
    rintro a v ⟨_, _, o | o⟩
    · rw [h1] at o; exact absurd o.1 (by decide)
    · exact z.elim o.2.2.2.1 o.2.2.2.2.1
  · have hd := J.2 z
    exact pr_Bi_step h a3 ⟨hk, rfl, Or.inr ⟨h1, him, hmj, fun y => z (Or.inl y), fun y => z (Or.inr y), rfl⟩⟩ F2.1 F2.2 hd.1 hd.2
theorem pr_Bi_r {G : Nat → Nat → Int32} {D0 D : pr_D} {i j k : Nat} (hG : pr_GI G) (hij : i < j) (hj : j ≤ 5) (hk : k < 8) (hp : ∀ m, i < m → m < j → ∀ a, a < 3 → pr_Gd (m - i) (pr_ce i m a) D0 ∧ pr_Gd (j - m) (pr_ce m j a) D0) (h : pr_Bi G D0 i j k i D) : pr_Bi G D0 i j (k + 1) i (pr_rl G i j D k) := by
  have w := pr_Bi_w hG hij hj hk h
  unfold pr_rl
  by_cases h1 : G 0 k = 1
  · rw [if_pos h1]
    have K : ∀ d m E, m + d = j → i < m → pr_Bi G D0 i j k m E → pr_Bi G D0 i j k j ((List.range' m d).foldl (pr_sm G i j k) E) := by
      intro d
      induction d with
      | zero => intro m E hm _ hE; obtain rfl : m = j := by omega
                exact hE
      | succ d ih =>
        intro m E hm him hE
        rw [List.range'_succ, List.foldl_cons]
        exact ih (m + 1) _ (by omega) (by omega) (pr_Bi_s hG him (by omega) hj hk h1 (hp m him (by omega)) hE)
    refine pr_Bi_mono (K (j - 1 - i) (i + 1) _ (by omega) (by omega) w) (fun k' m' l => ?_) (fun k' m' a v l c => ?_)
    · unfold pr_lx at *; omega
    · have := pr_cd_m hij c
      unfold pr_lx at *; omega
  · rw [if_neg h1]
    refine pr_Bi_mono w (fun k' m' l => ?_) (fun k' m' a v l c => ?_)
    · unfold pr_lx at *; omega
    · obtain ⟨h8, e, o⟩ := c
      rcases o with ⟨_, _, _, o1, _⟩ | ⟨o1, o2, o3, _⟩
      · unfold pr_lx at *; omega
      · by_cases e : k' = k
        · subst e; exact absurd o1 h1
        · unfold pr_lx at *; omega
theorem pr_Bi_sp {G : Nat → Nat → Int32} {D0 : pr_D} {i j : Nat} (hG : pr_GI G) (hij : i < j) (hj : j ≤ 5) (hp : ∀ m, i < m → m < j → ∀ a, a < 3 → pr_Gd (m - i) (pr_ce i m a) D0 ∧ pr_Gd (j - m) (pr_ce m j a) D0) (hT : pr_TI D0) (hz : ∀ a, a < 3 → D0.1 (pr_ce i j a) = nI 0) : pr_Bi G D0 i j 8 i (pr_sp G D0 (i, j)) := by
  have K : ∀ d k E, k + d = 8 → pr_Bi G D0 i j k i E → pr_Bi G D0 i j 8 i ((List.range' k d).foldl (pr_rl G i j) E) := by
    intro d
    induction d with
    | zero => intro k E hk hE; obtain rfl : k = 8 := by omega
              exact hE
    | succ d ih =>
      intro k E hk hE
      rw [List.range'_succ, List.foldl_cons]
      exact ih (k + 1) _ (by omega) (pr_Bi_r hG hij hj (by omega) hp hE)
  refine K 8 0 D0 (by omega) ⟨hT, fun _ _ => pr_same_rf, fun a ha => ⟨⟨0, by omega, hz a ha, fun p hp => absurd hp (by omega)⟩, fun _ k' m' v l c => ?_, fun e => absurd (hz a ha) e⟩⟩
  have := pr_cd_m hij c
  unfold pr_lx at l
  omega
/-- the cell of symbol a over i j in a full chart -/
def pr_Bst (G : Nat → Nat → Int32) (F : pr_D) (i j a : Nat) : Prop := pr_Gd (j - i) (pr_ce i j a) F ∧ (F.1 (pr_ce i j a) = 0 → ∀ k m v, ¬ pr_cd G F i j a k m v) ∧
  (¬ F.1 (pr_ce i j a) = 0 → ∃ k0 m0, F.2.2.1 (pr_ce i j a) = nI k0 ∧ F.2.2.2 (pr_ce i j a) = nI m0 ∧ pr_cd G F i j a k0 m0 (F.2.1 (8 * pr_ce i j a)) ∧ (∀ k' m' v, pr_lx k' m' k0 m0 → pr_cd G F i j a k' m' v → F.2.1 (8 * pr_ce i j a) < v))
theorem pr_ag_0 {c : Nat} {D F : pr_D} (h : pr_ag c D F) (z : ¬ D.1 c = 0) : D.2.1 (8 * c) = F.2.1 (8 * c) := by
  obtain ⟨t, ht, e1, e2, e3, _⟩ := h
  have : t ≠ 0 := by
    rintro rfl
    exact z e1
  exact e3 0 (by omega)
theorem pr_cd_ag {G : Nat → Nat → Int32} {D F : pr_D} {i j a k m : Nat} {v : Int32} (hG : pr_GI G) (h : ∀ m, i < m → m < j → pr_Ag (i, m) D F ∧ pr_Ag (m, j) D F) (c : pr_cd G D i j a k m v) : pr_cd G F i j a k m v := by
  obtain ⟨hk, e, o⟩ := c
  refine ⟨hk, e, ?_⟩
  rcases o with o | ⟨o1, o2, o3, o4, o5, o6⟩
  · exact Or.inl o
  · obtain ⟨_, ⟨_, b3⟩, ⟨_, c3⟩, _⟩ := pr_GIs hG hk
    have al := (h m o2 o3).1 _ b3
    have ar := (h m o2 o3).2 _ c3
    dsimp only at al ar
    refine Or.inr ⟨o1, o2, o3, ?_, ?_, ?_⟩
    · rw [← pr_ag_t al]; exact o4
    · rw [← pr_ag_t ar]; exact o5
    · rw [← pr_ag_0 al o4, ← pr_ag_0 ar o5]; exact o6
theorem pr_Bst_all {G : Nat → Nat → Int32} {n : Nat} {F D0 : pr_D} (hG : pr_GI G) (hn : n ≤ 5) (hC : pr_C G n F D0) (hz : ∀ c, c < 90 → D0.1 c = nI 0) : ∀ w i j, i < j → j ≤ n → j - i < w → ∀ a, a < 3 → pr_Bst G F i j a := by
  intro w
  induction w with
  | zero => intro i j _ _ hw; omega
  | succ w ih =>
    intro i j hij hj hw a ha
    obtain ⟨D', t1, t2, t3, t4⟩ := hC i j hij hj
    have t4' : ∀ m, i < m → m < j → pr_Ag (i, m) F D' ∧ pr_Ag (m, j) F D' := fun m h1 h2 => ⟨pr_Ag_sy _ _ _ (t4 m h1 h2).1, pr_Ag_sy _ _ _ (t4 m h1 h2).2⟩
    have B := pr_Bi_sp (D0 := D') hG hij (by omega) (fun m h1 h2 b hb => ⟨pr_Gd_ag (ih i m h1 (by omega) (by omega) b hb).1 ((t4' m h1 h2).1 b hb), pr_Gd_ag (ih m j h2 (by omega) (by omega) b hb).1 ((t4' m h1 h2).2 b hb)⟩) t1
      (fun b hb => by rw [pr_ag_t (t3 b hb)]; exact hz _ (pr_ce90 (by dsimp only; omega) (by dsimp only; omega) hb))
    obtain ⟨g, z, nz⟩ := B.2.2 a ha
    have A := pr_ag_sy (t2 a ha)
    dsimp only at A
    have lx8 : ∀ k m v, pr_cd G D' i j a k m v → pr_lx k m 8 i := by
      intro k m v c
      have := pr_cd_m hij c
      unfold pr_lx
      omega
    refine ⟨pr_Gd_ag g A, fun e k m v c => ?_, fun e => ?_⟩
    · have c' := pr_cd_ag hG t4' c
      exact z ((pr_ag_t A).trans e) k m v (lx8 _ _ _ c') c'
    · have e' : ¬ (pr_sp G D' (i, j)).1 (pr_ce i j a) = 0 := by rw [pr_ag_t A]; exact e
      obtain ⟨k0, m0, l0, b1, b2, c0, f1, f2⟩ := nz e'
      have a0 := pr_ag_0 A e'
      obtain ⟨t, ht, u1, u2, u3, u4⟩ := A
      have t0 : t ≠ 0 := by
        rintro rfl
        exact e u2
      rw [a0] at c0 f2
      refine ⟨k0, m0, (u4 t0).1.symm.trans b1, (u4 t0).2.symm.trans b2, pr_cd_ag hG t4 c0, fun k' m' v l c => f2 k' m' v l (pr_cd_ag hG t4' c)⟩
theorem pr_FX_B {n : Nat} {G : Nat → Nat → Int32} (D : pr_D) (hn : n ≤ 5) (hG : pr_GI G) {i j a : Nat} (hij : i < j) (hj : j ≤ n) (ha : a < 3) : pr_Bst G (pr_FX n G D) i j a := pr_Bst_all hG hn (pr_FX_C D hn hG) (fun c hc => pr_z0 hc (by omega)) (j - i + 1) i j hij hj (by omega) a ha
theorem pr_FY_B {n : Nat} {G : Nat → Nat → Int32} (D : pr_D) (hn : n ≤ 5) (hG : pr_GI G) {i j a : Nat} (hij : i < j) (hj : j ≤ n) (ha : a < 3) : pr_Bst G (pr_FY n G D) i j a := pr_Bst_all hG hn (pr_FY_C D hn hG) (fun c hc => pr_z0 hc (by omega)) (j - i + 1) i j hij hj (by omega) a ha
end
section
/-! Y: begin finds the first rule and split that reach the least cost -/
def pr_ls (E : pr_D) (c : Nat) : Int32 := if E.1 c = 0 then 100000 else E.2.1 (8 * c)
def pr_sum (G : Nat → Nat → Int32) (E : pr_D) (i j k m : Nat) : Int32 := G 4 k + pr_ls E (pr_ce i m (pr_cN G 2 k)) + pr_ls E (pr_ce m j (pr_cN G 3 k))
theorem io_100 : (100000 : Int32).toInt = 100000 := by decide +kernel
theorem pr_Gd_t {w c : Nat} {E : pr_D} (h : pr_Gd w c E) : ∃ t, t ≤ 8 ∧ E.1 c = nI t := by obtain ⟨t, a, b, _⟩ := h; exact ⟨t, a, b⟩
theorem pr_Gd_0 {w c : Nat} {E : pr_D} (h : pr_Gd w c E) (z : ¬ E.1 c = 0) : pr_Q w (E.2.1 (8 * c)) := by
  obtain ⟨t, a, b, d⟩ := h
  have : t ≠ 0 := by
    rintro rfl
    exact z b
  exact (d 0 (by omega)).1
theorem pr_ls_b {w c : Nat} {E : pr_D} (h : pr_Gd w c E) (hw : w ≤ 5) : 0 ≤ (pr_ls E c).toInt ∧ (pr_ls E c).toInt ≤ 100000 ∧ (E.1 c = 0 → (pr_ls E c).toInt = 100000) ∧ (¬ E.1 c = 0 → pr_ls E c = E.2.1 (8 * c) ∧ (pr_ls E c).toInt ≤ 450) := by
  unfold pr_ls
  by_cases z : E.1 c = 0
  · rw [if_pos z]
    rw [io_100]
    exact ⟨by omega, by omega, fun _ => rfl, fun y => absurd z y⟩
  · rw [if_neg z]
    have q := pr_Gd_0 h z
    unfold pr_Q at q
    exact ⟨by omega, by omega, fun y => absurd y z, fun _ => ⟨rfl, by omega⟩⟩
section
variable (n : Nat) (ls : Int32) (G : Nat → Nat → Int32) (E : pr_D) (U LI OP : Nat → Int32)
theorem yl_least (post : Int32 → Prop) (c : Nat) (hc : c < 90) (hT : ∃ t, t ≤ 8 ∧ E.1 c = nI t) (hp : post (pr_ls E c)) : wpY_least post (st_Y n ls G E U LI OP) (nI c) := by
  obtain ⟨t, ht, hE⟩ := hT
  have e8 : 8 * nI c = nI (8 * c) := by rw [show (8 : Int32) = nI 8 from rfl, pk_mul]
  unfold wpY_least
  unfold pr_ls at hp
  dsimp only
  rw [e8, nI_clamp (n := c) (by omega), nI_clamp (n := 8 * c) (by omega)]
  rw [hE] at hp ⊢
  refine ⟨vp_in_nI (by omega) (by omega), ?_⟩
  by_cases z : t = 0
  · subst z
    exact br_t (by decide) hp
  · rw [if_neg (nI_ne0 (by omega) (by omega))] at hp
    exact br_f (nI_nle (by omega) (by omega)) ⟨vp_in_nI (by omega) (by omega), hp⟩
theorem yb_108 (post : Int32 → SY → Prop) (J16 : Int32 → Prop) (due : Int32) (i j a k m : Nat) (nf : Nat) (hG : pr_GI G) (hT : pr_TI E) (hk : k < 8) (him : i < m) (hmj : m < j) (hj : j ≤ 5) (ha : a < 3)
    (h1 : G 0 k = 1 → pr_cN G 1 k = a → pr_sum G E i j k m = due → vp_in ls 16 ∧ vp_in (ls + 1) 16 ∧ post (nI m) (st_Y n (ls + 2) G E U (upd (upd LI ls.toNatClampNeg (nI k)) (ls + 1).toNatClampNeg (nI m)) OP))
    (h2 : G 0 k = 1 → pr_cN G 1 k = a → ¬ pr_sum G E i j k m = due → wY_begin_108 post J16 (nI i) (nI j) (nI a) due (nI k) (nI n) ls (G 0) (G 1) (G 2) (G 3) (G 4) (G 5) E.2.1 E.1 U LI OP nf (nI (m + 1)))
    (h3 : ¬ (G 0 k = 1 ∧ pr_cN G 1 k = a) → J16 (nI (k + 1))) : wY_begin_108 post J16 (nI i) (nI j) (nI a) due (nI k) (nI n) ls (G 0) (G 1) (G 2) (G 3) (G 4) (G 5) E.2.1 E.1 U LI OP (nf + 1) (nI m) := by
  obtain ⟨⟨g1, l1⟩, ⟨g2, l2⟩, ⟨g3, l3⟩, _⟩ := pr_GIs hG hk
  have v : vp_in (nI k) 8 := vp_in_nI hk (by omega)
  rw [wY_begin_108]
  dsimp only
  unfold wpY_cell
  dsimp only
  rw [nI_clamp (n := k) (by omega), g1, g2, g3, ce_Y, ce_Y, nI_1 k, nI_1 m]
  refine br_f (nI_ge (by omega) (by omega)) ⟨v, br_c (fun z1 => ⟨v, ?_⟩) (fun z1 => nm_e (h3 (fun y => z1 y.1)))⟩
  refine pk_eq (pr_cN G 1 k) a (fun z2 => ⟨v, v, ?_⟩) (fun z2 => nm_e (h3 (fun y => z2 y.2)))
  have cl := pr_ce90 (i := i) (j := m) (by omega) (by omega) l2
  have cr := pr_ce90 (i := m) (j := j) (by omega) hj l3
  refine yl_least n ls G E U LI OP _ _ cl (hT _ cl) ⟨v, ?_⟩
  refine yl_least n ls G E U LI OP _ _ cr (hT _ cr) ?_
  refine br_c (fun z3 => ?_) (fun z3 => nm_e (h2 z1 z2 z3))
  obtain ⟨q1, q2, q3⟩ := h1 z1 z2 z3
  exact ⟨q1, nm_e ⟨q2, nm_e (nm_e q3)⟩⟩
theorem yb_108n (post : Int32 → SY → Prop) (J16 : Int32 → Prop) (due : Int32) (i j a k : Nat) (hG : pr_GI G) (hT : pr_TI E) (hk : k < 8) (hj : j ≤ 5) (ha : a < 3) (hne : G 0 k = 1 → pr_cN G 1 k = a → ∀ m, i < m → m < j → ¬ pr_sum G E i j k m = due) (hJ : J16 (nI (k + 1))) :
    ∀ d m nf, m + d = j → i < m → d < nf → wY_begin_108 post J16 (nI i) (nI j) (nI a) due (nI k) (nI n) ls (G 0) (G 1) (G 2) (G 3) (G 4) (G 5) E.2.1 E.1 U LI OP nf (nI m) := by
  intro d
  induction d with
  | zero =>
    intro m nf hm him hnf
    obtain ⟨f, rfl⟩ : ∃ f, nf = f + 1 := ⟨nf - 1, by omega⟩
    rw [wY_begin_108]
    exact br_t (nI_le (by omega) (by omega)) (nm_r (nI_1 k) hJ)
  | succ d ih =>
    intro m nf hm him hnf
    obtain ⟨f, rfl⟩ : ∃ f, nf = f + 1 := ⟨nf - 1, by omega⟩
    exact yb_108 n ls G E U LI OP post J16 due i j a k m f hG hT hk him (by omega) hj ha (fun z1 z2 z3 => absurd z3 (hne z1 z2 m him (by omega))) (fun _ _ _ => ih (m + 1) f (by omega) (by omega) (by omega)) (fun _ => hJ)
theorem yb_108y (post : Int32 → SY → Prop) (J16 : Int32 → Prop) (due : Int32) (i j a k m0 : Nat) (hG : pr_GI G) (hT : pr_TI E) (hk : k < 8) (hj : j ≤ 5) (ha : a < 3) (hk1 : G 0 k = 1) (hka : pr_cN G 1 k = a) (hm0 : m0 < j) (hne : ∀ m, i < m → m < m0 → ¬ pr_sum G E i j k m = due) (he : pr_sum G E i j k m0 = due)
    (hp : vp_in ls 16 ∧ vp_in (ls + 1) 16 ∧ post (nI m0) (st_Y n (ls + 2) G E U (upd (upd LI ls.toNatClampNeg (nI k)) (ls + 1).toNatClampNeg (nI m0)) OP)) :
    ∀ d m nf, m + d = m0 → i < m → d < nf → wY_begin_108 post J16 (nI i) (nI j) (nI a) due (nI k) (nI n) ls (G 0) (G 1) (G 2) (G 3) (G 4) (G 5) E.2.1 E.1 U LI OP nf (nI m) := by
  intro d
  induction d with
  | zero =>
    intro m nf hm him hnf
    obtain ⟨f, rfl⟩ : ∃ f, nf = f + 1 := ⟨nf - 1, by omega⟩
    obtain rfl : m = m0 := by omega
    exact yb_108 n ls G E U LI OP post J16 due i j a k m f hG hT hk him (by omega) hj ha (fun _ _ _ => hp) (fun _ _ z => absurd he z) (fun z => absurd ⟨hk1, hka⟩ z)
  | succ d ih =>
    intro m nf hm him hnf
    obtain ⟨f, rfl⟩ : ∃ f, nf = f + 1 := ⟨nf - 1, by omega⟩
    exact yb_108 n ls G E U LI OP post J16 due i j a k m f hG hT hk him (by omega) hj ha (fun _ _ z => absurd z (hne m him (by omega))) (fun _ _ _ => ih (m + 1) f (by omega) (by omega) (by omega)) (fun z => absurd ⟨hk1, hka⟩ z)
/-- one rule of begin: the word's case, or on to the splits -/
theorem yb_16 (post : Int32 → SY → Prop) (due : Int32) (i j a k nf : Nat) (hG : pr_GI G) (hij : i < j) (hj : j ≤ 5) (ha : a < 3) (hk : k < 8)
    (h1 : G 0 k = 2 → pr_cN G 1 k = a → j = i + 1 → G 2 k = G 5 i → G 4 k = due → vp_in ls 16 ∧ post 0 (st_Y n (ls + 1) G E U (upd LI ls.toNatClampNeg (nI k)) OP))
    (h2 : ¬ (G 0 k = 2 ∧ pr_cN G 1 k = a ∧ j = i + 1 ∧ G 2 k = G 5 i ∧ G 4 k = due) → ∃ n108 : Nat, wY_begin_108 post (wY_begin_16 post (nI i) (nI j) (nI a) due (nI n) ls (G 0) (G 1) (G 2) (G 3) (G 4) (G 5) E.2.1 E.1 U LI OP nf) (nI i) (nI j) (nI a) due (nI k) (nI n) ls (G 0) (G 1) (G 2) (G 3) (G 4) (G 5) E.2.1 E.1 U LI OP n108 (nI (i + 1))) : wY_begin_16 post (nI i) (nI j) (nI a) due (nI n) ls (G 0) (G 1) (G 2) (G 3) (G 4) (G 5) E.2.1 E.1 U LI OP (nf + 1) (nI k) := by
  obtain ⟨⟨g1, l1⟩, _⟩ := pr_GIs hG hk
  have v : vp_in (nI k) 8 := vp_in_nI hk (by omega)
  have vi : vp_in (nI i) 5 := vp_in_nI (by omega) (by omega)
  rw [wY_begin_16]
  dsimp only
  rw [nI_clamp (n := k) (by omega), nI_clamp (n := i) (by omega), g1, nI_1 i]
  refine br_f (nI_ge (b := 8) hk (by decide)) ⟨v, br_c (fun z1 => ⟨v, ?_⟩) (fun z1 => nm_e (h2 (fun y => z1 y.1)))⟩
  refine pk_eq (pr_cN G 1 k) a (fun z2 => ?_) (fun z2 => nm_e (h2 (fun y => z2 y.2.1)))
  refine pk_eq j (i + 1) (fun z3 => ⟨vi, v, ?_⟩) (fun z3 => nm_e (h2 (fun y => z3 y.2.2.1)))
  refine br_c (fun z4 => ⟨v, ?_⟩) (fun z4 => nm_e (h2 (fun y => z4 y.2.2.2.1.symm)))
  refine br_c (fun z5 => ?_) (fun z5 => nm_e (h2 (fun y => z5 y.2.2.2.2)))
  obtain ⟨q1, q2⟩ := h1 z1 z2 z3 z4.symm z5
  exact ⟨q1, nm_e (nm_e q2)⟩
theorem yb_begin (post : Int32 → SY → Prop) (i j a k0 m0 : Nat) (hG : pr_GI G) (hT : pr_TI E) (hij : i < j) (hj : j ≤ 5) (hjn : j ≤ n) (ha : a < 3) (nz : ¬ E.1 (pr_ce i j a) = 0)
    (hB : ∀ i j a, i < j → j ≤ n → a < 3 → E.1 (pr_ce i j a) = 0 ∨ pr_Q 5 (E.2.1 (8 * pr_ce i j a)))
    (hc : pr_cd G E i j a k0 m0 (E.2.1 (8 * pr_ce i j a))) (hf : ∀ k' m' v, pr_lx k' m' k0 m0 → pr_cd G E i j a k' m' v → E.2.1 (8 * pr_ce i j a) < v)
    (hw : G 0 k0 = 2 → vp_in ls 16 ∧ post 0 (st_Y n (ls + 1) G E U (upd LI ls.toNatClampNeg (nI k0)) OP))
    (hp : G 0 k0 = 1 → i < m0 → m0 < j → vp_in ls 16 ∧ vp_in (ls + 1) 16 ∧ post (nI m0) (st_Y n (ls + 2) G E U (upd (upd LI ls.toNatClampNeg (nI k0)) (ls + 1).toNatClampNeg (nI m0)) OP)) : wpY_begin post (st_Y n ls G E U LI OP) (nI i) (nI j) (nI a) := by
  have c90 := pr_ce90 (i := i) (by omega) hj ha
  have hk0 := (pr_cd_m hij hc).2.2
  have q0 := (hB i j a hij hjn ha).resolve_left nz
  have hsum : ∀ k m, k < 8 → G 0 k = 1 → pr_cN G 1 k = a → i < m → m < j → pr_lx k m k0 m0 → ¬ pr_sum G E i j k m = E.2.1 (8 * pr_ce i j a) := by
    intro k m hk z1 z2 him hmj l e
    obtain ⟨_, ⟨_, l2⟩, ⟨_, l3⟩, _⟩ := pr_GIs hG hk
    have g4 := pr_G4 hG hk
    unfold pr_sum pr_ls at e
    unfold pr_Q at q0
    by_cases y1 : E.1 (pr_ce i m (pr_cN G 2 k)) = 0
    · rw [if_pos y1] at e
      have t1 : (G 4 k + 100000).toInt = (G 4 k).toInt + 100000 := by
        rw [io_add g4.1 (by omega) (by rw [io_100]; omega) (by rw [io_100]; omega), io_100]
      have e' := congrArg Int32.toInt e
      by_cases y2 : E.1 (pr_ce m j (pr_cN G 3 k)) = 0
      · rw [if_pos y2, io_add (by omega) (by omega) (by rw [io_100]; omega) (by rw [io_100]; omega), t1, io_100] at e'
        omega
      · have q := (hB m j _ hmj hjn l3).resolve_left y2
        unfold pr_Q at q
        rw [if_neg y2, io_add (by omega) (by omega) (by omega) (by omega), t1] at e'
        omega
    · rw [if_neg y1] at e
      have q := (hB i m _ him (by omega) l2).resolve_left y1
      unfold pr_Q at q
      have t1 := io_add (a := G 4 k) (b := E.2.1 (8 * pr_ce i m (pr_cN G 2 k))) g4.1 (by omega) (by omega) (by omega)
      by_cases y2 : E.1 (pr_ce m j (pr_cN G 3 k)) = 0
      · have e' := congrArg Int32.toInt e
        rw [if_pos y2, io_add (by omega) (by omega) (by rw [io_100]; omega) (by rw [io_100]; omega), t1, io_100] at e'
        omega
      · rw [if_neg y2] at e
        have lt := hf k m _ l ⟨hk, z2, Or.inr ⟨z1, him, hmj, y1, y2, rfl⟩⟩
        rw [e] at lt
        exact Int32.lt_irrefl lt
  have K : ∀ d k nf, k + d = k0 → d < nf → wY_begin_16 post (nI i) (nI j) (nI a) (E.2.1 (8 * pr_ce i j a)) (nI n) ls (G 0) (G 1) (G 2) (G 3) (G 4) (G 5) E.2.1 E.1 U LI OP nf (nI k) := by
    intro d
    induction d with
    | zero =>
      intro k nf hk hnf
      obtain ⟨f, rfl⟩ : ∃ f, nf = f + 1 := ⟨nf - 1, by omega⟩
      obtain rfl : k = k0 := by omega
      obtain ⟨_, c1, c2⟩ := hc
      rcases c2 with ⟨o1, o2, o3, o4, o5⟩ | ⟨o1, o2, o3, o4, o5, o6⟩
      · exact yb_16 n ls G E U LI OP post _ i j a k f hG hij hj ha hk0 (fun _ _ _ _ _ => hw o1) (fun z => absurd ⟨o1, c1, o2, o3, o5.symm⟩ z)
      · refine yb_16 n ls G E U LI OP post _ i j a k f hG hij hj ha hk0 (fun z => absurd (o1.symm.trans z) (by decide)) (fun _ => ⟨6, ?_⟩)
        have he : pr_sum G E i j k m0 = E.2.1 (8 * pr_ce i j a) := by
          unfold pr_sum pr_ls
          rw [if_neg o4, if_neg o5, ← o6]
        exact yb_108y n ls G E U LI OP post _ _ i j a k m0 hG hT hk0 hj ha o1 c1 o3 (fun m h1 h2 => hsum k m hk0 o1 c1 h1 (by omega) (Or.inr ⟨rfl, h2⟩)) he (hp o1 o2 o3) (m0 - (i + 1)) (i + 1) 6 (by omega) (by omega) (by omega)
    | succ d ih =>
      intro k nf hk hnf
      obtain ⟨f, rfl⟩ : ∃ f, nf = f + 1 := ⟨nf - 1, by omega⟩
      refine yb_16 n ls G E U LI OP post _ i j a k f hG hij hj ha (by omega) (fun z1 z2 z3 z4 z5 => ?_) (fun _ => ⟨6, ?_⟩)
      · have lt := hf k i _ (Or.inl (by omega)) ⟨by omega, z2, Or.inl ⟨z1, z3, z4, rfl, rfl⟩⟩
        rw [z5] at lt
        exact absurd lt Int32.lt_irrefl
      · exact yb_108n n ls G E U LI OP post _ _ i j a k hG hT (by omega) hj ha (fun z1 z2 m h1 h2 => hsum k m (by omega) z1 z2 h1 h2 (Or.inl (by omega))) (ih (k + 1) f (by omega) (by omega)) (j - 1 - i) (i + 1) 6 (by omega) (by omega) (by omega)
  unfold wpY_begin
  dsimp only
  unfold wpY_cell
  dsimp only
  rw [ce_Y]
  refine yl_least n ls G E U LI OP _ _ c90 (hT _ c90) ?_
  have e : pr_ls E (pr_ce i j a) = E.2.1 (8 * pr_ce i j a) := if_neg nz
  rw [e]
  exact ⟨9, K k0 0 9 (by omega) (by omega)⟩
end
end
section
/-! bestAt: X's list and Y's list, cell by cell -/
theorem de_1 {i j a : Nat} (hi : i < 5) (hj : j ≤ 5) (ha : a < 3) : nI (pr_ce i j a) / 18 = nI i := by
  have := pr_ce90 hi hj ha
  rw [show (18 : Int32) = nI 18 from rfl, pk_div (by omega) (by omega) (by omega)]
  exact congrArg nI (by unfold pr_ce; omega)
theorem de_2 {i j a : Nat} (hi : i < 5) (hj : j ≤ 5) (ha : a < 3) : (nI (pr_ce i j a) - nI (pr_ce i j a) / 18 * 18) / 3 = nI j := by
  have := pr_ce90 hi hj ha
  rw [show (18 : Int32) = nI 18 from rfl, pk_rem (by omega) (by omega) (by omega), show (3 : Int32) = nI 3 from rfl, pk_div (by omega) (by omega) (by omega)]
  exact congrArg nI (by unfold pr_ce; omega)
theorem de_3 {i j a : Nat} (hi : i < 5) (hj : j ≤ 5) (ha : a < 3) : nI (pr_ce i j a) - nI (pr_ce i j a) / 3 * 3 = nI a := by
  have := pr_ce90 hi hj ha
  rw [show (3 : Int32) = nI 3 from rfl, pk_rem (by omega) (by omega) (by omega)]
  exact congrArg nI (by unfold pr_ce; omega)
theorem de_4 {i j a : Nat} (hi : i < 5) (hj : j ≤ 5) (ha : a < 3) : nI (pr_ce i j a) / 3 = nI (6 * i + j) := by
  have := pr_ce90 hi hj ha
  rw [show (3 : Int32) = nI 3 from rfl, pk_div (by omega) (by omega) (by omega)]
  exact congrArg nI (by unfold pr_ce; omega)
theorem de_5 {i j : Nat} (hi : i < 5) (hj : j ≤ 5) : nI (6 * i + j) - nI (6 * i + j) / 6 * 6 = nI j := by
  rw [show (6 : Int32) = nI 6 from rfl, pk_rem (by omega) (by omega) (by omega)]
  exact congrArg nI (by omega)
theorem de_6 {i j : Nat} (hi : i < 5) (hj : j ≤ 5) : nI (6 * i + j) / 6 = nI i := by
  rw [show (6 : Int32) = nI 6 from rfl, pk_div (by omega) (by omega) (by omega)]
  exact congrArg nI (by omega)
section
variable (n : Nat) (G : Nat → Nat → Int32) (E : pr_D) (W BL WC : Nat → Int32)
theorem xb_word (post : Int32 → SX → Prop) (i j a k0 wr t node nf : Nat) (hi : i < 5) (hj : j ≤ 5) (ha : a < 3) (hk : k0 < 8) (hwr : wr < 13) (ht : t < 5) (hnode : node < 9) (hWC : WC t = nI (pr_ce i j a)) (hb : E.2.2.1 (pr_ce i j a) = nI k0) (h2 : G 0 k0 = 2)
    (hp : wX_writeBestList_14 post (nI n) nf (nI (wr + 1)) (nI t) (nI (node + 1)) (G 0) (G 1) (G 2) (G 3) (G 4) (G 5) E.1 E.2.1 E.2.2.1 E.2.2.2 W (upd BL wr (nI k0)) WC) :
    wX_writeBestList_14 post (nI n) (nf + 1) (nI wr) (nI (t + 1)) (nI node) (G 0) (G 1) (G 2) (G 3) (G 4) (G 5) E.1 E.2.1 E.2.2.1 E.2.2.2 W BL WC := by
  have c90 := pr_ce90 hi hj ha
  rw [wX_writeBestList_14]
  dsimp only
  refine br_f (nI_ge (b := 9) hnode (by decide)) (br_f (nI_nle (by omega) (by omega)) (nm_r (pk_m1 t) ⟨vp_in_nI ht (by omega), nm_r (e' := nI (pr_ce i j a)) (by rw [nI_clamp (by omega)]; exact hWC) ⟨vp_in_nI c90 (by omega), nm_r (e' := nI k0) (by rw [nI_clamp (by omega)]; exact hb) ⟨vp_in_nI hwr (by omega), nm_r (e' := upd BL wr (nI k0)) (by rw [nI_clamp (by omega)]) (nm_r (nI_1 wr) ⟨vp_in_nI hk (by omega), br_f ?_ (nm_r (nI_1 node) hp)⟩)⟩⟩⟩))
  rw [nI_clamp (by omega), h2]
  decide
theorem xb_pair (post : Int32 → SX → Prop) (i j a k0 m0 b1 b2 wr t node nf : Nat) (hi : i < m0) (hm : m0 < j) (hj : j ≤ 5) (ha : a < 3) (hk : k0 < 8) (hwr : wr + 1 < 13) (ht : t + 1 < 5) (hnode : node < 9) (hWC : WC t = nI (pr_ce i j a)) (hb : E.2.2.1 (pr_ce i j a) = nI k0) (hs : E.2.2.2 (pr_ce i j a) = nI m0) (h1 : G 0 k0 = 1) (e1 : G 2 k0 = nI b1) (e2 : G 3 k0 = nI b2)
    (hp : wX_writeBestList_14 post (nI n) nf (nI (wr + 2)) (nI (t + 2)) (nI (node + 1)) (G 0) (G 1) (G 2) (G 3) (G 4) (G 5) E.1 E.2.1 E.2.2.1 E.2.2.2 W (upd (upd BL wr (nI k0)) (wr + 1) (nI m0)) (upd (upd WC t (nI (pr_ce m0 j b2))) (t + 1) (nI (pr_ce i m0 b1)))) :
    wX_writeBestList_14 post (nI n) (nf + 1) (nI wr) (nI (t + 1)) (nI node) (G 0) (G 1) (G 2) (G 3) (G 4) (G 5) E.1 E.2.1 E.2.2.1 E.2.2.2 W BL WC := by
  have c90 := pr_ce90 (i := i) (by omega) hj ha
  have vk : vp_in (nI k0) 8 := vp_in_nI hk (by omega)
  have kk : (nI k0).toNatClampNeg = k0 := nI_clamp (by omega)
  rw [wX_writeBestList_14]
  dsimp only
  refine br_f (nI_ge (b := 9) hnode (by decide)) (br_f (nI_nle (by omega) (by omega)) (nm_r (pk_m1 t) ⟨vp_in_nI (by omega) (by omega), nm_r (e' := nI (pr_ce i j a)) (by rw [nI_clamp (by omega)]; exact hWC) ⟨vp_in_nI c90 (by omega), nm_r (e' := nI k0) (by rw [nI_clamp (by omega)]; exact hb) ⟨vp_in_nI (by omega) (by omega), nm_r (e' := upd BL wr (nI k0)) (by rw [nI_clamp (by omega)]) (nm_r (nI_1 wr) ⟨vk, br_t ?_ ?_⟩)⟩⟩⟩))
  · rw [kk, h1]
  · refine ⟨vp_in_nI c90 (by omega), nm_r (e' := nI m0) (by rw [nI_clamp (by omega)]; exact hs) ⟨vp_in_nI hwr (by omega), nm_r (e' := upd (upd BL wr (nI k0)) (wr + 1) (nI m0)) (by rw [nI_clamp (by omega)]) (nm_r (nI_1 (wr + 1)) ⟨by decide, nm_r (de_4 (by omega) hj ha) ⟨by decide, vk, ?_⟩⟩)⟩⟩
    unfold wpX_cellOf
    rw [kk, e1, e2, de_5 (by omega) hj, de_6 (by omega) hj, ce_X, ce_X]
    refine ⟨vp_in_nI (by omega) (by omega), nm_r (e' := upd WC t (nI (pr_ce m0 j b2))) (by rw [nI_clamp (by omega)]) ⟨by decide, vk, ?_⟩⟩
    rw [nI_1]
    refine ⟨vp_in_nI ht (by omega), nm_r (e' := upd (upd WC t (nI (pr_ce m0 j b2))) (t + 1) (nI (pr_ce i m0 b1))) (by rw [nI_clamp (by omega)]) (nm_r (nI_add t 2) (nm_r (nI_1 node) hp))⟩
theorem xb_end (post : Int32 → SX → Prop) (wr s node nf : Nat) (h : node = 9 ∨ s = 0) (hn : node ≤ 9) (hp : post (nI wr) (st_X n G E W BL WC)) : wX_writeBestList_14 post (nI n) (nf + 1) (nI wr) (nI s) (nI node) (G 0) (G 1) (G 2) (G 3) (G 4) (G 5) E.1 E.2.1 E.2.2.1 E.2.2.2 W BL WC := by
  rw [wX_writeBestList_14]
  by_cases z : node = 9
  · subst z
    exact br_t (by decide) hp
  · obtain rfl := h.resolve_left z
    exact br_f (nI_ge (b := 9) (by omega) (by decide)) (br_t (by decide) hp)
end
section
variable (n : Nat) (G : Nat → Nat → Int32) (E : pr_D) (U LI OP : Nat → Int32)
theorem yb_end (post : Int32 → SY → Prop) (x2 : Int32) (wr s node nf : Nat) (h : node = 9 ∨ s = 0) (hn : node ≤ 9) (hp : wY_bestAt_164 post x2 (nI n) (nI wr) (G 0) (G 1) (G 2) (G 3) (G 4) (G 5) E.2.1 E.1 U LI OP) : wY_bestAt_36 post x2 (nf + 1) (nI s) (nI node) (nI n) (nI wr) (G 0) (G 1) (G 2) (G 3) (G 4) (G 5) E.2.1 E.1 U LI OP := by
  rw [wY_bestAt_36]
  by_cases z : node = 9
  · subst z
    exact br_t (by decide) hp
  · obtain rfl := h.resolve_left z
    exact br_f (nI_ge (b := 9) (by omega) (by decide)) (br_t (by decide) hp)
theorem yb_node (post : Int32 → SY → Prop) (x2 : Int32) (i j a k0 m0 b1 b2 wr t node nf : Nat) (hG : pr_GI G) (hT : pr_TI E) (hij : i < j) (hj : j ≤ 5) (hjn : j ≤ n) (ha : a < 3) (nz : ¬ E.1 (pr_ce i j a) = 0) (hwr : wr + 1 < 16) (ht : t + 1 < 16) (hnode : node < 9) (hOP : OP t = nI (pr_ce i j a))
    (hB : ∀ i j a, i < j → j ≤ n → a < 3 → E.1 (pr_ce i j a) = 0 ∨ pr_Q 5 (E.2.1 (8 * pr_ce i j a)))
    (hc : pr_cd G E i j a k0 m0 (E.2.1 (8 * pr_ce i j a))) (hf : ∀ k' m' v, pr_lx k' m' k0 m0 → pr_cd G E i j a k' m' v → E.2.1 (8 * pr_ce i j a) < v) (e1 : G 2 k0 = nI b1) (e2 : G 3 k0 = nI b2)
    (hw : G 0 k0 = 2 → wY_bestAt_36 post x2 nf (nI t) (nI (node + 1)) (nI n) (nI (wr + 1)) (G 0) (G 1) (G 2) (G 3) (G 4) (G 5) E.2.1 E.1 U (upd LI wr (nI k0)) OP)
    (hp : G 0 k0 = 1 → i < m0 → m0 < j → wY_bestAt_36 post x2 nf (nI (t + 2)) (nI (node + 1)) (nI n) (nI (wr + 2)) (G 0) (G 1) (G 2) (G 3) (G 4) (G 5) E.2.1 E.1 U (upd (upd LI wr (nI k0)) (wr + 1) (nI m0)) (upd (upd OP t (nI (pr_ce m0 j b2))) (t + 1) (nI (pr_ce i m0 b1)))) :
    wY_bestAt_36 post x2 (nf + 1) (nI (t + 1)) (nI node) (nI n) (nI wr) (G 0) (G 1) (G 2) (G 3) (G 4) (G 5) E.2.1 E.1 U LI OP := by
  have hk0 := (pr_cd_m hij hc).2.2
  have vt : vp_in (nI t) 16 := vp_in_nI (by omega) (by omega)
  have ct : (nI t).toNatClampNeg = t := nI_clamp (by omega)
  have cw : (nI wr).toNatClampNeg = wr := nI_clamp (by omega)
  have ck : (nI k0).toNatClampNeg = k0 := nI_clamp (by omega)
  have vk : vp_in (nI k0) 8 := vp_in_nI hk0 (by omega)
  have i5 : i < 5 := by omega
  rw [wY_bestAt_36]
  dsimp only
  refine br_f (nI_ge (b := 9) hnode (by decide)) (br_f (nI_nle (by omega) (by omega)) (nm_r (pk_m1 t) ?_))
  rw [ct, hOP, de_2 i5 hj ha, de_3 i5 hj ha, de_1 i5 hj ha]
  refine ⟨vt, by decide, nm_e ⟨vt, by decide, by decide, nm_e ⟨vt, by decide, ?_⟩⟩⟩
  refine yb_begin n (nI wr) G E U LI OP _ i j a k0 m0 hG hT hij hj hjn ha nz hB hc hf (fun z => ⟨vp_in_nI (by omega) (by omega), ?_⟩) (fun z h1 h2 => ?_)
  · have h := hw z
    rw [cw, nI_1 wr]
    exact br_t (by decide) (nm_r (nI_1 node) h)
  · have h := hp z h1 h2
    have l2 : nI wr + 2 = nI (wr + 2) := nI_add wr 2
    have l0 : nI (wr + 2) - 2 = nI wr := pk_sub (a := wr + 2) (b := 2) (by omega)
    have c1 : (nI (wr + 1)).toNatClampNeg = wr + 1 := nI_clamp (by omega)
    have cL : upd (upd LI wr (nI k0)) (wr + 1) (nI m0) wr = nI k0 := by rw [pk_un (by omega), pk_us]
    rw [cw, nI_1 wr, c1, l2]
    refine ⟨vp_in_nI (by omega) (by omega), vp_in_nI (by omega) (by omega), ?_⟩
    dsimp only
    rw [l0, cw, cL]
    refine br_f (nI_nle (by omega) (by omega)) ⟨vp_in_nI (by omega) (by omega), nm_e ⟨vk, ?_⟩⟩
    unfold wpY_cell
    dsimp only
    rw [ck, e1, e2, ce_Y, ce_Y, nI_1 t, nI_clamp (n := t + 1) (by omega)]
    exact ⟨vt, nm_e ⟨vk, vp_in_nI ht (by omega), nm_e (nm_r (nI_add t 2) (nm_r (nI_1 node) h))⟩⟩
end
/-- the waiting spans, the top one first -/
def sk_S (A : Nat → Int32) : List (Nat × Nat × Nat) → Prop
  | [] => True
  | c :: st => A st.length = nI (pr_ce c.1 c.2.1 c.2.2) ∧ sk_S A st
def sk_w : List (Nat × Nat × Nat) → Nat
  | [] => 0
  | c :: st => (c.2.1 - c.1) + sk_w st
def sk_ok (n : Nat) (E E' : pr_D) (st : List (Nat × Nat × Nat)) : Prop := ∀ c, c ∈ st → c.1 < c.2.1 ∧ c.2.1 ≤ n ∧ c.2.2 < 3 ∧ ¬ E'.1 (pr_ce c.1 c.2.1 c.2.2) = 0
theorem sk_up {A : Nat → Int32} {p : Nat} {v : Int32} : ∀ st : List (Nat × Nat × Nat), st.length ≤ p → sk_S A st → sk_S (upd A p v) st := by
  intro st
  induction st with
  | nil => intro _ _; trivial
  | cons c st ih =>
    intro h hs
    have h' : st.length < p := h
    refine ⟨?_, ih (by omega) hs.2⟩
    rw [pk_un (by omega)]
    exact hs.1
theorem sk_len {n : Nat} {E E' : pr_D} : ∀ st : List (Nat × Nat × Nat), sk_ok n E E' st → st.length ≤ sk_w st := by
  intro st
  induction st with
  | nil => intro _; exact Nat.le_refl 0
  | cons c st ih =>
    intro h
    have a := ih (fun d hd => h d (by simp [hd]))
    have b := (h c (by simp)).1
    simp only [List.length_cons, sk_w]
    omega
theorem sk_run (n : Nat) (G : Nat → Nat → Int32) (E : pr_D) (W : Nat → Int32) (E' : pr_D) (U : Nat → Int32) (hn : n ≤ 5) (hG : pr_GI G) (hT : pr_TI E') (hA : ∀ i j, i < j → j ≤ n → pr_Ag (i, j) E E') (hBst : ∀ i j a, i < j → j ≤ n → a < 3 → pr_Bst G E' i j a) (hB : ∀ i j a, i < j → j ≤ n → a < 3 → E'.1 (pr_ce i j a) = 0 ∨ pr_Q 5 (E'.2.1 (8 * pr_ce i j a))) :
    ∀ (d node wr : Nat) (st : List (Nat × Nat × Nat)) (BL WC LI OP : Nat → Int32), node + d = 9 → sk_ok n E E' st → sk_w st ≤ n → 0 < n → wr + 2 + 3 * sk_w st = 3 * n + 2 * st.length → sk_S WC st → sk_S OP st → (∀ p, p < wr → BL p = LI p) →
      ∃ (wr' : Nat) (BL' WC' LI' OP' : Nat → Int32), wr' ≤ 13 ∧ (∀ p, p < wr' → BL' p = LI' p) ∧ (∀ post : Int32 → SX → Prop, post (nI wr') (st_X n G E W BL' WC') → wX_writeBestList_14 post (nI n) (d + 1) (nI wr) (nI st.length) (nI node) (G 0) (G 1) (G 2) (G 3) (G 4) (G 5) E.1 E.2.1 E.2.2.1 E.2.2.2 W BL WC) ∧
        (∀ (post : Int32 → SY → Prop) (x2 : Int32), wY_bestAt_164 post x2 (nI n) (nI wr') (G 0) (G 1) (G 2) (G 3) (G 4) (G 5) E'.2.1 E'.1 U LI' OP' → wY_bestAt_36 post x2 (d + 1) (nI st.length) (nI node) (nI n) (nI wr) (G 0) (G 1) (G 2) (G 3) (G 4) (G 5) E'.2.1 E'.1 U LI OP) := by
  intro d
  induction d with
  | zero =>
    intro node wr st BL WC LI OP hd hok hw hn0 he hWC hOP hBL
    have := sk_len st hok
    exact ⟨wr, BL, WC, LI, OP, by omega, hBL, fun post hp => xb_end n G E W BL WC post wr _ node 0 (Or.inl (by omega)) (by omega) hp, fun post x2 hp => yb_end n G E' U LI OP post x2 wr _ node 0 (Or.inl (by omega)) (by omega) hp⟩
  | succ d ih =>
    intro node wr st BL WC LI OP hd hok hw hn0 he hWC hOP hBL
    have hlen := sk_len st hok
    cases st with
    | nil => exact ⟨wr, BL, WC, LI, OP, by omega, hBL, fun post hp => xb_end n G E W BL WC post wr _ node _ (Or.inr rfl) (by omega) hp, fun post x2 hp => yb_end n G E' U LI OP post x2 wr _ node _ (Or.inr rfl) (by omega) hp⟩
    | cons c st =>
      obtain ⟨i, j, a⟩ := c
      obtain ⟨hij, hj, ha, nz⟩ := hok (i, j, a) (by simp)
      have hok' : sk_ok n E E' st := fun x hx => hok x (by simp [hx])
      have hlen' := sk_len st hok'
      dsimp only at hij hj ha nz
      simp only [List.length_cons, sk_w] at hlen hw he
      obtain ⟨s1, s2⟩ := hWC
      obtain ⟨p1, p2⟩ := hOP
      dsimp only at s1 p1
      obtain ⟨g, _, bn⟩ := hBst i j a hij hj ha
      obtain ⟨k0, m0, b1, b2, hc, hf⟩ := bn nz
      have hk0 := (pr_cd_m hij hc).2.2
      obtain ⟨⟨g1, l1⟩, ⟨g2, l2⟩, ⟨g3, l3⟩, _⟩ := pr_GIs hG hk0
      obtain ⟨t, ht, u1, u2, u3, u4⟩ := hA i j hij hj a ha
      have t0 : t ≠ 0 := by
        rintro rfl
        exact nz u2
      have xr := (u4 t0).1.trans b1
      have xs := (u4 t0).2.trans b2
      have hc' := hc
      obtain ⟨_, c1, c2⟩ := hc'
      rcases c2 with ⟨o1, o2, o3, o4, o5⟩ | ⟨o1, o2, o3, o4, o5, o6⟩
      · obtain ⟨wr', BL', WC', LI', OP', r1, r2, r3, r4⟩ := ih (node + 1) (wr + 1) st (upd BL wr (nI k0)) WC (upd LI wr (nI k0)) OP (by omega) hok' (by omega) hn0 (by omega) s2 p2 (fun p hp => by
          by_cases e : p = wr
          · rw [e, pk_us, pk_us]
          · rw [pk_un e, pk_un e]; exact hBL p (by omega))
        refine ⟨wr', BL', WC', LI', OP', r1, r2, fun post hp => ?_, fun post x2 hp => ?_⟩
        · exact xb_word n G E W BL WC post i j a k0 wr st.length node (d + 1) (by omega) (by omega) ha hk0 (by omega) (by omega) (by omega) s1 xr o1 (r3 post hp)
        · exact yb_node n G E' U LI OP post x2 i j a k0 m0 _ _ wr st.length node (d + 1) hG hT hij (by omega) hj ha nz (by omega) (by omega) (by omega) p1 hB hc hf g2 g3 (fun _ => r4 post x2 hp) (fun z => absurd (o1.symm.trans z) (by decide))
      · have w2 : sk_w ((i, m0, pr_cN G 2 k0) :: (m0, j, pr_cN G 3 k0) :: st) = (j - i) + sk_w st := by
          simp only [sk_w]
          omega
        obtain ⟨wr', BL', WC', LI', OP', r1, r2, r3, r4⟩ := ih (node + 1) (wr + 2) ((i, m0, pr_cN G 2 k0) :: (m0, j, pr_cN G 3 k0) :: st) (upd (upd BL wr (nI k0)) (wr + 1) (nI m0)) (upd (upd WC st.length (nI (pr_ce m0 j (pr_cN G 3 k0)))) (st.length + 1) (nI (pr_ce i m0 (pr_cN G 2 k0)))) (upd (upd LI wr (nI k0)) (wr + 1) (nI m0)) (upd (upd OP st.length (nI (pr_ce m0 j (pr_cN G 3 k0)))) (st.length + 1) (nI (pr_ce i m0 (pr_cN G 2 k0))))
          (by omega) (by
            intro x hx
            simp only [List.mem_cons] at hx
            rcases hx with rfl | rfl | hx
            · exact ⟨o2, by dsimp only; omega, l2, o4⟩
            · exact ⟨o3, hj, l3, o5⟩
            · exact hok' x hx) (by rw [w2]; omega) hn0 (by rw [w2]; simp only [List.length_cons]; omega)
          ⟨pk_us, by rw [pk_un (by omega)]; exact pk_us, sk_up st (by omega) (sk_up st (by omega) s2)⟩
          ⟨pk_us, by rw [pk_un (by omega)]; exact pk_us, sk_up st (by omega) (sk_up st (by omega) p2)⟩ (fun p hp => by
          by_cases e : p = wr + 1
          · rw [e, pk_us, pk_us]
          · rw [pk_un e, pk_un e]
            by_cases e' : p = wr
            · rw [e', pk_us, pk_us]
            · rw [pk_un e', pk_un e']; exact hBL p (by omega))
        refine ⟨wr', BL', WC', LI', OP', r1, r2, fun post hp => ?_, fun post x2 hp => ?_⟩
        · exact xb_pair n G E W BL WC post i j a k0 m0 _ _ wr st.length node (d + 1) o2 o3 (by omega) ha hk0 (by omega) (by omega) (by omega) s1 xr xs o1 g2 g3 (r3 post hp)
        · exact yb_node n G E' U LI OP post x2 i j a k0 m0 _ _ wr st.length node (d + 1) hG hT hij (by omega) hj ha nz (by omega) (by omega) (by omega) p1 hB hc hf g2 g3 (fun z => absurd (o1.symm.trans z) (by decide)) (fun _ _ _ => r4 post x2 hp)
theorem sk_164 (post : Int32 → SY → Prop) (x2 : Int32) (n wr : Nat) (G : Nat → Nat → Int32) (E : pr_D) (U LI OP : Nat → Int32) (hwr : wr ≤ 13) (h1 : ∀ p, p < wr → x2 = nI p → post (LI p) (st_Y n (nI wr) G E U LI OP)) (h0 : (∀ p, p < wr → ¬ x2 = nI p) → post (-1) (st_Y n (nI wr) G E U LI OP)) : wY_bestAt_164 post x2 (nI n) (nI wr) (G 0) (G 1) (G 2) (G 3) (G 4) (G 5) E.2.1 E.1 U LI OP := by
  unfold wY_bestAt_164
  rcases pk_ix x2 (n := wr) (by omega) with h | h | ⟨p, hp, rfl⟩
  · refine br_t h (h0 ?_)
    rintro p hp rfl
    exact nI_pos (by omega) h
  · have hn : ∀ p, p < wr → ¬ x2 = nI p := by
      rintro p hp rfl
      exact nI_ge hp (by omega) h
    exact br_c (fun _ => h0 hn) (fun _ => br_t h (h0 hn))
  · rw [nI_clamp (by omega)]
    exact br_f (nI_pos (by omega)) (br_f (nI_ge hp (by omega)) ⟨vp_in_nI (by omega) (by omega), h1 p hp rfl⟩)
theorem pr_FY_T {n : Nat} {G : Nat → Nat → Int32} (D : pr_D) (hn : n ≤ 5) (hG : pr_GI G) : pr_TI (pr_FY n G D) := by
  refine pr_TI_fold G hG _ ?_ _ (pr_z_TI 108 108 D (by omega) (by omega))
  intro s hs
  have := (cl_lY hn).1 s hs
  unfold cl_v at this
  omega
theorem pr_Bst_q {G : Nat → Nat → Int32} {E : pr_D} {i j a : Nat} (hij : i < j) (hj : j ≤ 5) (h : pr_Bst G E i j a) : E.1 (pr_ce i j a) = 0 ∨ pr_Q 5 (E.2.1 (8 * pr_ce i j a)) := by
  by_cases z : E.1 (pr_ce i j a) = 0
  · exact Or.inl z
  · refine Or.inr ?_
    have := pr_Gd_0 h.1 z
    unfold pr_Q at *
    omega
/-- both lists from the whole row's cell -/
theorem sk_all {n : Nat} {G : Nat → Nat → Int32} (E : pr_D) (D' : pr_D) (W U BL WC LI OP : Nat → Int32) (hn : n ≤ 5) (h0 : 0 < n) (hG : pr_GI G) (hA : ∀ i j, i < j → j ≤ n → pr_Ag (i, j) E (pr_FY n G D')) (a : Nat) (ha : a < 3) (nz : ¬ (pr_FY n G D').1 (pr_ce 0 n a) = 0) :
    ∃ (wr' : Nat) (BL' WC' LI' OP' : Nat → Int32), wr' ≤ 13 ∧ (∀ p, p < wr' → BL' p = LI' p) ∧ (∀ post : Int32 → SX → Prop, post (nI wr') (st_X n G E W BL' WC') → wX_writeBestList_14 post (nI n) 10 0 1 0 (G 0) (G 1) (G 2) (G 3) (G 4) (G 5) E.1 E.2.1 E.2.2.1 E.2.2.2 W BL (upd WC 0 (nI (pr_ce 0 n a)))) ∧
        (∀ (post : Int32 → SY → Prop) (x2 : Int32), wY_bestAt_164 post x2 (nI n) (nI wr') (G 0) (G 1) (G 2) (G 3) (G 4) (G 5) (pr_FY n G D').2.1 (pr_FY n G D').1 U LI' OP' → wY_bestAt_36 post x2 10 1 0 (nI n) 0 (G 0) (G 1) (G 2) (G 3) (G 4) (G 5) (pr_FY n G D').2.1 (pr_FY n G D').1 U LI (upd OP 0 (nI (pr_ce 0 n a)))) := by
  have K := sk_run n G E W (pr_FY n G D') U hn hG (pr_FY_T D' hn hG) hA (fun i j a h1 h2 h3 => pr_FY_B D' hn hG h1 h2 h3) (fun i j a h1 h2 h3 => pr_Bst_q h1 (by omega) (pr_FY_B D' hn hG h1 h2 h3)) 9 0 0 [(0, n, a)] BL (upd WC 0 (nI (pr_ce 0 n a))) LI (upd OP 0 (nI (pr_ce 0 n a))) (by omega)
    (by
      intro c hc
      simp only [List.mem_singleton] at hc
      subst hc
      exact ⟨h0, Nat.le_refl n, ha, nz⟩) (by simp only [sk_w]; omega) h0 (by simp only [sk_w, List.length_cons, List.length_nil]; omega) ⟨pk_us, trivial⟩ ⟨pk_us, trivial⟩ (fun p hp => absurd hp (by omega))
  exact K
theorem rd_yBest (n : Nat) (ls : Int32) (G : Nat → Nat → Int32) (D' : pr_D) (U LI OP : Nat → Int32) (hn : n ≤ 5) (hG : pr_GI G) (v1 v2 : Int32) (post : Int32 → SY → Prop)
    (h0 : (∀ a, a < 3 → 0 < n → v1 = nI a → (pr_FY n G D').1 (pr_ce 0 n a) = 0) → post (-1) (st_Y n ls G (pr_FY n G D') U LI OP))
    (h1 : ∀ a, a < 3 → 0 < n → v1 = nI a → ¬ (pr_FY n G D').1 (pr_ce 0 n a) = 0 → ∃ n36 : Nat, wY_bestAt_36 post v2 n36 1 0 (nI n) 0 (G 0) (G 1) (G 2) (G 3) (G 4) (G 5) (pr_FY n G D').2.1 (pr_FY n G D').1 U LI (upd OP 0 (nI (pr_ce 0 n a)))) : wpY_bestAt post (st_Y n ls G D' U LI OP) v1 v2 := by
  unfold wpY_bestAt
  refine rd_yTrees n ls G D' U LI OP hn hG v1 _ (fun z => ?_) (fun a ha hn0 e => ?_)
  · exact br_t rfl (h0 (fun a ha hn0 e => absurd ⟨⟨a, ha, e⟩, hn0⟩ z))
  · by_cases z : (pr_FY n G D').1 (pr_ce 0 n a) = 0
    · refine br_t z (h0 (fun a' ha' _ e' => ?_))
      rw [e, nI_eq (by omega) (by omega)] at e'
      subst e'
      exact z
    · refine br_f z ?_
      have h := h1 a ha hn0 e z
      unfold wpY_cell
      dsimp only
      have e18 : 18 * (0 : Int32) + 3 * nI n + v1 = nI (pr_ce 0 n a) := by rw [e]; exact ce_Y 0 n a
      rw [e18]
      exact nm_e h
theorem i_vc_bestAt {k : Nat} {u : SX} {v : SY} (I : i_Rel k u v) (hk : k + 5 ≤ 2560) (v1 : Int32) (v2 : Int32) : wpX_bestAt (fun r u' => wpY_bestAt (fun r' v' => r' = r ∧ i_Rel (k + 5) u' v') v v1 v2) u v1 v2 := by
  obtain ⟨n, G, D, W, BL, WC, ls, D', U, LI, OP, hn, hG, rfl, rfl⟩ := I
  have N : (¬ (rd_vS v1 ∧ 0 < n) ∨ ∀ p, p < 13 → ¬ v2 = nI p) → wpY_bestAt (fun r' v' => r' = -1 ∧ i_Rel (k + 5) (st_X n G D W BL WC) v') (st_Y n ls G D' U LI OP) v1 v2 := by
    intro o
    refine rd_yBest n ls G D' U LI OP hn hG v1 v2 _ (fun _ => ⟨rfl, rd_mk hn hG⟩) (fun a ha hn0 e nz => ?_)
    have o' := o.resolve_left (fun z => z ⟨⟨a, ha, e⟩, hn0⟩)
    obtain ⟨wr, BL', WC', LI', OP', r1, r2, r3, r4⟩ := sk_all (pr_FX n G D) D' W U BL WC LI OP hn hn0 hG (pr_FXY D D' hn hG) a ha nz
    exact ⟨10, r4 _ v2 (sk_164 _ v2 n wr G (pr_FY n G D') U LI' OP' r1 (fun p hp e => absurd e (o' p (by omega))) (fun _ => ⟨rfl, rd_mk hn hG⟩))⟩
  unfold wpX_bestAt
  dsimp only
  refine rd_sym (fun s => br_f (by decide) ?_) (fun s => br_t rfl (N (Or.inl (fun z => s z.1))))
  by_cases hz : n = 0
  · subst hz
    exact br_t (by decide) (N (Or.inl (fun z => absurd z.2 (by omega))))
  refine br_f (nI_ne0 (by omega) (by omega)) ?_
  rcases pk_ix v2 (n := 13) (by omega) with h | h | ⟨q, hq, rfl⟩
  · refine br_t h (N (Or.inr ?_))
    rintro p hp rfl
    exact nI_pos (by omega) h
  · have hn13 : ∀ p, p < 13 → ¬ v2 = nI p := by
      rintro p hp rfl
      exact nI_ge hp (by omega) h
    exact br_c (fun _ => N (Or.inr hn13)) (fun _ => br_f (fun z => absurd (Int32.lt_of_le_of_lt h z) (by decide)) (N (Or.inr hn13)))
  · refine br_f (nI_pos (by omega)) (br_t (nI_lt (b := 13) hq (by decide)) ?_)
    obtain ⟨a, ha, rfl⟩ := s
    refine xf_F n G W BL WC _ hG hn D ?_
    unfold wpX_cellOf
    dsimp only
    have c90 := pr_ce90 (i := 0) (j := n) (by omega) hn ha
    have e : ((0 : Int32) * 6 + nI n) * 3 + nI a = nI (pr_ce 0 n a) := ce_X 0 n a
    have A := pr_FXY D D' hn hG 0 n (by omega) (by omega) a ha
    have eT := pr_ag_t A
    dsimp only at eT
    rw [e, nI_clamp (n := pr_ce 0 n a) (by omega)]
    refine ⟨vp_in_nI c90 (by omega), br_c (fun z => ?_) (fun z => ?_)⟩
    · refine rd_yBest n ls G D' U LI OP hn hG (nI a) _ _ (fun _ => ⟨rfl, rd_mk hn hG⟩) (fun a' ha' _ e' nz => ?_)
      rw [nI_eq (by omega) (by omega)] at e'
      subst e'
      exact absurd (eT.symm.trans z) nz
    · have nz : ¬ (pr_FY n G D').1 (pr_ce 0 n a) = 0 := by rw [← eT]; exact z
      obtain ⟨wr, BL', WC', LI', OP', r1, r2, r3, r4⟩ := sk_all (pr_FX n G D) D' W U BL WC LI OP hn (by omega) hG (pr_FXY D D' hn hG) a ha nz
      unfold wpX_writeBestList
      dsimp only
      refine nm_e ⟨10, r3 _ ?_⟩
      have Y : ∀ (r : Int32) (u' : SX), (∃ E BL WC, u' = st_X n G E W BL WC) → (∀ p, p < wr → nI q = nI p → LI' p = r) → ((∀ p, p < wr → ¬ nI q = nI p) → -1 = r) → wpY_bestAt (fun r' v' => r' = r ∧ i_Rel (k + 5) u' v') (st_Y n ls G D' U LI OP) (nI a) (nI q) := by
        rintro r u' ⟨E2, BL2, WC2, rfl⟩ y1 y0
        refine rd_yBest n ls G D' U LI OP hn hG (nI a) _ _ (fun y => absurd (y a ha (by omega) rfl) nz) (fun a' ha' _ e' nz' => ?_)
        rw [nI_eq (by omega) (by omega)] at e'
        subst e'
        exact ⟨10, r4 _ _ (sk_164 _ _ n wr G (pr_FY n G D') U LI' OP' r1 (fun p hp e => ⟨y1 p hp e, rd_mk hn hG⟩) (fun o => ⟨y0 o, rd_mk hn hG⟩))⟩
      refine pk_le wr q (fun le => ?_) (fun lt => ⟨vp_in_nI hq (by omega), ?_⟩)
      · refine Y _ _ ⟨_, _, _, rfl⟩ (fun p hp e => ?_) (fun _ => rfl)
        rw [nI_eq (by omega) (by omega)] at e
        omega
      · rw [nI_clamp (by omega)]
        refine Y _ _ ⟨_, _, _, rfl⟩ (fun p hp e => ?_) (fun o => absurd rfl (o q lt))
        rw [nI_eq (by omega) (by omega)] at e
        subst e
        exact (r2 q lt).symm
end
section
/-! costWith: the pure picture -/
def wo_mn (y x : Int32) : Int32 := if y = -1 ∨ x < y then x else y
def wo_1 (G : Nat → Nat → Int32) (E : pr_D) (rr c k l r : Nat) (W : Nat → Int32) : Int32 := if k = rr then wo_mn (W c) (G 4 k + E.2.1 (8 * l) + E.2.1 (8 * r)) else W c
def wo_2 (G : Nat → Nat → Int32) (E : pr_D) (rr c k l r : Nat) (W : Nat → Int32) : Int32 := if W l = -1 then wo_1 G E rr c k l r W else wo_mn (wo_1 G E rr c k l r W) (G 4 k + W l + E.2.1 (8 * r))
def wo_3 (G : Nat → Nat → Int32) (E : pr_D) (rr c k l r : Nat) (W : Nat → Int32) : Int32 := if W r = -1 then wo_2 G E rr c k l r W else wo_mn (wo_2 G E rr c k l r W) (G 4 k + E.2.1 (8 * l) + W r)
def wo_s (G : Nat → Nat → Int32) (E : pr_D) (rr c k l r : Nat) (W : Nat → Int32) : Nat → Int32 := if E.1 l = 0 ∨ E.1 r = 0 then W else upd W c (wo_3 G E rr c k l r W)
def wo_w (G : Nat → Nat → Int32) (rr i j k : Nat) (W : Nat → Int32) : Nat → Int32 := if k = rr ∧ G 0 k = 2 ∧ j = i + 1 ∧ G 2 k = G 5 i then upd W (pr_ce i j (pr_cN G 1 k)) (wo_mn (W (pr_ce i j (pr_cN G 1 k))) (G 4 k)) else W
def wo_m (G : Nat → Nat → Int32) (E : pr_D) (rr i j k : Nat) (W : Nat → Int32) (m : Nat) : Nat → Int32 := wo_s G E rr (pr_ce i j (pr_cN G 1 k)) k (pr_ce i m (pr_cN G 2 k)) (pr_ce m j (pr_cN G 3 k)) W
def wo_r (G : Nat → Nat → Int32) (E : pr_D) (rr i j : Nat) (W : Nat → Int32) (k : Nat) : Nat → Int32 :=
  if G 0 k = 1 then (List.range' (i + 1) (j - 1 - i)).foldl (wo_m G E rr i j k) (wo_w G rr i j k W) else wo_w G rr i j k W
def wo_p (G : Nat → Nat → Int32) (E : pr_D) (rr : Nat) (W : Nat → Int32) (s : Nat × Nat) : Nat → Int32 := (List.range' 0 8).foldl (wo_r G E rr s.1 s.2) W
theorem wo_uu {W : Nat → Int32} {c : Nat} {a b : Int32} : upd (upd W c a) c b = upd W c b := by
  funext q
  unfold upd
  by_cases e : q = c
  · rw [if_pos e, if_pos e]
  · rw [if_neg e, if_neg e, if_neg e]
theorem wo_id {W : Nat → Int32} {c : Nat} {a : Int32} (h : a = W c) : upd W c a = W := by
  funext q
  unfold upd
  by_cases e : q = c
  · rw [if_pos e, h, e]
  · rw [if_neg e]
/-- off the span nothing changes -/
theorem wo_p_off {G : Nat → Nat → Int32} {E : pr_D} {rr i j : Nat} {W : Nat → Int32} (hG : pr_GI G) : ∀ c', pr_off i j c' → wo_p G E rr W (i, j) c' = W c' := by
  intro c' hc'
  refine fo_inv (P := fun V : Nat → Int32 => V c' = W c') _ _ rfl ?_
  intro V k hk hV
  have hk8 : k < 8 := by have := fo_mem hk; omega
  obtain ⟨⟨_, h1⟩, _⟩ := pr_GIs hG hk8
  have hw : wo_w G rr i j k V c' = W c' := by
    unfold wo_w
    split
    · rw [pk_un (hc' _ h1)]; exact hV
    · exact hV
  show wo_r G E rr i j V k c' = W c'
  unfold wo_r
  split
  · refine fo_inv (P := fun V : Nat → Int32 => V c' = W c') _ _ hw ?_
    intro V' m _ hV'
    unfold wo_m wo_s
    split
    · exact hV'
    · rw [pk_un (hc' _ h1)]; exact hV'
  · exact hw
def wo_Ag (s : Nat × Nat) (W W' : Nat → Int32) : Prop := ∀ a, a < 3 → W (pr_ce s.1 s.2 a) = W' (pr_ce s.1 s.2 a)
theorem wo_p_congr {G : Nat → Nat → Int32} {E : pr_D} {rr i j : Nat} {W W' : Nat → Int32} (hG : pr_GI G) (h : wo_Ag (i, j) W W') (hp : ∀ m, i < m → m < j → wo_Ag (i, m) W W' ∧ wo_Ag (m, j) W W') : wo_Ag (i, j) (wo_p G E rr W (i, j)) (wo_p G E rr W' (i, j)) := by
  have K : ∀ c, (∃ a, a < 3 ∧ (c = pr_ce i j a ∨ ∃ m, i < m ∧ m < j ∧ (c = pr_ce i m a ∨ c = pr_ce m j a))) → wo_p G E rr W (i, j) c = wo_p G E rr W' (i, j) c := by
    unfold wo_p
    refine fo_rel (P := fun V V' : Nat → Int32 => ∀ c, (∃ a, a < 3 ∧ (c = pr_ce i j a ∨ ∃ m, i < m ∧ m < j ∧ (c = pr_ce i m a ∨ c = pr_ce m j a))) → V c = V' c) _ _ _ ?_ ?_
    · rintro c ⟨a, ha, rfl | ⟨m, h1, h2, rfl | rfl⟩⟩
      · exact h a ha
      · exact (hp m h1 h2).1 a ha
      · exact (hp m h1 h2).2 a ha
    · intro V V' k hk hV
      have hk8 : k < 8 := by have := fo_mem hk; omega
      obtain ⟨⟨_, h1⟩, ⟨_, h2⟩, ⟨_, h3⟩, _⟩ := pr_GIs hG hk8
      have up : ∀ (X X' : Nat → Int32) (q : Nat) (x x' : Int32), x = x' → (∀ c, (∃ a, a < 3 ∧ (c = pr_ce i j a ∨ ∃ m, i < m ∧ m < j ∧ (c = pr_ce i m a ∨ c = pr_ce m j a))) → X c = X' c) → ∀ c, (∃ a, a < 3 ∧ (c = pr_ce i j a ∨ ∃ m, i < m ∧ m < j ∧ (c = pr_ce i m a ∨ c = pr_ce m j a))) → upd X q x c = upd X' q x' c := by
        intro X X' q x x' ex hX c hc
        subst ex
        unfold upd
        by_cases e : c = q
        · rw [if_pos e, if_pos e]
        · rw [if_neg e, if_neg e]; exact hX c hc
      have hw : ∀ c, (∃ a, a < 3 ∧ (c = pr_ce i j a ∨ ∃ m, i < m ∧ m < j ∧ (c = pr_ce i m a ∨ c = pr_ce m j a))) → wo_w G rr i j k V c = wo_w G rr i j k V' c := by
        unfold wo_w
        split
        · refine up _ _ _ _ _ ?_ hV
          rw [hV _ ⟨_, h1, Or.inl rfl⟩]
        · exact hV
      show ∀ c, _ → wo_r G E rr i j V k c = wo_r G E rr i j V' k c
      unfold wo_r
      split
      · refine fo_rel (P := fun V V' : Nat → Int32 => ∀ c, (∃ a, a < 3 ∧ (c = pr_ce i j a ∨ ∃ m, i < m ∧ m < j ∧ (c = pr_ce i m a ∨ c = pr_ce m j a))) → V c = V' c) _ _ _ hw ?_
        intro X X' m hm hX
        have hm' := fo_mem hm
        unfold wo_m wo_s
        split
        · exact hX
        · refine up _ _ _ _ _ ?_ hX
          unfold wo_3 wo_2 wo_1
          rw [hX _ ⟨_, h1, Or.inl rfl⟩, hX (pr_ce i m (pr_cN G 2 k)) ⟨_, h2, Or.inr ⟨m, by omega, by omega, Or.inl rfl⟩⟩, hX (pr_ce m j (pr_cN G 3 k)) ⟨_, h3, Or.inr ⟨m, by omega, by omega, Or.inr rfl⟩⟩]
      · exact hw
  intro a ha
  exact K _ ⟨a, ha, Or.inl rfl⟩
/-- two charts that are alike give the same -/
theorem wo_p_E {G : Nat → Nat → Int32} {E E' : pr_D} {rr i j : Nat} {W : Nat → Int32} (hG : pr_GI G) (hA : ∀ m, i < m → m < j → pr_Ag (i, m) E E' ∧ pr_Ag (m, j) E E') : wo_p G E rr W (i, j) = wo_p G E' rr W (i, j) := by
  unfold wo_p
  refine fo_rel (P := fun V V' : Nat → Int32 => V = V') _ _ _ rfl ?_
  intro V V' k hk hV
  subst hV
  have hk8 : k < 8 := by have := fo_mem hk; omega
  obtain ⟨_, ⟨_, h2⟩, ⟨_, h3⟩, _⟩ := pr_GIs hG hk8
  show wo_r G E rr i j V k = wo_r G E' rr i j V k
  unfold wo_r
  split
  · refine fo_rel (P := fun V V' : Nat → Int32 => V = V') _ _ _ rfl ?_
    intro X X' m hm hX
    subst hX
    have hm' := fo_mem hm
    have al := (hA m (by omega) (by omega)).1 _ h2
    have ar := (hA m (by omega) (by omega)).2 _ h3
    dsimp only at al ar
    unfold wo_m wo_s
    rw [← pr_ag_t al, ← pr_ag_t ar]
    by_cases z : E.1 (pr_ce i m (pr_cN G 2 k)) = 0 ∨ E.1 (pr_ce m j (pr_cN G 3 k)) = 0
    · rw [if_pos z, if_pos z]
    · rw [if_neg z, if_neg z]
      unfold wo_3 wo_2 wo_1
      rw [pr_ag_0 al (fun y => z (Or.inl y)), pr_ag_0 ar (fun y => z (Or.inr y))]
  · rfl
theorem wo_fold_E {G : Nat → Nat → Int32} {E E' : pr_D} {rr n : Nat} (hG : pr_GI G) (hA : ∀ i j, i < j → j ≤ n → pr_Ag (i, j) E E') (L : List (Nat × Nat)) (hL : ∀ s, s ∈ L → cl_v n s) (W : Nat → Int32) : L.foldl (wo_p G E rr) W = L.foldl (wo_p G E' rr) W := by
  refine fo_rel (P := fun V V' : Nat → Int32 => V = V') L W W rfl ?_
  intro V V' s hs hV
  subst hV
  obtain ⟨v1, v2⟩ := hL s hs
  exact wo_p_E (i := s.1) (j := s.2) hG (fun m h1 h2 => ⟨hA _ _ h1 (by omega), hA _ _ h2 v2⟩)
theorem wo_C {G : Nat → Nat → Int32} {E : pr_D} {rr n : Nat} (hG : pr_GI G) (hn : n ≤ 5) {L : List (Nat × Nat)} (hL : cl_ok n L) (W : Nat → Int32) : cl_C (wo_p G E rr) wo_Ag (fun _ => True) n (L.foldl (wo_p G E rr) W) W := by
  refine cl_fold (n := n) (wo_p G E rr) wo_Ag (fun _ => True) (fun s a b h x hx => (h x hx).symm) (fun s a b c h h' x hx => (h x hx).trans (h' x hx)) (fun _ _ _ _ _ _ => rfl) (fun _ _ _ _ => trivial) ?_ hL W trivial
  rintro ⟨i, j⟩ ⟨i', j'⟩ a ⟨v1, v2⟩ ⟨v3, v4⟩ ne _ x hx
  refine (wo_p_off hG _ ?_).symm
  intro b hb e
  unfold pr_ce at e
  simp only [ne_eq, Prod.mk.injEq] at ne
  dsimp only at e v1 v2 v3 v4
  omega
/-- before: no cell is reached -/
def wo_z (N q : Nat) (W : Nat → Int32) : Nat → Int32 := fun c => if c < q ∧ c < N then -1 else W c
theorem wo_z_up (N q : Nat) (W : Nat → Int32) (hq : q < N) : upd (wo_z N q W) q (-1) = wo_z N (q + 1) W := by
  funext c
  unfold upd wo_z
  by_cases e : c = q
  · rw [if_pos e, if_pos (by omega)]
  · rw [if_neg e]
    by_cases h : c < q ∧ c < N
    · rw [if_pos h, if_pos (by omega)]
    · rw [if_neg h, if_neg (by omega)]
theorem wo_z0 {N c : Nat} {W : Nat → Int32} (hc : c < 90) (hN : 90 ≤ N) : wo_z N N W c = -1 := by
  unfold wo_z
  rw [if_pos (by omega)]
theorem wo_XY {G : Nat → Nat → Int32} {E E' : pr_D} {rr n : Nat} (hG : pr_GI G) (hn : n ≤ 5) (hA : ∀ i j, i < j → j ≤ n → pr_Ag (i, j) E E') (W W' : Nat → Int32) : ∀ i j, i < j → j ≤ n → wo_Ag (i, j) ((pr_lX n).foldl (wo_p G E rr) (wo_z 90 90 W)) ((pr_lY n).foldl (wo_p G E' rr) (wo_z 108 108 W')) := by
  intro i j hij hj
  rw [wo_fold_E hG hA (pr_lX n) (cl_lX hn).1]
  refine cl_uniq (n := n) (wo_p G E' rr) wo_Ag (fun _ => True) (fun s a b h x hx => (h x hx).symm) (fun s a b c h h' x hx => (h x hx).trans (h' x hx)) (fun i j a b _ _ _ _ h hp => wo_p_congr hG h hp) (wo_C hG hn (cl_lX hn) _) (wo_C hG hn (cl_lY hn) _) ?_ (j - i + 1) i j hij hj (by omega)
  intro i j hij hj a ha
  have := pr_ce90 (i := i) (j := j) (by omega) (by omega) ha
  dsimp only
  rw [wo_z0 this (by omega), wo_z0 this (by omega)]
end
section
/-! X: fillLeastWith is the pure picture -/
abbrev jt_X : Type := Int32 → Int32 → (Nat → Int32) → (Nat → Int32) → (Nat → Int32) → (Nat → Int32) → (Nat → Int32) → (Nat → Int32) → (Nat → Int32) → (Nat → Int32) → (Nat → Int32) → (Nat → Int32) → (Nat → Int32) → (Nat → Int32) → (Nat → Int32) → Prop
section
variable (n : Nat) (G : Nat → Nat → Int32) (E : pr_D) (BL WC : Nat → Int32)
theorem xo_offer (W : Nat → Int32) (post : SX → Prop) (x : Int32) (c : Nat) (hc : c < 90) (hp : post (st_X n G E (upd W c (wo_mn (W c) x)) BL WC)) : wpX_offerWith post (st_X n G E W BL WC) (nI c) x := by
  have v : vp_in (nI c) 90 := vp_in_nI hc (by omega)
  unfold wpX_offerWith
  dsimp only
  rw [nI_clamp (n := c) (by omega)]
  refine ⟨v, br_c (fun z => ⟨v, nm_e ?_⟩) (fun z => ⟨v, br_c (fun y => ?_) (fun y => ⟨v, nm_e ?_⟩)⟩)⟩
  · have e : wo_mn (W c) x = x := if_pos (Or.inl z)
    rw [e] at hp
    exact hp
  · have e : wo_mn (W c) x = W c := if_neg (fun o => o.elim z (fun w => absurd y (Int32.not_le.mpr w)))
    rw [wo_id e] at hp
    exact hp
  · have e : wo_mn (W c) x = x := if_pos (Or.inr (Int32.not_le.mp y))
    rw [e] at hp
    exact hp
theorem xo_79 (W : Nat → Int32) (post : SX → Prop) (x6 x7 y : Int32) (c r : Nat) (hc : c < 90) (hr : r < 90) (nr : r ≠ c) (hp : post (st_X n G E (upd W c (if W r = -1 then y else wo_mn y (x6 + x7 + W r))) BL WC)) : wX_offerSplitWith_79 post (nI c) (nI r) x6 x7 (nI n) (G 0) (G 1) (G 2) (G 3) (G 4) (G 5) E.1 E.2.1 E.2.2.1 E.2.2.2 (upd W c y) BL WC := by
  have v : vp_in (nI r) 90 := vp_in_nI hr (by omega)
  unfold wX_offerSplitWith_79
  rw [nI_clamp (n := r) (by omega), pk_un nr]
  by_cases z : W r = -1
  · rw [if_pos z] at hp
    exact ⟨v, br_t z hp⟩
  · rw [if_neg z] at hp
    refine ⟨v, br_f z ⟨v, xo_offer n G E BL WC _ _ _ c hc ?_⟩⟩
    rw [wo_uu, pk_us]
    exact hp
theorem xo_50 (W : Nat → Int32) (post : SX → Prop) (x6 x7 x8 y : Int32) (c l r : Nat) (hc : c < 90) (hl : l < 90) (hr : r < 90) (nl : l ≠ c) (nr : r ≠ c) (hp : post (st_X n G E (upd W c (if W r = -1 then (if W l = -1 then y else wo_mn y (x6 + W l + x8)) else wo_mn (if W l = -1 then y else wo_mn y (x6 + W l + x8)) (x6 + x7 + W r))) BL WC)) : wX_offerSplitWith_50 post (nI c) (nI l) (nI r) x6 x7 x8 (nI n) (G 0) (G 1) (G 2) (G 3) (G 4) (G 5) E.1 E.2.1 E.2.2.1 E.2.2.2 (upd W c y) BL WC := by
  have v : vp_in (nI l) 90 := vp_in_nI hl (by omega)
  unfold wX_offerSplitWith_50
  rw [nI_clamp (n := l) (by omega), pk_un nl]
  by_cases z : W l = -1
  · rw [if_pos z] at hp
    exact ⟨v, br_t z (xo_79 n G E BL WC W post x6 x7 _ c r hc hr nr hp)⟩
  · rw [if_neg z] at hp
    refine ⟨v, br_f z ⟨v, xo_offer n G E BL WC _ _ _ c hc ?_⟩⟩
    rw [wo_uu, pk_us]
    exact xo_79 n G E BL WC W post x6 x7 _ c r hc hr nr hp
theorem xo_split (W : Nat → Int32) (post : SX → Prop) (rr c k l r : Nat) (hrr : rr < 8) (hk : k < 8) (hc : c < 90) (hl : l < 90) (hr : r < 90) (nl : l ≠ c) (nr : r ≠ c) (hp : post (st_X n G E (upd W c (wo_3 G E rr c k l r W)) BL WC)) : wpX_offerSplitWith post (st_X n G E W BL WC) (nI rr) (nI c) (nI k) (nI l) (nI r) := by
  have el : nI l * 8 = nI (8 * l) := by rw [show (8 : Int32) = nI 8 from rfl, pk_mul, Nat.mul_comm]
  have er : nI r * 8 = nI (8 * r) := by rw [show (8 : Int32) = nI 8 from rfl, pk_mul, Nat.mul_comm]
  unfold wpX_offerSplitWith
  dsimp only
  rw [el, er, nI_clamp (n := k) (by omega), nI_clamp (n := 8 * l) (by omega), nI_clamp (n := 8 * r) (by omega)]
  unfold wo_3 wo_2 wo_1 at hp
  refine ⟨vp_in_nI hk (by omega), nm_e ⟨vp_in_nI (by omega) (by omega), nm_e ⟨vp_in_nI (by omega) (by omega), nm_e ?_⟩⟩⟩
  refine pk_eq k rr (fun e => ?_) (fun e => ?_)
  · rw [if_pos e] at hp
    refine xo_offer n G E BL WC _ _ _ c hc ?_
    exact xo_50 n G E BL WC W post _ _ _ _ c l r hc hl hr nl nr hp
  · rw [if_neg e] at hp
    have K := xo_50 n G E BL WC W post (G 4 k) (E.2.1 (8 * l)) (E.2.1 (8 * r)) (W c) c l r hc hl hr nl nr hp
    rw [wo_id rfl] at K
    exact K
theorem xo_T {t : Nat} {x : Int32} (ht : t ≤ 8) (h : x = nI t) : x ≤ 0 ↔ x = 0 := by
  subst h
  by_cases z : t = 0
  · subst z; decide
  · constructor
    · intro y; exact absurd y (nI_nle (by omega) (by omega))
    · intro y; exact absurd y (nI_ne0 (by omega) (by omega))
theorem xo_57 (post : SX → Prop) (rr i j k : Nat) (hG : pr_GI G) (hT : pr_TI E) (hrr : rr < 8) (hij : i < j) (hj : j ≤ 5) (hk : k < 8) :
    ∀ (d m : Nat) (W : Nat → Int32) (nf : Nat), m + d = j → i < m → d < nf → post (st_X n G E ((List.range' m d).foldl (wo_m G E rr i j k) W) BL WC) → wX_offerTreesWith_57 post (nI rr) (nI k) (nI i) (nI j) (nI (pr_ce i j (pr_cN G 1 k))) nf (nI m) (nI n) (G 0) (G 1) (G 2) (G 3) (G 4) (G 5) E.1 E.2.1 E.2.2.1 E.2.2.2 W BL WC := by
  obtain ⟨⟨g1, h1⟩, ⟨g2, h2⟩, ⟨g3, h3⟩, _⟩ := pr_GIs hG hk
  intro d
  induction d with
  | zero =>
    intro m W nf hm him hnf hp
    obtain ⟨f, rfl⟩ : ∃ f, nf = f + 1 := ⟨nf - 1, by omega⟩
    rw [wX_offerTreesWith_57]
    exact br_t (nI_le (by omega) (by omega)) hp
  | succ d ih =>
    intro m W nf hm him hnf hp
    obtain ⟨f, rfl⟩ : ∃ f, nf = f + 1 := ⟨nf - 1, by omega⟩
    have c90 := pr_ce90 (i := i) (by omega) hj h1
    have l90 := pr_ce90 (i := i) (j := m) (by omega) (by omega) h2
    have r90 := pr_ce90 (i := m) (j := j) (by omega) hj h3
    have hp' := ih (m + 1) (wo_m G E rr i j k W m) f (by omega) (by omega) (by omega) hp
    unfold wo_m wo_s at hp'
    obtain ⟨tl, q1, q2⟩ := hT _ l90
    obtain ⟨tr, q3, q4⟩ := hT _ r90
    rw [wX_offerTreesWith_57]
    dsimp only
    unfold wpX_cellOf
    rw [nI_clamp (n := k) (by omega), g2, g3, ce_X, ce_X]
    dsimp only
    rw [nI_clamp (n := pr_ce i m (pr_cN G 2 k)) (by omega), nI_clamp (n := pr_ce m j (pr_cN G 3 k)) (by omega), xo_T q1 q2, xo_T q3 q4, nI_1 m]
    refine br_f (nI_ge (by omega) (by omega)) ⟨vp_in_nI hk (by omega), vp_in_nI hk (by omega), vp_in_nI l90 (by omega), br_c (fun z => ?_) (fun z => ⟨vp_in_nI r90 (by omega), br_c (fun y => ?_) (fun y => ?_)⟩)⟩
    · rw [if_pos (Or.inl z)] at hp'
      exact nm_e hp'
    · rw [if_pos (Or.inr y)] at hp'
      exact nm_e hp'
    · rw [if_neg (fun o => o.elim z y)] at hp'
      refine xo_split n G E BL WC W _ rr _ k _ _ hrr hk c90 l90 r90 (by unfold pr_ce; omega) (by unfold pr_ce; omega) ?_
      exact nm_e hp'
theorem xo_42 (W : Nat → Int32) (post : SX → Prop) (rr i j k : Nat) (hG : pr_GI G) (hT : pr_TI E) (hrr : rr < 8) (hij : i < j) (hj : j ≤ 5) (hk : k < 8) (hp : post (st_X n G E (if G 0 k = 1 then (List.range' (i + 1) (j - 1 - i)).foldl (wo_m G E rr i j k) W else W) BL WC)) : wX_offerTreesWith_42 post (nI rr) (nI k) (nI i) (nI j) (nI (pr_ce i j (pr_cN G 1 k))) (nI n) (G 0) (G 1) (G 2) (G 3) (G 4) (G 5) E.1 E.2.1 E.2.2.1 E.2.2.2 W BL WC := by
  unfold wX_offerTreesWith_42
  rw [nI_clamp (n := k) (by omega)]
  refine ⟨vp_in_nI hk (by omega), ?_⟩
  by_cases h : G 0 k = 1
  · rw [if_pos h] at hp
    exact br_t h (nm_r (nI_1 i) ⟨6, xo_57 n G E BL WC post rr i j k hG hT hrr hij hj hk (j - 1 - i) (i + 1) W 6 (by omega) (by omega) (by omega) hp⟩)
  · rw [if_neg h] at hp
    exact br_f h hp
theorem xo_rule (W : Nat → Int32) (post : SX → Prop) (rr i j k : Nat) (hG : pr_GI G) (hT : pr_TI E) (hrr : rr < 8) (hij : i < j) (hj : j ≤ 5) (hk : k < 8) (hp : post (st_X n G E (wo_r G E rr i j W k) BL WC)) : wpX_offerTreesWith post (st_X n G E W BL WC) (nI rr) (nI k) (nI i) (nI j) := by
  obtain ⟨⟨g1, h1⟩, _⟩ := pr_GIs hG hk
  have c90 := pr_ce90 (i := i) (by omega) hj h1
  unfold wpX_offerTreesWith
  dsimp only
  unfold wpX_cellOf
  rw [nI_clamp (n := k) (by omega), g1, ce_X]
  refine ⟨vp_in_nI hk (by omega), ?_⟩
  unfold wo_r wo_w at hp
  refine pk_eq k rr (fun e => ?_) (fun e => ?_)
  · refine xr_fits n G W BL WC _ i j k E hij hj hk (fun h => ?_) (fun h => ?_)
    · have cc : k = rr ∧ G 0 k = 2 ∧ j = i + 1 ∧ G 2 k = G 5 i := ⟨e, h⟩
      rw [if_pos cc] at hp
      refine br_f (by decide) ⟨vp_in_nI hk (by omega), xo_offer n G E BL WC W _ _ _ c90 ?_⟩
      exact xo_42 n G E BL WC (upd W (pr_ce i j (pr_cN G 1 k)) (wo_mn (W (pr_ce i j (pr_cN G 1 k))) (G 4 k))) post rr i j k hG hT hrr hij hj hk hp
    · have cc : ¬ (k = rr ∧ G 0 k = 2 ∧ j = i + 1 ∧ G 2 k = G 5 i) := fun o => h o.2
      rw [if_neg cc] at hp
      exact br_t rfl (xo_42 n G E BL WC _ post rr i j k hG hT hrr hij hj hk hp)
  · have cc : ¬ (k = rr ∧ G 0 k = 2 ∧ j = i + 1 ∧ G 2 k = G 5 i) := fun o => e o.1
    rw [if_neg cc] at hp
    exact xo_42 n G E BL WC _ post rr i j k hG hT hrr hij hj hk hp
theorem xg_42 (post : SX → Prop) (J23 J35 : jt_X) (rr i j : Nat) (hG : pr_GI G) (hT : pr_TI E) (hrr : rr < 8) (hij : i < j) (hj : j ≤ 5) :
    ∀ (d k : Nat) (W : Nat → Int32) (nf : Nat), k + d = 8 → d < nf → J35 (nI i + (-1)) (nI n) (G 0) (G 1) (G 2) (G 3) (G 4) (G 5) E.1 E.2.1 E.2.2.1 E.2.2.2 ((List.range' k d).foldl (wo_r G E rr i j) W) BL WC → wX_fillLeastWith_42 post J23 J35 (nI rr) (nI j) (nI i) nf (nI k) (nI n) (G 0) (G 1) (G 2) (G 3) (G 4) (G 5) E.1 E.2.1 E.2.2.1 E.2.2.2 W BL WC := by
  intro d
  induction d with
  | zero =>
    intro k W nf hk hnf hp
    obtain ⟨f, rfl⟩ : ∃ f, nf = f + 1 := ⟨nf - 1, by omega⟩
    rw [wX_fillLeastWith_42]
    exact br_t (nI_le (a := 8) (by omega) (by omega)) (nm_e hp)
  | succ d ih =>
    intro k W nf hk hnf hp
    obtain ⟨f, rfl⟩ : ∃ f, nf = f + 1 := ⟨nf - 1, by omega⟩
    rw [wX_fillLeastWith_42]
    refine br_f (nI_ge (b := 8) (by omega) (by decide)) ?_
    refine xo_rule n G E BL WC W _ rr i j k hG hT hrr hij hj (by omega) ?_
    exact nm_r (nI_1 k) (ih (k + 1) _ f (by omega) (by omega) hp)
theorem xg_35 (post : SX → Prop) (J23 : jt_X) (rr e : Nat) (hG : pr_GI G) (hT : pr_TI E) (hrr : rr < 8) (he : e ≤ 5) :
    ∀ (d : Nat) (W : Nat → Int32) (nf : Nat), d ≤ e → d < nf → J23 (nI (e + 1)) (nI n) (G 0) (G 1) (G 2) (G 3) (G 4) (G 5) E.1 E.2.1 E.2.2.1 E.2.2.2 (((pr_ds d).map (fun s => (s, e))).foldl (wo_p G E rr) W) BL WC → wX_fillLeastWith_35 post J23 (nI rr) (nI e) nf (nI d + (-1)) (nI n) (G 0) (G 1) (G 2) (G 3) (G 4) (G 5) E.1 E.2.1 E.2.2.1 E.2.2.2 W BL WC := by
  intro d
  induction d with
  | zero =>
    intro W nf hd hnf hp
    obtain ⟨f, rfl⟩ : ∃ f, nf = f + 1 := ⟨nf - 1, by omega⟩
    rw [wX_fillLeastWith_35]
    exact br_t (by decide) (nm_r (nI_1 e) hp)
  | succ d ih =>
    intro W nf hd hnf hp
    obtain ⟨f, rfl⟩ : ∃ f, nf = f + 1 := ⟨nf - 1, by omega⟩
    rw [wX_fillLeastWith_35, pk_m1]
    refine br_f (nI_pos (by omega)) ⟨9, ?_⟩
    refine xg_42 n G E BL WC post J23 _ rr d e hG hT hrr (by omega) he 8 0 W 9 (by omega) (by omega) ?_
    exact ih (wo_p G E rr W (d, e)) f (by omega) (by omega) hp
theorem xg_23 (post : SX → Prop) (rr : Nat) (hG : pr_GI G) (hT : pr_TI E) (hrr : rr < 8) (hn : n ≤ 5) :
    ∀ (d e : Nat) (W : Nat → Int32) (nf : Nat), e + d = n + 1 → 1 ≤ e → d < nf → post (st_X n G E (((List.range' e d).flatMap (fun e => (pr_ds e).map (fun s => (s, e)))).foldl (wo_p G E rr) W) BL WC) → wX_fillLeastWith_23 post (nI rr) nf (nI e) (nI n) (G 0) (G 1) (G 2) (G 3) (G 4) (G 5) E.1 E.2.1 E.2.2.1 E.2.2.2 W BL WC := by
  intro d
  induction d with
  | zero =>
    intro e W nf he h1 hnf hp
    obtain ⟨f, rfl⟩ : ∃ f, nf = f + 1 := ⟨nf - 1, by omega⟩
    rw [wX_fillLeastWith_23]
    exact br_t (nI_lt (by omega) (by omega)) hp
  | succ d ih =>
    intro e W nf he h1 hnf hp
    obtain ⟨f, rfl⟩ : ∃ f, nf = f + 1 := ⟨nf - 1, by omega⟩
    rw [wX_fillLeastWith_23]
    refine br_f (nI_nlt (by omega) (by omega)) (nm_r (e' := nI e + (-1)) (Int32.sub_eq_add_neg _ _) ⟨6, ?_⟩)
    rw [List.range'_succ, List.flatMap_cons, List.foldl_append] at hp
    refine xg_35 n G E BL WC post _ rr e hG hT hrr (by omega) e W 6 (by omega) (by omega) ?_
    exact ih (e + 1) _ f (by omega) (by omega) (by omega) hp
theorem xg_2 (post : SX → Prop) (rr : Nat) (hG : pr_GI G) (hT : pr_TI E) (hrr : rr < 8) (hn : n ≤ 5) (W : Nat → Int32) (hp : post (st_X n G E ((pr_lX n).foldl (wo_p G E rr) (wo_z 90 90 W)) BL WC)) :
    ∀ (d q : Nat) (nf : Nat), q + d = 90 → d < nf → wX_fillLeastWith_2 post (nI rr) (nI n) nf (nI q) (G 0) (G 1) (G 2) (G 3) (G 4) (G 5) E.1 E.2.1 E.2.2.1 E.2.2.2 (wo_z 90 q W) BL WC := by
  intro d
  induction d with
  | zero =>
    intro q nf hq hnf
    obtain ⟨f, rfl⟩ : ∃ f, nf = f + 1 := ⟨nf - 1, by omega⟩
    obtain rfl : q = 90 := by omega
    rw [wX_fillLeastWith_2]
    refine br_t (by decide) ⟨n + 1, ?_⟩
    exact xg_23 n G E BL WC post rr hG hT hrr hn n 1 _ (n + 1) (by omega) (by omega) (by omega) hp
  | succ d ih =>
    intro q nf hq hnf
    obtain ⟨f, rfl⟩ : ∃ f, nf = f + 1 := ⟨nf - 1, by omega⟩
    rw [wX_fillLeastWith_2]
    dsimp only
    rw [nI_clamp (n := q) (by omega), wo_z_up 90 q W (by omega)]
    refine br_f (nI_ge (b := 90) (by omega) (by decide)) ⟨vp_in_nI (by omega) (by omega), nm_e (nm_r (nI_1 q) ?_)⟩
    exact ih (q + 1) f (by omega) (by omega)
theorem xg_fill (post : SX → Prop) (rr : Nat) (hG : pr_GI G) (hT : pr_TI E) (hrr : rr < 8) (hn : n ≤ 5) (W : Nat → Int32) (hp : post (st_X n G E ((pr_lX n).foldl (wo_p G E rr) (wo_z 90 90 W)) BL WC)) : wpX_fillLeastWith post (st_X n G E W BL WC) (nI rr) := by
  have e : wo_z 90 0 W = W := by
    funext c
    unfold wo_z
    rw [if_neg (by omega)]
  have := xg_2 n G E BL WC post rr hG hT hrr hn W hp 90 0 91 (by omega) (by omega)
  rw [e] at this
  exact ⟨91, this⟩
end
end
section
/-! costWith: ranges, and that Y's three offers are X's -/
def wo_bt (y x : Int32) : Int32 := if 50000 ≤ x then y else wo_mn y x
def wo_wi (W : Nat → Int32) (c : Nat) : Int32 := if W c = -1 then 100000 else W c
/-- not reached, or in its bounds and with a tree -/
def wo_V (w c : Nat) (E : pr_D) (y : Int32) : Prop := y = -1 ∨ (pr_Q w y ∧ ¬ E.1 c = 0)
def wo_I (n : Nat) (E : pr_D) (W : Nat → Int32) : Prop := ∀ i j a, i < j → j ≤ n → a < 3 → wo_V (j - i) (pr_ce i j a) E (W (pr_ce i j a))
theorem wo_mn_V {w c : Nat} {E : pr_D} {y x : Int32} (hy : wo_V w c E y) (hx : wo_V w c E x) : wo_V w c E (wo_mn y x) := by
  unfold wo_mn
  split
  · exact hx
  · exact hy
theorem wo_I_up {n : Nat} {E : pr_D} {W : Nat → Int32} {i j a : Nat} {y : Int32} (hn : n ≤ 5) (h : wo_I n E W) (hij : i < j) (hj : j ≤ n) (ha : a < 3) (hy : wo_V (j - i) (pr_ce i j a) E y) : wo_I n E (upd W (pr_ce i j a) y) := by
  intro i' j' a' h1 h2 h3
  by_cases e : pr_ce i' j' a' = pr_ce i j a
  · obtain ⟨rfl, rfl, rfl⟩ : i' = i ∧ j' = j ∧ a' = a := by unfold pr_ce at e; omega
    rw [pk_us]
    exact hy
  · rw [pk_un e]
    exact h i' j' a' h1 h2 h3
theorem wo_w_I {n : Nat} {G : Nat → Nat → Int32} {E : pr_D} {W : Nat → Int32} {rr i j k : Nat} (hG : pr_GI G) (hn : n ≤ 5) (hB : ∀ i j a, i < j → j ≤ n → a < 3 → pr_Bst G E i j a) (hij : i < j) (hj : j ≤ n) (hk : k < 8) (h : wo_I n E W) : wo_I n E (wo_w G rr i j k W) := by
  obtain ⟨⟨_, h1⟩, _⟩ := pr_GIs hG hk
  unfold wo_w
  split
  · rename_i c
    refine wo_I_up hn h hij hj h1 (wo_mn_V (h i j _ hij hj h1) (Or.inr ⟨?_, fun z => ?_⟩))
    · have := pr_G4 hG hk
      unfold pr_Q
      omega
    · exact (hB i j _ hij hj h1).2.1 z k i (G 4 k) ⟨hk, rfl, Or.inl ⟨c.2.1, c.2.2.1, c.2.2.2, rfl, rfl⟩⟩
  · exact h
theorem wo_m_I {n : Nat} {G : Nat → Nat → Int32} {E : pr_D} {W : Nat → Int32} {rr i j k m : Nat} (hG : pr_GI G) (hn : n ≤ 5) (hB : ∀ i j a, i < j → j ≤ n → a < 3 → pr_Bst G E i j a) (him : i < m) (hmj : m < j) (hj : j ≤ n) (hk : k < 8) (h1k : G 0 k = 1) (h : wo_I n E W) : wo_I n E (wo_m G E rr i j k W m) := by
  obtain ⟨⟨_, h1⟩, ⟨_, h2⟩, ⟨_, h3⟩, _⟩ := pr_GIs hG hk
  have g4 := pr_G4 hG hk
  unfold wo_m wo_s
  split
  · exact h
  · rename_i z
    have zl : ¬ E.1 (pr_ce i m (pr_cN G 2 k)) = 0 := fun y => z (Or.inl y)
    have zr : ¬ E.1 (pr_ce m j (pr_cN G 3 k)) = 0 := fun y => z (Or.inr y)
    have ql := pr_Gd_0 (hB i m _ him (by omega) h2).1 zl
    have qr := pr_Gd_0 (hB m j _ hmj hj h3).1 zr
    have nc : ¬ E.1 (pr_ce i j (pr_cN G 1 k)) = 0 := fun y => (hB i j _ (by omega) hj h1).2.1 y k m _ ⟨hk, rfl, Or.inr ⟨h1k, him, hmj, zl, zr, rfl⟩⟩
    have hc := h i j _ (by omega) hj h1
    have v1 : wo_V (j - i) (pr_ce i j (pr_cN G 1 k)) E (wo_1 G E rr (pr_ce i j (pr_cN G 1 k)) k (pr_ce i m (pr_cN G 2 k)) (pr_ce m j (pr_cN G 3 k)) W) := by
      unfold wo_1
      split
      · exact wo_mn_V hc (Or.inr ⟨(io_Q3 g4 ql qr (by omega) (by omega)).2, nc⟩)
      · exact hc
    have v2 : wo_V (j - i) (pr_ce i j (pr_cN G 1 k)) E (wo_2 G E rr (pr_ce i j (pr_cN G 1 k)) k (pr_ce i m (pr_cN G 2 k)) (pr_ce m j (pr_cN G 3 k)) W) := by
      unfold wo_2
      split
      · exact v1
      · rename_i y
        have q := ((h i m _ him (by omega) h2).resolve_left y).1
        exact wo_mn_V v1 (Or.inr ⟨(io_Q3 g4 q qr (by omega) (by omega)).2, nc⟩)
    refine wo_I_up hn h (by omega) hj h1 ?_
    unfold wo_3
    split
    · exact v2
    · rename_i y
      have q := ((h m j _ hmj hj h3).resolve_left y).1
      exact wo_mn_V v2 (Or.inr ⟨(io_Q3 g4 ql q (by omega) (by omega)).2, nc⟩)
theorem wo_mnx {y a : Int32} (h : y = -1) : wo_mn y a = a := if_pos (Or.inl h)
theorem wo_mnl {y a : Int32} (h : a < y) : wo_mn y a = a := if_pos (Or.inr h)
theorem wo_mng {y a : Int32} (h : ¬ y = -1) (h' : ¬ a < y) : wo_mn y a = y := if_neg (fun o => o.elim h h')
theorem wo_comm {y a b : Int32} (ha : ¬ a = -1) (hb : ¬ b = -1) : wo_mn (wo_mn y a) b = wo_mn (wo_mn y b) a := by
  have tot : ∀ p q : Int32, ¬ p < q → ¬ q < p → p = q := fun p q h1 h2 => Int32.le_antisymm (Int32.not_lt.mp h2) (Int32.not_lt.mp h1)
  by_cases y1 : y = -1
  · rw [wo_mnx y1, wo_mnx y1]
    by_cases c : b < a
    · rw [wo_mnl c, wo_mng hb (fun z => Int32.lt_irrefl (Int32.lt_trans c z))]
    · rw [wo_mng ha c]
      by_cases d : a < b
      · rw [wo_mnl d]
      · rw [wo_mng hb d, tot a b d c]
  · by_cases ay : a < y
    · rw [wo_mnl ay]
      by_cases c : b < y
      · rw [wo_mnl c]
        by_cases e : b < a
        · rw [wo_mnl e, wo_mng hb (fun z => Int32.lt_irrefl (Int32.lt_trans e z))]
        · rw [wo_mng ha e]
          by_cases d : a < b
          · rw [wo_mnl d]
          · rw [wo_mng hb d, tot a b d e]
      · rw [wo_mng y1 c, wo_mnl ay, wo_mng ha (fun z => c (Int32.lt_trans z ay))]
    · rw [wo_mng y1 ay]
      by_cases c : b < y
      · rw [wo_mnl c, wo_mng hb (fun z => ay (Int32.lt_trans z c))]
      · rw [wo_mng y1 c, wo_mng y1 ay]
theorem wo_bt_g {y x : Int32} (h : 50000 ≤ x.toInt) : wo_bt y x = y := by
  refine if_pos ?_
  rw [Int32.le_iff_toInt_le]
  exact h
theorem wo_bt_l {y x : Int32} (h : x.toInt < 50000) : wo_bt y x = wo_mn y x := by
  refine if_neg ?_
  rw [Int32.le_iff_toInt_le]
  have : (50000 : Int32).toInt = 50000 := by decide +kernel
  omega
theorem wo_n1 {x : Int32} (h : 0 ≤ x.toInt) : ¬ x = -1 := by
  rintro rfl
  exact absurd h (by decide)
/-- the three offers of the reference at one split -/
theorem wo_eq {G : Nat → Nat → Int32} {E : pr_D} {W : Nat → Int32} {rr c k l r wl wr : Nat} (hG : pr_GI G) (hk : k < 8) (hw : wl + wr ≤ 5) (gl : pr_Gd wl l E) (gr : pr_Gd wr r E) (vl : wo_V wl l E (W l)) (vr : wo_V wr r E (W r)) :
    upd W c (wo_bt (wo_bt (wo_bt (W c) (G 4 k + wo_wi W l + pr_ls E r)) (G 4 k + pr_ls E l + wo_wi W r)) (G 4 k + pr_ls E l + pr_ls E r + (if k = rr then 0 else 100000))) = wo_s G E rr c k l r W := by
  have g4 := pr_G4 hG hk
  obtain ⟨l1, l2, l3, l4⟩ := pr_ls_b gl (by omega)
  obtain ⟨r1, r2, r3, r4⟩ := pr_ls_b gr (by omega)
  have wiB : ∀ (w q : Nat), w ≤ 5 → wo_V w q E (W q) → 0 ≤ (wo_wi W q).toInt ∧ (wo_wi W q).toInt ≤ 100000 ∧ (W q = -1 → (wo_wi W q).toInt = 100000) ∧ (¬ W q = -1 → wo_wi W q = W q ∧ (wo_wi W q).toInt ≤ 450) := by
    intro w q hw5 hv
    unfold wo_wi
    by_cases z : W q = -1
    · rw [if_pos z, io_100]
      exact ⟨by omega, by omega, fun _ => rfl, fun y => absurd z y⟩
    · rw [if_neg z]
      have := (hv.resolve_left z).1
      unfold pr_Q at this
      exact ⟨by omega, by omega, fun y => absurd y z, fun _ => ⟨rfl, by omega⟩⟩
  obtain ⟨a1, a2, a3, a4⟩ := wiB wl l (by omega) vl
  obtain ⟨b1, b2, b3, b4⟩ := wiB wr r (by omega) vr
  have s1 : (G 4 k + wo_wi W l + pr_ls E r).toInt = (G 4 k).toInt + (wo_wi W l).toInt + (pr_ls E r).toInt := by
    have e := io_add (a := G 4 k) (b := wo_wi W l) g4.1 (by omega) a1 (by omega)
    rw [io_add (by omega) (by omega) r1 (by omega), e]
  have s2 : (G 4 k + pr_ls E l + wo_wi W r).toInt = (G 4 k).toInt + (pr_ls E l).toInt + (wo_wi W r).toInt := by
    have e := io_add (a := G 4 k) (b := pr_ls E l) g4.1 (by omega) l1 (by omega)
    rw [io_add (by omega) (by omega) b1 (by omega), e]
  have s3 : (G 4 k + pr_ls E l + pr_ls E r).toInt = (G 4 k).toInt + (pr_ls E l).toInt + (pr_ls E r).toInt := by
    have e := io_add (a := G 4 k) (b := pr_ls E l) g4.1 (by omega) l1 (by omega)
    rw [io_add (by omega) (by omega) r1 (by omega), e]
  have s4 : (G 4 k + pr_ls E l + pr_ls E r + (if k = rr then 0 else 100000)).toInt = (G 4 k).toInt + (pr_ls E l).toInt + (pr_ls E r).toInt + (if k = rr then 0 else 100000) := by
    by_cases e : k = rr
    · rw [if_pos e, if_pos e, Int32.add_zero, s3]
      omega
    · rw [if_neg e, if_neg e, io_add (by omega) (by omega) (by rw [io_100]; omega) (by rw [io_100]; omega), s3, io_100]
  have p0 : (0 : Int) ≤ (if k = rr then 0 else 100000) := by split <;> omega
  unfold wo_s
  by_cases zl : E.1 l = 0
  · rw [if_pos (Or.inl zl)]
    have wl1 : W l = -1 := vl.elim id (fun q => absurd zl q.2)
    have := l3 zl
    have := a3 wl1
    rw [wo_bt_g (by omega), wo_bt_g (by omega), wo_bt_g (by omega)]
    exact wo_id rfl
  · by_cases zr : E.1 r = 0
    · rw [if_pos (Or.inr zr)]
      have wr1 : W r = -1 := vr.elim id (fun q => absurd zr q.2)
      have := r3 zr
      have := b3 wr1
      rw [wo_bt_g (by omega), wo_bt_g (by omega), wo_bt_g (by omega)]
      exact wo_id rfl
    · have nn : ¬ (E.1 l = 0 ∨ E.1 r = 0) := fun o => o.elim zl zr
      rw [if_neg nn]
      obtain ⟨el, lb⟩ := l4 zl
      obtain ⟨er, rb⟩ := r4 zr
      have f1 : ∀ y, wo_bt y (G 4 k + wo_wi W l + pr_ls E r) = if W l = -1 then y else wo_mn y (G 4 k + W l + E.2.1 (8 * r)) := by
        intro y
        by_cases z : W l = -1
        · have := a3 z
          rw [if_pos z, wo_bt_g (by omega)]
        · obtain ⟨q1, q2⟩ := a4 z
          rw [if_neg z, wo_bt_l (by omega), q1, er]
      have f2 : ∀ y, wo_bt y (G 4 k + pr_ls E l + wo_wi W r) = if W r = -1 then y else wo_mn y (G 4 k + E.2.1 (8 * l) + W r) := by
        intro y
        by_cases z : W r = -1
        · have := b3 z
          rw [if_pos z, wo_bt_g (by omega)]
        · obtain ⟨q1, q2⟩ := b4 z
          rw [if_neg z, wo_bt_l (by omega), q1, el]
      have f3 : ∀ y, wo_bt y (G 4 k + pr_ls E l + pr_ls E r + (if k = rr then 0 else 100000)) = if k = rr then wo_mn y (G 4 k + E.2.1 (8 * l) + E.2.1 (8 * r)) else y := by
        intro y
        by_cases z : k = rr
        · rw [if_pos z] at s4
          rw [if_pos z, if_pos z]
          rw [if_pos z] at s4
          rw [wo_bt_l (by omega), Int32.add_zero, el, er]
        · rw [if_neg z] at s4
          rw [if_neg z, if_neg z]
          rw [if_neg z] at s4
          rw [wo_bt_g (by omega)]
      rw [f1, f2, f3]
      rw [el, er] at s3
      refine congrArg (upd W c) ?_
      unfold wo_3 wo_2 wo_1
      have n0 : ¬ G 4 k + E.2.1 (8 * l) + E.2.1 (8 * r) = -1 := wo_n1 (by rw [s3]; rw [← el, ← er]; omega)
      by_cases zk : k = rr
      · rw [if_pos zk, if_pos zk]
        by_cases wl1 : W l = -1
        · rw [if_pos wl1, if_pos wl1]
          by_cases wr1 : W r = -1
          · rw [if_pos wr1, if_pos wr1]
          · obtain ⟨q1, q2⟩ := b4 wr1
            rw [if_neg wr1, if_neg wr1]
            exact wo_comm (wo_n1 (by rw [← el, ← q1, s2]; omega)) n0
        · obtain ⟨q1, q2⟩ := a4 wl1
          have n1 : ¬ G 4 k + W l + E.2.1 (8 * r) = -1 := wo_n1 (by rw [← er, ← q1, s1]; omega)
          rw [if_neg wl1, if_neg wl1]
          by_cases wr1 : W r = -1
          · rw [if_pos wr1, if_pos wr1]
            exact wo_comm n1 n0
          · obtain ⟨q3, q4⟩ := b4 wr1
            rw [if_neg wr1, if_neg wr1]
            rw [wo_comm (wo_n1 (by rw [← el, ← q3, s2]; omega)) n0, wo_comm n1 n0]
      · rw [if_neg zk, if_neg zk]
end
section
/-! Y: costWith's filling is the pure picture; the answer -/
section
variable (n : Nat) (ls : Int32) (G : Nat → Nat → Int32) (E : pr_D) (LI OP : Nat → Int32)
theorem yw_better (W : Nat → Int32) (post : SY → Prop) (x : Int32) (c : Nat) (hc : c < 90) (hV : W c = -1 ∨ 0 ≤ (W c).toInt) (hp : post (st_Y n ls G E (upd W c (wo_bt (W c) x)) LI OP)) : wpY_better post (st_Y n ls G E W LI OP) (nI c) x := by
  have v : vp_in (nI c) 108 := vp_in_nI (by omega) (by omega)
  have neg : W c < 0 ↔ W c = -1 := by
    constructor
    · intro z
      refine hV.elim id (fun y => ?_)
      rw [Int32.lt_iff_toInt_lt] at z
      have : (0 : Int32).toInt = 0 := by decide
      omega
    · intro z
      rw [z]
      decide
  unfold wpY_better
  dsimp only
  rw [nI_clamp (n := c) (by omega), neg]
  unfold wo_bt at hp
  refine br_c (fun z => ?_) (fun z => ?_)
  · rw [if_pos z, wo_id rfl] at hp
    exact hp
  · rw [if_neg z] at hp
    refine ⟨v, br_c (fun y => ⟨v, nm_e ?_⟩) (fun y => ⟨v, br_c (fun w => ?_) (fun w => ⟨v, nm_e ?_⟩)⟩)⟩
    · rw [wo_mnx y] at hp
      exact hp
    · rw [wo_mng y (fun q => absurd w (Int32.not_le.mpr q)), wo_id rfl] at hp
      exact hp
    · rw [wo_mnl (Int32.not_le.mp w)] at hp
      exact hp
theorem yw_with (W : Nat → Int32) (post : Int32 → Prop) (c : Nat) (hc : c < 90) (hV : W c = -1 ∨ 0 ≤ (W c).toInt) (hp : post (wo_wi W c)) : wpY_with post (st_Y n ls G E W LI OP) (nI c) := by
  have v : vp_in (nI c) 108 := vp_in_nI (by omega) (by omega)
  unfold wpY_with
  dsimp only
  rw [nI_clamp (n := c) (by omega)]
  unfold wo_wi at hp
  refine ⟨v, ?_⟩
  by_cases z : W c = -1
  · rw [if_pos z] at hp
    exact br_f (by rw [z]; decide) hp
  · rw [if_neg z] at hp
    refine br_t ?_ ⟨v, hp⟩
    rw [Int32.le_iff_toInt_le]
    exact hV.resolve_left z
theorem wo_V0 {w c : Nat} {E : pr_D} {y : Int32} (h : wo_V w c E y) : y = -1 ∨ 0 ≤ y.toInt := h.elim Or.inl (fun q => Or.inr q.1.1)
theorem wo_bt0 {y x : Int32} (hy : y = -1 ∨ 0 ≤ y.toInt) (hx : 0 ≤ x.toInt) : wo_bt y x = -1 ∨ 0 ≤ (wo_bt y x).toInt := by
  unfold wo_bt wo_mn
  split
  · exact hy
  · split
    · exact Or.inr hx
    · exact hy
theorem yw_bet2 (W : Nat → Int32) (y : Int32) (post : SY → Prop) (x : Int32) (c : Nat) (hc : c < 90) (hV : y = -1 ∨ 0 ≤ y.toInt) (hp : post (st_Y n ls G E (upd W c (wo_bt y x)) LI OP)) : wpY_better post (st_Y n ls G E (upd W c y) LI OP) (nI c) x := by
  refine yw_better n ls G E LI OP (upd W c y) post x c hc (by rw [pk_us]; exact hV) ?_
  rw [wo_uu, pk_us]
  exact hp
theorem yw_83 (post : SY → Prop) (J3 : jt_Y) (rr i j k : Nat) (hG : pr_GI G) (hn : n ≤ 5) (hT : pr_TI E) (hB : ∀ i j a, i < j → j ≤ n → a < 3 → pr_Bst G E i j a) (hrr : rr < 8) (hij : i < j) (hj : j ≤ n) (hk : k < 8) (h1k : G 0 k = 1) :
    ∀ (d m : Nat) (W : Nat → Int32) (nf : Nat), m + d = j → i < m → d < nf → wo_I n E W → J3 (nI (k + 1)) (nI n) ls (G 0) (G 1) (G 2) (G 3) (G 4) (G 5) E.2.1 E.1 ((List.range' m d).foldl (wo_m G E rr i j k) W) LI OP → wY_fillUsing_83 post J3 (nI rr) (nI i) (nI j) (nI k) (nI (pr_ce i j (pr_cN G 1 k))) nf (nI m) (nI n) ls (G 0) (G 1) (G 2) (G 3) (G 4) (G 5) E.2.1 E.1 W LI OP := by
  obtain ⟨⟨g1, h1⟩, ⟨g2, h2⟩, ⟨g3, h3⟩, _⟩ := pr_GIs hG hk
  have g4 := pr_G4 hG hk
  intro d
  induction d with
  | zero =>
    intro m W nf hm him hnf hI hp
    obtain ⟨f, rfl⟩ : ∃ f, nf = f + 1 := ⟨nf - 1, by omega⟩
    rw [wY_fillUsing_83]
    exact br_t (nI_le (by omega) (by omega)) (nm_r (nI_1 k) hp)
  | succ d ih =>
    intro m W nf hm him hnf hI hp
    obtain ⟨f, rfl⟩ : ∃ f, nf = f + 1 := ⟨nf - 1, by omega⟩
    have c90 := pr_ce90 (i := i) (j := j) (by omega) (by omega) h1
    have l90 := pr_ce90 (i := i) (j := m) (by omega) (by omega) h2
    have r90 := pr_ce90 (i := m) (j := j) (by omega) (by omega) h3
    have hp' := ih (m + 1) (wo_m G E rr i j k W m) f (by omega) (by omega) (by omega) (wo_m_I hG hn hB him (by omega) hj hk h1k hI) hp
    have vc := wo_V0 (hI i j _ hij hj h1)
    have vl := hI i m _ him (by omega) h2
    have vr := hI m j _ (by omega) hj h3
    have gl := (hB i m _ him (by omega) h2).1
    have gr := (hB m j _ (by omega) hj h3).1
    have nl : pr_ce i m (pr_cN G 2 k) ≠ pr_ce i j (pr_cN G 1 k) := by unfold pr_ce; omega
    have nr : pr_ce m j (pr_cN G 3 k) ≠ pr_ce i j (pr_cN G 1 k) := by unfold pr_ce; omega
    have wq := wo_eq (W := W) (rr := rr) (c := pr_ce i j (pr_cN G 1 k)) hG hk (by omega) gl gr vl vr
    unfold wo_m at hp'
    rw [← wq] at hp'
    clear wq
    obtain ⟨lb1, lb2, _, _⟩ := pr_ls_b gl (by omega)
    obtain ⟨rb1, rb2, _, _⟩ := pr_ls_b gr (by omega)
    have wiB : ∀ (w q : Nat), w ≤ 5 → wo_V w q E (W q) → 0 ≤ (wo_wi W q).toInt ∧ (wo_wi W q).toInt ≤ 100000 := by
      intro w q hw5 hv
      unfold wo_wi
      by_cases z : W q = -1
      · rw [if_pos z, io_100]
        omega
      · rw [if_neg z]
        have := (hv.resolve_left z).1
        unfold pr_Q at this
        omega
    obtain ⟨a1, a2⟩ := wiB _ _ (by omega) vl
    obtain ⟨b1, b2⟩ := wiB _ _ (by omega) vr
    generalize pr_ce i j (pr_cN G 1 k) = c at *
    generalize el : pr_ce i m (pr_cN G 2 k) = l at *
    generalize er : pr_ce m j (pr_cN G 3 k) = r at *
    have s1 : 0 ≤ (G 4 k + wo_wi W l + pr_ls E r).toInt := by
      have e := io_add (a := G 4 k) (b := wo_wi W l) g4.1 (by omega) a1 (by omega)
      rw [io_add (by omega) (by omega) rb1 (by omega), e]
      omega
    have s2 : 0 ≤ (G 4 k + pr_ls E l + wo_wi W r).toInt := by
      have e := io_add (a := G 4 k) (b := pr_ls E l) g4.1 (by omega) lb1 (by omega)
      rw [io_add (by omega) (by omega) b1 (by omega), e]
      omega
    have v := vp_in_nI hk (N := 8) (by omega)
    have x1 := wo_bt0 vc s1
    have x2 := wo_bt0 x1 s2
    rw [wY_fillUsing_83]
    dsimp only
    unfold wpY_cell
    dsimp only
    rw [nI_clamp (n := k) (by omega), g2, g3, ce_Y, ce_Y, el, er]
    refine br_f (nI_ge (by omega) (by omega)) ⟨v, br_t h1k ⟨v, v, v, ?_⟩⟩
    refine yw_with n ls G E LI OP W _ l l90 (wo_V0 vl) ?_
    refine yl_least n ls G E W LI OP _ r r90 (hT r r90) ?_
    refine yw_better n ls G E LI OP W _ _ c c90 vc ?_
    have ewi : wo_wi (upd W c (wo_bt (W c) (G 4 k + wo_wi W l + pr_ls E r))) r = wo_wi W r := by
      unfold wo_wi
      rw [pk_un nr]
    generalize wo_bt (W c) (G 4 k + wo_wi W l + pr_ls E r) = y1 at *
    dsimp only
    refine ⟨v, ?_⟩
    refine yl_least n ls G E (upd W c y1) LI OP _ l l90 (hT l l90) ?_
    refine yw_with n ls G E LI OP (upd W c y1) _ r r90 (by rw [pk_un nr]; exact wo_V0 vr) ?_
    rw [ewi]
    refine yw_bet2 n ls G E LI OP W y1 _ _ c c90 x1 ?_
    generalize wo_bt y1 (G 4 k + pr_ls E l + wo_wi W r) = y2 at *
    dsimp only
    refine ⟨v, ?_⟩
    refine yl_least n ls G E (upd W c y2) LI OP _ l l90 (hT l l90) ?_
    refine yl_least n ls G E (upd W c y2) LI OP _ r r90 (hT r r90) ?_
    refine pk_eq k rr (fun e => ?_) (fun e => ?_)
    · unfold wY_fillUsing_222
      refine yw_bet2 n ls G E LI OP W y2 _ _ c c90 x2 ?_
      rw [if_pos e] at hp'
      exact nm_r (nI_1 m) hp'
    · unfold wY_fillUsing_222
      refine yw_bet2 n ls G E LI OP W y2 _ _ c c90 x2 ?_
      rw [if_neg e] at hp'
      exact nm_r (nI_1 m) hp'
end
end
section
/-! costWith to its end -/
section
variable (n : Nat) (ls : Int32) (G : Nat → Nat → Int32) (E : pr_D) (LI OP : Nat → Int32)
theorem yw_83e (post : SY → Prop) (J3 : jt_Y) (W : Nat → Int32) (rr i j k : Nat) (hG : pr_GI G) (hn : n ≤ 5) (hT : pr_TI E) (hB : ∀ i j a, i < j → j ≤ n → a < 3 → pr_Bst G E i j a) (hrr : rr < 8) (hij : i < j) (hj : j ≤ n) (hk : k < 8) (hI : wo_I n E W) (hp : J3 (nI (k + 1)) (nI n) ls (G 0) (G 1) (G 2) (G 3) (G 4) (G 5) E.2.1 E.1 (if G 0 k = 1 then (List.range' (i + 1) (j - 1 - i)).foldl (wo_m G E rr i j k) W else W) LI OP) : ∃ n83 : Nat, wY_fillUsing_83 post J3 (nI rr) (nI i) (nI j) (nI k) (nI (pr_ce i j (pr_cN G 1 k))) n83 (nI (i + 1)) (nI n) ls (G 0) (G 1) (G 2) (G 3) (G 4) (G 5) E.2.1 E.1 W LI OP := by
  by_cases h : G 0 k = 1
  · rw [if_pos h] at hp
    exact ⟨6, yw_83 n ls G E LI OP post J3 rr i j k hG hn hT hB hrr hij hj hk h (j - 1 - i) (i + 1) W 6 (by omega) (by omega) (by omega) hI hp⟩
  · rw [if_neg h] at hp
    refine ⟨1, ?_⟩
    rw [wY_fillUsing_83]
    dsimp only
    rw [nI_clamp (n := k) (by omega)]
    exact br_c (fun _ => nm_r (nI_1 k) hp) (fun _ => ⟨vp_in_nI hk (by omega), br_f h (nm_r (nI_1 k) hp)⟩)
theorem wo_r_I {W : Nat → Int32} {rr i j k : Nat} (hG : pr_GI G) (hn : n ≤ 5) (hB : ∀ i j a, i < j → j ≤ n → a < 3 → pr_Bst G E i j a) (hij : i < j) (hj : j ≤ n) (hk : k < 8) (h : wo_I n E W) : wo_I n E (wo_r G E rr i j W k) := by
  unfold wo_r
  split
  · rename_i h1
    refine fo_inv (P := wo_I n E) _ _ (wo_w_I hG hn hB hij hj hk h) ?_
    intro V m hm hV
    have hm' := fo_mem hm
    exact wo_m_I hG hn hB (by omega) (by omega) hj hk h1 hV
  · exact wo_w_I hG hn hB hij hj hk h
theorem wo_p_I {W : Nat → Int32} {rr i j : Nat} (hG : pr_GI G) (hn : n ≤ 5) (hB : ∀ i j a, i < j → j ≤ n → a < 3 → pr_Bst G E i j a) (hij : i < j) (hj : j ≤ n) (h : wo_I n E W) : wo_I n E (wo_p G E rr W (i, j)) := by
  unfold wo_p
  refine fo_inv (P := wo_I n E) _ _ h ?_
  intro V k hk hV
  have hk' := fo_mem hk
  exact wo_r_I n G E hG hn hB hij hj (by omega) hV
theorem yw_3 (post : SY → Prop) (rr i j : Nat) (hG : pr_GI G) (hn : n ≤ 5) (hT : pr_TI E) (hB : ∀ i j a, i < j → j ≤ n → a < 3 → pr_Bst G E i j a) (hrr : rr < 8) (hij : i < j) (hj : j ≤ n) :
    ∀ (d k : Nat) (W : Nat → Int32) (nf : Nat), k + d = 8 → d < nf → wo_I n E W → post (st_Y n ls G E ((List.range' k d).foldl (wo_r G E rr i j) W) LI OP) → wY_fillUsing_3 post (nI rr) (nI i) (nI j) nf (nI k) (nI n) ls (G 0) (G 1) (G 2) (G 3) (G 4) (G 5) E.2.1 E.1 W LI OP := by
  intro d
  induction d with
  | zero =>
    intro k W nf hk hnf hI hp
    obtain ⟨f, rfl⟩ : ∃ f, nf = f + 1 := ⟨nf - 1, by omega⟩
    rw [wY_fillUsing_3]
    exact br_t (nI_le (a := 8) (by omega) (by omega)) hp
  | succ d ih =>
    intro k W nf hk hnf hI hp
    obtain ⟨f, rfl⟩ : ∃ f, nf = f + 1 := ⟨nf - 1, by omega⟩
    have hk8 : k < 8 := by omega
    obtain ⟨⟨g1, h1⟩, _⟩ := pr_GIs hG hk8
    have c90 := pr_ce90 (i := i) (j := j) (by omega) (by omega) h1
    have g4 := pr_G4 hG hk8
    have hp' := ih (k + 1) (wo_r G E rr i j W k) f (by omega) (by omega) (wo_r_I n G E hG hn hB hij hj hk8 hI) hp
    have hw := wo_w_I (rr := rr) hG hn hB hij hj hk8 hI
    have v : vp_in (nI k) 8 := vp_in_nI hk8 (by omega)
    have vi : vp_in (nI i) 5 := vp_in_nI (by omega) (by omega)
    unfold wo_r at hp'
    rw [wY_fillUsing_3]
    dsimp only
    unfold wpY_cell
    dsimp only
    rw [nI_clamp (n := k) (by omega), nI_clamp (n := i) (by omega), g1, ce_Y, nI_1 i]
    by_cases c : k = rr ∧ G 0 k = 2 ∧ j = i + 1 ∧ G 2 k = G 5 i
    · unfold wo_w at hp' hw
      rw [if_pos c] at hp' hw
      have Z := yw_83e n ls G E LI OP post _ _ rr i j k hG hn hT hB hrr hij hj hk8 hw hp'
      refine br_f (nI_ge (b := 8) (by omega) (by decide)) ⟨v, v, br_t c.2.1 (br_t (by rw [c.2.2.1]) ⟨vi, v, br_t c.2.2.2.symm (br_t (by rw [c.1]) ⟨v, ?_⟩)⟩)⟩
      refine yw_better n ls G E LI OP W _ _ _ c90 (wo_V0 (hI i j _ hij hj h1)) ?_
      rw [wo_bt_l (by omega)]
      exact nm_e Z
    · unfold wo_w at hp'
      rw [if_neg c] at hp'
      have Z := yw_83e n ls G E LI OP post _ _ rr i j k hG hn hT hB hrr hij hj hk8 hI hp'
      refine br_f (nI_ge (b := 8) (by omega) (by decide)) ⟨v, v, br_c (fun z1 => ?_) (fun _ => nm_e Z)⟩
      refine pk_eq j (i + 1) (fun z2 => ⟨vi, v, br_c (fun z3 => ?_) (fun _ => nm_e Z)⟩) (fun _ => nm_e Z)
      exact pk_eq k rr (fun z4 => absurd ⟨z4, z1, z2, z3.symm⟩ c) (fun _ => nm_e Z)
theorem yw_56 (post : Int32 → SY → Prop) (J45 : jt_Y) (x1 : Int32) (rr w : Nat) (hG : pr_GI G) (hn : n ≤ 5) (hT : pr_TI E) (hB : ∀ i j a, i < j → j ≤ n → a < 3 → pr_Bst G E i j a) (hrr : rr < 8) (hw : 1 ≤ w) :
    ∀ (d i : Nat) (W : Nat → Int32) (nf : Nat), i + d + w = n + 1 → d < nf → wo_I n E W → J45 (nI (w + 1)) (nI n) ls (G 0) (G 1) (G 2) (G 3) (G 4) (G 5) E.2.1 E.1 (((List.range' i d).map (fun i => (i, i + w))).foldl (wo_p G E rr) W) LI OP → wY_costWith_56 post J45 x1 (nI rr) (nI w) nf (nI i) (nI n) ls (G 0) (G 1) (G 2) (G 3) (G 4) (G 5) E.2.1 E.1 W LI OP := by
  intro d
  induction d with
  | zero =>
    intro i W nf hi hnf hI hp
    obtain ⟨f, rfl⟩ : ∃ f, nf = f + 1 := ⟨nf - 1, by omega⟩
    rw [wY_costWith_56]
    dsimp only
    rw [nI_add]
    exact br_t (nI_lt (by omega) (by omega)) (nm_r (nI_1 w) hp)
  | succ d ih =>
    intro i W nf hi hnf hI hp
    obtain ⟨f, rfl⟩ : ∃ f, nf = f + 1 := ⟨nf - 1, by omega⟩
    rw [wY_costWith_56]
    dsimp only
    rw [nI_add]
    refine br_f (nI_nlt (by omega) (by omega)) ⟨9, ?_⟩
    refine yw_3 n ls G E LI OP _ rr i (i + w) hG hn hT hB hrr (by omega) (by omega) 8 0 W 9 (by omega) (by omega) hI ?_
    exact nm_r (nI_1 i) (ih (i + 1) (wo_p G E rr W (i, i + w)) f (by omega) (by omega) (wo_p_I n G E hG hn hB (by omega) (by omega) hI) hp)
theorem yw_45 (post : Int32 → SY → Prop) (a rr : Nat) (hG : pr_GI G) (hn : n ≤ 5) (hn0 : 0 < n) (ha : a < 3) (hT : pr_TI E) (hB : ∀ i j a, i < j → j ≤ n → a < 3 → pr_Bst G E i j a) (hrr : rr < 8) :
    ∀ (d w : Nat) (W : Nat → Int32) (nf : Nat), w + d = n + 1 → 1 ≤ w → d < nf → wo_I n E W → (∀ V, V = ((List.range' w d).flatMap (fun w => (List.range' 0 (n + 1 - w)).map (fun i => (i, i + w)))).foldl (wo_p G E rr) W → post (V (pr_ce 0 n a)) (st_Y n ls G E V LI OP)) → wY_costWith_45 post (nI a) (nI rr) nf (nI w) (nI n) ls (G 0) (G 1) (G 2) (G 3) (G 4) (G 5) E.2.1 E.1 W LI OP := by
  intro d
  induction d with
  | zero =>
    intro w W nf he h1 hnf hI hp
    obtain ⟨f, rfl⟩ : ∃ f, nf = f + 1 := ⟨nf - 1, by omega⟩
    have c90 := pr_ce90 (i := 0) (j := n) (by omega) hn ha
    have e : 18 * (0 : Int32) + 3 * nI n + nI a = nI (pr_ce 0 n a) := ce_Y 0 n a
    rw [wY_costWith_45]
    unfold wpY_cell
    dsimp only
    rw [e, nI_clamp (n := pr_ce 0 n a) (by omega)]
    exact br_t (nI_lt (by omega) (by omega)) ⟨vp_in_nI (by omega) (by omega), hp W rfl⟩
  | succ d ih =>
    intro w W nf he h1 hnf hI hp
    obtain ⟨f, rfl⟩ : ∃ f, nf = f + 1 := ⟨nf - 1, by omega⟩
    rw [wY_costWith_45]
    refine br_f (nI_nlt (by omega) (by omega)) ⟨7, ?_⟩
    rw [List.range'_succ, List.flatMap_cons, List.foldl_append] at hp
    refine yw_56 n ls G E LI OP post _ (nI a) rr w hG hn hT hB hrr h1 (n + 1 - w) 0 W 7 (by omega) (by omega) hI ?_
    refine ih (w + 1) _ f (by omega) (by omega) (by omega) ?_ hp
    refine fo_inv (P := wo_I n E) _ _ hI ?_
    intro V s hs hV
    simp only [List.mem_map] at hs
    obtain ⟨q, hq, rfl⟩ := hs
    have := fo_mem hq
    exact wo_p_I n G E hG hn hB (by omega) (by omega) hV
theorem yw_24 (post : Int32 → SY → Prop) (a rr : Nat) (hG : pr_GI G) (hn : n ≤ 5) (hn0 : 0 < n) (ha : a < 3) (hT : pr_TI E) (hB : ∀ i j a, i < j → j ≤ n → a < 3 → pr_Bst G E i j a) (hrr : rr < 8) (W : Nat → Int32) (hp : ∀ V, V = (pr_lY n).foldl (wo_p G E rr) (wo_z 108 108 W) → post (V (pr_ce 0 n a)) (st_Y n ls G E V LI OP)) :
    ∀ (d q : Nat) (nf : Nat), q + d = 108 → d < nf → wY_costWith_24 post (nI a) (nI rr) (nI n) ls nf (nI q) (G 0) (G 1) (G 2) (G 3) (G 4) (G 5) E.2.1 E.1 (wo_z 108 q W) LI OP := by
  intro d
  induction d with
  | zero =>
    intro q nf hq hnf
    obtain ⟨f, rfl⟩ : ∃ f, nf = f + 1 := ⟨nf - 1, by omega⟩
    obtain rfl : q = 108 := by omega
    rw [wY_costWith_24]
    refine br_t (by decide) ⟨n + 1, ?_⟩
    refine yw_45 n ls G E LI OP post a rr hG hn hn0 ha hT hB hrr n 1 _ (n + 1) (by omega) (by omega) (by omega) ?_ hp
    intro i j b h1 h2 h3
    exact Or.inl (wo_z0 (pr_ce90 (by omega) (by omega) h3) (by omega))
  | succ d ih =>
    intro q nf hq hnf
    obtain ⟨f, rfl⟩ : ∃ f, nf = f + 1 := ⟨nf - 1, by omega⟩
    rw [wY_costWith_24]
    dsimp only
    rw [nI_clamp (n := q) (by omega), wo_z_up 108 q W (by omega)]
    refine br_f (nI_ge (b := 108) (by omega) (by decide)) ⟨vp_in_nI (by omega) (by omega), nm_e (nm_r (nI_1 q) ?_)⟩
    exact ih (q + 1) f (by omega) (by omega)
end
theorem pr_FX_T {n : Nat} {G : Nat → Nat → Int32} (D : pr_D) (hn : n ≤ 5) (hG : pr_GI G) : pr_TI (pr_FX n G D) := by
  refine pr_TI_fold G hG _ ?_ _ (pr_z_TI 90 90 D (by omega) (by omega))
  intro s hs
  have := (cl_lX hn).1 s hs
  unfold cl_v at this
  omega
theorem rd_yCW (n : Nat) (ls : Int32) (G : Nat → Nat → Int32) (D' : pr_D) (U LI OP : Nat → Int32) (hn : n ≤ 5) (hG : pr_GI G) (v1 v2 : Int32) (post : Int32 → SY → Prop)
    (h0 : ¬ (rd_vS v1 ∧ rd_vR G v2 ∧ 0 < n) → post (-1) (st_Y n ls G D' U LI OP))
    (h1 : ∀ a rr, a < 3 → rr < 8 → 0 < n → v1 = nI a → v2 = nI rr → ¬ G 0 rr = 0 → ∀ V, V = (pr_lY n).foldl (wo_p G (pr_FY n G D') rr) (wo_z 108 108 U) → post (V (pr_ce 0 n a)) (st_Y n ls G (pr_FY n G D') V LI OP)) : wpY_costWith post (st_Y n ls G D' U LI OP) v1 v2 := by
  unfold wpY_costWith wpY_whole
  dsimp only
  refine rd_ySym (fun s => ?_) (fun s => br_t rfl (h0 (fun z => s z.1)))
  by_cases hz : n = 0
  · subst hz
    exact br_t (by decide) (br_t rfl (h0 (fun z => absurd z.2.2 (by omega))))
  · refine br_f (nI_nle (by omega) (by omega)) (br_f (by decide) ?_)
    refine rd_isY hG (fun t => br_f (by decide) ?_) (fun t => br_t rfl (h0 (fun z => t z.2.1)))
    obtain ⟨a, ha, rfl⟩ := s
    obtain ⟨rr, hrr, rfl, nf0⟩ := t
    refine yf_F n ls G U LI OP _ hG hn D' ?_
    have e : wo_z 108 0 U = U := by
      funext c
      unfold wo_z
      rw [if_neg (by omega)]
    have K := yw_24 n ls G (pr_FY n G D') LI OP post a rr hG hn (by omega) ha (pr_FY_T D' hn hG) (fun i j a h1 h2 h3 => pr_FY_B D' hn hG h1 h2 h3) hrr U (h1 a rr ha hrr (by omega) rfl rfl nf0) 108 0 109 (by omega) (by omega)
    rw [e] at K
    exact ⟨109, K⟩
theorem i_vc_costWith {k : Nat} {u : SX} {v : SY} (I : i_Rel k u v) (hk : k + 5 ≤ 2560) (v1 : Int32) (v2 : Int32) : wpX_costWith (fun r u' => wpY_costWith (fun r' v' => r' = r ∧ i_Rel (k + 5) u' v') v v1 v2) u v1 v2 := by
  obtain ⟨n, G, D, W, BL, WC, ls, D', U, LI, OP, hn, hG, rfl, rfl⟩ := I
  have N : ¬ (rd_vS v1 ∧ rd_vR G v2 ∧ 0 < n) → wpY_costWith (fun r' v' => r' = -1 ∧ i_Rel (k + 5) (st_X n G D W BL WC) v') (st_Y n ls G D' U LI OP) v1 v2 := by
    intro o
    exact rd_yCW n ls G D' U LI OP hn hG v1 v2 _ (fun _ => ⟨rfl, rd_mk hn hG⟩) (fun a rr ha hrr h0 e1 e2 nf0 V eV => absurd ⟨⟨a, ha, e1⟩, ⟨rr, hrr, e2, nf0⟩, h0⟩ o)
  unfold wpX_costWith
  dsimp only
  refine rd_sym (fun s => br_f (by decide) (rd_isX (fun t => br_f (by decide) ?_) (fun t => br_t rfl (N (fun z => t z.2.1))))) (fun s => br_t rfl (N (fun z => s z.1)))
  by_cases hz : n = 0
  · subst hz
    exact br_t (by decide) (N (fun z => absurd z.2.2 (by omega)))
  · refine br_f (nI_ne0 (by omega) (by omega)) ?_
    obtain ⟨a, ha, rfl⟩ := s
    obtain ⟨rr, hrr, rfl, nf0⟩ := t
    refine xf_F n G W BL WC _ hG hn D ?_
    refine xg_fill n G (pr_FX n G D) BL WC _ rr hG (pr_FX_T D hn hG) hrr hn W ?_
    unfold wpX_cellOf
    dsimp only
    have c90 := pr_ce90 (i := 0) (j := n) (by omega) hn ha
    have e : ((0 : Int32) * 6 + nI n) * 3 + nI a = nI (pr_ce 0 n a) := ce_X 0 n a
    rw [e, nI_clamp (n := pr_ce 0 n a) (by omega)]
    refine ⟨vp_in_nI c90 (by omega), ?_⟩
    refine rd_yCW n ls G D' U LI OP hn hG (nI a) (nI rr) _ (fun z => absurd ⟨⟨a, ha, rfl⟩, ⟨rr, hrr, rfl, nf0⟩, by omega⟩ z) (fun a' rr' ha' hrr' _ e1 e2 _ V eV => ?_)
    rw [nI_eq (by omega) (by omega)] at e1 e2
    subst e1 e2 eV
    exact ⟨(wo_XY hG hn (pr_FXY D D' hn hG) W U 0 n (by omega) (by omega) a ha).symm, rd_mk hn hG⟩
end
