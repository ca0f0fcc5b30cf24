/-! worth, debts: owes, over, value, fails -/
def nn (x : Int32) : Nat := x.toInt.toNat
theorem nn_eq {a b : Int} {x : Int32} (h : rg a b x) (ha : 0 ≤ a) : x = nI (nn x) ∧ (nn x : Int) = x.toInt := by
  have h0 : 0 ≤ x.toInt := by have := h.1; omega
  have e : (nn x : Int) = x.toInt := by unfold nn; omega
  refine ⟨?_, e⟩
  apply Int32.toInt_inj.mp
  have := Int32.toInt_lt x
  rw [nI_toInt (by omega)]
  omega
/-- a plate's debt over the first k loans -/
def dbt (pl sm : Nat → Int32) (x : Int32) : Nat → Nat
  | 0 => 0
  | k + 1 => dbt pl sm x k + (if pl k = x then nn (sm k) else 0)
theorem dbt_congr {pl pl' sm sm' : Nat → Int32} {x : Int32} : ∀ {q : Nat}, (∀ i, i < q → pl i = pl' i ∧ sm i = sm' i) → dbt pl sm x q = dbt pl' sm' x q
  | 0, _ => rfl
  | q + 1, h => by
    have h1 := h q (by omega)
    simp only [dbt]
    rw [dbt_congr (fun i hi => h i (by omega)), h1.1, h1.2]
theorem dbt_le {pl sm : Nat → Int32} {x : Int32} : ∀ {q : Nat}, (∀ i, i < q → rg 0 99999 (sm i)) → dbt pl sm x q ≤ 99999 * q
  | 0, _ => Nat.le_refl _
  | q + 1, h => by
    have h1 := dbt_le (pl := pl) (x := x) (fun i hi => h i (Nat.lt_succ_of_lt hi))
    have h2 := h q (by omega)
    have h3 : nn (sm q) ≤ 99999 := by have := (nn_eq h2 (Int.le_refl 0)).2; have := h2.2; omega
    simp only [dbt]
    split <;> omega
def gainI (k L C : Int32) : Int := (if k = 2 then (L.toInt * 9) / 10 else L.toInt) - C.toInt
def wor (g D : Int) : Nat → Int
  | 0 => 0
  | k + 1 => max 0 (((wor g D k + g) * 1000).tdiv D)
theorem gainI_b {k L C : Int32} (hL : rg 0 9999 L) (hC : rg 0 9999 C) : -9999 ≤ gainI k L C ∧ gainI k L C ≤ 9999 := by
  obtain ⟨h1, h2⟩ := hL
  obtain ⟨h3, h4⟩ := hC
  unfold gainI
  split <;> omega
theorem tdiv_b {X D : Int} (hD : 1000 ≤ D) (B : Int) (hB : 0 ≤ B) (hX : X ≤ B) : (X * 1000).tdiv D ≤ B := by
  by_cases h0 : 0 ≤ X
  · rw [Int.tdiv_eq_ediv_of_nonneg (by omega)]
    have h1 : (X * 1000) / D < X + 1 := by
      refine Int.ediv_lt_of_lt_mul (by omega) ?_
      have : (X + 1) * 1000 ≤ (X + 1) * D := Int.mul_le_mul_of_nonneg_left hD (by omega)
      omega
    omega
  · have e : X * 1000 = -((-X) * 1000) := by omega
    rw [e, Int.neg_tdiv]
    have := Int.tdiv_nonneg (a := (-X) * 1000) (b := D) (by omega) (by omega)
    omega
theorem wor_b {g D : Int} (hg : g ≤ 9999) (hD : 1000 ≤ D) : ∀ k : Nat, 0 ≤ wor g D k ∧ wor g D k ≤ 9999 * k
  | 0 => ⟨Int.le_refl 0, by simp [wor]⟩
  | k + 1 => by
    obtain ⟨h1, h2⟩ := wor_b hg hD k
    have h3 := tdiv_b (X := wor g D k + g) hD (9999 * ((k : Int) + 1)) (by omega) (by omega)
    simp only [wor]
    omega
theorem tdiv_lo {X D : Int} (hD : 1000 ≤ D) (B : Int) (hB : 0 ≤ B) (hX : -B ≤ X) : -B ≤ (X * 1000).tdiv D := by
  have e : X * 1000 = -((-X) * 1000) := by omega
  rw [e, Int.neg_tdiv]
  have := tdiv_b (X := -X) hD B hB (by omega)
  omega
theorem add64 {x y : Int64} (h1 : -9223372036854775808 ≤ x.toInt + y.toInt) (h2 : x.toInt + y.toInt < 9223372036854775808) : (x + y).toInt = x.toInt + y.toInt := by
  rw [Int64.toInt_add]
  exact Int.bmod_eq_of_le (by omega) (by omega)
theorem sub64 {x y : Int64} (h1 : -9223372036854775808 ≤ x.toInt - y.toInt) (h2 : x.toInt - y.toInt < 9223372036854775808) : (x - y).toInt = x.toInt - y.toInt := by
  rw [Int64.toInt_sub]
  exact Int.bmod_eq_of_le (by omega) (by omega)
theorem mul64 {x y : Int64} (h1 : -9223372036854775808 ≤ x.toInt * y.toInt) (h2 : x.toInt * y.toInt < 9223372036854775808) : (x * y).toInt = x.toInt * y.toInt := by
  rw [Int64.toInt_mul]
  exact Int.bmod_eq_of_le (by omega) (by omega)
theorem div64 {x y : Int64} (h : 0 < y.toInt) : (x / y).toInt = x.toInt.tdiv y.toInt := Int64.toInt_div_of_ne_right x y (fun e => by rw [e] at h; exact absurd h (by decide))
theorem div32 {x y : Int32} (h : 0 < y.toInt) : (x / y).toInt = x.toInt.tdiv y.toInt := Int32.toInt_div_of_ne_right x y (fun e => by rw [e] at h; exact absurd h (by decide))
theorem l2i_toInt {x : Int64} (h1 : -2147483648 ≤ x.toInt) (h2 : x.toInt < 2147483648) : (Int64.toInt32 x).toInt = x.toInt := by
  rw [Int64.toInt_toInt32]
  exact Int.bmod_eq_of_le (by omega) (by omega)
section Worth
variable {l : Launch} {σ : ax_Sg} {P : Option Value → ax_Sg → Prop}
theorem c_debt {q : Nat} (hq : q ≤ 30) (hs : σ 9 4 = nI q) (hr : ∀ i, i < q → rg 0 99999 (σ 49 i)) (x : Int32) (h : P (some (.int (nI (dbt (σ 47) (σ 49) x q)))) σ) : Ev l 30 0 [some (.ref 9), some (.int x), none, none] [] σ P := by
  have loop : ∀ m k, q - k = m → k ≤ q → Ev l 30 4 [some (.ref 9), some (.int x), some (.int (nI (dbt (σ 47) (σ 49) x k))), some (.int (nI k))] [] σ P := by
    intro m
    induction m with
    | zero =>
      intro k hk hkq
      have : k = q := by omega
      subst this
      exact b_X4_debt_4 x _ _ (br_f' (by rw [hs]; exact nI_nlt (Nat.le_refl _) (by omega)) h)
    | succ m ih =>
      intro k hk hkq
      refine b_X4_debt_4 x _ _ (br_t' (by rw [hs]; exact nI_lt (by omega) (by omega)) ⟨in_nI (by omega) (by decide), ?_⟩)
      rw [cl_nI (by omega), nI_1]
      have e1 := (nn_eq (hr k (by omega)) (Int.le_refl 0)).1
      refine br_i (fun e => ⟨in_nI (by omega) (by decide), ?_⟩) (fun e => ?_)
      · have := ih (k + 1) (by omega) (by omega)
        simp only [dbt, if_pos e] at this
        rw [e1, nI_add]; exact this
      · have := ih (k + 1) (by omega) (by omega)
        simp only [dbt, if_neg e, Nat.add_zero] at this
        exact this
  exact b_X4_debt_0 x (loop q 0 (by omega) (by omega))
theorem m_owed {q : Nat} (hq : q ≤ 30) (hs : σ 13 42 = nI q) (hr : ∀ i, i < q → rg 0 99999 (σ 86 i)) (x : Int32) (h : P (some (.int (nI (dbt (σ 84) (σ 86) x q)))) σ) : Ev l 152 0 [some (.ref 13), some (.int x), none, none] [] σ P := by
  have loop : ∀ m k, q - k = m → k ≤ q → Ev l 152 4 [some (.ref 13), some (.int x), some (.int (nI (dbt (σ 84) (σ 86) x k))), some (.int (nI k))] [] σ P := by
    intro m
    induction m with
    | zero =>
      intro k hk hkq
      have : k = q := by omega
      subst this
      exact b_X11_owed_4 x _ _ (br_f' (by rw [hs]; exact nI_nlt (Nat.le_refl _) (by omega)) h)
    | succ m ih =>
      intro k hk hkq
      refine b_X11_owed_4 x _ _ (br_t' (by rw [hs]; exact nI_lt (by omega) (by omega)) ⟨in_nI (by omega) (by decide), ?_⟩)
      rw [cl_nI (by omega), nI_1]
      have e1 := (nn_eq (hr k (by omega)) (Int.le_refl 0)).1
      refine br_i (fun e => ⟨in_nI (by omega) (by decide), ?_⟩) (fun e => ?_)
      · have := ih (k + 1) (by omega) (by omega)
        simp only [dbt, if_pos e] at this
        rw [e1, nI_add]; exact this
      · have := ih (k + 1) (by omega) (by omega)
        simp only [dbt, if_neg e, Nat.add_zero] at this
        rw [show (0 : Int32) = nI 0 from rfl, nI_add]
        exact this
  exact b_X11_owed_0 x (loop q 0 (by omega) (by omega))
theorem c_worth {n p : Nat} (hn : n ≤ 12) (hp : p < n) (hL : rg 0 9999 (σ 16 p)) (hC : rg 0 9999 (σ 17 p)) {ys rt : Int32} (hy : 1 ≤ ys.toInt ∧ ys.toInt ≤ 40) (hr : 0 ≤ rt.toInt ∧ rt.toInt ≤ 500) (h : ∀ v : Int32, v.toInt = wor (gainI (σ 14 p) (σ 16 p) (σ 17 p)) (1000 + rt.toInt) ys.toInt.toNat → P (some (.int v)) σ) : Ev l 47 0 [some (.ref 1), some (.int (nI p)), some (.int ys), some (.int rt), none, none, none, none] [] σ P := by
  have h1000 : (1000 : Int32).toInt = 1000 := by decide
  have h0 : (0 : Int32).toInt = 0 := by decide
  have h9 : (9 : Int32).toInt = 9 := by decide
  have h10 : (10 : Int32).toInt = 10 := by decide
  obtain ⟨Y, hY, rfl⟩ := nat_of (b := 40) (by omega) hy.2
  have hYi : (nI Y).toInt = (Y : Int) := nI_toInt (by omega)
  rw [hYi] at h
  have hg := gainI_b (k := σ 14 p) hL hC
  generalize hgd : gainI (σ 14 p) (σ 16 p) (σ 17 p) = g at h hg
  have hD : (1000 + rt).toInt = 1000 + rt.toInt := by rw [add_toInt (by rw [h1000]; omega) (by rw [h1000]; omega), h1000]
  have hD0 : ¬ 1000 + rt = 0 := fun e => by rw [eq_toInt, hD, h0] at e; omega
  have loop : ∀ m k (x5 x6 : Int32), Y - k = m → k ≤ Y → x5.toInt = g → x6.toInt = wor g (1000 + rt.toInt) k → Ev l 47 50 [none, none, some (.int (nI Y)), some (.int rt), none, some (.int x5), some (.int x6), some (.int (nI k))] [] σ P := by
    intro m
    induction m with
    | zero =>
      intro k x5 x6 hk hkY e5 e6
      have : k = Y := by omega
      subst this
      exact b_X6_worth_50 _ _ _ _ _ (br_f' (nI_nlt (Nat.le_refl _) (by omega)) (h _ e6))
    | succ m ih =>
      intro k x5 x6 hk hkY e5 e6
      obtain ⟨w1, w2⟩ := wor_b (g := g) (D := 1000 + rt.toInt) hg.2 (by omega) k
      have hX : (x6 + x5).toInt = wor g (1000 + rt.toInt) k + g := by rw [add_toInt (by omega) (by omega), e5, e6]
      have hM : ((x6 + x5) * 1000).toInt = (wor g (1000 + rt.toInt) k + g) * 1000 := by rw [mul_toInt (by rw [hX, h1000]; omega) (by rw [hX, h1000]; omega), hX, h1000]
      have hV : (((x6 + x5) * 1000) / (1000 + rt)).toInt = ((wor g (1000 + rt.toInt) k + g) * 1000).tdiv (1000 + rt.toInt) := by rw [div32 (by rw [hD]; omega), hM, hD]
      refine b_X6_worth_50 _ _ _ _ _ (br_t' (nI_lt (by omega) (by omega)) ⟨hD0, c_max _ _ ?_⟩)
      rw [nI_1]
      refine ih (k + 1) x5 _ (by omega) (by omega) e5 ?_
      simp only [wor]
      rw [← hV]
      by_cases hc : (0 : Int32) < ((x6 + x5) * 1000) / (1000 + rt)
      · rw [if_pos hc]; rw [lt_toInt, h0] at hc; omega
      · rw [if_neg hc]; rw [lt_toInt, h0] at hc; omega
  refine b_X6_worth_0 _ _ _ ⟨in_nI (by omega) (by decide), ?_⟩
  rw [cl_nI (by omega)]
  refine br_i (fun hk => ⟨in_nI (by omega) (by decide), by decide, in_nI (by omega) (by decide), ?_⟩) (fun hk => ⟨in_nI (by omega) (by decide), in_nI (by omega) (by decide), ?_⟩)
  · refine loop Y 0 _ 0 (by omega) (by omega) ?_ rfl
    obtain ⟨l1, l2⟩ := hL
    obtain ⟨c1, c2⟩ := hC
    have hm : (σ 16 p * 9).toInt = (σ 16 p).toInt * 9 := by rw [mul_toInt (by rw [h9]; omega) (by rw [h9]; omega), h9]
    have hd : (σ 16 p * 9 / 10).toInt = ((σ 16 p).toInt * 9) / 10 := by rw [div32 (by rw [h10]; omega), hm, h10, Int.tdiv_eq_ediv_of_nonneg (by omega)]
    rw [sub_toInt (by rw [hd]; omega) (by rw [hd]; omega), hd, ← hgd]
    unfold gainI
    rw [if_pos hk]
  · refine loop Y 0 _ 0 (by omega) (by omega) ?_ rfl
    obtain ⟨l1, l2⟩ := hL
    obtain ⟨c1, c2⟩ := hC
    rw [sub_toInt (by omega) (by omega), ← hgd]
    unfold gainI
    rw [if_neg hk]
theorem m_worth {n p : Nat} (hn : n ≤ 12) (hp : p < n) (hL : rg 0 9999 (σ 60 p)) (hC : rg 0 9999 (σ 61 p)) {ys rt : Int32} (hy : 1 ≤ ys.toInt ∧ ys.toInt ≤ 40) (hr : 0 ≤ rt.toInt ∧ rt.toInt ≤ 500) (h : ∀ v : Int32, v.toInt = wor (gainI (σ 58 p) (σ 60 p) (σ 61 p)) (1000 + rt.toInt) ys.toInt.toNat → P (some (.int v)) σ) : Ev l 148 0 [some (.ref 13), some (.int (nI p)), some (.int ys), some (.int rt), none, none, none, none, none] [] σ P := by
  have h1000 : (1000 : Int64).toInt = 1000 := by decide
  have h0 : (0 : Int64).toInt = 0 := by decide
  have h9 : (9 : Int32).toInt = 9 := by decide
  have h10 : (10 : Int32).toInt = 10 := by decide
  obtain ⟨Y, hY, rfl⟩ := nat_of (b := 40) (by omega) hy.2
  have hYi : (nI Y).toInt = (Y : Int) := nI_toInt (by omega)
  rw [hYi] at h
  have hg := gainI_b (k := σ 58 p) hL hC
  obtain ⟨l1, l2⟩ := hL
  obtain ⟨c1, c2⟩ := hC
  generalize hgd : gainI (σ 58 p) (σ 60 p) (σ 61 p) = g at h hg
  have hD : (1000 + Int32.toInt64 rt).toInt = 1000 + rt.toInt := by rw [add64 (by rw [h1000, Int32.toInt_toInt64]; omega) (by rw [h1000, Int32.toInt_toInt64]; omega), h1000, Int32.toInt_toInt64]
  have hD0 : ¬ 1000 + Int32.toInt64 rt = 0 := fun e => by rw [← Int64.toInt_inj, hD, h0] at e; omega
  have loop : ∀ m k (j4 j6 : Int64), Y - k = m → k ≤ Y → j4.toInt - (σ 61 p).toInt = g → j6.toInt = wor g (1000 + rt.toInt) k → Ev l 148 41 [some (.ref 13), some (.int (nI p)), some (.int (nI Y)), some (.int rt), some (.long j4), none, some (.long j6), none, some (.int (nI k))] [] σ P := by
    intro m
    induction m with
    | zero =>
      intro k j4 j6 hk hkY e4 e6
      have : k = Y := by omega
      subst this
      obtain ⟨w1, w2⟩ := wor_b (g := g) (D := 1000 + rt.toInt) hg.2 (by omega) k
      exact b_X11_worth_41 _ _ _ _ _ _ (br_f' (nI_nlt (Nat.le_refl _) (by omega)) (h _ ((l2i_toInt (by omega) (by omega)).trans e6)))
    | succ m ih =>
      intro k j4 j6 hk hkY e4 e6
      obtain ⟨w1, w2⟩ := wor_b (g := g) (D := 1000 + rt.toInt) hg.2 (by omega) k
      have h61 : (Int32.toInt64 (σ 61 p)).toInt = (σ 61 p).toInt := Int32.toInt_toInt64 _
      have hA : (j6 + j4).toInt = j6.toInt + j4.toInt := add64 (by omega) (by omega)
      have hX : (j6 + j4 - Int32.toInt64 (σ 61 p)).toInt = wor g (1000 + rt.toInt) k + g := by rw [sub64 (by rw [hA, h61]; omega) (by rw [hA, h61]; omega), hA, h61]; omega
      have hM : ((j6 + j4 - Int32.toInt64 (σ 61 p)) * 1000).toInt = (wor g (1000 + rt.toInt) k + g) * 1000 := by rw [mul64 (by rw [hX, h1000]; omega) (by rw [hX, h1000]; omega), hX, h1000]
      have hV : (((j6 + j4 - Int32.toInt64 (σ 61 p)) * 1000) / (1000 + Int32.toInt64 rt)).toInt = ((wor g (1000 + rt.toInt) k + g) * 1000).tdiv (1000 + rt.toInt) := by rw [div64 (by rw [hD]; omega), hM, hD]
      refine b_X11_worth_41 _ _ _ _ _ _ (br_t' (nI_lt (by omega) (by omega)) ⟨in_nI (by omega) (by decide), hD0, ?_⟩)
      rw [cl_nI (by omega), nI_1]
      refine br_i (fun hc => ih (k + 1) j4 0 (by omega) (by omega) e4 ?_) (fun hc => ih (k + 1) j4 _ (by omega) (by omega) e4 ?_)
      · rw [lcmp_lt, hV, h0] at hc
        rw [h0]; simp only [wor]; omega
      · rw [lcmp_lt, hV, h0] at hc
        rw [hV]; simp only [wor]; omega
  refine b_X11_worth_0 _ _ _ ⟨in_nI (by omega) (by decide), ?_⟩
  rw [cl_nI (by omega)]
  refine br_i (fun hk => ⟨in_nI (by omega) (by decide), by decide, ?_⟩) (fun hk => ⟨in_nI (by omega) (by decide), ?_⟩)
  · refine loop Y 0 _ 0 (by omega) (by omega) ?_ rfl
    have hm : (σ 60 p * 9).toInt = (σ 60 p).toInt * 9 := by rw [mul_toInt (by rw [h9]; omega) (by rw [h9]; omega), h9]
    have hd : (σ 60 p * 9 / 10).toInt = ((σ 60 p).toInt * 9) / 10 := by rw [div32 (by rw [h10]; omega), hm, h10, Int.tdiv_eq_ediv_of_nonneg (by omega)]
    rw [Int32.toInt_toInt64, hd, ← hgd]
    unfold gainI
    rw [if_pos hk]
  · refine loop Y 0 _ 0 (by omega) (by omega) ?_ rfl
    rw [Int32.toInt_toInt64, ← hgd]
    unfold gainI
    rw [if_neg hk]
theorem term_t {x a : Int32} (h : 1 ≤ x.toInt ∧ x.toInt ≤ 40) (h2 : 0 ≤ a.toInt ∧ a.toInt ≤ 500) (k : P (some (.int 1)) σ) : Ev l 105 0 [some (.int x), some (.int a)] [] σ P := b_X10_isTerm_0 x a (wt h (br1 (wt h2 (br1 ⟨nar1, k⟩))))
theorem term_f {x a : Int32} (h : ¬ ((1 ≤ x.toInt ∧ x.toInt ≤ 40) ∧ (0 ≤ a.toInt ∧ a.toInt ≤ 500))) (k : P (some (.int 0)) σ) : Ev l 105 0 [some (.int x), some (.int a)] [] σ P := by
  refine b_X10_isTerm_0 x a ?_
  by_cases h1 : 1 ≤ x.toInt ∧ x.toInt ≤ 40
  · exact wt h1 (br1 (wf (ai := 0) (bi := 500) (fun h2 => h ⟨h1, h2⟩) (br0 ⟨nar0, k⟩)))
  · exact wf h1 (br0 ⟨nar0, k⟩)
theorem mterm_t {x a : Int32} (h : 1 ≤ x.toInt ∧ x.toInt ≤ 40) (h2 : 0 ≤ a.toInt ∧ a.toInt ≤ 500) (k : P (some (.int 1)) σ) : Ev l 147 0 [some (.int x), some (.int a)] [] σ P := b_X11_areTerms_0 x a (ni_t h (br1 (ni_t h2 (br1 ⟨nar1, k⟩))))
theorem mterm_f {x a : Int32} (h : ¬ ((1 ≤ x.toInt ∧ x.toInt ≤ 40) ∧ (0 ≤ a.toInt ∧ a.toInt ≤ 500))) (k : P (some (.int 0)) σ) : Ev l 147 0 [some (.int x), some (.int a)] [] σ P := by
  refine b_X11_areTerms_0 x a ?_
  by_cases h1 : 1 ≤ x.toInt ∧ x.toInt ≤ 40
  · exact ni_t h1 (br1 (ni_f (ai := 0) (bi := 500) (fun h2 => h ⟨h1, h2⟩) (br0 ⟨nar0, k⟩)))
  · exact ni_f h1 (br0 ⟨nar0, k⟩)
theorem pr_owes (hI : Inv σ) (x : Int32) : Pr l 90 [some (.ref 0), some (.int x)] 153 [some (.ref 13), some (.int x)] σ := by
  have hI0 := hI
  obtain ⟨n, d, t, c, h, r, q, f, y, hpl, hdr, hsh, htp, hmt, has, hct, hrd, hln, hfl, hli⟩ := hI
  obtain ⟨hn, hs, hm, hp⟩ := hpl
  obtain ⟨hq, hqs, hqm, hqp⟩ := hln
  rcases nI_case x n (by omega) with ⟨p, hpn, rfl⟩ | hx
  · refine b_X10_owes_0 _ (pl_t hn hs hpn (br1 (c_debt hq hqs (fun i hi => (hqp i hi).2.2.2.2.2) _ ?_)))
    refine b_X11_owes_0 _ (mpl_t hn hm hpn (br1 (m_owed hq hqm (fun i hi => by rw [← (hqp i hi).2.2.2.2.1]; exact (hqp i hi).2.2.2.2.2) _ (fin ?_ hI0))))
    rw [dbt_congr (fun i hi => ⟨(hqp i hi).1, (hqp i hi).2.2.2.2.1⟩)]
  · refine b_X10_owes_0 _ (pl_f hn hs hx (br0 ?_))
    exact b_X11_owes_0 _ (mpl_f hn hm hx (br0 (fin rfl hI0)))
theorem pr_over (hI : Inv σ) (x s : Int32) : Pr l 93 [some (.ref 0), some (.int x), some (.int s)] 157 [some (.ref 13), some (.int x), some (.int s), none] σ := by
  have hI0 := hI
  obtain ⟨n, d, t, c, h, r, q, f, y, hpl, hdr, hsh, htp, hmt, has, hct, hrd, hln, hfl, hli⟩ := hI
  obtain ⟨hn, hs, hm, hp⟩ := hpl
  obtain ⟨hq, hqs, hqm, hqp⟩ := hln
  have h0 : (0 : Int32).toInt = 0 := by decide
  rcases nI_case x n (by omega) with ⟨p, hpn, rfl⟩ | hx
  · by_cases hsm : 0 ≤ s.toInt ∧ s.toInt ≤ 999999
    · refine b_X10_over_0 _ _ (pl_t hn hs hpn (br1 (b_X10_isPartable_0 _ (wt hsm ⟨nar1, br1 (c_debt hq hqs (fun i hi => (hqp i hi).2.2.2.2.2) _ (c_max _ _ ?_))⟩))))
      refine b_X11_over_0 _ _ (mpl_t hn hm hpn (br1 (ni_t hsm (br1 (m_owed hq hqm (fun i hi => by rw [← (hqp i hi).2.2.2.2.1]; exact (hqp i hi).2.2.2.2.2) _ ?_)))))
      rw [← dbt_congr (pl := σ 47) (sm := σ 49) (fun i hi => ⟨(hqp i hi).1, (hqp i hi).2.2.2.2.1⟩)]
      have hb := dbt_le (pl := σ 47) (sm := σ 49) (x := nI p) (q := q) (fun i hi => (hqp i hi).2.2.2.2.2)
      generalize dbt (σ 47) (σ 49) (nI p) q = D at hb ⊢
      have hDi : (nI D).toInt = (D : Int) := nI_toInt (by omega)
      have hsub : (s - nI D).toInt = s.toInt - D := by rw [sub_toInt (by rw [hDi]; omega) (by rw [hDi]; omega), hDi]
      refine br_i (fun e => fin ?_ hI0) (fun e => fin ?_ hI0)
      · rw [lt_toInt, hDi] at e
        rw [if_pos (by rw [lt_toInt, hsub, h0]; omega)]
      · rw [lt_toInt, hDi] at e
        rw [if_neg (by rw [lt_toInt, hsub, h0]; omega)]
    · refine b_X10_over_0 _ _ (pl_t hn hs hpn (br1 (b_X10_isPartable_0 _ (wf hsm ⟨nar0, br0 ?_⟩))))
      exact b_X11_over_0 _ _ (mpl_t hn hm hpn (br1 (ni_f hsm (br0 (fin rfl hI0)))))
  · refine b_X10_over_0 _ _ (pl_f hn hs hx (br0 ?_))
    exact b_X11_over_0 _ _ (mpl_f hn hm hx (br0 (fin rfl hI0)))
theorem pr_value (hI : Inv σ) (x ys rt : Int32) : Pr l 87 [some (.ref 0), some (.int x), some (.int ys), some (.int rt)] 149 [some (.ref 13), some (.int x), some (.int ys), some (.int rt)] σ := by
  have hI0 := hI
  obtain ⟨n, d, t, c, h, r, q, f, y, hpl, hdr, hsh, htp, hmt, has, hct, hrd, hln, hfl, hli⟩ := hI
  obtain ⟨hn, hs, hm, hp⟩ := hpl
  rcases nI_case x n (by omega) with ⟨p, hpn, rfl⟩ | hx
  · obtain ⟨a1, a2, a3, a4, a5, a6, a7⟩ := hp p hpn
    by_cases hT : (1 ≤ ys.toInt ∧ ys.toInt ≤ 40) ∧ (0 ≤ rt.toInt ∧ rt.toInt ≤ 500)
    · refine b_X10_value_0 _ _ _ (pl_t hn hs hpn (br1 (term_t hT.1 hT.2 (br1 (c_worth hn hpn a6 a7 hT.1 hT.2 (fun v hv => ?_))))))
      refine b_X11_value_0 _ _ _ (mpl_t hn hm hpn (br1 (mterm_t hT.1 hT.2 (br1 (m_worth hn hpn (by rw [← a3]; exact a6) (by rw [← a4]; exact a7) hT.1 hT.2 (fun w hw => fin ?_ hI0))))))
      rw [← a1, ← a3, ← a4] at hw
      exact eq_toInt.mpr (hv.trans hw.symm)
    · refine b_X10_value_0 _ _ _ (pl_t hn hs hpn (br1 (term_f hT (br0 ?_))))
      exact b_X11_value_0 _ _ _ (mpl_t hn hm hpn (br1 (mterm_f hT (br0 (fin rfl hI0)))))
  · refine b_X10_value_0 _ _ _ (pl_f hn hs hx (br0 ?_))
    exact b_X11_value_0 _ _ _ (mpl_f hn hm hx (br0 (fin rfl hI0)))
/-- is the plate failing? -/
def isF (n : Nat) (σ : ax_Sg) (q : Nat) (ys rt : Int32) (p : Nat) : Prop := wor (gainI (σ 14 p) (σ 16 p) (σ 17 p)) (1000 + rt.toInt) ys.toInt.toNat < (dbt (σ 47) (σ 49) (nI p) q : Int)
theorem c_isFailing {n p q : Nat} (hn : n ≤ 12) (hp : p < n) (hq : q ≤ 30) (hqs : σ 9 4 = nI q) (hr' : ∀ i, i < q → rg 0 99999 (σ 49 i)) (hL : rg 0 9999 (σ 16 p)) (hC : rg 0 9999 (σ 17 p)) {ys rt : Int32} (hy : 1 ≤ ys.toInt ∧ ys.toInt ≤ 40) (hr : 0 ≤ rt.toInt ∧ rt.toInt ≤ 500) (hT : isF n σ q ys rt p → P (some (.int 1)) σ) (hF : ¬ isF n σ q ys rt p → P (some (.int 0)) σ) : Ev l 107 0 [some (.ref 0), some (.int (nI p)), some (.int ys), some (.int rt)] [] σ P := by
  refine b_X10_isFailing_0 _ _ _ (c_debt hq hqs hr' _ (c_worth hn hp hL hC hy hr (fun v hv => ?_)))
  have hb := dbt_le (pl := σ 47) (sm := σ 49) (x := nI p) (q := q) hr'
  have hDi : (nI (dbt (σ 47) (σ 49) (nI p) q)).toInt = (dbt (σ 47) (σ 49) (nI p) q : Int) := nI_toInt (by omega)
  refine br_i (fun e => ⟨nar1, hT ?_⟩) (fun e => ⟨nar0, hF ?_⟩)
  · rw [lt_toInt, hv, hDi] at e; exact e
  · rw [lt_toInt, hv, hDi] at e; exact e
theorem pr_fails (hI : Inv σ) (ys rt : Int32) : Pr l 91 [some (.ref 0), some (.int ys), some (.int rt), none, none] 154 [some (.ref 13), some (.int ys), some (.int rt), none, none] σ := by
  have hI0 := hI
  obtain ⟨n, d, t, c, h, r, q, f, y, hpl, hdr, hsh, htp, hmt, has, hct, hrd, hln, hfl, hli⟩ := hI
  obtain ⟨hn, hs, hm, hp⟩ := hpl
  obtain ⟨hq, hqs, hqm, hqp⟩ := hln
  by_cases hT : (1 ≤ ys.toInt ∧ ys.toInt ≤ 40) ∧ (0 ≤ rt.toInt ∧ rt.toInt ≤ 500)
  · have hT0 := hT
    -- the bits, as a function
    have bits : ∃ fb : Nat → Int32, fb 0 = 0 ∧ ∀ k, k < n → (isF n σ q ys rt k → fb (k + 1) = fb k ||| ((1 : Int32) <<< (nI k &&& 31))) ∧ (¬ isF n σ q ys rt k → fb (k + 1) = fb k) := by
      have : ∀ k, ∃ fb : Nat → Int32, fb 0 = 0 ∧ ∀ j, j < k → (isF n σ q ys rt j → fb (j + 1) = fb j ||| ((1 : Int32) <<< (nI j &&& 31))) ∧ (¬ isF n σ q ys rt j → fb (j + 1) = fb j) := by
        intro k
        induction k with
        | zero => exact ⟨fun _ => 0, rfl, fun j hj => absurd hj (by omega)⟩
        | succ k ih =>
          obtain ⟨fb, f0, fs⟩ := ih
          by_cases hF : isF n σ q ys rt k
          · refine ⟨upd fb (k + 1) (fb k ||| ((1 : Int32) <<< (nI k &&& 31))), by rw [upd_n _ _ (by omega)]; exact f0, fun j hj => ?_⟩
            by_cases e : j = k
            · subst e
              rw [upd_s, upd_n _ _ (by omega)]
              exact ⟨fun _ => rfl, fun z => absurd hF z⟩
            · rw [upd_n _ _ (by omega), upd_n _ _ (by omega)]
              exact fs j (by omega)
          · refine ⟨upd fb (k + 1) (fb k), by rw [upd_n _ _ (by omega)]; exact f0, fun j hj => ?_⟩
            by_cases e : j = k
            · subst e
              rw [upd_s, upd_n _ _ (by omega)]
              exact ⟨fun z => absurd z hF, fun _ => rfl⟩
            · rw [upd_n _ _ (by omega), upd_n _ _ (by omega)]
              exact fs j (by omega)
      exact this n
    obtain ⟨fb, fb0, fbs⟩ := bits
    have ref : ∀ m k, n - k = m → k ≤ n → Ev l 154 16 [some (.ref 13), some (.int ys), some (.int rt), some (.int (fb k)), some (.int (nI k))] [] σ (fun o2 σ2 => ax_oi o2 fun w => fb n = w ∧ Inv σ2) := by
      intro m
      induction m with
      | zero =>
        intro k hk hkn
        have : k = n := by omega
        subst this
        exact b_X11_fails_16 _ _ _ _ (br_f' (by rw [hm]; exact nI_nlt (Nat.le_refl _) (by omega)) (fin rfl hI0))
      | succ m ih =>
        intro k hk hkn
        obtain ⟨a1, a2, a3, a4, a5, a6, a7⟩ := hp k (by omega)
        refine b_X11_fails_16 _ _ _ _ (br_t' (by rw [hm]; exact nI_lt (by omega) (by omega)) (m_owed hq hqm (fun i hi => by rw [← (hqp i hi).2.2.2.2.1]; exact (hqp i hi).2.2.2.2.2) _ (m_worth (n := n) (p := k) hn (by omega) (by rw [← a3]; exact a6) (by rw [← a4]; exact a7) hT.1 hT.2 (fun v hv => ?_))))
        rw [← dbt_congr (pl := σ 47) (sm := σ 49) (fun i hi => ⟨(hqp i hi).1, (hqp i hi).2.2.2.2.1⟩), nI_1]
        rw [← a1, ← a3, ← a4] at hv
        have hb := dbt_le (pl := σ 47) (sm := σ 49) (x := nI k) (q := q) (fun i hi => (hqp i hi).2.2.2.2.2)
        have hDi : (nI (dbt (σ 47) (σ 49) (nI k) q)).toInt = (dbt (σ 47) (σ 49) (nI k) q : Int) := nI_toInt (by omega)
        have ih' := ih (k + 1) (by omega) (by omega)
        refine br_i (fun e => ?_) (fun e => ?_)
        · rw [lt_toInt, hv, hDi] at e
          rw [(fbs k (by omega)).1 e] at ih'
          exact ih'
        · rw [lt_toInt, hv, hDi] at e
          rw [(fbs k (by omega)).2 e] at ih'
          rw [Int32.or_zero]
          exact ih'
    have cls : ∀ m k, n - k = m → k ≤ n → Ev l 91 16 [some (.ref 0), some (.int ys), some (.int rt), some (.int (fb k)), some (.int (nI k))] [] σ (fun o σ1 => ax_oi o fun v => Ev l 154 0 [some (.ref 13), some (.int ys), some (.int rt), none, none] [] σ1 (fun o2 σ2 => ax_oi o2 fun w => v = w ∧ Inv σ2)) := by
      intro m
      induction m with
      | zero =>
        intro k hk hkn
        have : k = n := by omega
        subst this
        refine b_X10_fails_16 _ _ _ _ (br_f' (by rw [hs]; exact nI_nlt (Nat.le_refl _) (by omega)) ?_)
        have r0 := ref k 0 (by omega) (by omega)
        rw [fb0] at r0
        exact b_X11_fails_0 _ _ (mterm_t hT.1 hT.2 (br1 r0))
      | succ m ih =>
        intro k hk hkn
        obtain ⟨a1, a2, a3, a4, a5, a6, a7⟩ := hp k (by omega)
        have ih' := ih (k + 1) (by omega) (by omega)
        refine b_X10_fails_16 _ _ _ _ (br_t' (by rw [hs]; exact nI_lt (by omega) (by omega)) (c_isFailing (n := n) hn (by omega) hq hqs (fun i hi => (hqp i hi).2.2.2.2.2) a6 a7 hT.1 hT.2 (fun e => br1 ?_) (fun e => br0 ?_)))
        · rw [(fbs k (by omega)).1 e] at ih'
          rw [nI_1]; exact ih'
        · rw [(fbs k (by omega)).2 e] at ih'
          rw [nI_1]; exact ih'
    have c0 := cls n 0 (by omega) (by omega)
    rw [fb0] at c0
    exact b_X10_fails_0 _ _ (term_t hT.1 hT.2 (br1 c0))
  · refine b_X10_fails_0 _ _ (term_f hT (br0 ?_))
    exact b_X11_fails_0 _ _ (mterm_f hT (br0 (fin rfl hI0)))
end Worth
