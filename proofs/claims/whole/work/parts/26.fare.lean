/-! the meter's fare; rides found again -/
def tms (k w fr to hr wt : Int32) : Int32 := if k = 0 then 1 else if k = 1 then (if fr - to < 0 then -(fr - to) else fr - to) else if k = 2 then (if hr < 6 then 1 else if 19 < hr then 1 else 0) else if k = 3 then (if fr = w then 1 else if to = w then 1 else 0) else if k = 4 then wt else 0
def prS (a w m : Nat → Int32) (fr to hr wt : Int32) : Nat → Int32
  | 0 => 0
  | k + 1 => if a k = 5 then prS a w m fr to hr wt k else prS a w m fr to hr wt k + m k * tms (a k) (w k) fr to hr wt
def prC (a m : Nat → Int32) : Nat → Int32
  | 0 => 99999
  | k + 1 => if a k = 5 then (if m k < prC a m k then m k else prC a m k) else prC a m k
def prF (a w m : Nat → Int32) (fr to hr wt : Int32) (c : Nat) : Int32 := if prC a m c < prS a w m fr to hr wt c then prC a m c else prS a w m fr to hr wt c
section Fare
variable {l : Launch} {σ : ax_Sg} {P : Option Value → ax_Sg → Prop}
theorem c_times {i : Nat} (hi : i < 6) (fr to hr wt : Int32) (h : P (some (.int (tms (σ 26 i) (σ 27 i) fr to hr wt))) σ) : Ev l 40 0 [some (.ref 4), some (.int (nI i)), some (.int fr), some (.int to), some (.int hr), some (.int wt)] [] σ P := by
  refine b_X5_timesDue_0 _ _ _ _ _ ⟨in_nI hi (by decide), ?_⟩
  rw [cl_nI (by omega)]
  unfold tms at h
  by_cases h0 : σ 26 i = 0
  · rw [if_pos h0] at h; exact swt h0 h
  rw [if_neg h0] at h
  by_cases h1 : σ 26 i = 1
  · rw [if_pos h1] at h
    refine swf h0 (swt h1 (b_J9_abs_0f7a4_0 _ (br_i (fun e => ?_) (fun e => ?_))))
    · rw [if_pos e] at h; exact h
    · rw [if_neg e] at h; exact h
  rw [if_neg h1] at h
  by_cases h2 : σ 26 i = 2
  · rw [if_pos h2] at h
    refine swf h0 (swf h1 (swt h2 (br_i (fun e => ?_) (fun e => br_i (fun e2 => ?_) (fun e2 => ?_)))))
    · rw [if_pos e] at h; exact h
    · rw [if_neg e, if_pos e2] at h; exact h
    · rw [if_neg e, if_neg e2] at h; exact h
  rw [if_neg h2] at h
  by_cases h3 : σ 26 i = 3
  · rw [if_pos h3] at h
    refine swf h0 (swf h1 (swf h2 (swt h3 ⟨in_nI hi (by decide), br_i (fun e => ?_) (fun e => ⟨in_nI hi (by decide), br_i (fun e2 => ?_) (fun e2 => ?_)⟩)⟩)))
    · rw [if_pos e] at h; exact h
    · rw [if_neg e, if_pos e2] at h; exact h
    · rw [if_neg e, if_neg e2] at h; exact h
  rw [if_neg h3] at h
  by_cases h4 : σ 26 i = 4
  · rw [if_pos h4] at h
    exact swf h0 (swf h1 (swf h2 (swf h3 (swt h4 h))))
  · rw [if_neg h4] at h
    exact swf h0 (swf h1 (swf h2 (swf h3 (swf h4 h))))
theorem c_price {c : Nat} (hc : c ≤ 6) (hs : σ 4 3 = nI c) (fr to hr wt : Int32) (h : P (some (.int (prF (σ 26) (σ 27) (σ 28) fr to hr wt c))) σ) : Ev l 39 0 [some (.ref 4), some (.int fr), some (.int to), some (.int hr), some (.int wt), none, none, none] [] σ P := by
  have loop : ∀ m k, c - k = m → k ≤ c → Ev l 39 10 [some (.ref 4), some (.int fr), some (.int to), some (.int hr), some (.int wt), some (.int (prS (σ 26) (σ 27) (σ 28) fr to hr wt k)), some (.int (prC (σ 26) (σ 28) k)), some (.int (nI k))] [] σ P := by
    intro m
    induction m with
    | zero =>
      intro k hk hkc
      have : k = c := by omega
      subst this
      exact b_X5_price_10 _ _ _ _ _ _ _ (br_f' (by rw [hs]; exact nI_nlt (Nat.le_refl _) (by omega)) (c_min _ _ h))
    | succ m ih =>
      intro k hk hkc
      have ih' := ih (k + 1) (by omega) (by omega)
      refine b_X5_price_10 _ _ _ _ _ _ _ (br_t' (by rw [hs]; exact nI_lt (by omega) (by omega)) ⟨in_nI (by omega) (by decide), ?_⟩)
      rw [cl_nI (by omega), nI_1]
      simp only [prS, prC] at ih'
      refine br_i (fun e => ⟨in_nI (by omega) (by decide), c_min _ _ ?_⟩) (fun e => ⟨in_nI (by omega) (by decide), c_times (by omega) _ _ _ _ ?_⟩)
      · rw [if_pos e, if_pos e] at ih'; exact ih'
      · rw [if_neg e, if_neg e] at ih'; exact ih'
  exact b_X5_price_0 _ _ _ _ (loop c 0 (by omega) (by omega))
theorem sub_neg_iff {a b : Int32} (ha : rg 0 4 a) (hb : rg 0 4 b) : a - b < 0 ↔ a < b := by
  obtain ⟨a1, a2⟩ := ha
  obtain ⟨b1, b2⟩ := hb
  have h0 : (0 : Int32).toInt = 0 := by decide
  rw [lt_toInt, lt_toInt, sub_toInt (by omega) (by omega), h0]
  omega
theorem m_fareOf {c : Nat} (hmt : iv_mt c σ) {fr to : Int32} (hf : rg 0 4 fr) (ht : rg 0 4 to) (hr wt : Int32) (h : P (some (.int (prF (σ 26) (σ 27) (σ 28) fr to hr wt c))) σ) : Ev l 132 0 [some (.ref 13), some (.int fr), some (.int to), some (.int hr), some (.int wt), none, none, none, none] [] σ P := by
  obtain ⟨hc, -, hs, hcl⟩ := hmt
  have loop : ∀ m k, c - k = m → k ≤ c → Ev l 132 10 [some (.ref 13), some (.int fr), some (.int to), some (.int hr), some (.int wt), some (.int (prS (σ 26) (σ 27) (σ 28) fr to hr wt k)), some (.int (prC (σ 26) (σ 28) k)), some (.int (nI k)), none] [] σ P := by
    intro m
    induction m with
    | zero =>
      intro k hk hkc
      have : k = c := by omega
      subst this
      refine b_X11_fareOf_10 _ _ _ _ _ _ _ (br_f' (by rw [hs]; exact nI_nlt (Nat.le_refl _) (by omega)) (br_i (fun e => ?_) (fun e => ?_)))
      · unfold prF at h; rw [if_pos e] at h; exact h
      · unfold prF at h; rw [if_neg e] at h; exact h
    | succ m ih =>
      intro k hk hkc
      have ih' := ih (k + 1) (by omega) (by omega)
      obtain ⟨g1, g2, g3, g4, g5⟩ := hcl k (by omega)
      refine b_X11_fareOf_10 _ _ _ _ _ _ _ (br_t' (by rw [hs]; exact nI_lt (by omega) (by omega)) ⟨in_nI (by omega) (by decide), in_nI (by omega) (by decide), ?_⟩)
      rw [cl_nI (by omega), nI_1, ← g1, ← g3]
      simp only [prS, prC, tms] at ih'
      by_cases h0 : σ 26 k = 0
      · have n5 : ¬ σ 26 k = 5 := by rw [h0]; decide
        rw [if_neg n5, if_neg n5, if_pos h0, Int32.mul_one] at ih'
        exact swt h0 ih'
      by_cases h1 : σ 26 k = 1
      · have n5 : ¬ σ 26 k = 5 := by rw [h1]; decide
        rw [if_neg n5, if_neg n5, if_neg h0, if_pos h1] at ih'
        refine swf h0 (swt h1 (br_i (fun e => ?_) (fun e => ?_)))
        · rw [if_pos ((sub_neg_iff hf ht).mpr e), Int32.neg_sub] at ih'; exact ih'
        · rw [if_neg (fun z => e ((sub_neg_iff hf ht).mp z))] at ih'; exact ih'
      by_cases h2 : σ 26 k = 2
      · have n5 : ¬ σ 26 k = 5 := by rw [h2]; decide
        rw [if_neg n5, if_neg n5, if_neg h0, if_neg h1, if_pos h2] at ih'
        refine swf h0 (swf h1 (swt h2 (br_i (fun e => ?_) (fun e => br_i (fun e2 => ?_) (fun e2 => ?_)))))
        · rw [if_pos e, Int32.mul_one] at ih'; exact ih'
        · rw [if_neg e, if_pos e2, Int32.mul_one] at ih'; exact ih'
        · rw [if_neg e, if_neg e2, Int32.mul_zero] at ih'; exact ih'
      by_cases h3 : σ 26 k = 3
      · have n5 : ¬ σ 26 k = 5 := by rw [h3]; decide
        rw [if_neg n5, if_neg n5, if_neg h0, if_neg h1, if_neg h2, if_pos h3, g5 h3] at ih'
        refine swf h0 (swf h1 (swf h2 (swt h3 ⟨in_nI (by omega) (by decide), br_i (fun e => ?_) (fun e => ⟨in_nI (by omega) (by decide), br_i (fun e2 => ?_) (fun e2 => ?_)⟩)⟩)))
        · rw [if_pos e, Int32.mul_one] at ih'; exact ih'
        · rw [if_neg e, if_pos e2, Int32.mul_one] at ih'; exact ih'
        · rw [if_neg e, if_neg e2, Int32.mul_zero] at ih'; exact ih'
      by_cases h4 : σ 26 k = 4
      · have n5 : ¬ σ 26 k = 5 := by rw [h4]; decide
        rw [if_neg n5, if_neg n5, if_neg h0, if_neg h1, if_neg h2, if_neg h3, if_pos h4] at ih'
        exact swf h0 (swf h1 (swf h2 (swf h3 (swt h4 ih'))))
      · have h5 : σ 26 k = 5 := by
          have k0 : (0 : Int32).toInt = 0 := by decide
          have k1 : (1 : Int32).toInt = 1 := by decide
          have k2 : (2 : Int32).toInt = 2 := by decide
          have k3 : (3 : Int32).toInt = 3 := by decide
          have k4 : (4 : Int32).toInt = 4 := by decide
          have k5 : (5 : Int32).toInt = 5 := by decide
          rw [eq_toInt, k0] at h0
          rw [eq_toInt, k1] at h1
          rw [eq_toInt, k2] at h2
          rw [eq_toInt, k3] at h3
          rw [eq_toInt, k4] at h4
          obtain ⟨b1, b2⟩ := g2
          rw [eq_toInt, k5]
          omega
        rw [if_pos h5, if_pos h5] at ih'
        refine swf h0 (swf h1 (swf h2 (swf h3 (swf h4 (br_i (fun e => ?_) (fun e => ?_))))))
        · rw [if_pos e] at ih'; exact ih'
        · rw [if_neg e] at ih'; exact ih'
  exact b_X11_fareOf_0 _ _ _ _ (loop c 0 (by omega) (by omega))
theorem pr_fare (hI : Inv σ) (fr to hr w9 : Int32) : Pr l 80 [some (.ref 0), some (.int fr), some (.int to), some (.int hr), some (.int w9)] 133 [some (.ref 13), some (.int fr), some (.int to), some (.int hr), some (.int w9)] σ := by
  have hI0 := hI
  obtain ⟨n, d, t, c, h, r, q, f, y, hpl, hdr, hsh, htp, hmt, has, hct, hrd, hln, hfl, hli⟩ := hI
  by_cases h1 : 0 ≤ fr.toInt ∧ fr.toInt ≤ 4
  · by_cases h2 : 0 ≤ to.toInt ∧ to.toInt ≤ 4
    · by_cases h3 : 0 ≤ hr.toInt ∧ hr.toInt ≤ 23
      · by_cases h4 : 0 ≤ w9.toInt ∧ w9.toInt ≤ 9
        · refine b_X10_fare_0 _ _ _ _ (ward_t h1 (br1 (ward_t h2 (br1 (wt h3 (br1 (wt h4 (br1 (c_price hmt.1 hmt.2.1 _ _ _ _ ?_)))))))))
          exact b_X11_fare_0 _ _ _ _ (mward_t h1 (br1 (mward_t h2 (br1 (ni_t h3 (br1 (ni_t h4 (br1 (m_fareOf hmt h1 h2 _ _ (fin rfl hI0))))))))))
        · refine b_X10_fare_0 _ _ _ _ (ward_t h1 (br1 (ward_t h2 (br1 (wt h3 (br1 (wf h4 (br0 ?_))))))))
          exact b_X11_fare_0 _ _ _ _ (mward_t h1 (br1 (mward_t h2 (br1 (ni_t h3 (br1 (ni_f h4 (br0 (fin rfl hI0)))))))))
      · refine b_X10_fare_0 _ _ _ _ (ward_t h1 (br1 (ward_t h2 (br1 (wf h3 (br0 ?_))))))
        exact b_X11_fare_0 _ _ _ _ (mward_t h1 (br1 (mward_t h2 (br1 (ni_f h3 (br0 (fin rfl hI0)))))))
    · refine b_X10_fare_0 _ _ _ _ (ward_t h1 (br1 (ward_f h2 (br0 ?_))))
      exact b_X11_fare_0 _ _ _ _ (mward_t h1 (br1 (mward_f h2 (br0 (fin rfl hI0)))))
  · refine b_X10_fare_0 _ _ _ _ (ward_f h1 (br0 ?_))
    exact b_X11_fare_0 _ _ _ _ (mward_f h1 (br0 (fin rfl hI0)))
end Fare
