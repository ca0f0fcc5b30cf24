/-! rides found again -/
def fnM (σ : ax_Sg) (x1 x2 x3 x4 : Int32) (k : Nat) : Bool := decide (x1.toInt ≤ (σ 67 k).toInt ∧ (σ 67 k).toInt ≤ x2.toInt) && ((decide (x3 = -1) || decide (σ 69 k = x3)) && (decide (x4 = -1) || decide (σ 70 k = x4)))
def fnd (M : Nat → Bool) (i : Int32) : Nat → Nat → Nat → Int32
  | 0, _, _ => -1
  | m + 1, k, s => if M k = true then (if nI s = i then nI k else fnd M i m (k + 1) (s + 1)) else fnd M i m (k + 1) s
theorem fnd_neg {M : Nat → Bool} {i : Int32} (hi : i.toInt < 0) : ∀ m k s, s + m < 2 ^ 31 → fnd M i m k s = -1
  | 0, _, _, _ => rfl
  | m + 1, k, s, h => by
    have hne : ¬ nI s = i := fun e => by rw [← e, nI_toInt (by omega)] at hi; omega
    simp only [fnd, if_neg hne]
    rw [fnd_neg hi m (k + 1) (s + 1) (by omega), fnd_neg hi m (k + 1) s (by omega)]
    split <;> rfl
section Found
variable {l : Launch} {σ : ax_Sg} {P : Option Value → ax_Sg → Prop}
theorem c_detail {k j : Nat} (hk : k < 300) (hj : j < 5) (h : P (some (.int (σ 30 (k * 5 + j)))) σ) : Ev l 49 0 [some (.ref 6), some (.int (nI k)), some (.int (nI j))] [] σ P := by
  refine b_X7_detail_0 _ _ ?_
  rw [ix5, cl_nI (by omega)]
  exact ⟨in_nI (by omega) (by decide), h⟩
theorem c_fits {k j : Nat} (hk : k < 300) (hj : j < 5) (x : Int32) (hT : (x = -1 ∨ σ 30 (k * 5 + j) = x) → P (some (.int 1)) σ) (hF : ¬ (x = -1 ∨ σ 30 (k * 5 + j) = x) → P (some (.int 0)) σ) : Ev l 52 0 [some (.ref 6), some (.int (nI k)), some (.int (nI j)), some (.int x)] [] σ P := by
  refine b_X7_fits_0 _ _ _ (br_i (fun e => ⟨nar1, hT (Or.inl e)⟩) (fun e => c_detail hk hj (br_i (fun e2 => ⟨nar1, hT (Or.inr e2)⟩) (fun e2 => ⟨nar0, hF (fun z => z.elim e e2)⟩))))
theorem c_search {r : Nat} (hrd : iv_rd r σ) (x1 x2 x3 x4 x5 : Int32) (h : P (some (.int (fnd (fnM σ x1 x2 x3 x4) x5 r 0 0))) σ) : Ev l 51 0 [some (.ref 6), some (.int x1), some (.int x2), some (.int x3), some (.int x4), some (.int x5), none, none] [] σ P := by
  obtain ⟨hr, hs, hm, hp⟩ := hrd
  have loop : ∀ m k s, r - k = m → k ≤ r → P (some (.int (fnd (fnM σ x1 x2 x3 x4) x5 m k s))) σ → Ev l 51 6 [some (.ref 6), some (.int x1), some (.int x2), some (.int x3), some (.int x4), some (.int x5), some (.int (nI s)), some (.int (nI k))] [] σ P := by
    intro m
    induction m with
    | zero =>
      intro k s hk hkr hh
      have : k = r := by omega
      subst this
      exact b_X7_search_6 _ _ _ _ _ _ _ (br_f' (by rw [hs]; exact nI_nlt (Nat.le_refl _) (by omega)) hh)
    | succ m ih =>
      intro k s hk hkr h
      obtain ⟨p0, p1, p2, p3, p4⟩ := hp k (by omega)
      have no : fnM σ x1 x2 x3 x4 k = false → Ev l 51 6 [some (.ref 6), some (.int x1), some (.int x2), some (.int x3), some (.int x4), some (.int x5), some (.int (nI s)), some (.int (nI k + 1))] [] σ P := by
        intro e
        rw [nI_1]
        refine ih (k + 1) s (by omega) (by omega) ?_
        simp only [fnd, e] at h
        exact h
      refine b_X7_search_6 _ _ _ _ _ _ _ (br_t' (by rw [hs]; exact nI_lt (by omega) (by omega)) (c_detail (k := k) (j := 0) (by omega) (by omega) (c_within _ _ _ (fun e1 => br1 (c_fits (k := k) (j := 2) (by omega) (by omega) _ (fun e2 => br1 (c_fits (k := k) (j := 3) (by omega) (by omega) _ (fun e3 => br1 ?_) (fun e3 => br0 (no ?_)))) (fun e2 => br0 (no ?_)))) (fun e1 => br0 (no ?_)))))
      · have e1 : x1.toInt ≤ (σ 67 k).toInt ∧ (σ 67 k).toInt ≤ x2.toInt := by rw [← p0]; exact e1
        rw [p2] at e2
        rw [p3] at e3
        have hM : fnM σ x1 x2 x3 x4 k = true := by
          unfold fnM
          simp only [Bool.and_eq_true, Bool.or_eq_true, decide_eq_true_eq]
          exact ⟨e1, e2, e3⟩
        simp only [fnd, hM, if_true] at h
        refine br_i (fun e4 => ?_) (fun e4 => ?_)
        · rw [if_pos e4] at h; exact h
        · rw [if_neg e4] at h
          rw [nI_1, nI_1]
          exact ih (k + 1) (s + 1) (by omega) (by omega) h
      · rw [p3] at e3
        unfold fnM
        simp only [not_or] at e3
        simp [e3.1, e3.2]
      · rw [p2] at e2
        unfold fnM
        simp only [not_or] at e2
        simp [e2.1, e2.2]
      · have e1 : ¬ (x1.toInt ≤ (σ 67 k).toInt ∧ (σ 67 k).toInt ≤ x2.toInt) := by rw [← p0]; exact e1
        unfold fnM
        simp only [e1, decide_false, Bool.false_and]
  exact b_X7_search_0 _ _ _ _ _ (loop r 0 0 (by omega) (by omega) h)
theorem m_found {r : Nat} (hrd : iv_rd r σ) (x1 x2 x3 x4 x5 : Int32) (h : P (some (.int (fnd (fnM σ x1 x2 x3 x4) x5 r 0 0))) σ) : Ev l 145 0 [some (.ref 13), some (.int x1), some (.int x2), some (.int x3), some (.int x4), some (.int x5), none, none] [] σ P := by
  obtain ⟨hr, -, hs, hp⟩ := hrd
  have h0 : (0 : Int32).toInt = 0 := by decide
  by_cases hneg : x5.toInt < 0
  · rw [fnd_neg hneg r 0 0 (by omega)] at h
    refine b_X11_found_0 _ _ _ _ _ (b_X11_found_7 _ _ _ _ _ _ _ (br_i (fun _ => br_t' (by rw [lt_toInt, h0]; exact hneg) h) (fun _ => h)))
  · have hlt := Int32.toInt_lt x5
    obtain ⟨i, hi, rfl⟩ := nat_of (x := x5) (b := 2147483647) (by omega) (by omega)
    have loop : ∀ m k s, r - k = m → k ≤ r → s ≤ i → P (some (.int (fnd (fnM σ x1 x2 x3 x4) (nI i) m k s))) σ → Ev l 145 7 [some (.ref 13), some (.int x1), some (.int x2), some (.int x3), some (.int x4), some (.int (nI i)), some (.int (nI (i - s))), some (.int (nI k))] [] σ P := by
      intro m
      induction m with
      | zero =>
        intro k s hk hkr hsi hh
        have : k = r := by omega
        subst this
        exact b_X11_found_7 _ _ _ _ _ _ _ (br_f' (by rw [hs]; exact nI_nlt (Nat.le_refl _) (by omega)) hh)
      | succ m ih =>
        intro k s hk hkr hsi h
        have no : fnM σ x1 x2 x3 x4 k = false → Ev l 145 7 [some (.ref 13), some (.int x1), some (.int x2), some (.int x3), some (.int x4), some (.int (nI i)), some (.int (nI (i - s))), some (.int (nI (k + 1)))] [] σ P := by
          intro e
          refine ih (k + 1) s (by omega) (by omega) hsi ?_
          simp only [fnd, e] at h
          exact h
        have yes : fnM σ x1 x2 x3 x4 k = true → ax_br (nI (i - s) = 0) (P (some (.int (nI k))) σ) (Ev l 145 7 [some (.ref 13), some (.int x1), some (.int x2), some (.int x3), some (.int x4), some (.int (nI i)), some (.int (nI (i - s) + (-1))), some (.int (nI (k + 1)))] [] σ P) := by
          intro hM
          simp only [fnd, hM, if_true] at h
          refine br_i (fun e => ?_) (fun e => ?_)
          · have : i - s = 0 := (nI_eq (b := 0) (by omega) (by omega)).mp e
            rw [if_pos (by rw [show s = i by omega])] at h
            exact h
          · have hne : s ≠ i := fun e2 => e (by rw [e2, Nat.sub_self]; rfl)
            rw [if_neg (nI_ne (by omega) (by omega) hne)] at h
            rw [show i - s = (i - (s + 1)) + 1 by omega, pk_m1]
            exact ih (k + 1) (s + 1) (by omega) (by omega) (by omega) h
        have tst : ∀ z : Int32, (Int32.toInt64 z).toInt = z.toInt := fun z => Int32.toInt_toInt64 z
        refine b_X11_found_7 _ _ _ _ _ _ _ (br_t' (by rw [hs]; exact nI_lt (by omega) (by omega)) (br_f' (nI_pos (by omega)) ⟨in_nI (by omega) (by decide), ?_⟩))
        rw [cl_nI (by omega), nI_1]
        refine c_isIn _ _ _ (fun e1 => br1 ?_) (fun e1 => br0 (no ?_))
        · rw [tst, tst, tst] at e1
          refine br_i (fun e2 => br_i (fun e3 => yes ?_) (fun e3 => ⟨in_nI (by omega) (by decide), br_i (fun e4 => yes ?_) (fun e4 => no ?_)⟩)) (fun e2 => ⟨in_nI (by omega) (by decide), br_i (fun e5 => br_i (fun e3 => yes ?_) (fun e3 => ⟨in_nI (by omega) (by decide), br_i (fun e4 => yes ?_) (fun e4 => no ?_)⟩)) (fun e5 => no ?_)⟩)
          · unfold fnM; simp [e1, e2, e3]
          · unfold fnM; simp [e1, e2, e4]
          · unfold fnM; simp [e1, e2, e3, e4]
          · unfold fnM; simp [e1, e3, e5]
          · unfold fnM; simp [e1, e4, e5]
          · unfold fnM; simp [e1, e3, e4]
          · unfold fnM; simp [e2, e5]
        · rw [tst, tst, tst] at e1
          unfold fnM
          simp only [e1, decide_false, Bool.false_and]
    exact b_X11_found_0 _ _ _ _ _ (loop r 0 0 (by omega) (by omega) (by omega) h)
theorem pr_found (hI : Inv σ) (x1 x2 x3 x4 x5 : Int32) : Pr l 85 [some (.ref 0), some (.int x1), some (.int x2), some (.int x3), some (.int x4), some (.int x5)] 145 [some (.ref 13), some (.int x1), some (.int x2), some (.int x3), some (.int x4), some (.int x5), none, none] σ := by
  have hI0 := hI
  obtain ⟨n, d, t, c, h, r, q, f, y, hpl, hdr, hsh, htp, hmt, has, hct, hrd, hln, hfl, hli⟩ := hI
  refine b_X10_found_0 _ _ _ _ _ (c_search hrd _ _ _ _ _ ?_)
  exact m_found hrd _ _ _ _ _ (fin rfl hI0)
end Found
